section
-- ===== PART A: goes FIRST, ahead of the names: the tables' words, and 'selects' of the private methods out of them =====
/-- a private method of a class that the tables say can be made, by its rows of tables_1 -/
def lw_okq (q : MethodName × Nat) : Prop := (q.1.cls ≠ "java/lang/invoke/MethodHandle" ∧ q.1.cls ≠ "java/lang/invoke/VarHandle") ∧ Cond.instantiable q.1.cls q.2 ∈ tables_1 ∧ Cond.privateMethod q.1 ∈ tables_1 ∧ Cond.instanceMethod q.1 ∈ tables_1
theorem lw_p0 : lw_okq (⟨"BalancedLine$Script", "endOfItem", "(I)I"⟩, 2) := ⟨⟨by decide +kernel, by decide +kernel⟩, List.mem_of_getElem? (i := 25) (by decide +kernel), List.mem_of_getElem? (i := 167) (by decide +kernel), List.mem_of_getElem? (i := 168) (by decide +kernel)⟩
theorem lw_p1 : lw_okq (⟨"BalancedLine$Script", "takeItem", "(IILBalancedLine$Plan;)Z"⟩, 2) := ⟨⟨by decide +kernel, by decide +kernel⟩, List.mem_of_getElem? (i := 25) (by decide +kernel), List.mem_of_getElem? (i := 171) (by decide +kernel), List.mem_of_getElem? (i := 172) (by decide +kernel)⟩
theorem lw_p2 : lw_okq (⟨"BalancedLine$Script", "takeCycle", "(ILBalancedLine$Plan;)Z"⟩, 2) := ⟨⟨by decide +kernel, by decide +kernel⟩, List.mem_of_getElem? (i := 25) (by decide +kernel), List.mem_of_getElem? (i := 175) (by decide +kernel), List.mem_of_getElem? (i := 176) (by decide +kernel)⟩
theorem lw_p3 : lw_okq (⟨"BalancedLine$Script", "figures", "(III)I"⟩, 2) := ⟨⟨by decide +kernel, by decide +kernel⟩, List.mem_of_getElem? (i := 25) (by decide +kernel), List.mem_of_getElem? (i := 179) (by decide +kernel), List.mem_of_getElem? (i := 180) (by decide +kernel)⟩
theorem lw_p4 : lw_okq (⟨"BalancedLine$Script", "takeTask", "(IILBalancedLine$Plan;)Z"⟩, 2) := ⟨⟨by decide +kernel, by decide +kernel⟩, List.mem_of_getElem? (i := 25) (by decide +kernel), List.mem_of_getElem? (i := 186) (by decide +kernel), List.mem_of_getElem? (i := 187) (by decide +kernel)⟩
theorem lw_p5 : lw_okq (⟨"BalancedLine$Script", "takePair", "(ILBalancedLine$Plan;)Z"⟩, 2) := ⟨⟨by decide +kernel, by decide +kernel⟩, List.mem_of_getElem? (i := 25) (by decide +kernel), List.mem_of_getElem? (i := 194) (by decide +kernel), List.mem_of_getElem? (i := 195) (by decide +kernel)⟩
theorem lw_p6 : lw_okq (⟨"BalancedLine$Script", "takeOrder", "(IILBalancedLine$Plan;)Z"⟩, 2) := ⟨⟨by decide +kernel, by decide +kernel⟩, List.mem_of_getElem? (i := 25) (by decide +kernel), List.mem_of_getElem? (i := 206) (by decide +kernel), List.mem_of_getElem? (i := 207) (by decide +kernel)⟩
theorem lw_p7 : lw_okq (⟨"BalancedLine$Past", "dropOldest", "()V"⟩, 2) := ⟨⟨by decide +kernel, by decide +kernel⟩, List.mem_of_getElem? (i := 86) (by decide +kernel), List.mem_of_getElem? (i := 406) (by decide +kernel), List.mem_of_getElem? (i := 407) (by decide +kernel)⟩
theorem lw_p8 : lw_okq (⟨"BalancedLine", "settle", "()V"⟩, 5) := ⟨⟨by decide +kernel, by decide +kernel⟩, List.mem_of_getElem? (i := 17) (by decide +kernel), List.mem_of_getElem? (i := 411) (by decide +kernel), List.mem_of_getElem? (i := 412) (by decide +kernel)⟩
theorem lw_p9 : lw_okq (⟨"BalancedLine$Plan", "clash", "(III)I"⟩, 7) := ⟨⟨by decide +kernel, by decide +kernel⟩, List.mem_of_getElem? (i := 40) (by decide +kernel), List.mem_of_getElem? (i := 423) (by decide +kernel), List.mem_of_getElem? (i := 424) (by decide +kernel)⟩
theorem lw_p10 : lw_okq (⟨"BalancedLine$Study", "measureNow", "()V"⟩, 12) := ⟨⟨by decide +kernel, by decide +kernel⟩, List.mem_of_getElem? (i := 241) (by decide +kernel), List.mem_of_getElem? (i := 519) (by decide +kernel), List.mem_of_getElem? (i := 520) (by decide +kernel)⟩
theorem lw_p11 : lw_okq (⟨"BalancedLine$Study", "measure", "(LBalancedLine$Plan;)V"⟩, 12) := ⟨⟨by decide +kernel, by decide +kernel⟩, List.mem_of_getElem? (i := 241) (by decide +kernel), List.mem_of_getElem? (i := 523) (by decide +kernel), List.mem_of_getElem? (i := 524) (by decide +kernel)⟩
theorem lw_p12 : lw_okq (⟨"BalancedLine$Lines", "reach", "(II)V"⟩, 16) := ⟨⟨by decide +kernel, by decide +kernel⟩, List.mem_of_getElem? (i := 247) (by decide +kernel), List.mem_of_getElem? (i := 595) (by decide +kernel), List.mem_of_getElem? (i := 596) (by decide +kernel)⟩
theorem lw_p13 : lw_okq (⟨"BalancedLine$Lines", "canEndWithin", "(II)Z"⟩, 16) := ⟨⟨by decide +kernel, by decide +kernel⟩, List.mem_of_getElem? (i := 247) (by decide +kernel), List.mem_of_getElem? (i := 600) (by decide +kernel), List.mem_of_getElem? (i := 601) (by decide +kernel)⟩
theorem lw_p14 : lw_okq (⟨"BalancedLine$Lines", "stepFrom", "(I)V"⟩, 16) := ⟨⟨by decide +kernel, by decide +kernel⟩, List.mem_of_getElem? (i := 247) (by decide +kernel), List.mem_of_getElem? (i := 604) (by decide +kernel), List.mem_of_getElem? (i := 605) (by decide +kernel)⟩
theorem lw_p15 : lw_okq (⟨"BalancedLine$Lines", "stationDue", "(I)I"⟩, 16) := ⟨⟨by decide +kernel, by decide +kernel⟩, List.mem_of_getElem? (i := 247) (by decide +kernel), List.mem_of_getElem? (i := 608) (by decide +kernel), List.mem_of_getElem? (i := 609) (by decide +kernel)⟩
def lw_privs_1 : List (MethodName × Nat) := [(⟨"BalancedLine$Script", "endOfItem", "(I)I"⟩, 2), (⟨"BalancedLine$Script", "takeItem", "(IILBalancedLine$Plan;)Z"⟩, 2), (⟨"BalancedLine$Script", "takeCycle", "(ILBalancedLine$Plan;)Z"⟩, 2), (⟨"BalancedLine$Script", "figures", "(III)I"⟩, 2), (⟨"BalancedLine$Script", "takeTask", "(IILBalancedLine$Plan;)Z"⟩, 2), (⟨"BalancedLine$Script", "takePair", "(ILBalancedLine$Plan;)Z"⟩, 2), (⟨"BalancedLine$Script", "takeOrder", "(IILBalancedLine$Plan;)Z"⟩, 2), (⟨"BalancedLine$Past", "dropOldest", "()V"⟩, 2), (⟨"BalancedLine", "settle", "()V"⟩, 5), (⟨"BalancedLine$Plan", "clash", "(III)I"⟩, 7), (⟨"BalancedLine$Study", "measureNow", "()V"⟩, 12), (⟨"BalancedLine$Study", "measure", "(LBalancedLine$Plan;)V"⟩, 12), (⟨"BalancedLine$Lines", "reach", "(II)V"⟩, 16), (⟨"BalancedLine$Lines", "canEndWithin", "(II)Z"⟩, 16), (⟨"BalancedLine$Lines", "stepFrom", "(I)V"⟩, 16), (⟨"BalancedLine$Lines", "stationDue", "(I)I"⟩, 16)]
theorem lw_r1 : ∀ q ∈ lw_privs_1, lw_okq q := List.forall_mem_cons.mpr ⟨lw_p0, List.forall_mem_cons.mpr ⟨lw_p1, List.forall_mem_cons.mpr ⟨lw_p2, List.forall_mem_cons.mpr ⟨lw_p3, List.forall_mem_cons.mpr ⟨lw_p4, List.forall_mem_cons.mpr ⟨lw_p5, List.forall_mem_cons.mpr ⟨lw_p6, List.forall_mem_cons.mpr ⟨lw_p7, List.forall_mem_cons.mpr ⟨lw_p8, List.forall_mem_cons.mpr ⟨lw_p9, List.forall_mem_cons.mpr ⟨lw_p10, List.forall_mem_cons.mpr ⟨lw_p11, List.forall_mem_cons.mpr ⟨lw_p12, List.forall_mem_cons.mpr ⟨lw_p13, List.forall_mem_cons.mpr ⟨lw_p14, List.forall_mem_cons.mpr ⟨lw_p15, fun _ h => absurd h List.not_mem_nil⟩⟩⟩⟩⟩⟩⟩⟩⟩⟩⟩⟩⟩⟩⟩⟩
theorem lw_p16 : lw_okq (⟨"BalancedLine$Lines", "traceFrom", "(I)V"⟩, 16) := ⟨⟨by decide +kernel, by decide +kernel⟩, List.mem_of_getElem? (i := 247) (by decide +kernel), List.mem_of_getElem? (i := 628) (by decide +kernel), List.mem_of_getElem? (i := 629) (by decide +kernel)⟩
theorem lw_p17 : lw_okq (⟨"BalancedLine$Lines", "traceStep", "(III)V"⟩, 16) := ⟨⟨by decide +kernel, by decide +kernel⟩, List.mem_of_getElem? (i := 247) (by decide +kernel), List.mem_of_getElem? (i := 633) (by decide +kernel), List.mem_of_getElem? (i := 634) (by decide +kernel)⟩
theorem lw_p18 : lw_okq (⟨"BalancedLine$Lines", "findCovered", "()V"⟩, 16) := ⟨⟨by decide +kernel, by decide +kernel⟩, List.mem_of_getElem? (i := 247) (by decide +kernel), List.mem_of_getElem? (i := 675) (by decide +kernel), List.mem_of_getElem? (i := 676) (by decide +kernel)⟩
theorem lw_p19 : lw_okq (⟨"BalancedLine$Study", "hasLineBy", "(II)Z"⟩, 12) := ⟨⟨by decide +kernel, by decide +kernel⟩, List.mem_of_getElem? (i := 241) (by decide +kernel), List.mem_of_getElem? (i := 718) (by decide +kernel), List.mem_of_getElem? (i := 719) (by decide +kernel)⟩
theorem lw_p20 : lw_okq (⟨"BalancedLine$Study", "fewestOfTrial", "()I"⟩, 12) := ⟨⟨by decide +kernel, by decide +kernel⟩, List.mem_of_getElem? (i := 241) (by decide +kernel), List.mem_of_getElem? (i := 736) (by decide +kernel), List.mem_of_getElem? (i := 737) (by decide +kernel)⟩
theorem lw_p21 : lw_okq (⟨"BalancedLine$Study", "isBinding", "(III)Z"⟩, 12) := ⟨⟨by decide +kernel, by decide +kernel⟩, List.mem_of_getElem? (i := 241) (by decide +kernel), List.mem_of_getElem? (i := 758) (by decide +kernel), List.mem_of_getElem? (i := 759) (by decide +kernel)⟩
theorem lw_p22 : lw_okq (⟨"BalancedLine$Study", "addBinding", "(I)V"⟩, 12) := ⟨⟨by decide +kernel, by decide +kernel⟩, List.mem_of_getElem? (i := 241) (by decide +kernel), List.mem_of_getElem? (i := 763) (by decide +kernel), List.mem_of_getElem? (i := 764) (by decide +kernel)⟩
theorem lw_p23 : lw_okq (⟨"BalancedLine", "idleOfBest", "()I"⟩, 5) := ⟨⟨by decide +kernel, by decide +kernel⟩, List.mem_of_getElem? (i := 17) (by decide +kernel), List.mem_of_getElem? (i := 786) (by decide +kernel), List.mem_of_getElem? (i := 787) (by decide +kernel)⟩
theorem lw_p24 : lw_okq (⟨"BalancedLineModel", "item", "(IZ)Z"⟩, 15) := ⟨⟨by decide +kernel, by decide +kernel⟩, List.mem_of_getElem? (i := 790) (by decide +kernel), List.mem_of_getElem? (i := 862) (by decide +kernel), List.mem_of_getElem? (i := 863) (by decide +kernel)⟩
theorem lw_p25 : lw_okq (⟨"BalancedLineModel", "number", "(III)I"⟩, 15) := ⟨⟨by decide +kernel, by decide +kernel⟩, List.mem_of_getElem? (i := 790) (by decide +kernel), List.mem_of_getElem? (i := 866) (by decide +kernel), List.mem_of_getElem? (i := 867) (by decide +kernel)⟩
theorem lw_p26 : lw_okq (⟨"BalancedLineModel", "byteAt", "(I)I"⟩, 15) := ⟨⟨by decide +kernel, by decide +kernel⟩, List.mem_of_getElem? (i := 790) (by decide +kernel), List.mem_of_getElem? (i := 870) (by decide +kernel), List.mem_of_getElem? (i := 871) (by decide +kernel)⟩
theorem lw_p27 : lw_okq (⟨"BalancedLineModel", "pairItem", "(I)Z"⟩, 15) := ⟨⟨by decide +kernel, by decide +kernel⟩, List.mem_of_getElem? (i := 790) (by decide +kernel), List.mem_of_getElem? (i := 876) (by decide +kernel), List.mem_of_getElem? (i := 877) (by decide +kernel)⟩
theorem lw_p28 : lw_okq (⟨"BalancedLineModel", "tells", "(II)I"⟩, 15) := ⟨⟨by decide +kernel, by decide +kernel⟩, List.mem_of_getElem? (i := 790) (by decide +kernel), List.mem_of_getElem? (i := 900) (by decide +kernel), List.mem_of_getElem? (i := 901) (by decide +kernel)⟩
theorem lw_p29 : lw_okq (⟨"BalancedLineModel", "note", "()V"⟩, 15) := ⟨⟨by decide +kernel, by decide +kernel⟩, List.mem_of_getElem? (i := 790) (by decide +kernel), List.mem_of_getElem? (i := 904) (by decide +kernel), List.mem_of_getElem? (i := 905) (by decide +kernel)⟩
theorem lw_p30 : lw_okq (⟨"BalancedLineModel", "takesOff", "()V"⟩, 15) := ⟨⟨by decide +kernel, by decide +kernel⟩, List.mem_of_getElem? (i := 790) (by decide +kernel), List.mem_of_getElem? (i := 908) (by decide +kernel), List.mem_of_getElem? (i := 909) (by decide +kernel)⟩
theorem lw_p31 : lw_okq (⟨"BalancedLineModel", "whyNot", "(II)I"⟩, 15) := ⟨⟨by decide +kernel, by decide +kernel⟩, List.mem_of_getElem? (i := 790) (by decide +kernel), List.mem_of_getElem? (i := 912) (by decide +kernel), List.mem_of_getElem? (i := 913) (by decide +kernel)⟩
def lw_privs_2 : List (MethodName × Nat) := [(⟨"BalancedLine$Lines", "traceFrom", "(I)V"⟩, 16), (⟨"BalancedLine$Lines", "traceStep", "(III)V"⟩, 16), (⟨"BalancedLine$Lines", "findCovered", "()V"⟩, 16), (⟨"BalancedLine$Study", "hasLineBy", "(II)Z"⟩, 12), (⟨"BalancedLine$Study", "fewestOfTrial", "()I"⟩, 12), (⟨"BalancedLine$Study", "isBinding", "(III)Z"⟩, 12), (⟨"BalancedLine$Study", "addBinding", "(I)V"⟩, 12), (⟨"BalancedLine", "idleOfBest", "()I"⟩, 5), (⟨"BalancedLineModel", "item", "(IZ)Z"⟩, 15), (⟨"BalancedLineModel", "number", "(III)I"⟩, 15), (⟨"BalancedLineModel", "byteAt", "(I)I"⟩, 15), (⟨"BalancedLineModel", "pairItem", "(I)Z"⟩, 15), (⟨"BalancedLineModel", "tells", "(II)I"⟩, 15), (⟨"BalancedLineModel", "note", "()V"⟩, 15), (⟨"BalancedLineModel", "takesOff", "()V"⟩, 15), (⟨"BalancedLineModel", "whyNot", "(II)I"⟩, 15)]
theorem lw_r2 : ∀ q ∈ lw_privs_2, lw_okq q := List.forall_mem_cons.mpr ⟨lw_p16, List.forall_mem_cons.mpr ⟨lw_p17, List.forall_mem_cons.mpr ⟨lw_p18, List.forall_mem_cons.mpr ⟨lw_p19, List.forall_mem_cons.mpr ⟨lw_p20, List.forall_mem_cons.mpr ⟨lw_p21, List.forall_mem_cons.mpr ⟨lw_p22, List.forall_mem_cons.mpr ⟨lw_p23, List.forall_mem_cons.mpr ⟨lw_p24, List.forall_mem_cons.mpr ⟨lw_p25, List.forall_mem_cons.mpr ⟨lw_p26, List.forall_mem_cons.mpr ⟨lw_p27, List.forall_mem_cons.mpr ⟨lw_p28, List.forall_mem_cons.mpr ⟨lw_p29, List.forall_mem_cons.mpr ⟨lw_p30, List.forall_mem_cons.mpr ⟨lw_p31, fun _ h => absurd h List.not_mem_nil⟩⟩⟩⟩⟩⟩⟩⟩⟩⟩⟩⟩⟩⟩⟩⟩
theorem lw_p32 : lw_okq (⟨"BalancedLineModel", "putBy", "(II)I"⟩, 15) := ⟨⟨by decide +kernel, by decide +kernel⟩, List.mem_of_getElem? (i := 790) (by decide +kernel), List.mem_of_getElem? (i := 916) (by decide +kernel), List.mem_of_getElem? (i := 917) (by decide +kernel)⟩
theorem lw_p33 : lw_okq (⟨"BalancedLineModel", "aheadOf", "(I)I"⟩, 15) := ⟨⟨by decide +kernel, by decide +kernel⟩, List.mem_of_getElem? (i := 790) (by decide +kernel), List.mem_of_getElem? (i := 920) (by decide +kernel), List.mem_of_getElem? (i := 921) (by decide +kernel)⟩
theorem lw_p34 : lw_okq (⟨"BalancedLineModel", "putIn", "(I)I"⟩, 15) := ⟨⟨by decide +kernel, by decide +kernel⟩, List.mem_of_getElem? (i := 790) (by decide +kernel), List.mem_of_getElem? (i := 924) (by decide +kernel), List.mem_of_getElem? (i := 925) (by decide +kernel)⟩
theorem lw_p35 : lw_okq (⟨"BalancedLineModel", "timesOf", "(I)I"⟩, 15) := ⟨⟨by decide +kernel, by decide +kernel⟩, List.mem_of_getElem? (i := 790) (by decide +kernel), List.mem_of_getElem? (i := 928) (by decide +kernel), List.mem_of_getElem? (i := 929) (by decide +kernel)⟩
theorem lw_p36 : lw_okq (⟨"BalancedLineModel", "isTask", "(I)Z"⟩, 15) := ⟨⟨by decide +kernel, by decide +kernel⟩, List.mem_of_getElem? (i := 790) (by decide +kernel), List.mem_of_getElem? (i := 936) (by decide +kernel), List.mem_of_getElem? (i := 937) (by decide +kernel)⟩
theorem lw_p37 : lw_okq (⟨"BalancedLineModel", "isPair", "(II)Z"⟩, 15) := ⟨⟨by decide +kernel, by decide +kernel⟩, List.mem_of_getElem? (i := 790) (by decide +kernel), List.mem_of_getElem? (i := 945) (by decide +kernel), List.mem_of_getElem? (i := 946) (by decide +kernel)⟩
theorem lw_p38 : lw_okq (⟨"BalancedLineModel", "ordersMany", "()I"⟩, 15) := ⟨⟨by decide +kernel, by decide +kernel⟩, List.mem_of_getElem? (i := 790) (by decide +kernel), List.mem_of_getElem? (i := 949) (by decide +kernel), List.mem_of_getElem? (i := 950) (by decide +kernel)⟩
theorem lw_p39 : lw_okq (⟨"BalancedLineModel", "farBehind", "(I)I"⟩, 15) := ⟨⟨by decide +kernel, by decide +kernel⟩, List.mem_of_getElem? (i := 790) (by decide +kernel), List.mem_of_getElem? (i := 965) (by decide +kernel), List.mem_of_getElem? (i := 966) (by decide +kernel)⟩
theorem lw_p40 : lw_okq (⟨"BalancedLineModel", "fewestBy", "(I)I"⟩, 15) := ⟨⟨by decide +kernel, by decide +kernel⟩, List.mem_of_getElem? (i := 790) (by decide +kernel), List.mem_of_getElem? (i := 994) (by decide +kernel), List.mem_of_getElem? (i := 995) (by decide +kernel)⟩
theorem lw_p41 : lw_okq (⟨"BalancedLineModel", "findRest", "(I)I"⟩, 15) := ⟨⟨by decide +kernel, by decide +kernel⟩, List.mem_of_getElem? (i := 790) (by decide +kernel), List.mem_of_getElem? (i := 998) (by decide +kernel), List.mem_of_getElem? (i := 999) (by decide +kernel)⟩
theorem lw_p42 : lw_okq (⟨"BalancedLineModel", "findGood", "(I)V"⟩, 15) := ⟨⟨by decide +kernel, by decide +kernel⟩, List.mem_of_getElem? (i := 790) (by decide +kernel), List.mem_of_getElem? (i := 1002) (by decide +kernel), List.mem_of_getElem? (i := 1003) (by decide +kernel)⟩
theorem lw_p43 : lw_okq (⟨"BalancedLineModel", "all", "()I"⟩, 15) := ⟨⟨by decide +kernel, by decide +kernel⟩, List.mem_of_getElem? (i := 790) (by decide +kernel), List.mem_of_getElem? (i := 1006) (by decide +kernel), List.mem_of_getElem? (i := 1007) (by decide +kernel)⟩
theorem lw_p44 : lw_okq (⟨"BalancedLineModel", "isGood", "(II)Z"⟩, 15) := ⟨⟨by decide +kernel, by decide +kernel⟩, List.mem_of_getElem? (i := 790) (by decide +kernel), List.mem_of_getElem? (i := 1010) (by decide +kernel), List.mem_of_getElem? (i := 1011) (by decide +kernel)⟩
theorem lw_p45 : lw_okq (⟨"BalancedLineModel", "isNext", "(II)Z"⟩, 15) := ⟨⟨by decide +kernel, by decide +kernel⟩, List.mem_of_getElem? (i := 790) (by decide +kernel), List.mem_of_getElem? (i := 1014) (by decide +kernel), List.mem_of_getElem? (i := 1015) (by decide +kernel)⟩
theorem lw_p46 : lw_okq (⟨"BalancedLineModel", "fixAll", "()V"⟩, 15) := ⟨⟨by decide +kernel, by decide +kernel⟩, List.mem_of_getElem? (i := 790) (by decide +kernel), List.mem_of_getElem? (i := 1040) (by decide +kernel), List.mem_of_getElem? (i := 1041) (by decide +kernel)⟩
theorem lw_p47 : lw_okq (⟨"BalancedLineModel", "stationsOf", "(I)I"⟩, 15) := ⟨⟨by decide +kernel, by decide +kernel⟩, List.mem_of_getElem? (i := 790) (by decide +kernel), List.mem_of_getElem? (i := 1044) (by decide +kernel), List.mem_of_getElem? (i := 1045) (by decide +kernel)⟩
def lw_privs_3 : List (MethodName × Nat) := [(⟨"BalancedLineModel", "putBy", "(II)I"⟩, 15), (⟨"BalancedLineModel", "aheadOf", "(I)I"⟩, 15), (⟨"BalancedLineModel", "putIn", "(I)I"⟩, 15), (⟨"BalancedLineModel", "timesOf", "(I)I"⟩, 15), (⟨"BalancedLineModel", "isTask", "(I)Z"⟩, 15), (⟨"BalancedLineModel", "isPair", "(II)Z"⟩, 15), (⟨"BalancedLineModel", "ordersMany", "()I"⟩, 15), (⟨"BalancedLineModel", "farBehind", "(I)I"⟩, 15), (⟨"BalancedLineModel", "fewestBy", "(I)I"⟩, 15), (⟨"BalancedLineModel", "findRest", "(I)I"⟩, 15), (⟨"BalancedLineModel", "findGood", "(I)V"⟩, 15), (⟨"BalancedLineModel", "all", "()I"⟩, 15), (⟨"BalancedLineModel", "isGood", "(II)Z"⟩, 15), (⟨"BalancedLineModel", "isNext", "(II)Z"⟩, 15), (⟨"BalancedLineModel", "fixAll", "()V"⟩, 15), (⟨"BalancedLineModel", "stationsOf", "(I)I"⟩, 15)]
theorem lw_r3 : ∀ q ∈ lw_privs_3, lw_okq q := List.forall_mem_cons.mpr ⟨lw_p32, List.forall_mem_cons.mpr ⟨lw_p33, List.forall_mem_cons.mpr ⟨lw_p34, List.forall_mem_cons.mpr ⟨lw_p35, List.forall_mem_cons.mpr ⟨lw_p36, List.forall_mem_cons.mpr ⟨lw_p37, List.forall_mem_cons.mpr ⟨lw_p38, List.forall_mem_cons.mpr ⟨lw_p39, List.forall_mem_cons.mpr ⟨lw_p40, List.forall_mem_cons.mpr ⟨lw_p41, List.forall_mem_cons.mpr ⟨lw_p42, List.forall_mem_cons.mpr ⟨lw_p43, List.forall_mem_cons.mpr ⟨lw_p44, List.forall_mem_cons.mpr ⟨lw_p45, List.forall_mem_cons.mpr ⟨lw_p46, List.forall_mem_cons.mpr ⟨lw_p47, fun _ h => absurd h List.not_mem_nil⟩⟩⟩⟩⟩⟩⟩⟩⟩⟩⟩⟩⟩⟩⟩⟩
theorem lw_p48 : lw_okq (⟨"BalancedLineModel", "isBest", "(II)Z"⟩, 15) := ⟨⟨by decide +kernel, by decide +kernel⟩, List.mem_of_getElem? (i := 790) (by decide +kernel), List.mem_of_getElem? (i := 1048) (by decide +kernel), List.mem_of_getElem? (i := 1049) (by decide +kernel)⟩
theorem lw_p49 : lw_okq (⟨"BalancedLineModel", "loads", "(IZ)I"⟩, 15) := ⟨⟨by decide +kernel, by decide +kernel⟩, List.mem_of_getElem? (i := 790) (by decide +kernel), List.mem_of_getElem? (i := 1075) (by decide +kernel), List.mem_of_getElem? (i := 1076) (by decide +kernel)⟩
theorem lw_p50 : lw_okq (⟨"BalancedLineModel", "isFull", "(I)Z"⟩, 15) := ⟨⟨by decide +kernel, by decide +kernel⟩, List.mem_of_getElem? (i := 790) (by decide +kernel), List.mem_of_getElem? (i := 1079) (by decide +kernel), List.mem_of_getElem? (i := 1080) (by decide +kernel)⟩
theorem lw_p51 : lw_okq (⟨"BalancedLineModel", "pairsOf", "(I)I"⟩, 15) := ⟨⟨by decide +kernel, by decide +kernel⟩, List.mem_of_getElem? (i := 790) (by decide +kernel), List.mem_of_getElem? (i := 1095) (by decide +kernel), List.mem_of_getElem? (i := 1096) (by decide +kernel)⟩
theorem lw_p52 : lw_okq (⟨"BalancedLineModel", "hand", "(I)I"⟩, 15) := ⟨⟨by decide +kernel, by decide +kernel⟩, List.mem_of_getElem? (i := 790) (by decide +kernel), List.mem_of_getElem? (i := 1099) (by decide +kernel), List.mem_of_getElem? (i := 1100) (by decide +kernel)⟩
def lw_privs_4 : List (MethodName × Nat) := [(⟨"BalancedLineModel", "isBest", "(II)Z"⟩, 15), (⟨"BalancedLineModel", "loads", "(IZ)I"⟩, 15), (⟨"BalancedLineModel", "isFull", "(I)Z"⟩, 15), (⟨"BalancedLineModel", "pairsOf", "(I)I"⟩, 15), (⟨"BalancedLineModel", "hand", "(I)I"⟩, 15)]
theorem lw_r4 : ∀ q ∈ lw_privs_4, lw_okq q := List.forall_mem_cons.mpr ⟨lw_p48, List.forall_mem_cons.mpr ⟨lw_p49, List.forall_mem_cons.mpr ⟨lw_p50, List.forall_mem_cons.mpr ⟨lw_p51, List.forall_mem_cons.mpr ⟨lw_p52, fun _ h => absurd h List.not_mem_nil⟩⟩⟩⟩⟩
def lw_privs : List (MethodName × Nat) := lw_privs_1 ++ (lw_privs_2 ++ (lw_privs_3 ++ (lw_privs_4)))
def lw_tbl : List Cond := k2_sels lw_privs ++ tables_1
theorem lw_privs_ok : ∀ q ∈ lw_privs, lw_okq q := by
  show ∀ q ∈ lw_privs_1 ++ (lw_privs_2 ++ (lw_privs_3 ++ (lw_privs_4))), lw_okq q
  exact List.forall_mem_append.mpr ⟨lw_r1, List.forall_mem_append.mpr ⟨lw_r2, List.forall_mem_append.mpr ⟨lw_r3, lw_r4⟩⟩⟩
def RX0 : String := "BalancedLine$Lines"
def TX0 : u_T := fun k => match k with
  | 0 => ("BalancedLine$Lines", "sums", "[I", true)
  | 1 => ("BalancedLine$Lines", "wants", "[I", true)
  | 2 => ("BalancedLine$Lines", "mates", "[I", true)
  | 3 => ("BalancedLine$Lines", "foes", "[I", true)
  | 4 => ("BalancedLine$Lines", "needs", "[I", true)
  | 5 => ("BalancedLine$Lines", "levels", "[I", true)
  | 6 => ("BalancedLine$Lines", "ways", "[I", true)
  | 7 => ("BalancedLine$Lines", "isCovered", "[Z", true)
  | 8 => ("BalancedLine$Lines", "places", "[J", true)
  | 9 => ("BalancedLine$Lines", "spread", "[J", true)
  | 10 => ("BalancedLine$Lines", "heldAt", "[I", true)
  | 11 => ("BalancedLine$Lines", "fixedIn", "[I", true)
  | 12 => ("BalancedLine$Lines", "fixed", "I", false)
  | 13 => ("BalancedLine$Lines", "whole", "I", false)
  | 14 => ("BalancedLine$Lines", "pace", "I", false)
  | _ => ("BalancedLine$Lines", "usable", "I", false)
def tyX0 : Nat → FieldType := fun k => match k with
  | 0 => .array .int
  | 1 => .array .int
  | 2 => .array .int
  | 3 => .array .int
  | 4 => .array .int
  | 5 => .array .int
  | 6 => .array .int
  | 7 => .array .boolean
  | 8 => .array .long
  | 9 => .array .long
  | 10 => .array .int
  | 11 => .array .int
  | 12 => .int
  | 13 => .int
  | 14 => .int
  | _ => .int
theorem nmX0 : ∀ a, a < 16 → ∀ b, b < 16 → a ≠ b → (TX0 a).2.1 ≠ (TX0 b).2.1 := by decide +kernel
theorem tyX0_ok : ∀ k, k < 16 → parseFieldDescriptor (TX0 k).2.2.1 = some (tyX0 k) := by decide +kernel
def RX1 : String := "BalancedLine$Past"
def TX1 : u_T := fun k => match k with
  | 0 => ("BalancedLine$Past", "kept", "[LBalancedLine$Plan;", true)
  | _ => ("BalancedLine$Past", "size", "I", false)
def tyX1 : Nat → FieldType := fun k => match k with
  | 0 => .array (.object "BalancedLine$Plan")
  | _ => .int
theorem nmX1 : ∀ a, a < 2 → ∀ b, b < 2 → a ≠ b → (TX1 a).2.1 ≠ (TX1 b).2.1 := by decide +kernel
theorem tyX1_ok : ∀ k, k < 2 → parseFieldDescriptor (TX1 k).2.2.1 = some (tyX1 k) := by decide +kernel
def RX2 : String := "BalancedLine$Plan"
def TX2 : u_T := fun k => match k with
  | 0 => ("BalancedLine$Plan", "tasks", "I", false)
  | 1 => ("BalancedLine$Plan", "pace", "I", false)
  | 2 => ("BalancedLine$Plan", "times", "[I", true)
  | 3 => ("BalancedLine$Plan", "ahead", "[I", true)
  | 4 => ("BalancedLine$Plan", "apart", "[I", true)
  | 5 => ("BalancedLine$Plan", "joined", "[I", true)
  | _ => ("BalancedLine$Plan", "spots", "[I", true)
def tyX2 : Nat → FieldType := fun k => match k with
  | 0 => .int
  | 1 => .int
  | 2 => .array .int
  | 3 => .array .int
  | 4 => .array .int
  | 5 => .array .int
  | _ => .array .int
theorem nmX2 : ∀ a, a < 7 → ∀ b, b < 7 → a ≠ b → (TX2 a).2.1 ≠ (TX2 b).2.1 := by decide +kernel
theorem tyX2_ok : ∀ k, k < 7 → parseFieldDescriptor (TX2 k).2.2.1 = some (tyX2 k) := by decide +kernel
def RX3 : String := "BalancedLine$Script"
def TX3 : u_T := fun k => match k with
  | 0 => ("BalancedLine$Script", "letters", "[C", true)
  | _ => ("BalancedLine$Script", "length", "I", false)
def tyX3 : Nat → FieldType := fun k => match k with
  | 0 => .array .char
  | _ => .int
theorem nmX3 : ∀ a, a < 2 → ∀ b, b < 2 → a ≠ b → (TX3 a).2.1 ≠ (TX3 b).2.1 := by decide +kernel
theorem tyX3_ok : ∀ k, k < 2 → parseFieldDescriptor (TX3 k).2.2.1 = some (tyX3 k) := by decide +kernel
def RX4 : String := "BalancedLine$Study"
def TX4 : u_T := fun k => match k with
  | 0 => ("BalancedLine$Study", "now", "LBalancedLine$Plan;", true)
  | 1 => ("BalancedLine$Study", "trial", "LBalancedLine$Plan;", true)
  | 2 => ("BalancedLine$Study", "lines", "LBalancedLine$Lines;", false)
  | 3 => ("BalancedLine$Study", "isMeasured", "Z", false)
  | 4 => ("BalancedLine$Study", "isSolved", "Z", false)
  | 5 => ("BalancedLine$Study", "isBound", "Z", false)
  | 6 => ("BalancedLine$Study", "stations", "I", false)
  | 7 => ("BalancedLine$Study", "lineCount", "I", false)
  | 8 => ("BalancedLine$Study", "bestPlaces", "J", false)
  | 9 => ("BalancedLine$Study", "heldAt", "[I", true)
  | 10 => ("BalancedLine$Study", "bindings", "[I", true)
  | _ => ("BalancedLine$Study", "bindingCount", "I", false)
def tyX4 : Nat → FieldType := fun k => match k with
  | 0 => .object "BalancedLine$Plan"
  | 1 => .object "BalancedLine$Plan"
  | 2 => .object "BalancedLine$Lines"
  | 3 => .boolean
  | 4 => .boolean
  | 5 => .boolean
  | 6 => .int
  | 7 => .int
  | 8 => .long
  | 9 => .array .int
  | 10 => .array .int
  | _ => .int
theorem nmX4 : ∀ a, a < 12 → ∀ b, b < 12 → a ≠ b → (TX4 a).2.1 ≠ (TX4 b).2.1 := by decide +kernel
theorem tyX4_ok : ∀ k, k < 12 → parseFieldDescriptor (TX4 k).2.2.1 = some (tyX4 k) := by decide +kernel
def RX5 : String := "BalancedLine"
def TX5 : u_T := fun k => match k with
  | 0 => ("BalancedLine", "script", "LBalancedLine$Script;", true)
  | 1 => ("BalancedLine", "now", "LBalancedLine$Plan;", true)
  | 2 => ("BalancedLine", "draft", "LBalancedLine$Plan;", true)
  | 3 => ("BalancedLine", "past", "LBalancedLine$Past;", true)
  | _ => ("BalancedLine", "study", "LBalancedLine$Study;", true)
def tyX5 : Nat → FieldType := fun k => match k with
  | 0 => .object "BalancedLine$Script"
  | 1 => .object "BalancedLine$Plan"
  | 2 => .object "BalancedLine$Plan"
  | 3 => .object "BalancedLine$Past"
  | _ => .object "BalancedLine$Study"
theorem nmX5 : ∀ a, a < 5 → ∀ b, b < 5 → a ≠ b → (TX5 a).2.1 ≠ (TX5 b).2.1 := by decide +kernel
theorem tyX5_ok : ∀ k, k < 5 → parseFieldDescriptor (TX5 k).2.2.1 = some (tyX5 k) := by decide +kernel
def RX6 : String := "BalancedLineModel"
def TX6 : u_T := fun k => match k with
  | 0 => ("BalancedLineModel", "length", "I", false)
  | 1 => ("BalancedLineModel", "text", "[I", true)
  | 2 => ("BalancedLineModel", "now", "[I", true)
  | 3 => ("BalancedLineModel", "before", "[I", true)
  | 4 => ("BalancedLineModel", "undoMany", "I", false)
  | 5 => ("BalancedLineModel", "read", "[I", true)
  | 6 => ("BalancedLineModel", "spot", "I", false)
  | 7 => ("BalancedLineModel", "needs", "[I", true)
  | 8 => ("BalancedLineModel", "good", "[Z", true)
  | 9 => ("BalancedLineModel", "rest", "[I", true)
  | 10 => ("BalancedLineModel", "ways", "[I", true)
  | 11 => ("BalancedLineModel", "leads", "[Z", true)
  | 12 => ("BalancedLineModel", "comes", "[Z", true)
  | 13 => ("BalancedLineModel", "fixed", "[I", true)
  | _ => ("BalancedLineModel", "fixedSet", "I", false)
def tyX6 : Nat → FieldType := fun k => match k with
  | 0 => .int
  | 1 => .array .int
  | 2 => .array .int
  | 3 => .array .int
  | 4 => .int
  | 5 => .array .int
  | 6 => .int
  | 7 => .array .int
  | 8 => .array .boolean
  | 9 => .array .int
  | 10 => .array .int
  | 11 => .array .boolean
  | 12 => .array .boolean
  | 13 => .array .int
  | _ => .int
theorem nmX6 : ∀ a, a < 15 → ∀ b, b < 15 → a ≠ b → (TX6 a).2.1 ≠ (TX6 b).2.1 := by decide +kernel
theorem tyX6_ok : ∀ k, k < 15 → parseFieldDescriptor (TX6 k).2.2.1 = some (tyX6 k) := by decide +kernel
/-- the words that are carried into every call -/
def lw_g : List Cond := lw_tbl.filter goodWord
theorem lw_in {w : Cond} (i : Nat) (h : lw_tbl[i]? = some w) (hg : goodWord w = true) : w ∈ lw_g := List.mem_filter.mpr ⟨List.mem_of_getElem? h, hg⟩
end
section
/-! THE FRAME OF THE WALK: an abstract heap (address to cell, size, slots made), a method's contract over it (MA), a place in a method over it (cx). -/
abbrev hc_C : Type := (Nat × vp_A) ⊕ (Nat × List Value)
abbrev hc_H : Type := (Nat → Option hc_C) × Nat × Nat
abbrev hc_M : Type := MethodName × ByteArray × Nat × Option FieldType × Nat × Nat
abbrev hc_L : Type := List (Option Value)
abbrev hc_K : Type := hc_L → List Value → hc_H → Prop
abbrev mN (M : hc_M) : MethodName := M.1
abbrev mC (M : hc_M) : ByteArray := M.2.1
abbrev mL (M : hc_M) : Nat := M.2.2.1
abbrev mR (M : hc_M) : Option FieldType := M.2.2.2.1
abbrev mF (M : hc_M) : Nat := M.2.2.2.2.1
abbrev mO (M : hc_M) : Nat := M.2.2.2.2.2
def hc_cls : List vw_C := [(RX0, TX0, 16), (RX1, TX1, 2), (RX2, TX2, 7), (RX3, TX3, 2), (RX4, TX4, 12), (RX5, TX5, 5), (RX6, TX6, 15)]
def hc_E (tc : Nat → ClassId) (e : hc_C) : va_E := match e with
  | .inl (k, a) => .inl (tc k, a)
  | .inr o => .inr o
def hc_T (tc : Nat → ClassId) : List (ClassId × FieldType) := [(tc 0, .int), (tc 1, .boolean), (tc 2, .long), (tc 3, .char), (tc 4, .object "BalancedLine$Plan")]
def hc_set (h : hc_H) (a : Nat) (e : hc_C) : hc_H := (fun q => if q = a then some e else h.1 q, h.2)
def hc_new (h : hc_H) (e : hc_C) (n : Nat) : hc_H := (fun q => if q = h.2.1 then some e else h.1 q, h.2.1 + 1, h.2.2 + n)
def hc_W (D : va_G) (tc : Nat → ClassId) (bs : Nat) (h : hc_H) (H : Heap) : Prop := H.size = h.2.1 ∧ bs ≤ h.2.1 ∧ ∀ (a : Nat) (e : hc_C), h.1 a = some e → bs ≤ a ∧ va_at D hc_cls (a, hc_E tc e) H
abbrev hc_A (bs : Nat) : Nat → Prop := fun q => bs ≤ q
def hc_tt : Nat → State → Prop := fun _ _ => True
/-- what a method may take as given of its start, beside the world: kept while nothing old is written -/
def hc_Ph (Ph : Nat → State → Prop) : Prop := (∀ (bs : Nat) (u U : State), U.vm = u.vm → (∀ q : Nat, q < bs → U.heap[q]? = u.heap[q]?) → Ph bs u → Ph bs U) ∧ ∀ (bs : Nat) (u U : State), u.WarmedH U.vm → (∀ q : Nat, q < bs → U.heap[q]? = u.heap[q]?) → Ph bs u → Ph bs U
theorem hc_Ph_tt : hc_Ph hc_tt := ⟨fun _ _ _ _ _ _ => trivial, fun _ _ _ _ _ _ => trivial⟩
/-- words that aren't carried by the tables' list: calls among nest mates, arrays of Plan -/
def hc_N (U : State) : Prop := va_Nw (.methodLinkNest RX5 11 ⟨RX3, "<init>", "()V"⟩ RX5) U ∧ va_Nw (.methodLinkNest RX5 18 ⟨RX2, "<init>", "()V"⟩ RX5) U ∧ va_Nw (.methodLinkNest RX1 17 ⟨RX2, "<init>", "()V"⟩ RX5) U ∧ va_Nw (.methodLinkNest RX3 49 ⟨RX5, "isWithin", "(III)Z"⟩ RX5) U ∧ va_Nw (.methodLinkNest RX0 131 ⟨RX5, "isStation", "(I)Z"⟩ RX5) U ∧ va_AO "BalancedLine$Plan" U
theorem hc_N.same {u U : State} (h : U.vm = u.vm) (hN : hc_N u) : hc_N U := by
  obtain ⟨h1, h2, h3, h4, h5, h6⟩ := hN
  exact ⟨va_Nw.same rfl h.symm h1, va_Nw.same rfl h.symm h2, va_Nw.same rfl h.symm h3, va_Nw.same rfl h.symm h4, va_Nw.same rfl h.symm h5, va_AO.moved (by rw [h]; exact Vm.Alike.refl _) h6⟩
theorem hc_N.warm {u U : State} (h : u.WarmedH U.vm) (hN : hc_N u) : hc_N U := by
  obtain ⟨h1, h2, h3, h4, h5, h6⟩ := hN
  exact ⟨va_Nw.warmM h h1, va_Nw.warmM h h2, va_Nw.warmM h h3, va_Nw.warmM h h4, va_Nw.warmM h h5, va_AO.moved h.alike h6⟩
def hc_U (Ph : Nat → State → Prop) (D : va_G) (tc : Nat → ClassId) (bs : Nat) (h : hc_H) (U : State) : Prop := hc_W D tc bs h U.heap ∧ va_K D hc_cls (hc_T tc) U ∧ hc_N U ∧ Ph bs U
def hc_Q (D : va_G) (tc : Nat → ClassId) (bs : Nat) (r : Option Value) (h' : hc_H) : Array Value → State → Outcome → State → Prop := fun _ st oc t => oc = .returned r ∧ hc_W D tc bs h' t.heap ∧ va_F (hc_A bs) st t
def hc_R (M : hc_M) (h h' : hc_H) : Room := { frames := mF M, cells := h'.2.1 - h.2.1, slots := h'.2.2 - h.2.2, locals := mO M }
def hc_ws (M : hc_M) : List Cond := .code (mN M) (mC M) (mL M) (mR M) :: lw_g
/-- THE CONTRACT: called with as in the heap h, the method answers r and leaves h' -/
def MX (Ph : Nat → State → Prop) (M : hc_M) (as : List Value) (h : hc_H) (r : Option Value) (h' : hc_H) : Prop :=
  (h.2.1 ≤ h'.2.1 ∧ h.2.2 ≤ h'.2.2) ∧ ∀ (l : Launch) (D : va_G) (tc : Nat → ClassId) (bs : Nat), Met l (mN M) (hc_ws M) (hc_R M h h') (va_Pc as (hc_U Ph D tc bs h)) (hc_Q D tc bs r h') (h'.2.1 - h.2.1) (h'.2.2 - h.2.2) (hc_A bs)
abbrev MA (M : hc_M) (as : List Value) (h : hc_H) (r : Option Value) (h' : hc_H) : Prop := MX hc_tt M as h r h'
/-- local variables by their places; a long takes two, the second is none -/
def lget : hc_L → Nat → Option Value
  | [], _ => none
  | a :: _, 0 => a
  | _ :: t, n + 1 => lget t n
def lclr : Option Value → Option Value
  | some (.long _) => none
  | some (.double _) => none
  | x => x
def lset : hc_L → Nat → Value → hc_L
  | [], _, _ => []
  | _ :: t, 0, v => some v :: t
  | a :: t, 1, v => lclr a :: lset t 0 v
  | a :: t, n + 2, v => a :: lset t (n + 1) v
def lnon : hc_L → Nat → hc_L
  | [], _ => []
  | _ :: t, 0 => none :: t
  | a :: t, n + 1 => a :: lnon t n
def lvk (ls : Array Slot) (n : Nat) (lv : hc_L) : Prop := ls.size = n ∧ lv_wf ls ∧ ∀ (i : Nat) (v : Value), lget lv i = some v → ls[i]? = some (.val v)
theorem lget_lset : ∀ (lv : hc_L) (i : Nat) (v : Value) (j : Nat) (w : Value), lget (lset lv i v) j = some w → (j = i ∧ w = v) ∨ (j ≠ i ∧ lget lv j = some w ∧ ¬ (j + 1 = i ∧ w.category = 2)) := by
  intro lv
  induction lv with
  | nil => intro i v j w h; cases i <;> (try (rename_i n; cases n)) <;> simp [lset, lget] at h
  | cons a t ih =>
    intro i v j w h
    match i, j with
    | 0, 0 => simp [lset, lget] at h; exact Or.inl ⟨rfl, h.symm⟩
    | 0, j + 1 => simp [lset, lget] at h; exact Or.inr ⟨by omega, by simpa [lget] using h, by omega⟩
    | 1, 0 =>
      simp only [lset, lget] at h
      refine Or.inr ⟨by omega, ?_, ?_⟩
      · simp only [lget]
        cases a with
        | none => simp [lclr] at h
        | some b => cases b <;> simp [lclr] at h ⊢ <;> exact h
      · rintro ⟨-, hc⟩
        cases a with
        | none => simp [lclr] at h
        | some b => cases b <;> simp [lclr] at h <;> (subst h; simp [Value.category] at hc)
    | 1, j + 1 =>
      simp only [lset, lget] at h
      rcases ih 0 v j w h with ⟨h1, h2⟩ | ⟨h1, h2, h3⟩
      · exact Or.inl ⟨by omega, h2⟩
      · exact Or.inr ⟨by omega, by simpa [lget] using h2, by omega⟩
    | i + 2, 0 =>
      simp only [lset, lget] at h
      exact Or.inr ⟨by omega, by simpa [lget] using h, by omega⟩
    | i + 2, j + 1 =>
      simp only [lset, lget] at h
      rcases ih (i + 1) v j w h with ⟨h1, h2⟩ | ⟨h1, h2, h3⟩
      · exact Or.inl ⟨by omega, h2⟩
      · exact Or.inr ⟨by omega, by simpa [lget] using h2, fun q => h3 ⟨by omega, q.2⟩⟩
theorem lget_lnon : ∀ (lv : hc_L) (i j : Nat) (w : Value), lget (lnon lv i) j = some w → j ≠ i ∧ lget lv j = some w := by
  intro lv
  induction lv with
  | nil => intro i j w h; simp [lnon, lget] at h
  | cons a t ih =>
    intro i j w h
    match i, j with
    | 0, 0 => simp [lnon, lget] at h
    | 0, j + 1 => simp only [lnon, lget] at h; exact ⟨by omega, by simpa [lget] using h⟩
    | i + 1, 0 => simp only [lnon, lget] at h; exact ⟨by omega, by simpa [lget] using h⟩
    | i + 1, j + 1 =>
      simp only [lnon, lget] at h
      obtain ⟨h1, h2⟩ := ih i j w h
      exact ⟨by omega, by simpa [lget] using h2⟩
def lprs (lv : hc_L) : List (Nat × Value) := (List.range lv.length).filterMap fun i => (lget lv i).map fun v => (i, v)
theorem lget_lt : ∀ (lv : hc_L) (i : Nat) (v : Value), lget lv i = some v → i < lv.length := by
  intro lv
  induction lv with
  | nil => intro i v h; simp [lget] at h
  | cons a t ih =>
    intro i v h
    cases i with
    | zero => simp
    | succ i => simp only [lget] at h; have := ih i v h; simp; omega
theorem lprs_mem {lv : hc_L} {i : Nat} {v : Value} : (i, v) ∈ lprs lv ↔ lget lv i = some v := by
  unfold lprs
  rw [List.mem_filterMap]
  constructor
  · rintro ⟨j, -, hj⟩
    cases hg : lget lv j with
    | none => rw [hg] at hj; cases hj
    | some w => rw [hg] at hj; simp at hj; obtain ⟨rfl, rfl⟩ := hj; exact hg
  · intro h
    exact ⟨i, List.mem_range.mpr (lget_lt lv i v h), by rw [h]; rfl⟩
theorem lvk.has {ls : Array Slot} {n : Nat} {lv : hc_L} (h : lvk ls n lv) : lv_has ls n (lprs lv) := ⟨h.1, h.2.1, fun q hq => h.2.2 q.1 q.2 (lprs_mem.mp hq)⟩
theorem lvk.st1 {ls' : Array Slot} {n i : Nat} {lv : hc_L} {v : Value} (h : lv_has ls' n ((i, v) :: (lprs lv).filter (fun q => !(q.1 == i) && !(q.1 + 1 == i && q.2.category == 2)))) : lvk ls' n (lset lv i v) := by
  refine ⟨h.1, h.2.1, fun j w hj => ?_⟩
  rcases lget_lset lv i v j w hj with ⟨rfl, rfl⟩ | ⟨h1, h2, h3⟩
  · exact h.2.2 (j, w) List.mem_cons_self
  · refine h.2.2 (j, w) (List.mem_cons_of_mem _ (List.mem_filter.mpr ⟨lprs_mem.mpr h2, ?_⟩))
    simp only [Bool.and_eq_true, Bool.not_eq_true', beq_eq_false_iff_ne, Bool.and_eq_false_iff]
    refine ⟨h1, ?_⟩
    by_cases hq : j + 1 = i
    · exact Or.inr (fun z => h3 ⟨hq, z⟩)
    · exact Or.inl hq
theorem lvk.st2 {ls' : Array Slot} {n i : Nat} {lv : hc_L} {v : Value} (h : lv_has ls' n ((i, v) :: (lprs lv).filter (fun q => !(q.1 == i) && (!(q.1 == i + 1) && !(q.1 + 1 == i && q.2.category == 2))))) : lvk ls' n (lnon (lset lv i v) (i + 1)) := by
  refine ⟨h.1, h.2.1, fun j w hj => ?_⟩
  obtain ⟨h0, hj⟩ := lget_lnon _ _ _ _ hj
  rcases lget_lset lv i v j w hj with ⟨rfl, rfl⟩ | ⟨h1, h2, h3⟩
  · exact h.2.2 (j, w) List.mem_cons_self
  · refine h.2.2 (j, w) (List.mem_cons_of_mem _ (List.mem_filter.mpr ⟨lprs_mem.mpr h2, ?_⟩))
    simp only [Bool.and_eq_true, Bool.not_eq_true', beq_eq_false_iff_ne, Bool.and_eq_false_iff]
    refine ⟨h1, h0, ?_⟩
    by_cases hq : j + 1 = i
    · exact Or.inr (fun z => h3 ⟨hq, z⟩)
    · exact Or.inl hq
/-- the method's own start: the machine, the code, the words, the classes -/
def cf (Ph : Nat → State → Prop) (M : hc_M) (h0 hf : hc_H) (p : Program) (s : State) (m : MethodId) (args : Array Value) (meth : Method) (c : Code) (D : va_G) (tc : Nat → ClassId) (bs : Nat) : Prop :=
  p.tables.exec = Jvm.exec ∧ c.code = mC M ∧ meth.sig.returnType = mR M ∧ c.maxLocals = mL M ∧ (∀ w ∈ hc_ws M, w.before args s = true) ∧ s.vm.findClass (mN M).cls = some m.cls ∧ meth.locks = false ∧ meth.name = (mN M).name ∧ va_K D hc_cls (hc_T tc) s ∧ hc_N s ∧ bs ≤ s.heap.size ∧ Ph bs s
/-- A PLACE: from pc, with these locals, this stack, this heap, the method comes to its end with r, hf -/
def cx (Ph : Nat → State → Prop) (M : hc_M) (h0 hf : hc_H) (r : Option Value) (pc : Nat) (lv : hc_L) (st : List Value) (h : hc_H) : Prop :=
  (h.2.1 ≤ hf.2.1 ∧ h.2.2 ≤ hf.2.2) ∧ ∀ (p : Program) (l : Launch) (e : Env) (s : State) (m : MethodId) (args : Array Value) (below : List Frame) (meth : Method) (c : Code) (D : va_G) (tc : Nat → ClassId) (bs : Nat), cf Ph M h0 hf p s m args meth c D tc bs → h0.2.1 ≤ h.2.1 → h0.2.2 ≤ h.2.2 → ∀ (H : Heap) (locs : List Loc) (ls : Array Slot), hc_W D tc bs h H → va_S (hc_A bs) s.heap H locs → lvk ls (mL M) lv →
    W p l e (hc_R M h0 hf) s m args below meth c H locs (h.2.1 - h0.2.1) (h.2.2 - h0.2.2) (MQ below (hc_Q D tc bs r hf) args s (hf.2.1 - h0.2.1) (hf.2.2 - h0.2.2) (hc_A bs)) (F0 m pc ls st)
section CX
variable {Ph : Nat → State → Prop} {M : hc_M} {h0 hf : hc_H} {r : Option Value} {pc : Nat} {K : hc_K}
/-- an instruction that leaves the heap -/
theorem cx.step {pc' : Nat} {lv lv' : hc_L} {st st' : List Value} {h : hc_H} (k : cx Ph M h0 hf r pc' lv' st' h)
    (f : ∀ (p : Program) (l : Launch) (e : Env) (R : Room) (s : State) (m : MethodId) (args : Array Value) (below : List Frame) (meth : Method) (c : Code) (H : Heap) (locs : List Loc) (cells slots : Nat) (Q : State → Prop) (ls : Array Slot), p.tables.exec = Jvm.exec → c.code = mC M → (∀ w ∈ hc_ws M, w.before args s = true) → s.vm.findClass (mN M).cls = some m.cls → lvk ls (mL M) lv → (∀ ls' : Array Slot, lvk ls' (mL M) lv' → W p l e R s m args below meth c H locs cells slots Q (F0 m pc' ls' st')) → W p l e R s m args below meth c H locs cells slots Q (F0 m pc ls st)) : cx Ph M h0 hf r pc lv st h := by
  refine ⟨k.1, fun p l e s m args below meth c D tc bs X g1 g2 H locs ls hW hS hl => ?_⟩
  exact f _ _ _ _ _ _ _ _ _ _ _ _ _ _ _ _ X.1 X.2.1 X.2.2.2.2.1 X.2.2.2.2.2.1 hl (fun ls' hl' => k.2 p l e s m args below meth c D tc bs X g1 g2 H locs ls' hW hS hl')
/-- a branch -/
theorem cx.two {pc1 pc2 : Nat} {A B : Prop} {lv : hc_L} {st st' : List Value} {h : hc_H} (dec : A ∨ B) (k1 : A → cx Ph M h0 hf r pc1 lv st' h) (k2 : B → cx Ph M h0 hf r pc2 lv st' h)
    (f : ∀ (p : Program) (l : Launch) (e : Env) (R : Room) (s : State) (m : MethodId) (args : Array Value) (below : List Frame) (meth : Method) (c : Code) (H : Heap) (locs : List Loc) (cells slots : Nat) (Q : State → Prop) (ls : Array Slot), p.tables.exec = Jvm.exec → c.code = mC M → (A → W p l e R s m args below meth c H locs cells slots Q (F0 m pc1 ls st')) → (B → W p l e R s m args below meth c H locs cells slots Q (F0 m pc2 ls st')) → W p l e R s m args below meth c H locs cells slots Q (F0 m pc ls st)) : cx Ph M h0 hf r pc lv st h := by
  refine ⟨?_, fun p l e s m args below meth c D tc bs X g1 g2 H locs ls hW hS hl => ?_⟩
  · rcases dec with a | b
    · exact (k1 a).1
    · exact (k2 b).1
  · exact f _ _ _ _ _ _ _ _ _ _ _ _ _ _ _ _ X.1 X.2.1 (fun a => (k1 a).2 p l e s m args below meth c D tc bs X g1 g2 H locs ls hW hS hl) (fun b => (k2 b).2 p l e s m args below meth c D tc bs X g1 g2 H locs ls hW hS hl)
end CX
end
section
/-! INSTRUCTIONS: qi_X K lv st h: what must hold at X so that K holds behind it; qs_X: it is so of the machine. Written by wip/whole/gen_instr.py. -/
section QI
variable {Ph : Nat → State → Prop} {M : hc_M} {h0 hf : hc_H} {r : Option Value} {pc : Nat} {K : hc_K}
abbrev qk (Ph : Nat → State → Prop) (M : hc_M) (h0 hf : hc_H) (r : Option Value) (pc : Nat) (K : hc_K) : Prop := ∀ (lv : hc_L) (st : List Value) (h : hc_H), K lv st h → cx Ph M h0 hf r pc lv st h
def qi_push (v : Int32) (K : hc_K) (lv : hc_L) (st : List Value) (h : hc_H) : Prop := K lv (.int v :: st) h
def qi_pushl (v : Int64) (K : hc_K) (lv : hc_L) (st : List Value) (h : hc_H) : Prop := K lv (.long v :: st) h
theorem qs_iconst {n : Int} {v : Int32} (hd : decode (mC M) pc = .ok (.iconst n, 1)) (hv : Int32.ofInt n = v) (k : qk Ph M h0 hf r (pc + 1) K) : qk Ph M h0 hf r pc (qi_push v K) := fun lv st h hi => (k lv _ h hi).step (fun p l e R s m args below meth c H locs cells slots Q ls hx hb hts hown hl kk => lv_iconst hx hb hd hv (kk ls hl))
theorem qs_bipush {n : Int} {v : Int32} (hd : decode (mC M) pc = .ok (.bipush n, 2)) (hv : (Int8.ofInt n).toInt32 = v) (k : qk Ph M h0 hf r (pc + 2) K) : qk Ph M h0 hf r pc (qi_push v K) := fun lv st h hi => (k lv _ h hi).step (fun p l e R s m args below meth c H locs cells slots Q ls hx hb hts hown hl kk => lv_bipush hx hb hd hv (kk ls hl))
theorem qs_sipush {n : Int} {v : Int32} (hd : decode (mC M) pc = .ok (.sipush n, 3)) (hv : (Int16.ofInt n).toInt32 = v) (k : qk Ph M h0 hf r (pc + 3) K) : qk Ph M h0 hf r pc (qi_push v K) := fun lv st h hi => (k lv _ h hi).step (fun p l e R s m args below meth c H locs cells slots Q ls hx hb hts hown hl kk => lv_sipush hx hb hd hv (kk ls hl))
theorem qs_lconst {n : Fin 2} {v : Int64} (hd : decode (mC M) pc = .ok (.lconst n, 1)) (hv : Int64.ofNat (n : Nat) = v) (k : qk Ph M h0 hf r (pc + 1) K) : qk Ph M h0 hf r pc (qi_pushl v K) := fun lv st h hi => (k lv _ h hi).step (fun p l e R s m args below meth c H locs cells slots Q ls hx hb hts hown hl kk => lv_lconst hx hb hd hv (kk ls hl))
theorem qs_ldc {index : Nat} {v : Int32} (hd : decode (mC M) pc = .ok (.ldc index, 2)) (hw : Cond.constant (mN M).cls index v ∈ lw_g) (k : qk Ph M h0 hf r (pc + 2) K) : qk Ph M h0 hf r pc (qi_push v K) := fun lv st h hi => (k lv _ h hi).step (fun p l e R s m args below meth c H locs cells slots Q ls hx hb hts hown hl kk => lv_ldc hx hb hown (hts _ (List.mem_cons_of_mem _ hw)) hd (kk ls hl))
theorem qs_ldc2 {index : Nat} {v : Int64} (hd : decode (mC M) pc = .ok (.ldc2_w index, 3)) (hw : Cond.constantLong (mN M).cls index v ∈ lw_g) (k : qk Ph M h0 hf r (pc + 3) K) : qk Ph M h0 hf r pc (qi_pushl v K) := fun lv st h hi => (k lv _ h hi).step (fun p l e R s m args below meth c H locs cells slots Q ls hx hb hts hown hl kk => lv_ldc2 hx hb hown (hts _ (List.mem_cons_of_mem _ hw)) hd (kk ls hl))
def qi_iload (i : Nat) (K : hc_K) (lv : hc_L) (st : List Value) (h : hc_H) : Prop := match lget lv i with
  | some (.int x) => K lv (.int x :: st) h
  | _ => False
theorem qs_iload_n {n : Fin 4} {i : Nat} (hd : decode (mC M) pc = .ok (.iload_n n, 1)) (hn : (n : Nat) = i) (k : qk Ph M h0 hf r (pc + 1) K) : qk Ph M h0 hf r pc (qi_iload i K) := by
  intro lv st h hi
  unfold qi_iload at hi
  split at hi
  · rename_i x hx0
    exact (k lv _ h hi).step (fun p l e R s m args below meth c H locs cells slots Q ls hx hb hts hown hl kk => lv_iload_n hx hb hd hn (hl.2.2 _ _ hx0) (kk ls hl))
  · exact hi.elim
theorem qs_iload {i : Nat} (hd : decode (mC M) pc = .ok (.iload i, 2)) (k : qk Ph M h0 hf r (pc + 2) K) : qk Ph M h0 hf r pc (qi_iload i K) := by
  intro lv st h hi
  unfold qi_iload at hi
  split at hi
  · rename_i x hx0
    exact (k lv _ h hi).step (fun p l e R s m args below meth c H locs cells slots Q ls hx hb hts hown hl kk => lv_iload hx hb hd (hl.2.2 _ _ hx0) (kk ls hl))
  · exact hi.elim
def qi_lload (i : Nat) (K : hc_K) (lv : hc_L) (st : List Value) (h : hc_H) : Prop := match lget lv i with
  | some (.long x) => K lv (.long x :: st) h
  | _ => False
theorem qs_lload_n {n : Fin 4} {i : Nat} (hd : decode (mC M) pc = .ok (.lload_n n, 1)) (hn : (n : Nat) = i) (k : qk Ph M h0 hf r (pc + 1) K) : qk Ph M h0 hf r pc (qi_lload i K) := by
  intro lv st h hi
  unfold qi_lload at hi
  split at hi
  · rename_i x hx0
    exact (k lv _ h hi).step (fun p l e R s m args below meth c H locs cells slots Q ls hx hb hts hown hl kk => lv_lload_n hx hb hd hn (hl.2.2 _ _ hx0) (kk ls hl))
  · exact hi.elim
theorem qs_lload {i : Nat} (hd : decode (mC M) pc = .ok (.lload i, 2)) (k : qk Ph M h0 hf r (pc + 2) K) : qk Ph M h0 hf r pc (qi_lload i K) := by
  intro lv st h hi
  unfold qi_lload at hi
  split at hi
  · rename_i x hx0
    exact (k lv _ h hi).step (fun p l e R s m args below meth c H locs cells slots Q ls hx hb hts hown hl kk => lv_lload hx hb hd (hl.2.2 _ _ hx0) (kk ls hl))
  · exact hi.elim
def qi_aload (i : Nat) (K : hc_K) (lv : hc_L) (st : List Value) (h : hc_H) : Prop := match lget lv i with
  | some (.ref x) => K lv (.ref x :: st) h
  | _ => False
theorem qs_aload_n {n : Fin 4} {i : Nat} (hd : decode (mC M) pc = .ok (.aload_n n, 1)) (hn : (n : Nat) = i) (k : qk Ph M h0 hf r (pc + 1) K) : qk Ph M h0 hf r pc (qi_aload i K) := by
  intro lv st h hi
  unfold qi_aload at hi
  split at hi
  · rename_i x hx0
    exact (k lv _ h hi).step (fun p l e R s m args below meth c H locs cells slots Q ls hx hb hts hown hl kk => lv_aload_n hx hb hd hn (hl.2.2 _ _ hx0) (kk ls hl))
  · exact hi.elim
theorem qs_aload {i : Nat} (hd : decode (mC M) pc = .ok (.aload i, 2)) (k : qk Ph M h0 hf r (pc + 2) K) : qk Ph M h0 hf r pc (qi_aload i K) := by
  intro lv st h hi
  unfold qi_aload at hi
  split at hi
  · rename_i x hx0
    exact (k lv _ h hi).step (fun p l e R s m args below meth c H locs cells slots Q ls hx hb hts hown hl kk => lv_aload hx hb hd (hl.2.2 _ _ hx0) (kk ls hl))
  · exact hi.elim
def qi_istore (i : Nat) (K : hc_K) : hc_L → List Value → hc_H → Prop
  | lv, .int x :: st, h => K (lset lv i (.int x)) st h
  | _, _, _ => False
theorem qs_istore_n {n : Fin 4} {i : Nat} (hd : decode (mC M) pc = .ok (.istore_n n, 1)) (hn : (n : Nat) = i) (hm : i < mL M) (k : qk Ph M h0 hf r (pc + 1) K) : qk Ph M h0 hf r pc (qi_istore i K) := by
  intro lv st h hi
  unfold qi_istore at hi
  split at hi
  · exact (k _ _ _ hi).step (fun p l e R s m args below meth c H locs cells slots Q ls hx hb hts hown hl kk => lv_istore_n hx hb hd hn hl.has hm rfl (fun ls' hl' => kk ls' (lvk.st1 hl')))
  · exact hi.elim
theorem qs_istore {i : Nat} (hd : decode (mC M) pc = .ok (.istore i, 2)) (hm : i < mL M) (k : qk Ph M h0 hf r (pc + 2) K) : qk Ph M h0 hf r pc (qi_istore i K) := by
  intro lv st h hi
  unfold qi_istore at hi
  split at hi
  · exact (k _ _ _ hi).step (fun p l e R s m args below meth c H locs cells slots Q ls hx hb hts hown hl kk => lv_istore hx hb hd hl.has hm rfl (fun ls' hl' => kk ls' (lvk.st1 hl')))
  · exact hi.elim
def qi_astore (i : Nat) (K : hc_K) : hc_L → List Value → hc_H → Prop
  | lv, .ref x :: st, h => K (lset lv i (.ref x)) st h
  | _, _, _ => False
theorem qs_astore_n {n : Fin 4} {i : Nat} (hd : decode (mC M) pc = .ok (.astore_n n, 1)) (hn : (n : Nat) = i) (hm : i < mL M) (k : qk Ph M h0 hf r (pc + 1) K) : qk Ph M h0 hf r pc (qi_astore i K) := by
  intro lv st h hi
  unfold qi_astore at hi
  split at hi
  · exact (k _ _ _ hi).step (fun p l e R s m args below meth c H locs cells slots Q ls hx hb hts hown hl kk => lv_astore_n hx hb hd hn hl.has hm rfl (fun ls' hl' => kk ls' (lvk.st1 hl')))
  · exact hi.elim
theorem qs_astore {i : Nat} (hd : decode (mC M) pc = .ok (.astore i, 2)) (hm : i < mL M) (k : qk Ph M h0 hf r (pc + 2) K) : qk Ph M h0 hf r pc (qi_astore i K) := by
  intro lv st h hi
  unfold qi_astore at hi
  split at hi
  · exact (k _ _ _ hi).step (fun p l e R s m args below meth c H locs cells slots Q ls hx hb hts hown hl kk => lv_astore hx hb hd hl.has hm rfl (fun ls' hl' => kk ls' (lvk.st1 hl')))
  · exact hi.elim
def qi_lstore (i : Nat) (K : hc_K) : hc_L → List Value → hc_H → Prop
  | lv, .long x :: st, h => K (lnon (lset lv i (.long x)) (i + 1)) st h
  | _, _, _ => False
theorem qs_lstore_n {n : Fin 4} {i : Nat} (hd : decode (mC M) pc = .ok (.lstore_n n, 1)) (hn : (n : Nat) = i) (hm : i + 1 < mL M) (k : qk Ph M h0 hf r (pc + 1) K) : qk Ph M h0 hf r pc (qi_lstore i K) := by
  intro lv st h hi
  unfold qi_lstore at hi
  split at hi
  · exact (k _ _ _ hi).step (fun p l e R s m args below meth c H locs cells slots Q ls hx hb hts hown hl kk => lv_lstore_n hx hb hd hn hl.has hm rfl (fun ls' hl' => kk ls' (lvk.st2 hl')))
  · exact hi.elim
theorem qs_lstore {i : Nat} (hd : decode (mC M) pc = .ok (.lstore i, 2)) (hm : i + 1 < mL M) (k : qk Ph M h0 hf r (pc + 2) K) : qk Ph M h0 hf r pc (qi_lstore i K) := by
  intro lv st h hi
  unfold qi_lstore at hi
  split at hi
  · exact (k _ _ _ hi).step (fun p l e R s m args below meth c H locs cells slots Q ls hx hb hts hown hl kk => lv_lstore hx hb hd hl.has hm rfl (fun ls' hl' => kk ls' (lvk.st2 hl')))
  · exact hi.elim
def qi_iinc (i : Nat) (v : Int32) (K : hc_K) (lv : hc_L) (st : List Value) (h : hc_H) : Prop := match lget lv i with
  | some (.int x) => K (lset lv i (.int (x + v))) st h
  | _ => False
theorem qs_iinc {i : Nat} {n : Int} {v : Int32} (hd : decode (mC M) pc = .ok (.iinc i n, 3)) (hv : Int32.ofInt n = v) (hm : i < mL M) (k : qk Ph M h0 hf r (pc + 3) K) : qk Ph M h0 hf r pc (qi_iinc i v K) := by
  intro lv st h hi
  unfold qi_iinc at hi
  split at hi
  · rename_i x hx0
    refine (k _ _ _ hi).step (fun p l e R s m args below meth c H locs cells slots Q ls hx hb hts hown hl kk => ?_)
    obtain ⟨q, hq⟩ := List.getElem?_of_mem (lprs_mem.mpr hx0)
    exact lv_iinc hx hb hd hl.has hq (by rw [hv]) hm rfl (fun ls' hl' => kk ls' (lvk.st1 hl'))
  · exact hi.elim
def qi_iadd (K : hc_K) : hc_L → List Value → hc_H → Prop
  | lv, .int y :: .int x :: st, h => K lv (.int (x + y) :: st) h
  | _, _, _ => False
theorem qs_iadd (hd : decode (mC M) pc = .ok (.iadd, 1)) (k : qk Ph M h0 hf r (pc + 1) K) : qk Ph M h0 hf r pc (qi_iadd K) := by
  intro lv st h hi
  unfold qi_iadd at hi
  split at hi
  · exact (k _ _ _ hi).step (fun p l e R s m args below meth c H locs cells slots Q ls hx hb hts hown hl kk => lv_iadd hx hb hd (kk ls hl))
  · exact hi.elim
def qi_isub (K : hc_K) : hc_L → List Value → hc_H → Prop
  | lv, .int y :: .int x :: st, h => K lv (.int (x - y) :: st) h
  | _, _, _ => False
theorem qs_isub (hd : decode (mC M) pc = .ok (.isub, 1)) (k : qk Ph M h0 hf r (pc + 1) K) : qk Ph M h0 hf r pc (qi_isub K) := by
  intro lv st h hi
  unfold qi_isub at hi
  split at hi
  · exact (k _ _ _ hi).step (fun p l e R s m args below meth c H locs cells slots Q ls hx hb hts hown hl kk => lv_isub hx hb hd (kk ls hl))
  · exact hi.elim
def qi_imul (K : hc_K) : hc_L → List Value → hc_H → Prop
  | lv, .int y :: .int x :: st, h => K lv (.int (x * y) :: st) h
  | _, _, _ => False
theorem qs_imul (hd : decode (mC M) pc = .ok (.imul, 1)) (k : qk Ph M h0 hf r (pc + 1) K) : qk Ph M h0 hf r pc (qi_imul K) := by
  intro lv st h hi
  unfold qi_imul at hi
  split at hi
  · exact (k _ _ _ hi).step (fun p l e R s m args below meth c H locs cells slots Q ls hx hb hts hown hl kk => lv_imul hx hb hd (kk ls hl))
  · exact hi.elim
def qi_iand (K : hc_K) : hc_L → List Value → hc_H → Prop
  | lv, .int y :: .int x :: st, h => K lv (.int (x &&& y) :: st) h
  | _, _, _ => False
theorem qs_iand (hd : decode (mC M) pc = .ok (.iand, 1)) (k : qk Ph M h0 hf r (pc + 1) K) : qk Ph M h0 hf r pc (qi_iand K) := by
  intro lv st h hi
  unfold qi_iand at hi
  split at hi
  · exact (k _ _ _ hi).step (fun p l e R s m args below meth c H locs cells slots Q ls hx hb hts hown hl kk => lv_iand hx hb hd (kk ls hl))
  · exact hi.elim
def qi_ior (K : hc_K) : hc_L → List Value → hc_H → Prop
  | lv, .int y :: .int x :: st, h => K lv (.int (x ||| y) :: st) h
  | _, _, _ => False
theorem qs_ior (hd : decode (mC M) pc = .ok (.ior, 1)) (k : qk Ph M h0 hf r (pc + 1) K) : qk Ph M h0 hf r pc (qi_ior K) := by
  intro lv st h hi
  unfold qi_ior at hi
  split at hi
  · exact (k _ _ _ hi).step (fun p l e R s m args below meth c H locs cells slots Q ls hx hb hts hown hl kk => lv_ior hx hb hd (kk ls hl))
  · exact hi.elim
def qi_ixor (K : hc_K) : hc_L → List Value → hc_H → Prop
  | lv, .int y :: .int x :: st, h => K lv (.int (x ^^^ y) :: st) h
  | _, _, _ => False
theorem qs_ixor (hd : decode (mC M) pc = .ok (.ixor, 1)) (k : qk Ph M h0 hf r (pc + 1) K) : qk Ph M h0 hf r pc (qi_ixor K) := by
  intro lv st h hi
  unfold qi_ixor at hi
  split at hi
  · exact (k _ _ _ hi).step (fun p l e R s m args below meth c H locs cells slots Q ls hx hb hts hown hl kk => lv_ixor hx hb hd (kk ls hl))
  · exact hi.elim
def qi_ishl (K : hc_K) : hc_L → List Value → hc_H → Prop
  | lv, .int y :: .int x :: st, h => K lv (.int (x <<< (y &&& 31)) :: st) h
  | _, _, _ => False
theorem qs_ishl (hd : decode (mC M) pc = .ok (.ishl, 1)) (k : qk Ph M h0 hf r (pc + 1) K) : qk Ph M h0 hf r pc (qi_ishl K) := by
  intro lv st h hi
  unfold qi_ishl at hi
  split at hi
  · exact (k _ _ _ hi).step (fun p l e R s m args below meth c H locs cells slots Q ls hx hb hts hown hl kk => lv_ishl hx hb hd (kk ls hl))
  · exact hi.elim
def qi_ishr (K : hc_K) : hc_L → List Value → hc_H → Prop
  | lv, .int y :: .int x :: st, h => K lv (.int (x >>> (y &&& 31)) :: st) h
  | _, _, _ => False
theorem qs_ishr (hd : decode (mC M) pc = .ok (.ishr, 1)) (k : qk Ph M h0 hf r (pc + 1) K) : qk Ph M h0 hf r pc (qi_ishr K) := by
  intro lv st h hi
  unfold qi_ishr at hi
  split at hi
  · exact (k _ _ _ hi).step (fun p l e R s m args below meth c H locs cells slots Q ls hx hb hts hown hl kk => lv_ishr hx hb hd (kk ls hl))
  · exact hi.elim
def qi_iushr (K : hc_K) : hc_L → List Value → hc_H → Prop
  | lv, .int y :: .int x :: st, h => K lv (.int (x.toUInt32 >>> (y.toUInt32 &&& Int32.toUInt32 31)).toInt32 :: st) h
  | _, _, _ => False
theorem qs_iushr (hd : decode (mC M) pc = .ok (.iushr, 1)) (k : qk Ph M h0 hf r (pc + 1) K) : qk Ph M h0 hf r pc (qi_iushr K) := by
  intro lv st h hi
  unfold qi_iushr at hi
  split at hi
  · exact (k _ _ _ hi).step (fun p l e R s m args below meth c H locs cells slots Q ls hx hb hts hown hl kk => lv_iushr hx hb hd rfl (kk ls hl))
  · exact hi.elim
def qi_idiv (K : hc_K) : hc_L → List Value → hc_H → Prop
  | lv, .int y :: .int x :: st, h => ¬ y = 0 ∧ K lv (.int (x / y) :: st) h
  | _, _, _ => False
theorem qs_idiv (hd : decode (mC M) pc = .ok (.idiv, 1)) (k : qk Ph M h0 hf r (pc + 1) K) : qk Ph M h0 hf r pc (qi_idiv K) := by
  intro lv st h hi
  unfold qi_idiv at hi
  split at hi
  · exact (k _ _ _ hi.2).step (fun p l e R s m args below meth c H locs cells slots Q ls hx hb hts hown hl kk => lv_idiv hx hb hd hi.1 (kk ls hl))
  · exact hi.elim
def qi_irem (K : hc_K) : hc_L → List Value → hc_H → Prop
  | lv, .int y :: .int x :: st, h => ¬ y = 0 ∧ K lv (.int (x - x / y * y) :: st) h
  | _, _, _ => False
theorem qs_irem (hd : decode (mC M) pc = .ok (.irem, 1)) (k : qk Ph M h0 hf r (pc + 1) K) : qk Ph M h0 hf r pc (qi_irem K) := by
  intro lv st h hi
  unfold qi_irem at hi
  split at hi
  · exact (k _ _ _ hi.2).step (fun p l e R s m args below meth c H locs cells slots Q ls hx hb hts hown hl kk => lv_irem hx hb hd hi.1 (kk ls hl))
  · exact hi.elim
def qi_lor (K : hc_K) : hc_L → List Value → hc_H → Prop
  | lv, .long y :: .long x :: st, h => K lv (.long (x ||| y) :: st) h
  | _, _, _ => False
theorem qs_lor (hd : decode (mC M) pc = .ok (.lor, 1)) (k : qk Ph M h0 hf r (pc + 1) K) : qk Ph M h0 hf r pc (qi_lor K) := by
  intro lv st h hi
  unfold qi_lor at hi
  split at hi
  · exact (k _ _ _ hi).step (fun p l e R s m args below meth c H locs cells slots Q ls hx hb hts hown hl kk => lv_lor hx hb hd (kk ls hl))
  · exact hi.elim
def qi_lmul (K : hc_K) : hc_L → List Value → hc_H → Prop
  | lv, .long y :: .long x :: st, h => K lv (.long (x * y) :: st) h
  | _, _, _ => False
theorem qs_lmul (hd : decode (mC M) pc = .ok (.lmul, 1)) (k : qk Ph M h0 hf r (pc + 1) K) : qk Ph M h0 hf r pc (qi_lmul K) := by
  intro lv st h hi
  unfold qi_lmul at hi
  split at hi
  · exact (k _ _ _ hi).step (fun p l e R s m args below meth c H locs cells slots Q ls hx hb hts hown hl kk => lv_lmul hx hb hd (kk ls hl))
  · exact hi.elim
def qi_ladd (K : hc_K) : hc_L → List Value → hc_H → Prop
  | lv, .long y :: .long x :: st, h => K lv (.long (x + y) :: st) h
  | _, _, _ => False
theorem qs_ladd (hd : decode (mC M) pc = .ok (.ladd, 1)) (k : qk Ph M h0 hf r (pc + 1) K) : qk Ph M h0 hf r pc (qi_ladd K) := by
  intro lv st h hi
  unfold qi_ladd at hi
  split at hi
  · exact (k _ _ _ hi).step (fun p l e R s m args below meth c H locs cells slots Q ls hx hb hts hown hl kk => lv_ladd hx hb hd (kk ls hl))
  · exact hi.elim
def qi_lsub (K : hc_K) : hc_L → List Value → hc_H → Prop
  | lv, .long y :: .long x :: st, h => K lv (.long (x - y) :: st) h
  | _, _, _ => False
theorem qs_lsub (hd : decode (mC M) pc = .ok (.lsub, 1)) (k : qk Ph M h0 hf r (pc + 1) K) : qk Ph M h0 hf r pc (qi_lsub K) := by
  intro lv st h hi
  unfold qi_lsub at hi
  split at hi
  · exact (k _ _ _ hi).step (fun p l e R s m args below meth c H locs cells slots Q ls hx hb hts hown hl kk => lv_lsub hx hb hd (kk ls hl))
  · exact hi.elim
def qi_land (K : hc_K) : hc_L → List Value → hc_H → Prop
  | lv, .long y :: .long x :: st, h => K lv (.long (x &&& y) :: st) h
  | _, _, _ => False
theorem qs_land (hd : decode (mC M) pc = .ok (.land, 1)) (k : qk Ph M h0 hf r (pc + 1) K) : qk Ph M h0 hf r pc (qi_land K) := by
  intro lv st h hi
  unfold qi_land at hi
  split at hi
  · exact (k _ _ _ hi).step (fun p l e R s m args below meth c H locs cells slots Q ls hx hb hts hown hl kk => lv_land hx hb hd (kk ls hl))
  · exact hi.elim
def qi_lshl (K : hc_K) : hc_L → List Value → hc_H → Prop
  | lv, .int y :: .long x :: st, h => K lv (.long (x <<< (y.toInt64 &&& 63)) :: st) h
  | _, _, _ => False
theorem qs_lshl (hd : decode (mC M) pc = .ok (.lshl, 1)) (k : qk Ph M h0 hf r (pc + 1) K) : qk Ph M h0 hf r pc (qi_lshl K) := by
  intro lv st h hi
  unfold qi_lshl at hi
  split at hi
  · exact (k _ _ _ hi).step (fun p l e R s m args below meth c H locs cells slots Q ls hx hb hts hown hl kk => lv_lshl hx hb hd rfl (kk ls hl))
  · exact hi.elim
def qi_lshr (K : hc_K) : hc_L → List Value → hc_H → Prop
  | lv, .int y :: .long x :: st, h => K lv (.long (x >>> (y.toInt64 &&& 63)) :: st) h
  | _, _, _ => False
theorem qs_lshr (hd : decode (mC M) pc = .ok (.lshr, 1)) (k : qk Ph M h0 hf r (pc + 1) K) : qk Ph M h0 hf r pc (qi_lshr K) := by
  intro lv st h hi
  unfold qi_lshr at hi
  split at hi
  · exact (k _ _ _ hi).step (fun p l e R s m args below meth c H locs cells slots Q ls hx hb hts hown hl kk => lv_lshr hx hb hd rfl (kk ls hl))
  · exact hi.elim
def qi_i2l (K : hc_K) : hc_L → List Value → hc_H → Prop
  | lv, .int x :: st, h => K lv (.long x.toInt64 :: st) h
  | _, _, _ => False
theorem qs_i2l (hd : decode (mC M) pc = .ok (.i2l, 1)) (k : qk Ph M h0 hf r (pc + 1) K) : qk Ph M h0 hf r pc (qi_i2l K) := by
  intro lv st h hi
  unfold qi_i2l at hi
  split at hi
  · exact (k _ _ _ hi).step (fun p l e R s m args below meth c H locs cells slots Q ls hx hb hts hown hl kk => lv_i2l hx hb hd rfl (kk ls hl))
  · exact hi.elim
def qi_l2i (K : hc_K) : hc_L → List Value → hc_H → Prop
  | lv, .long x :: st, h => K lv (.int x.toInt32 :: st) h
  | _, _, _ => False
theorem qs_l2i (hd : decode (mC M) pc = .ok (.l2i, 1)) (k : qk Ph M h0 hf r (pc + 1) K) : qk Ph M h0 hf r pc (qi_l2i K) := by
  intro lv st h hi
  unfold qi_l2i at hi
  split at hi
  · exact (k _ _ _ hi).step (fun p l e R s m args below meth c H locs cells slots Q ls hx hb hts hown hl kk => lv_l2i hx hb hd rfl (kk ls hl))
  · exact hi.elim
def qi_i2c (K : hc_K) : hc_L → List Value → hc_H → Prop
  | lv, .int x :: st, h => K lv (.int (x.toUInt32 % 65536).toInt32 :: st) h
  | _, _, _ => False
theorem qs_i2c (hd : decode (mC M) pc = .ok (.i2c, 1)) (k : qk Ph M h0 hf r (pc + 1) K) : qk Ph M h0 hf r pc (qi_i2c K) := by
  intro lv st h hi
  unfold qi_i2c at hi
  split at hi
  · exact (k _ _ _ hi).step (fun p l e R s m args below meth c H locs cells slots Q ls hx hb hts hown hl kk => lv_i2c hx hb hd rfl (kk ls hl))
  · exact hi.elim
def qi_lcmp (K : hc_K) : hc_L → List Value → hc_H → Prop
  | lv, .long y :: .long x :: st, h => K lv (.int (lg_cmp x y) :: st) h
  | _, _, _ => False
theorem qs_lcmp (hd : decode (mC M) pc = .ok (.lcmp, 1)) (k : qk Ph M h0 hf r (pc + 1) K) : qk Ph M h0 hf r pc (qi_lcmp K) := by
  intro lv st h hi
  unfold qi_lcmp at hi
  split at hi
  · exact (k _ _ _ hi).step (fun p l e R s m args below meth c H locs cells slots Q ls hx hb hts hown hl kk => W.lcmp hx hb hd (kk ls hl))
  · exact hi.elim
def qi_dup (K : hc_K) : hc_L → List Value → hc_H → Prop
  | lv, .int x :: st, h => K lv (.int x :: .int x :: st) h
  | lv, .ref x :: st, h => K lv (.ref x :: .ref x :: st) h
  | _, _, _ => False
theorem qs_dup (hd : decode (mC M) pc = .ok (.dup, 1)) (k : qk Ph M h0 hf r (pc + 1) K) : qk Ph M h0 hf r pc (qi_dup K) := by
  intro lv st h hi
  unfold qi_dup at hi
  split at hi
  · exact (k _ _ _ hi).step (fun p l e R s m args below meth c H locs cells slots Q ls hx hb hts hown hl kk => lv_dup hx hb hd rfl (kk ls hl))
  · exact (k _ _ _ hi).step (fun p l e R s m args below meth c H locs cells slots Q ls hx hb hts hown hl kk => lv_dup hx hb hd rfl (kk ls hl))
  · exact hi.elim
def qi_dup2 (K : hc_K) : hc_L → List Value → hc_H → Prop
  | lv, .int y :: .ref x :: st, h => K lv (.int y :: .ref x :: .int y :: .ref x :: st) h
  | _, _, _ => False
theorem qs_dup2 (hd : decode (mC M) pc = .ok (.dup2, 1)) (k : qk Ph M h0 hf r (pc + 1) K) : qk Ph M h0 hf r pc (qi_dup2 K) := by
  intro lv st h hi
  unfold qi_dup2 at hi
  split at hi
  · exact (k _ _ _ hi).step (fun p l e R s m args below meth c H locs cells slots Q ls hx hb hts hown hl kk => lv_dup2_11 hx hb hd rfl rfl (kk ls hl))
  · exact hi.elim
def qi_pop (K : hc_K) : hc_L → List Value → hc_H → Prop
  | lv, .int _ :: st, h => K lv st h
  | lv, .ref _ :: st, h => K lv st h
  | _, _, _ => False
theorem qs_pop (hd : decode (mC M) pc = .ok (.pop, 1)) (k : qk Ph M h0 hf r (pc + 1) K) : qk Ph M h0 hf r pc (qi_pop K) := by
  intro lv st h hi
  unfold qi_pop at hi
  split at hi
  · exact (k _ _ _ hi).step (fun p l e R s m args below meth c H locs cells slots Q ls hx hb hts hown hl kk => lv_pop hx hb hd rfl (kk ls hl))
  · exact (k _ _ _ hi).step (fun p l e R s m args below meth c H locs cells slots Q ls hx hb hts hown hl kk => lv_pop hx hb hd rfl (kk ls hl))
  · exact hi.elim
def qi_if_eq (T K : hc_K) : hc_L → List Value → hc_H → Prop
  | lv, .int x :: st, h => (x = 0 → T lv st h) ∧ (¬ x = 0 → K lv st h)
  | _, _, _ => False
theorem qs_if_eq {T : hc_K} {off : Int} {tgt : Nat} (hd : decode (mC M) pc = .ok (.ifCond .eq off, 3)) (ht : (pc : Int) + off = (tgt : Int)) (k1 : qk Ph M h0 hf r tgt T) (k2 : qk Ph M h0 hf r (pc + 3) K) : qk Ph M h0 hf r pc (qi_if_eq T K) := by
  intro lv st h hi
  unfold qi_if_eq at hi
  split at hi
  · exact cx.two (Classical.em _) (fun z => k1 _ _ _ (hi.1 z)) (fun z => k2 _ _ _ (hi.2 z)) (fun p l e R s m args below meth c H locs cells slots Q ls hx hb k1 k2 => lv_if_eq hx hb hd ht k1 k2)
  · exact hi.elim
def qi_icmp_eq (T K : hc_K) : hc_L → List Value → hc_H → Prop
  | lv, .int y :: .int x :: st, h => (x = y → T lv st h) ∧ (¬ x = y → K lv st h)
  | _, _, _ => False
theorem qs_icmp_eq {T : hc_K} {off : Int} {tgt : Nat} (hd : decode (mC M) pc = .ok (.if_icmp .eq off, 3)) (ht : (pc : Int) + off = (tgt : Int)) (k1 : qk Ph M h0 hf r tgt T) (k2 : qk Ph M h0 hf r (pc + 3) K) : qk Ph M h0 hf r pc (qi_icmp_eq T K) := by
  intro lv st h hi
  unfold qi_icmp_eq at hi
  split at hi
  · exact cx.two (Classical.em _) (fun z => k1 _ _ _ (hi.1 z)) (fun z => k2 _ _ _ (hi.2 z)) (fun p l e R s m args below meth c H locs cells slots Q ls hx hb k1 k2 => lv_icmp_eq hx hb hd ht k1 k2)
  · exact hi.elim
def qi_if_ne (T K : hc_K) : hc_L → List Value → hc_H → Prop
  | lv, .int x :: st, h => (¬ x = 0 → T lv st h) ∧ (x = 0 → K lv st h)
  | _, _, _ => False
theorem qs_if_ne {T : hc_K} {off : Int} {tgt : Nat} (hd : decode (mC M) pc = .ok (.ifCond .ne off, 3)) (ht : (pc : Int) + off = (tgt : Int)) (k1 : qk Ph M h0 hf r tgt T) (k2 : qk Ph M h0 hf r (pc + 3) K) : qk Ph M h0 hf r pc (qi_if_ne T K) := by
  intro lv st h hi
  unfold qi_if_ne at hi
  split at hi
  · exact cx.two ((Classical.em _).symm) (fun z => k1 _ _ _ (hi.1 z)) (fun z => k2 _ _ _ (hi.2 z)) (fun p l e R s m args below meth c H locs cells slots Q ls hx hb k1 k2 => lv_if_ne hx hb hd ht k1 k2)
  · exact hi.elim
def qi_icmp_ne (T K : hc_K) : hc_L → List Value → hc_H → Prop
  | lv, .int y :: .int x :: st, h => (¬ x = y → T lv st h) ∧ (x = y → K lv st h)
  | _, _, _ => False
theorem qs_icmp_ne {T : hc_K} {off : Int} {tgt : Nat} (hd : decode (mC M) pc = .ok (.if_icmp .ne off, 3)) (ht : (pc : Int) + off = (tgt : Int)) (k1 : qk Ph M h0 hf r tgt T) (k2 : qk Ph M h0 hf r (pc + 3) K) : qk Ph M h0 hf r pc (qi_icmp_ne T K) := by
  intro lv st h hi
  unfold qi_icmp_ne at hi
  split at hi
  · exact cx.two ((Classical.em _).symm) (fun z => k1 _ _ _ (hi.1 z)) (fun z => k2 _ _ _ (hi.2 z)) (fun p l e R s m args below meth c H locs cells slots Q ls hx hb k1 k2 => lv_icmp_ne hx hb hd ht k1 k2)
  · exact hi.elim
def qi_if_lt (T K : hc_K) : hc_L → List Value → hc_H → Prop
  | lv, .int x :: st, h => (x < 0 → T lv st h) ∧ (¬ x < 0 → K lv st h)
  | _, _, _ => False
theorem qs_if_lt {T : hc_K} {off : Int} {tgt : Nat} (hd : decode (mC M) pc = .ok (.ifCond .lt off, 3)) (ht : (pc : Int) + off = (tgt : Int)) (k1 : qk Ph M h0 hf r tgt T) (k2 : qk Ph M h0 hf r (pc + 3) K) : qk Ph M h0 hf r pc (qi_if_lt T K) := by
  intro lv st h hi
  unfold qi_if_lt at hi
  split at hi
  · exact cx.two (Classical.em _) (fun z => k1 _ _ _ (hi.1 z)) (fun z => k2 _ _ _ (hi.2 z)) (fun p l e R s m args below meth c H locs cells slots Q ls hx hb k1 k2 => lv_if_lt hx hb hd ht k1 k2)
  · exact hi.elim
def qi_icmp_lt (T K : hc_K) : hc_L → List Value → hc_H → Prop
  | lv, .int y :: .int x :: st, h => (x < y → T lv st h) ∧ (¬ x < y → K lv st h)
  | _, _, _ => False
theorem qs_icmp_lt {T : hc_K} {off : Int} {tgt : Nat} (hd : decode (mC M) pc = .ok (.if_icmp .lt off, 3)) (ht : (pc : Int) + off = (tgt : Int)) (k1 : qk Ph M h0 hf r tgt T) (k2 : qk Ph M h0 hf r (pc + 3) K) : qk Ph M h0 hf r pc (qi_icmp_lt T K) := by
  intro lv st h hi
  unfold qi_icmp_lt at hi
  split at hi
  · exact cx.two (Classical.em _) (fun z => k1 _ _ _ (hi.1 z)) (fun z => k2 _ _ _ (hi.2 z)) (fun p l e R s m args below meth c H locs cells slots Q ls hx hb k1 k2 => lv_icmp_lt hx hb hd ht k1 k2)
  · exact hi.elim
def qi_if_ge (T K : hc_K) : hc_L → List Value → hc_H → Prop
  | lv, .int x :: st, h => (0 ≤ x → T lv st h) ∧ (¬ 0 ≤ x → K lv st h)
  | _, _, _ => False
theorem qs_if_ge {T : hc_K} {off : Int} {tgt : Nat} (hd : decode (mC M) pc = .ok (.ifCond .ge off, 3)) (ht : (pc : Int) + off = (tgt : Int)) (k1 : qk Ph M h0 hf r tgt T) (k2 : qk Ph M h0 hf r (pc + 3) K) : qk Ph M h0 hf r pc (qi_if_ge T K) := by
  intro lv st h hi
  unfold qi_if_ge at hi
  split at hi
  · exact cx.two (Classical.em _) (fun z => k1 _ _ _ (hi.1 z)) (fun z => k2 _ _ _ (hi.2 z)) (fun p l e R s m args below meth c H locs cells slots Q ls hx hb k1 k2 => lv_if_ge hx hb hd ht k1 k2)
  · exact hi.elim
def qi_icmp_ge (T K : hc_K) : hc_L → List Value → hc_H → Prop
  | lv, .int y :: .int x :: st, h => (y ≤ x → T lv st h) ∧ (¬ y ≤ x → K lv st h)
  | _, _, _ => False
theorem qs_icmp_ge {T : hc_K} {off : Int} {tgt : Nat} (hd : decode (mC M) pc = .ok (.if_icmp .ge off, 3)) (ht : (pc : Int) + off = (tgt : Int)) (k1 : qk Ph M h0 hf r tgt T) (k2 : qk Ph M h0 hf r (pc + 3) K) : qk Ph M h0 hf r pc (qi_icmp_ge T K) := by
  intro lv st h hi
  unfold qi_icmp_ge at hi
  split at hi
  · exact cx.two (Classical.em _) (fun z => k1 _ _ _ (hi.1 z)) (fun z => k2 _ _ _ (hi.2 z)) (fun p l e R s m args below meth c H locs cells slots Q ls hx hb k1 k2 => lv_icmp_ge hx hb hd ht k1 k2)
  · exact hi.elim
def qi_if_gt (T K : hc_K) : hc_L → List Value → hc_H → Prop
  | lv, .int x :: st, h => (0 < x → T lv st h) ∧ (¬ 0 < x → K lv st h)
  | _, _, _ => False
theorem qs_if_gt {T : hc_K} {off : Int} {tgt : Nat} (hd : decode (mC M) pc = .ok (.ifCond .gt off, 3)) (ht : (pc : Int) + off = (tgt : Int)) (k1 : qk Ph M h0 hf r tgt T) (k2 : qk Ph M h0 hf r (pc + 3) K) : qk Ph M h0 hf r pc (qi_if_gt T K) := by
  intro lv st h hi
  unfold qi_if_gt at hi
  split at hi
  · exact cx.two (Classical.em _) (fun z => k1 _ _ _ (hi.1 z)) (fun z => k2 _ _ _ (hi.2 z)) (fun p l e R s m args below meth c H locs cells slots Q ls hx hb k1 k2 => lv_if_gt hx hb hd ht k1 k2)
  · exact hi.elim
def qi_icmp_gt (T K : hc_K) : hc_L → List Value → hc_H → Prop
  | lv, .int y :: .int x :: st, h => (y < x → T lv st h) ∧ (¬ y < x → K lv st h)
  | _, _, _ => False
theorem qs_icmp_gt {T : hc_K} {off : Int} {tgt : Nat} (hd : decode (mC M) pc = .ok (.if_icmp .gt off, 3)) (ht : (pc : Int) + off = (tgt : Int)) (k1 : qk Ph M h0 hf r tgt T) (k2 : qk Ph M h0 hf r (pc + 3) K) : qk Ph M h0 hf r pc (qi_icmp_gt T K) := by
  intro lv st h hi
  unfold qi_icmp_gt at hi
  split at hi
  · exact cx.two (Classical.em _) (fun z => k1 _ _ _ (hi.1 z)) (fun z => k2 _ _ _ (hi.2 z)) (fun p l e R s m args below meth c H locs cells slots Q ls hx hb k1 k2 => lv_icmp_gt hx hb hd ht k1 k2)
  · exact hi.elim
def qi_if_le (T K : hc_K) : hc_L → List Value → hc_H → Prop
  | lv, .int x :: st, h => (x ≤ 0 → T lv st h) ∧ (¬ x ≤ 0 → K lv st h)
  | _, _, _ => False
theorem qs_if_le {T : hc_K} {off : Int} {tgt : Nat} (hd : decode (mC M) pc = .ok (.ifCond .le off, 3)) (ht : (pc : Int) + off = (tgt : Int)) (k1 : qk Ph M h0 hf r tgt T) (k2 : qk Ph M h0 hf r (pc + 3) K) : qk Ph M h0 hf r pc (qi_if_le T K) := by
  intro lv st h hi
  unfold qi_if_le at hi
  split at hi
  · exact cx.two (Classical.em _) (fun z => k1 _ _ _ (hi.1 z)) (fun z => k2 _ _ _ (hi.2 z)) (fun p l e R s m args below meth c H locs cells slots Q ls hx hb k1 k2 => lv_if_le hx hb hd ht k1 k2)
  · exact hi.elim
def qi_icmp_le (T K : hc_K) : hc_L → List Value → hc_H → Prop
  | lv, .int y :: .int x :: st, h => (x ≤ y → T lv st h) ∧ (¬ x ≤ y → K lv st h)
  | _, _, _ => False
theorem qs_icmp_le {T : hc_K} {off : Int} {tgt : Nat} (hd : decode (mC M) pc = .ok (.if_icmp .le off, 3)) (ht : (pc : Int) + off = (tgt : Int)) (k1 : qk Ph M h0 hf r tgt T) (k2 : qk Ph M h0 hf r (pc + 3) K) : qk Ph M h0 hf r pc (qi_icmp_le T K) := by
  intro lv st h hi
  unfold qi_icmp_le at hi
  split at hi
  · exact cx.two (Classical.em _) (fun z => k1 _ _ _ (hi.1 z)) (fun z => k2 _ _ _ (hi.2 z)) (fun p l e R s m args below meth c H locs cells slots Q ls hx hb k1 k2 => lv_icmp_le hx hb hd ht k1 k2)
  · exact hi.elim
theorem qs_goto {off : Int} {tgt : Nat} (hd : decode (mC M) pc = .ok (.goto off, 3)) (ht : (pc : Int) + off = (tgt : Int)) (k : qk Ph M h0 hf r tgt K) : qk Ph M h0 hf r pc K := fun lv st h hi => (k lv st h hi).step (fun p l e R s m args below meth c H locs cells slots Q ls hx hb hts hown hl kk => lv_goto hx hb hd ht (kk ls hl))
/-- a switch: the continuations in order, of the values from lo on; else Kd -/
def qi_sw (Kd : hc_K) : List (Int32 × hc_K) → hc_L → List Value → hc_H → Prop
  | [], lv, .int _ :: st, h => Kd lv st h
  | (v, K) :: ks, lv, .int x :: st, h => (x = v → K lv st h) ∧ (¬ x = v → qi_sw Kd ks lv (.int x :: st) h)
  | _, _, _, _ => False
end QI
end
section
/-! HEAP INSTRUCTIONS, CALLS, ENDS: as in 03. -/
section QH
variable {Ph : Nat → State → Prop} {M : hc_M} {h0 hf : hc_H} {r : Option Value} {pc : Nat} {K : hc_K}
theorem hc_W.get {D : va_G} {tc : Nat → ClassId} {bs : Nat} {h : hc_H} {H : Heap} {a : Nat} {e : hc_C} (hW : hc_W D tc bs h H) (he : h.1 a = some e) : va_P D hc_cls [(a, hc_E tc e)] H := by
  intro k q hk
  cases k with
  | zero => cases hk; exact (hW.2.2 a e he).2
  | succ k => simp at hk
theorem hc_W.put {D : va_G} {tc : Nat → ClassId} {bs : Nat} {h : hc_H} {H H1 : Heap} {a : Nat} {e : hc_C} (hW : hc_W D tc bs h H) (ha : bs ≤ a) (z : H1.size = H.size) (oq : ∀ q : Nat, q ≠ a → H1[q]? = H[q]?) (he : va_at D hc_cls (a, hc_E tc e) H1) : hc_W D tc bs (hc_set h a e) H1 := by
  refine ⟨z.trans hW.1, hW.2.1, fun q e' hq => ?_⟩
  simp only [hc_set] at hq
  by_cases hqa : q = a
  · subst hqa
    rw [if_pos rfl] at hq
    cases hq
    exact ⟨ha, he⟩
  · rw [if_neg hqa] at hq
    exact ⟨(hW.2.2 q e' hq).1, (hW.2.2 q e' hq).2.kept (oq q hqa)⟩
theorem hc_W.push {D : va_G} {tc : Nat → ClassId} {bs : Nat} {h : hc_H} {H H1 : Heap} {e : hc_C} {n : Nat} (hW : hc_W D tc bs h H) (z : H1.size = H.size + 1) (oq : ∀ q : Nat, q < H.size → H1[q]? = H[q]?) (he : va_at D hc_cls (H.size, hc_E tc e) H1) : hc_W D tc bs (hc_new h e n) H1 := by
  refine ⟨by rw [z, hW.1]; rfl, Nat.le_succ_of_le hW.2.1, fun q e' hq => ?_⟩
  simp only [hc_new] at hq
  by_cases hqa : q = h.2.1
  · subst hqa
    rw [if_pos rfl] at hq
    cases hq
    exact ⟨hW.2.1, by rw [← hW.1]; exact he⟩
  · rw [if_neg hqa] at hq
    have hat := (hW.2.2 q e' hq).2
    exact ⟨(hW.2.2 q e' hq).1, hat.kept (oq q hat.lt)⟩
theorem hc_S.push {bs : Nat} {H0 H H1 : Heap} {locs : List Loc} (hS : va_S (hc_A bs) H0 H locs) (z : H1.size = H.size + 1) (oq : ∀ q : Nat, q < H.size → H1[q]? = H[q]?) : va_S (hc_A bs) H0 H1 locs := ⟨by rw [z]; exact Nat.le_succ_of_le hS.1, fun q h1 h2 => (oq q (Nat.lt_of_lt_of_le h1 hS.1)).trans (hS.2.1 q h1 h2), hS.2.2⟩
/-- fields and arrays of a cell -/
def lnth : List Value → Nat → Option Value
  | [], _ => none
  | v :: _, 0 => some v
  | _ :: t, n + 1 => lnth t n
theorem lnth_eq : ∀ (fs : List Value) (k : Nat), lnth fs k = fs[k]? := by
  intro fs
  induction fs with
  | nil => intro k; rfl
  | cons v t ih => intro k; cases k with
    | zero => rfl
    | succ k => simp only [lnth, List.getElem?_cons_succ]; exact ih k
def at_o (o : Option hc_C) (ci : Nat) (P : List Value → Prop) : Prop := match o with
  | some (.inr (c, fs)) => c = ci ∧ P fs
  | _ => False
def at_i (o : Option hc_C) (kd : Nat) (P : Nat → (Nat → Int32) → Prop) : Prop := match o with
  | some (.inl (k, n, .inl f)) => k = kd ∧ P n f
  | _ => False
def at_l (o : Option hc_C) (P : Nat → (Nat → Int64) → Prop) : Prop := match o with
  | some (.inl (k, n, .inr (.inl f))) => k = 2 ∧ P n f
  | _ => False
def at_q (o : Option hc_C) (P : Nat → (Nat → Option Nat) → Prop) : Prop := match o with
  | some (.inl (k, n, .inr (.inr (.inr (.inr f))))) => k = 4 ∧ P n f
  | _ => False
def at_a (o : Option hc_C) (P : Nat → Prop) : Prop := match o with
  | some (.inl (k, n, _)) => k < 5 ∧ P n
  | _ => False
theorem at_o_spec {o : Option hc_C} {ci : Nat} {P : List Value → Prop} (h : at_o o ci P) : ∃ fs, o = some (.inr (ci, fs)) ∧ P fs := by
  unfold at_o at h
  split at h
  · obtain ⟨rfl, h⟩ := h; exact ⟨_, rfl, h⟩
  · exact h.elim
theorem at_i_spec {o : Option hc_C} {kd : Nat} {P : Nat → (Nat → Int32) → Prop} (h : at_i o kd P) : ∃ n f, o = some (.inl (kd, n, .inl f)) ∧ P n f := by
  unfold at_i at h
  split at h
  · obtain ⟨rfl, h⟩ := h; exact ⟨_, _, rfl, h⟩
  · exact h.elim
theorem at_l_spec {o : Option hc_C} {P : Nat → (Nat → Int64) → Prop} (h : at_l o P) : ∃ n f, o = some (.inl (2, n, .inr (.inl f))) ∧ P n f := by
  unfold at_l at h
  split at h
  · obtain ⟨rfl, h⟩ := h; exact ⟨_, _, rfl, h⟩
  · exact h.elim
theorem at_q_spec {o : Option hc_C} {P : Nat → (Nat → Option Nat) → Prop} (h : at_q o P) : ∃ n f, o = some (.inl (4, n, .inr (.inr (.inr (.inr f))))) ∧ P n f := by
  unfold at_q at h
  split at h
  · obtain ⟨rfl, h⟩ := h; exact ⟨_, _, rfl, h⟩
  · exact h.elim
theorem at_a_spec {o : Option hc_C} {P : Nat → Prop} (h : at_a o P) : ∃ k x, o = some (.inl (k, x)) ∧ k < 5 ∧ P x.1 := by
  unfold at_a at h
  split at h
  · obtain ⟨h1, h⟩ := h; exact ⟨_, _, rfl, h1, h⟩
  · exact h.elim
/-- getfield: class number ci, field k -/
def qi_get (ci k : Nat) (K : hc_K) : hc_L → List Value → hc_H → Prop
  | lv, .ref a :: st, h => at_o (h.1 a) ci (fun fs => match lnth fs k with
    | some v => K lv (v :: st) h
    | none => False)
  | _, _, _ => False
def hc_fld (own : String) (index ci k : Nat) : Prop := ∃ (C : String) (T : u_T) (N : Nat) (ty0 : Nat → FieldType), hc_cls[ci]? = some (C, T, N) ∧ k < N ∧ (∀ w ∈ u_ws C T N, w ∈ lw_g) ∧ Cond.fieldLink own index (T k).1 (T k).2.1 (T k).2.2.1 ∈ lw_g ∧ (∀ k, k < N → parseFieldDescriptor (T k).2.2.1 = some (ty0 k)) ∧ ∀ a, a < N → ∀ b, b < N → a ≠ b → (T a).2.1 ≠ (T b).2.1
theorem qs_get {index ci k : Nat} (hd : decode (mC M) pc = .ok (.getfield index, 3)) (hF : hc_fld (mN M).cls index ci k) (kk : qk Ph M h0 hf r (pc + 3) K) : qk Ph M h0 hf r pc (qi_get ci k K) := by
  intro lv st h hi
  unfold qi_get at hi
  split at hi
  · rename_i a st
    obtain ⟨fs, hfs, hi⟩ := at_o_spec hi
    split at hi
    · rename_i v hv
      obtain ⟨C, T, N, ty0, hc, hk, hin, hlink, -, -⟩ := hF
      have k1 := kk _ _ _ hi
      refine ⟨k1.1, fun p l e s m args below meth c D tc bs X g1 g2 H locs ls hW hS hl => ?_⟩
      obtain ⟨hx, hb, -, -, hts, hown, -, -, hK, -⟩ := id X
      rw [lnth_eq] at hv
      exact va_get hx hb hts (fun w hw => List.mem_cons_of_mem _ (hin w hw)) hown hK (hW.get hfs) 0 rfl hc k hk (hts _ (List.mem_cons_of_mem _ hlink)) (fun _ h9 => h9) hv hd (k1.2 p l e s m args below meth c D tc bs X g1 g2 H locs ls hW hS hl)
    · exact hi.elim
  · exact hi.elim
/-- what a field of this type may hold -/
def hc_fit (ty : FieldType) (v : Value) : Prop := narrow ty v = v ∧ fits ty v = true
theorem hc_fit_i {x : Int32} : hc_fit .int (.int x) := ⟨rfl, rfl⟩
theorem hc_fit_l {x : Int64} : hc_fit .long (.long x) := ⟨rfl, rfl⟩
/-- putfield -/
def qi_put (ci k : Nat) (ty : FieldType) (K : hc_K) : hc_L → List Value → hc_H → Prop
  | lv, v :: .ref a :: st, h => at_o (h.1 a) ci (fun fs => k < fs.length ∧ hc_fit ty v ∧ K lv st (hc_set h a (.inr (ci, fs.set k v))))
  | _, _, _ => False
theorem qs_put {index ci k : Nat} {ty : FieldType} (hd : decode (mC M) pc = .ok (.putfield index, 3)) (hF : hc_fld (mN M).cls index ci k) (hty : ∃ C T N, hc_cls[ci]? = some (C, T, N) ∧ (T k).2.2.2 = false ∧ parseFieldDescriptor (T k).2.2.1 = some ty) (kk : qk Ph M h0 hf r (pc + 3) K) : qk Ph M h0 hf r pc (qi_put ci k ty K) := by
  intro lv st h hi
  unfold qi_put at hi
  split at hi
  · rename_i v a st
    obtain ⟨fs, hfs, hkl, hfit, hi⟩ := at_o_spec hi
    obtain ⟨C, T, N, ty0, hc, hk, hin, hlink, htys, hnm⟩ := hF
    obtain ⟨C', T', N', hc', hfin, hd1⟩ := hty
    cases hc'.symm.trans hc
    have k1 := kk _ _ _ hi
    refine ⟨k1.1, fun p l e s m args below meth c D tc bs X g1 g2 H locs ls hW hS hl => ?_⟩
    obtain ⟨hx, hb, -, -, hts, hown, -, -, hK, -⟩ := id X
    have hin' : ∀ w ∈ u_ws C T N, w ∈ hc_ws M := fun w hw => List.mem_cons_of_mem _ (hin w hw)
    have hap := va_apart (own := (mN M).cls) hts hin' ty0 htys hnm hK hc
    obtain ⟨hba, r1, h1, cell, q1, q2, q3, q4⟩ := hW.2.2 a _ hfs
    have hr : r1 = (C, T, N) := Option.some.inj (h1.symm.trans hc)
    subst hr
    obtain ⟨hSl, hfc, kC, hkC, hkind⟩ := hK.1 ci _ hc
    obtain ⟨cf1, kf, fi, f, hi1, hsl⟩ := hSl k hk
    have hlay := hts _ (hin' _ (u_in_lay hk))
    unfold u_lay at hlay
    rw [if_neg (by rw [hfin]; decide)] at hlay
    have hst := (u_facts hfc hkC (u_lays hts hin' hk) hi1).1
    have h6 := u_store hfc hkC hkind hlay hi1 hd1 hfit.1 hfit.2
    refine W.putK hx hb (f := f) ⟨hown, hts _ (List.mem_cons_of_mem _ hlink), ⟨_, _, _, hi1⟩, hst⟩ (by rw [q2]; exact h6) q1 q3 (by rw [hsl]; exact k2_hasslot (q4 k hk)) rfl rfl hd fun H' e1 e2 e3 => ?_
    rw [hsl] at e1 ⊢
    exact k1.2 p l e s m args below meth c D tc bs X g1 g2 H' _ ls (hW.put hba e2 e3 ⟨_, hc, t_OB.to (V := updV (vp_V fs) k v) ⟨_, e1, q2, q3, t_set q4 hap hk v⟩ (fun j _ => vp_updV_set hkl v j)⟩) (hS.put e2 e3 hba) hl
  · exact hi.elim
theorem qs_putF {index ci k : Nat} {ty : FieldType} (hd : decode (mC M) pc = .ok (.putfield index, 3)) (hF : hc_fld (mN M).cls index ci k) (hini : (mN M).name = "<init>") (hty : ∃ C T N, hc_cls[ci]? = some (C, T, N) ∧ (T k).2.2.2 = true ∧ (T k).1 = (mN M).cls ∧ parseFieldDescriptor (T k).2.2.1 = some ty) (kk : qk Ph M h0 hf r (pc + 3) K) : qk Ph M h0 hf r pc (qi_put ci k ty K) := by
  intro lv st h hi
  unfold qi_put at hi
  split at hi
  · rename_i v a st
    obtain ⟨fs, hfs, hkl, hfit, hi⟩ := at_o_spec hi
    obtain ⟨C, T, N, ty0, hc, hk, hin, hlink, htys, hnm⟩ := hF
    obtain ⟨C', T', N', hc', hfin, hdecl, hd1⟩ := hty
    cases hc'.symm.trans hc
    have k1 := kk _ _ _ hi
    refine ⟨k1.1, fun p l e s m args below meth c D tc bs X g1 g2 H locs ls hW hS hl => ?_⟩
    obtain ⟨hx, hb, -, -, hts, hown, -, hnam, hK, -⟩ := id X
    have hin' : ∀ w ∈ u_ws C T N, w ∈ hc_ws M := fun w hw => List.mem_cons_of_mem _ (hin w hw)
    have hap := va_apart (own := (mN M).cls) hts hin' ty0 htys hnm hK hc
    obtain ⟨hba, r1, h1, cell, q1, q2, q3, q4⟩ := hW.2.2 a _ hfs
    have hr : r1 = (C, T, N) := Option.some.inj (h1.symm.trans hc)
    subst hr
    obtain ⟨hSl, hfc, kC, hkC, hkind⟩ := hK.1 ci _ hc
    obtain ⟨cf1, kf, fi, f, hi1, hsl⟩ := hSl k hk
    have hlay := hts _ (hin' _ (u_in_lay hk))
    unfold u_lay at hlay
    rw [if_pos hfin] at hlay
    have hst := (u_facts hfc hkC (u_lays hts hin' hk) hi1).1
    have hcf : m.cls = cf1 := by
      obtain ⟨_, _, c', _, _, _, -, -, hf', -, -, -, hown2, -⟩ := Cond.laysFinal_spec hlay
      have e1 : c' = cf1 := by have := hi1.symm.trans hf'; simp at this; exact this.1.symm
      rw [hdecl] at hown2
      rw [← e1]; exact Option.some.inj (hown.symm.trans hown2)
    have h6 := u_fits hfc hkC hkind (Or.inr hlay) hi1 hd1 hfit.1 hfit.2
    refine W.putFinK hx hb hown (hts _ (List.mem_cons_of_mem _ hlink)) hi1 hst hcf (hnam.trans hini) (by rw [q2]; exact h6) q1 q3 (by rw [hsl]; exact k2_hasslot (q4 k hk)) rfl rfl hd fun H' e1 e2 e3 => ?_
    rw [hsl] at e1 ⊢
    exact k1.2 p l e s m args below meth c D tc bs X g1 g2 H' _ ls (hW.put hba e2 e3 ⟨_, hc, t_OB.to (V := updV (vp_V fs) k v) ⟨_, e1, q2, q3, t_set q4 hap hk v⟩ (fun j _ => vp_updV_set hkl v j)⟩) (hS.put e2 e3 hba) hl
  · exact hi.elim
/-- array loads -/
def qi_iald (kd : Nat) (K : hc_K) : hc_L → List Value → hc_H → Prop
  | lv, .int i :: .ref a :: st, h => at_i (h.1 a) kd (fun n f => vp_in i n ∧ K lv (.int (f i.toNatClampNeg) :: st) h)
  | _, _, _ => False
theorem qs_iaload (hd : decode (mC M) pc = .ok (.iaload, 1)) (kk : qk Ph M h0 hf r (pc + 1) K) : qk Ph M h0 hf r pc (qi_iald 0 K) := by
  intro lv st h hi
  unfold qi_iald at hi
  split at hi
  · obtain ⟨n, f, hfs, hin, hi⟩ := at_i_spec hi
    have k1 := kk _ _ _ hi
    refine ⟨k1.1, fun p l e s m args below meth c D tc bs X g1 g2 H locs ls hW hS hl => ?_⟩
    obtain ⟨hx, hb, -, -, -, -, -, -, hK, -⟩ := id X
    exact va_iald hx hb hK (hW.get hfs) 0 0 rfl rfl hin hd (k1.2 p l e s m args below meth c D tc bs X g1 g2 H locs ls hW hS hl)
  · exact hi.elim
theorem qs_baload (hd : decode (mC M) pc = .ok (.baload, 1)) (kk : qk Ph M h0 hf r (pc + 1) K) : qk Ph M h0 hf r pc (qi_iald 1 K) := by
  intro lv st h hi
  unfold qi_iald at hi
  split at hi
  · obtain ⟨n, f, hfs, hin, hi⟩ := at_i_spec hi
    have k1 := kk _ _ _ hi
    refine ⟨k1.1, fun p l e s m args below meth c D tc bs X g1 g2 H locs ls hW hS hl => ?_⟩
    obtain ⟨hx, hb, -, -, -, -, -, -, hK, -⟩ := id X
    exact va_zald hx hb hK (hW.get hfs) 0 1 rfl rfl hin hd (k1.2 p l e s m args below meth c D tc bs X g1 g2 H locs ls hW hS hl)
  · exact hi.elim
theorem qs_caload (hd : decode (mC M) pc = .ok (.caload, 1)) (kk : qk Ph M h0 hf r (pc + 1) K) : qk Ph M h0 hf r pc (qi_iald 3 K) := by
  intro lv st h hi
  unfold qi_iald at hi
  split at hi
  · obtain ⟨n, f, hfs, hin, hi⟩ := at_i_spec hi
    have k1 := kk _ _ _ hi
    refine ⟨k1.1, fun p l e s m args below meth c D tc bs X g1 g2 H locs ls hW hS hl => ?_⟩
    obtain ⟨hx, hb, -, -, -, -, -, -, hK, -⟩ := id X
    exact va_cald hx hb hK (hW.get hfs) 0 3 rfl rfl hin hd (k1.2 p l e s m args below meth c D tc bs X g1 g2 H locs ls hW hS hl)
  · exact hi.elim
def qi_lald (K : hc_K) : hc_L → List Value → hc_H → Prop
  | lv, .int i :: .ref a :: st, h => at_l (h.1 a) (fun n f => vp_in i n ∧ K lv (.long (f i.toNatClampNeg) :: st) h)
  | _, _, _ => False
theorem qs_laload (hd : decode (mC M) pc = .ok (.laload, 1)) (kk : qk Ph M h0 hf r (pc + 1) K) : qk Ph M h0 hf r pc (qi_lald K) := by
  intro lv st h hi
  unfold qi_lald at hi
  split at hi
  · obtain ⟨n, f, hfs, hin, hi⟩ := at_l_spec hi
    have k1 := kk _ _ _ hi
    refine ⟨k1.1, fun p l e s m args below meth c D tc bs X g1 g2 H locs ls hW hS hl => ?_⟩
    obtain ⟨hx, hb, -, -, -, -, -, -, hK, -⟩ := id X
    exact va_lald hx hb hK (hW.get hfs) 0 2 rfl rfl hin hd (k1.2 p l e s m args below meth c D tc bs X g1 g2 H locs ls hW hS hl)
  · exact hi.elim
def qi_aald (K : hc_K) : hc_L → List Value → hc_H → Prop
  | lv, .int i :: .ref a :: st, h => at_q (h.1 a) (fun n f => vp_in i n ∧ K lv (va_rf (f i.toNatClampNeg) :: st) h)
  | _, _, _ => False
theorem qs_aaload (hd : decode (mC M) pc = .ok (.aaload, 1)) (kk : qk Ph M h0 hf r (pc + 1) K) : qk Ph M h0 hf r pc (qi_aald K) := by
  intro lv st h hi
  unfold qi_aald at hi
  split at hi
  · obtain ⟨n, f, hfs, hin, hi⟩ := at_q_spec hi
    have k1 := kk _ _ _ hi
    refine ⟨k1.1, fun p l e s m args below meth c D tc bs X g1 g2 H locs ls hW hS hl => ?_⟩
    obtain ⟨hx, hb, -, -, -, -, -, -, hK, -⟩ := id X
    exact va_aldq hx hb hK (hW.get hfs) 0 4 rfl rfl hin hd (k1.2 p l e s m args below meth c D tc bs X g1 g2 H locs ls hW hS hl)
  · exact hi.elim
/-- array stores -/
def qi_iast (K : hc_K) : hc_L → List Value → hc_H → Prop
  | lv, .int x :: .int i :: .ref a :: st, h => at_i (h.1 a) 0 (fun n f => vp_in i n ∧ K lv st (hc_set h a (.inl (0, n, .inl (upd f i.toNatClampNeg x)))))
  | _, _, _ => False
theorem qs_iastore (hd : decode (mC M) pc = .ok (.iastore, 1)) (kk : qk Ph M h0 hf r (pc + 1) K) : qk Ph M h0 hf r pc (qi_iast K) := by
  intro lv st h hi
  unfold qi_iast at hi
  split at hi
  · rename_i x i a st
    obtain ⟨n, f, hfs, hin, hi⟩ := at_i_spec hi
    have k1 := kk _ _ _ hi
    refine ⟨k1.1, fun p l e s m args below meth c D tc bs X g1 g2 H locs ls hW hS hl => ?_⟩
    obtain ⟨hx, hb, -, -, -, -, -, -, hK, -⟩ := id X
    obtain ⟨hba, hat⟩ := hW.2.2 a _ hfs
    refine W.iast hx hb (show H[a]? = some (vp_cell (tc 0) (n, .inl f)) from hat) ((hK.2 0 _ rfl).1 n (fun j => .int (f j))) (fun q => by cases q) (by show ¬ (i < 0 ∨ (arrV _ _ _).slots.size ≤ _); rw [arrV_size]; exact hin) rfl rfl hd fun H1 e1 z oq => ?_
    refine k1.2 p l e s m args below meth c D tc bs X g1 g2 H1 _ ls (hW.put hba z oq ?_) (hS.put z oq hba) hl
    show H1[a]? = some (vp_cell _ _)
    rw [e1]
    rw [vp_cell_i, vp_cell_i, arrV_store]
    congr 2
    funext q
    by_cases hq : q = i.toNatClampNeg
    · subst hq
      simp [updV, upd]
    · simp [updV, upd, hq]
  · exact hi.elim
def qi_zast (K : hc_K) : hc_L → List Value → hc_H → Prop
  | lv, .int x :: .int i :: .ref a :: st, h => at_i (h.1 a) 1 (fun n f => vp_in i n ∧ K lv st (hc_set h a (.inl (1, n, .inl (upd f i.toNatClampNeg (x &&& 1))))))
  | _, _, _ => False
theorem qs_bastore (hd : decode (mC M) pc = .ok (.bastore, 1)) (kk : qk Ph M h0 hf r (pc + 1) K) : qk Ph M h0 hf r pc (qi_zast K) := by
  intro lv st h hi
  unfold qi_zast at hi
  split at hi
  · rename_i x i a st
    obtain ⟨n, f, hfs, hin, hi⟩ := at_i_spec hi
    have k1 := kk _ _ _ hi
    refine ⟨k1.1, fun p l e s m args below meth c D tc bs X g1 g2 H locs ls hW hS hl => ?_⟩
    obtain ⟨hx, hb, -, -, -, -, -, -, hK, -⟩ := id X
    obtain ⟨hba, hat⟩ := hW.2.2 a _ hfs
    refine W.zast hx hb (show H[a]? = some (vp_cell (tc 1) (n, .inl f)) from hat) ((hK.2 1 _ rfl).1 n (fun j => .int (f j))) (fun q => by cases q) (by show ¬ (i < 0 ∨ (arrV _ _ _).slots.size ≤ _); rw [arrV_size]; exact hin) rfl rfl hd fun H1 e1 z oq => ?_
    refine k1.2 p l e s m args below meth c D tc bs X g1 g2 H1 _ ls (hW.put hba z oq ?_) (hS.put z oq hba) hl
    show H1[a]? = some (vp_cell _ _)
    rw [e1]
    rw [vp_cell_i, vp_cell_i, arrV_store]
    congr 2
    funext q
    by_cases hq : q = i.toNatClampNeg
    · subst hq
      simp [updV, upd, narrow]
    · simp [updV, upd, hq]
  · exact hi.elim
def qi_cast (K : hc_K) : hc_L → List Value → hc_H → Prop
  | lv, .int x :: .int i :: .ref a :: st, h => at_i (h.1 a) 3 (fun n f => vp_in i n ∧ K lv st (hc_set h a (.inl (3, n, .inl (upd f i.toNatClampNeg (vp_nar .char x))))))
  | _, _, _ => False
theorem qs_castore (hd : decode (mC M) pc = .ok (.castore, 1)) (kk : qk Ph M h0 hf r (pc + 1) K) : qk Ph M h0 hf r pc (qi_cast K) := by
  intro lv st h hi
  unfold qi_cast at hi
  split at hi
  · rename_i x i a st
    obtain ⟨n, f, hfs, hin, hi⟩ := at_i_spec hi
    have k1 := kk _ _ _ hi
    refine ⟨k1.1, fun p l e s m args below meth c D tc bs X g1 g2 H locs ls hW hS hl => ?_⟩
    obtain ⟨hx, hb, -, -, -, -, -, -, hK, -⟩ := id X
    obtain ⟨hba, hat⟩ := hW.2.2 a _ hfs
    refine W.cast hx hb (show H[a]? = some (vp_cell (tc 3) (n, .inl f)) from hat) ((hK.2 3 _ rfl).1 n (fun j => .int (f j))) (fun q => by cases q) (by show ¬ (i < 0 ∨ (arrV _ _ _).slots.size ≤ _); rw [arrV_size]; exact hin) rfl rfl hd fun H1 e1 z oq => ?_
    refine k1.2 p l e s m args below meth c D tc bs X g1 g2 H1 _ ls (hW.put hba z oq ?_) (hS.put z oq hba) hl
    show H1[a]? = some (vp_cell _ _)
    rw [e1]
    rw [vp_cell_i, vp_cell_i, arrV_store]
    congr 2
    funext q
    by_cases hq : q = i.toNatClampNeg
    · subst hq
      simp [updV, upd, vp_nar]
      try rfl
    · simp [updV, upd, hq]
  · exact hi.elim
def qi_last (K : hc_K) : hc_L → List Value → hc_H → Prop
  | lv, .long x :: .int i :: .ref a :: st, h => at_l (h.1 a) (fun n f => vp_in i n ∧ K lv st (hc_set h a (.inl (2, n, .inr (.inl (vp_updL f i.toNatClampNeg x))))))
  | _, _, _ => False
theorem qs_lastore (hd : decode (mC M) pc = .ok (.lastore, 1)) (kk : qk Ph M h0 hf r (pc + 1) K) : qk Ph M h0 hf r pc (qi_last K) := by
  intro lv st h hi
  unfold qi_last at hi
  split at hi
  · rename_i x i a st
    obtain ⟨n, f, hfs, hin, hi⟩ := at_l_spec hi
    have k1 := kk _ _ _ hi
    refine ⟨k1.1, fun p l e s m args below meth c D tc bs X g1 g2 H locs ls hW hS hl => ?_⟩
    obtain ⟨hx, hb, -, -, -, -, -, -, hK, -⟩ := id X
    obtain ⟨hba, hat⟩ := hW.2.2 a _ hfs
    refine W.last hx hb (show H[a]? = some (vp_cell (tc 2) (n, .inr (.inl f))) from hat) ((hK.2 2 _ rfl).1 n (fun j => .long (f j))) (fun q => by cases q) (by show ¬ (i < 0 ∨ (arrV _ _ _).slots.size ≤ _); rw [arrV_size]; exact hin) rfl rfl hd fun H1 e1 z oq => ?_
    refine k1.2 p l e s m args below meth c D tc bs X g1 g2 H1 _ ls (hW.put hba z oq ?_) (hS.put z oq hba) hl
    show H1[a]? = some (vp_cell _ _)
    rw [e1]
    rw [vp_cell_l, vp_cell_l, arrV_store]
    congr 2
    funext q
    by_cases hq : q = i.toNatClampNeg
    · subst hq
      simp [updV, vp_updL]
    · simp [updV, vp_updL, hq]
  · exact hi.elim
def qi_aast (K : hc_K) : hc_L → List Value → hc_H → Prop
  | lv, .ref v :: .int i :: .ref a :: st, h => at_o (h.1 v) 2 (fun _ => at_q (h.1 a) (fun n f => vp_in i n ∧ K lv st (hc_set h a (.inl (4, n, .inr (.inr (.inr (.inr (va_up f i.toNatClampNeg (some v))))))))))
  | _, _, _ => False
theorem qs_aastore (hd : decode (mC M) pc = .ok (.aastore, 1)) (kk : qk Ph M h0 hf r (pc + 1) K) : qk Ph M h0 hf r pc (qi_aast K) := by
  intro lv st h hi
  unfold qi_aast at hi
  split at hi
  · rename_i v i a st
    obtain ⟨fs, hv, hi⟩ := at_o_spec hi
    obtain ⟨n, f, hfs, hin, hi⟩ := at_q_spec hi
    have k1 := kk _ _ _ hi
    refine ⟨k1.1, fun p l e s m args below meth c D tc bs X g1 g2 H locs ls hW hS hl => ?_⟩
    obtain ⟨hx, hb, -, -, -, -, -, -, hK, -⟩ := id X
    obtain ⟨hba, hat⟩ := hW.2.2 a _ hfs
    have hlt : i.toNatClampNeg < n := Nat.not_le.mp fun q => hin (Or.inr q)
    have h0' : ¬ i < 0 := fun q => hin (Or.inl q)
    obtain ⟨-, r', hr', cellV, g1', g2', g3, -⟩ := hW.2.2 v _ hv
    have hr : r' = (RX2, TX2, 7) := Option.some.inj (hr'.symm.trans rfl)
    subst hr
    have hcls := (hK.1 2 _ rfl).2
    obtain ⟨kA, comp, k1', k2, k3, -⟩ := (hK.2 4 _ rfl).2
    have hcomp : comp = D.1 2 := Option.some.inj (k3.symm.trans hcls.1)
    subst hcomp
    obtain ⟨kC, hkC, -⟩ := hcls.2
    refine W.aast hx hb (show H[a]? = some (vp_cell (tc 4) (n, .inr (.inr (.inr (.inr f))))) from hat) (fun q h => by cases h) (fun h => by cases h) k1' k2 rfl hkC ⟨h0', by show _ < (arrV _ _ _).slots.size; rw [arrV_size]; exact hlt⟩ g1' (fun q h => by rw [g3] at h; cases h) (by rw [g2']; exact hkC) (by rw [g2']; exact va_assign hcls) rfl rfl hd fun H1 e1 z oq => ?_
    refine k1.2 p l e s m args below meth c D tc bs X g1 g2 H1 _ ls (hW.put hba z oq ?_) (hS.put z oq hba) hl
    show H1[a]? = some (vp_cell _ _)
    rw [e1]
    rw [vp_cell_q, vp_cell_q, arrV_store]
    congr 2
    funext q
    by_cases hq : q = i.toNatClampNeg
    · subst hq
      simp [updV, va_up, va_rf]
    · simp [updV, va_up, hq]
  · exact hi.elim
def qi_alen (K : hc_K) : hc_L → List Value → hc_H → Prop
  | lv, .ref a :: st, h => at_a (h.1 a) (fun n => K lv (.int (nI n) :: st) h)
  | _, _, _ => False
theorem qs_alen (hd : decode (mC M) pc = .ok (.arraylength, 1)) (kk : qk Ph M h0 hf r (pc + 1) K) : qk Ph M h0 hf r pc (qi_alen K) := by
  intro lv st h hi
  unfold qi_alen at hi
  split at hi
  · obtain ⟨k, x, hfs, hk, hi⟩ := at_a_spec hi
    have k1 := kk _ _ _ hi
    refine ⟨k1.1, fun p l e s m args below meth c D tc bs X g1 g2 H locs ls hW hS hl => ?_⟩
    obtain ⟨hx, hb, -, -, -, -, -, -, hK, -⟩ := id X
    have K1 := k1.2 p l e s m args below meth c D tc bs X g1 g2 H locs ls hW hS hl
    rcases (show k = 0 ∨ k = 1 ∨ k = 2 ∨ k = 3 ∨ k = 4 by omega) with rfl | rfl | rfl | rfl | rfl
    · exact va_alen hx hb hK (hW.get hfs) 0 0 rfl rfl rfl hd K1
    · exact va_alen hx hb hK (hW.get hfs) 0 1 rfl rfl rfl hd K1
    · exact va_alen hx hb hK (hW.get hfs) 0 2 rfl rfl rfl hd K1
    · exact va_alen hx hb hK (hW.get hfs) 0 3 rfl rfl rfl hd K1
    · exact va_alen hx hb hK (hW.get hfs) 0 4 rfl rfl rfl hd K1
  · exact hi.elim
end QH
end
section
/-! NEW CELLS, CALLS, ENDS, SWITCHES, ENTRIES. -/
section QC
variable {Ph Ph' : Nat → State → Prop} {M : hc_M} {h0 hf : hc_H} {r : Option Value} {pc : Nat} {K : hc_K}
def qi_new (ci N : Nat) (fs : List Value) (K : hc_K) (lv : hc_L) (st : List Value) (h : hc_H) : Prop := K lv (.ref h.2.1 :: st) (hc_new h (.inr (ci, fs)) N)
theorem qs_new {index ci N : Nat} {fs : List Value} {C : String} {T : u_T} (ty : Nat → FieldType) (hd : decode (mC M) pc = .ok (.new index, 3)) (hc : hc_cls[ci]? = some (C, T, N)) (hin : ∀ w ∈ u_ws C T N, w ∈ lw_g) (hty : ∀ k, k < N → parseFieldDescriptor (T k).2.2.1 = some (ty k)) (hl1 : Cond.classLink (mN M).cls index C ∈ lw_g) (hl2 : Cond.instantiable C N ∈ lw_g) (hl3 : Cond.initialized C ∈ lw_g) (hfs : ∀ j, j < N → defaultValue (ty j) = vp_V fs j) (kk : qk Ph M h0 hf r (pc + 3) K) : qk Ph M h0 hf r pc (qi_new ci N fs K) := by
  intro lv st h hi
  have k1 := kk _ _ _ hi
  have e1 : h.2.1 + 1 ≤ hf.2.1 := k1.1.1
  have e2 : h.2.2 + N ≤ hf.2.2 := k1.1.2
  refine ⟨⟨by omega, by omega⟩, fun p l e s m args below meth c D tc bs X g1 g2 H locs ls hW hS hl => ?_⟩
  obtain ⟨hx, hb, -, -, hts, hown, -, -, hK, -⟩ := id X
  have hin' : ∀ w ∈ u_ws C T N, w ∈ hc_ws M := fun w hw => List.mem_cons_of_mem _ (hin w hw)
  have hKn := hK.1 ci _ hc
  refine W.newcK hx hb hown (hts _ (List.mem_cons_of_mem _ hl1)) (hts _ (List.mem_cons_of_mem _ hl2)) (hts _ (List.mem_cons_of_mem _ hl3)) rfl hd (by show h.2.1 - h0.2.1 + 1 ≤ hf.2.1 - h0.2.1; omega) (by show h.2.2 - h0.2.2 + N ≤ hf.2.2 - h0.2.2; omega) hKn.2.1 rfl fun H1 kC hkC q1 z1 o1 => ?_
  have K1 := k1.2 p l e s m args below meth c D tc bs X (by show h0.2.1 ≤ h.2.1 + 1; omega) (by show h0.2.2 ≤ h.2.2 + N; omega) H1 locs ls (hW.push z1 o1 ⟨_, hc, (u_born ty hts hin' hKn hkC q1 hty).to hfs⟩) (hc_S.push hS z1 o1) hl
  rw [← hW.1] at K1
  have q2 : (hc_new h (.inr (ci, fs)) N).2.1 - h0.2.1 = h.2.1 - h0.2.1 + 1 := by show h.2.1 + 1 - h0.2.1 = _; omega
  have q3 : (hc_new h (.inr (ci, fs)) N).2.2 - h0.2.2 = h.2.2 - h0.2.2 + N := by show h.2.2 + N - h0.2.2 = _; omega
  rw [q2, q3] at K1
  exact K1
/-- a new array of ints, booleans, chars (kd 0, 1, 3), of longs (2) -/
def qi_newa (kd : Nat) (K : hc_K) : hc_L → List Value → hc_H → Prop
  | lv, .int n :: st, h => ¬ n < 0 ∧ n.toNatClampNeg ≤ 100000 ∧ K lv (.ref h.2.1 :: st) (hc_new h (.inl (kd, n.toNatClampNeg, if kd = 2 then .inr (.inl (fun _ => 0)) else .inl (fun _ => 0))) n.toNatClampNeg)
  | _, _, _ => False
theorem qs_newa {kd : Nat} {atype : ArrayType} (ty : FieldType) (hd : decode (mC M) pc = .ok (.newarray atype, 2)) (hty : newarray.typeOf atype = ty) (hT : ∀ tc, (hc_T tc)[kd]? = some (tc kd, ty)) (hl : Cond.arrayClass ty ∈ lw_g) (hro : ∀ (s : State) (cA : ClassId), va_RA s cA ty → s.vm.findClass ("[" ++ ty.toString) = some cA) (hce : ∀ (cA : ClassId) (n : Nat), vp_cell cA (n, if kd = 2 then .inr (.inl (fun _ => 0)) else .inl (fun _ => 0)) = arrV cA n (fun _ => defaultValue ty)) (hby : componentBytes ty ≤ 8) (kk : qk Ph M h0 hf r (pc + 2) K) : qk Ph M h0 hf r pc (qi_newa kd K) := by
  subst hty
  intro lv st h hi
  unfold qi_newa at hi
  split at hi
  · rename_i n st
    obtain ⟨hn, hN, hi⟩ := hi
    have k1 := kk _ _ _ hi
    have e1 : h.2.1 + 1 ≤ hf.2.1 := k1.1.1
    have e2 : h.2.2 + n.toNatClampNeg ≤ hf.2.2 := k1.1.2
    refine ⟨⟨by omega, by omega⟩, fun p l e s m args below meth c D tc bs X g1 g2 H locs ls hW hS hlv => ?_⟩
    obtain ⟨hx, hb, -, -, hts, hown, -, -, hK, -⟩ := id X
    refine va_newaK hx hb (hts _ (List.mem_cons_of_mem _ hl)) rfl hd rfl hn rfl (by have := Nat.mul_le_mul hN hby; omega) (by show h.2.1 - h0.2.1 + 1 ≤ hf.2.1 - h0.2.1; omega) (by show h.2.2 - h0.2.2 + n.toNatClampNeg ≤ hf.2.2 - h0.2.2; omega) rfl fun H1 cA q1 z1 o1 hAr hNm => ?_
    have hcA : cA = tc kd := Option.some.inj (hNm.symm.trans (hro s _ (hK.2 kd _ (hT tc)).2))
    subst hcA
    have K1 := k1.2 p l e s m args below meth c D tc bs X (by show h0.2.1 ≤ h.2.1 + 1; omega) (by show h0.2.2 ≤ h.2.2 + n.toNatClampNeg; omega) H1 locs ls (hW.push z1 o1 (show H1[H.size]? = some (vp_cell (tc kd) _) by rw [hce]; exact q1)) (hc_S.push hS z1 o1) hlv
    rw [← hW.1] at K1
    have q2 : ∀ x, (hc_new h x n.toNatClampNeg).2.1 - h0.2.1 = h.2.1 - h0.2.1 + 1 := fun x => by show h.2.1 + 1 - h0.2.1 = _; omega
    have q3 : ∀ x, (hc_new h x n.toNatClampNeg).2.2 - h0.2.2 = h.2.2 - h0.2.2 + n.toNatClampNeg := fun x => by show h.2.2 + n.toNatClampNeg - h0.2.2 = _; omega
    rw [q2, q3] at K1
    exact K1
  · exact hi.elim
/-- a new array of Plans -/
def qi_newq (K : hc_K) : hc_L → List Value → hc_H → Prop
  | lv, .int n :: st, h => ¬ n < 0 ∧ n.toNatClampNeg ≤ 100000 ∧ K lv (.ref h.2.1 :: st) (hc_new h (.inl (4, n.toNatClampNeg, .inr (.inr (.inr (.inr (fun _ => none)))))) n.toNatClampNeg)
  | _, _, _ => False
theorem qs_newq {index : Nat} (hd : decode (mC M) pc = .ok (.anewarray index, 3)) (hl1 : Cond.classLink (mN M).cls index "BalancedLine$Plan" ∈ lw_g) (kk : qk Ph M h0 hf r (pc + 3) K) : qk Ph M h0 hf r pc (qi_newq K) := by
  intro lv st h hi
  unfold qi_newq at hi
  split at hi
  · rename_i n st
    obtain ⟨hn, hN, hi⟩ := hi
    have k1 := kk _ _ _ hi
    have e1 : h.2.1 + 1 ≤ hf.2.1 := k1.1.1
    have e2 : h.2.2 + n.toNatClampNeg ≤ hf.2.2 := k1.1.2
    refine ⟨⟨by omega, by omega⟩, fun p l e s m args below meth c D tc bs X g1 g2 H locs ls hW hS hlv => ?_⟩
    obtain ⟨hx, hb, -, -, hts, hown, -, -, hK, hNw, -⟩ := id X
    refine W.anew hx hb hown (hts _ (List.mem_cons_of_mem _ hl1)) (va_AO.use hNw.2.2.2.2.2) rfl hd rfl hn (by omega) (by show h.2.1 - h0.2.1 + 1 ≤ hf.2.1 - h0.2.1; omega) (by show h.2.2 - h0.2.2 + n.toNatClampNeg ≤ hf.2.2 - h0.2.2; omega) fun cA kA comp f1 f2 f3 f4 => ?_
    generalize hH1 : H.push ({ cls := cA, slots := Array.replicate n.toNatClampNeg .null, vm := .none } : Cell) = H1
    have z1 : H1.size = H.size + 1 := by rw [← hH1, Array.size_push]
    have q1 : H1[H.size]? = some (arrV cA n.toNatClampNeg (fun _ => .null)) := by rw [← hH1, Array.getElem?_push_size, ← arrV_new]
    have o1 : ∀ q : Nat, q < H.size → H1[q]? = H[q]? := fun q hq => by rw [← hH1, Array.getElem?_push, if_neg (Nat.ne_of_lt hq)]
    obtain ⟨kA', comp', b1, b2, b3, b4⟩ := (hK.2 4 _ rfl).2
    have hcA : cA = tc 4 := by first | exact Option.some.inj (f4.symm.trans b4) | exact Option.some.inj (f1.symm.trans b4)
    subst hcA
    have K1 := k1.2 p l e s m args below meth c D tc bs X (by show h0.2.1 ≤ h.2.1 + 1; omega) (by show h0.2.2 ≤ h.2.2 + n.toNatClampNeg; omega) H1 locs ls (hW.push z1 o1 (show H1[H.size]? = some (vp_cell (tc 4) _) from q1)) (hc_S.push hS z1 o1) hlv
    rw [← hW.1] at K1
    have q2 : ∀ x, (hc_new h x n.toNatClampNeg).2.1 - h0.2.1 = h.2.1 - h0.2.1 + 1 := fun x => by show h.2.1 + 1 - h0.2.1 = _; omega
    have q3 : ∀ x, (hc_new h x n.toNatClampNeg).2.2 - h0.2.2 = h.2.2 - h0.2.2 + n.toNatClampNeg := fun x => by show h.2.2 + n.toNatClampNeg - h0.2.2 = _; omega
    rw [q2, q3] at K1
    exact K1
  · exact hi.elim
def shrt : List Value → Prop
  | [] => True
  | [_] => True
  | [_, _] => True
  | [_, _, _] => True
  | [_, _, _, _] => True
  | _ => False
theorem cat_le (v : Value) : v.category ≤ 2 := by cases v <;> simp [Value.category]
theorem shrt_sum {st : List Value} (h : shrt st) : (st.map fun v => v.category).sum ≤ 8 := by
  match st, h with
  | [], _ => simp
  | [a], _ => have := cat_le a; simp; omega
  | [a, b], _ => have := cat_le a; have := cat_le b; simp; omega
  | [a, b, c], _ => have := cat_le a; have := cat_le b; have := cat_le c; simp; omega
  | [a, b, c, d], _ => have := cat_le a; have := cat_le b; have := cat_le c; have := cat_le d; simp; omega
/-- Object's constructor -/
def qi_obj (K : hc_K) : hc_L → List Value → hc_H → Prop
  | lv, .ref _ :: st, h => shrt st ∧ K lv st h
  | _, _, _ => False
theorem qs_obj {index : Nat} (hd : decode (mC M) pc = .ok (.invokespecial index, 3)) (hl1 : Cond.methodLink (mN M).cls index Lib.objectInit ∈ lw_g) (hl2 : Cond.instanceMethod Lib.objectInit ∈ lw_g) (hl3 : Cond.code Lib.objectInit ⟨#[0xb1]⟩ 1 none ∈ lw_g) (hF : 1 ≤ mF M) (hO : 20 ≤ mO M) (kk : qk Ph M h0 hf r (pc + 3) K) : qk Ph M h0 hf r pc (qi_obj K) := by
  intro lv st h hi
  unfold qi_obj at hi
  split at hi
  · rename_i a st
    have k1 := kk _ _ _ hi.2
    refine ⟨k1.1, fun p l e s m args below meth c D tc bs X g1 g2 H locs ls hW hS hl => ?_⟩
    obtain ⟨hx, hb, -, hml, hts, hown, -⟩ := id X
    have hsum := shrt_sum hi.1
    refine W.objInit hx hb hown (hts _ (List.mem_cons_of_mem _ hl1)) (hts _ (List.mem_cons_of_mem _ hl2)) (hts _ (List.mem_cons_of_mem _ hl3)) rfl (by rw [hml]; exact hl.1) rfl hd hF (by have := lv_room (m := m) (pc := pc) (ls := ls) (rest := .ref a :: st) hsum; show 2 * (F0 m pc ls (.ref a :: st)).monitorRoom + _ + 12 ≤ mO M; omega) ?_
    exact k1.2 p l e s m args below meth c D tc bs X g1 g2 H locs ls hW hS hl
  · exact hi.elim
/-- calls -/
def rpush : Option Value → List Value → List Value
  | none, st => st
  | some v, st => v :: st
theorem rpush_eq (v : Option Value) (st : List Value) : rpush v st = v.toList ++ st := by cases v <;> rfl
def spl : Nat → List Value → List Value → (List Value → List Value → Prop) → Prop
  | 0, acc, st, P => P acc st
  | _ + 1, _, [], _ => False
  | n + 1, acc, v :: st, P => spl n (v :: acc) st P
theorem spl_spec : ∀ (n : Nat) (acc st : List Value) (P : List Value → List Value → Prop), spl n acc st P → ∃ as rest, as.length = n ∧ st = as.reverse ++ rest ∧ P (as ++ acc) rest := by
  intro n
  induction n with
  | zero => intro acc st P h; exact ⟨[], st, rfl, rfl, h⟩
  | succ n ih =>
    intro acc st P h
    cases st with
    | nil => exact h.elim
    | cons v st =>
      simp only [spl] at h
      obtain ⟨as, rest, h1, h2, h3⟩ := ih _ _ _ h
      exact ⟨as ++ [v], rest, by simp [h1], by simp [h2], by simpa using h3⟩
def hc_z (z : hc_M) (n : Nat) : Prop := Cond.code (mN z) (mC z) (mL z) (mR z) ∈ lw_g ∧ Cond.initialized (mN z).cls ∈ lw_g ∧ ((mN z).cls ≠ "java/lang/invoke/MethodHandle" ∧ (mN z).cls ≠ "java/lang/invoke/VarHandle" ∧ (parseMethodDescriptor (mN z).desc).map (fun d => d.parameters.length) = some n)
theorem lw_g_good : ∀ w ∈ lw_g, goodWord w = true := fun w hw => (List.mem_filter.mp hw).2
theorem hc_good {M z : hc_M} (hz : Cond.code (mN z) (mC z) (mL z) (mR z) ∈ lw_g) : GoodIn (hc_ws M) (hc_ws z) := by
  intro w hw
  have hw' : w ∈ lw_g := by
    rcases List.mem_cons.mp hw with rfl | h
    · exact hz
    · exact h
  exact ⟨List.mem_cons_of_mem _ hw', good_of_word (lw_g_good w hw')⟩
def hc_rm (M z : hc_M) : Prop := mF z + 1 ≤ mF M ∧ 8 + (mL z + 11) + mO z ≤ mO M
theorem cx.call {z : hc_M} {as rest st : List Value} {lv : hc_L} {h h' : hc_H} {r' : Option Value} (hP1 : hc_Ph Ph') (hP2 : ∀ bs U, Ph bs U → Ph' bs U) (hM : MX Ph' z as h r' h') (k1 : cx Ph M h0 hf r (pc + 3) lv (rpush r' rest) h')
    (f : ∀ (p : Program) (l : Launch) (e : Env) (s : State) (m : MethodId) (args : Array Value) (below : List Frame) (meth : Method) (c : Code) (D : va_G) (tc : Nat → ClassId) (bs : Nat), cf Ph M h0 hf p s m args meth c D tc bs → ∀ (H : Heap) (locs : List Loc) (ls : Array Slot) (cells slots : Nat), hc_W D tc bs h H → lvk ls (mL M) lv → PreS s H (va_Pc as (hc_U Ph' D tc bs h)) as → cells + (h'.2.1 - h.2.1) ≤ (hc_R M h0 hf).cells ∧ slots + (h'.2.2 - h.2.2) ≤ (hc_R M h0 hf).slots →
      va_Run p l e (hc_R M h0 hf) s m args below meth c H locs cells slots (h'.2.1 - h.2.1) (h'.2.2 - h.2.2) (F0 m pc ls st) rest (hc_Q D tc bs r' h' as.toArray) (hc_A bs)) : cx Ph M h0 hf r pc lv st h := by
  have a1 := hM.1.1
  have a2 := hM.1.2
  have a3 := k1.1.1
  have a4 := k1.1.2
  refine ⟨⟨by omega, by omega⟩, fun p l e s m args below meth c D tc bs X g1 g2 H locs ls hW hS hl => ?_⟩
  have hK : va_K D hc_cls (hc_T tc) s := X.2.2.2.2.2.2.2.2.1
  have hN : hc_N s := X.2.2.2.2.2.2.2.2.2.1
  have hbs : bs ≤ s.heap.size := X.2.2.2.2.2.2.2.2.2.2.1
  have hph : Ph bs s := X.2.2.2.2.2.2.2.2.2.2.2
  have hpre : PreS s H (va_Pc as (hc_U Ph' D tc bs h)) as := by
    refine ⟨fun a U g mk q => ?_, fun U hU hWm => ?_⟩
    · obtain ⟨q0, q1, q2, q3, q4⟩ := q
      exact ⟨q0, q1, va_K.moved (u := U) (U := U.calling g mk a) (Vm.Alike.refl U.vm) q2, hc_N.same (u := U) rfl q3, hP1.1 bs U _ rfl (fun _ _ => rfl) q4⟩
    · exact ⟨rfl, by rw [hU]; exact hW, va_K.moved hWm.alike hK, hN.warm hWm, hP1.2 bs s U hWm (fun q hq => by rw [hU]; exact hS.2.1 q (Nat.lt_of_lt_of_le hq hbs) (Nat.not_le.mpr hq)) (hP2 bs s hph)⟩
  have hr := f p l e s m args below meth c D tc bs X H locs ls (h.2.1 - h0.2.1) (h.2.2 - h0.2.2) hW hl hpre ⟨by show h.2.1 - h0.2.1 + (h'.2.1 - h.2.1) ≤ hf.2.1 - h0.2.1; omega, by show h.2.2 - h0.2.2 + (h'.2.2 - h.2.2) ≤ hf.2.2 - h0.2.2; omega⟩
  intro T hT XT
  obtain ⟨v, st₀, t, T', L, e0, X', hL, e1, e2, ⟨ov, hW', hF⟩, go⟩ := hr T hT XT
  cases ov
  have hS' : va_S (hc_A bs) s.heap T'.heap (locs ++ L) := by
    obtain ⟨f1, f2⟩ := hF
    rw [e0] at f1 f2
    refine ⟨Nat.le_trans hS.1 (by rw [e1]; exact f1), fun q b1 b2 => ?_, fun q hq => ?_⟩
    · rw [e1, f2 q (Nat.lt_of_lt_of_le b1 hS.1) b2]
      exact hS.2.1 q b1 b2
    · rcases List.mem_append.mp hq with z | z
      · exact hS.2.2 q z
      · exact hL q z
  have c1 : h.2.1 - h0.2.1 + (h'.2.1 - h.2.1) = h'.2.1 - h0.2.1 := by omega
  have c2 : h.2.2 - h0.2.2 + (h'.2.2 - h.2.2) = h'.2.2 - h0.2.2 := by omega
  rw [c1, c2] at X'
  obtain ⟨t2, b1, b2⟩ := k1.2 p l e s m args below meth c D tc bs X (by omega) (by omega) T'.heap (locs ++ L) ls (by rw [e1]; exact hW') hS' hl T' rfl X'
  rw [rpush_eq] at b1
  exact ⟨t2, go t2 b1, b2⟩
def qi_invS (Ph' : Nat → State → Prop) (z : hc_M) (n : Nat) (K : hc_K) (lv : hc_L) (st : List Value) (h : hc_H) : Prop := spl n [] st (fun as rest => shrt rest ∧ ∃ r' h', MX Ph' z as h r' h' ∧ K lv (rpush r' rest) h')
theorem qs_invS {z : hc_M} {n index : Nat} (hP1 : hc_Ph Ph') (hP2 : ∀ bs U, Ph bs U → Ph' bs U) (hd : decode (mC M) pc = .ok (.invokestatic index, 3)) (hz : hc_z z n) (hl : Cond.methodLink (mN M).cls index (mN z) ∈ lw_g) (hs : Cond.static (mN z) ∈ lw_g) (hR : hc_rm M z) (kk : qk Ph M h0 hf r (pc + 3) K) : qk Ph M h0 hf r pc (qi_invS Ph' z n K) := by
  intro lv st h hi
  obtain ⟨as, rest, hn, rfl, hsh, r', h', hM, hi⟩ := spl_spec _ _ _ _ hi
  rw [List.append_nil] at hM
  refine cx.call hP1 hP2 hM (kk _ _ _ hi) (fun p l e s m args below meth c D tc bs X H locs ls cells slots hW hlv hpre hroom => ?_)
  obtain ⟨hx, hb, -, hml, hts, hown, -⟩ := id X
  exact va_runS (As := as) (rest := rest) ⟨hx, hb, hml, hown, hts⟩ (hM.2 l D tc bs) ⟨callB_of n hts (hc_good hz.1) rfl rfl rfl (hts _ (List.mem_cons_of_mem _ hz.2.1)) (hts _ (List.mem_cons_of_mem _ hl)) hz.2.2 hR, hts _ (List.mem_cons_of_mem _ hs)⟩ hpre rfl hn hlv.1 rfl (lv_room (shrt_sum hsh)) hd hroom
theorem qs_invSN {z : hc_M} {n index : Nat} {host : String} (hP1 : hc_Ph Ph') (hP2 : ∀ bs U, Ph bs U → Ph' bs U) (hd : decode (mC M) pc = .ok (.invokestatic index, 3)) (hz : hc_z z n) (hl : ∀ U, hc_N U → va_Nw (.methodLinkNest (mN M).cls index (mN z) host) U) (hs : Cond.static (mN z) ∈ lw_g) (hR : hc_rm M z) (kk : qk Ph M h0 hf r (pc + 3) K) : qk Ph M h0 hf r pc (qi_invS Ph' z n K) := by
  intro lv st h hi
  obtain ⟨as, rest, hn, rfl, hsh, r', h', hM, hi⟩ := spl_spec _ _ _ _ hi
  rw [List.append_nil] at hM
  refine cx.call hP1 hP2 hM (kk _ _ _ hi) (fun p l e s m args below meth c D tc bs X H locs ls cells slots hW hlv hpre hroom => ?_)
  obtain ⟨hx, hb, -, hml, hts, hown, -, -, -, hN, -⟩ := id X
  exact va_runSN (As := as) (rest := rest) ⟨hx, hb, hml, hown, hts⟩ (hM.2 l D tc bs) ⟨va_cnB n hts (hc_good hz.1) rfl rfl rfl (hl s hN) (hts _ (List.mem_cons_of_mem _ hz.2.1)) hz.2.2 hR, hts _ (List.mem_cons_of_mem _ hs), trivial⟩ hpre rfl hn hlv.1 rfl (lv_room (shrt_sum hsh)) hd hroom
/-- an instance method of class number ci, with n arguments beside the object -/
def qi_invV (Ph' : Nat → State → Prop) (z : hc_M) (n ci : Nat) (K : hc_K) (lv : hc_L) (st : List Value) (h : hc_H) : Prop := spl n [] st (fun as rest => match rest with
  | .ref b :: rest => at_o (h.1 b) ci (fun _ => True) ∧ shrt rest ∧ ∃ r' h', MX Ph' z (.ref b :: as) h r' h' ∧ K lv (rpush r' rest) h'
  | _ => False)
theorem qs_invV {z : hc_M} {n index ci : Nat} (hP1 : hc_Ph Ph') (hP2 : ∀ bs U, Ph bs U → Ph' bs U) (hd : decode (mC M) pc = .ok (.invokevirtual index, 3)) (hz : hc_z z n) (hl : Cond.methodLink (mN M).cls index (mN z) ∈ lw_g) (hs : Cond.instanceMethod (mN z) ∈ lw_g ∧ Cond.selects (mN z).cls (mN z) (mN z) ∈ lw_g) (hc : ∃ q, hc_cls[ci]? = some q ∧ q.1 = (mN z).cls) (hR : hc_rm M z) (kk : qk Ph M h0 hf r (pc + 3) K) : qk Ph M h0 hf r pc (qi_invV Ph' z n ci K) := by
  intro lv st h hi
  obtain ⟨as, rest, hn, e0, hj⟩ := spl_spec _ _ _ _ hi
  clear hi
  subst e0
  rw [List.append_nil] at hj
  split at hj
  · rename_i b rest
    obtain ⟨hob, hsh, r', h', hM, hi⟩ := hj
    obtain ⟨fs, hfs, -⟩ := at_o_spec hob
    obtain ⟨q, hq, hqn⟩ := hc
    refine cx.call hP1 hP2 hM (kk _ _ _ hi) (fun p l e s m args below meth c D tc bs X H locs ls cells slots hW hlv hpre hroom => ?_)
    obtain ⟨hx, hb, -, hml, hts, hown, -, -, hK, -⟩ := id X
    exact va_runV (As := as) (rest := rest) (C := (mN z).cls) ⟨hx, hb, hml, hown, hts⟩ (hM.2 l D tc bs) ⟨callB_of n hts (hc_good hz.1) rfl rfl rfl (hts _ (List.mem_cons_of_mem _ hz.2.1)) (hts _ (List.mem_cons_of_mem _ hl)) hz.2.2 hR, hts _ (List.mem_cons_of_mem _ hs.1), hts _ (List.mem_cons_of_mem _ hs.2)⟩ ⟨hpre.1, by rw [← hqn]; exact va_recv hK (hW.get hfs) hq (q0 := 0) rfl, hpre.2⟩ rfl hn hlv.1 rfl (lv_room (shrt_sum hsh)) hd hroom
  · exact hj.elim
/-- a constructor -/
def qi_invI (Ph' : Nat → State → Prop) (z : hc_M) (n : Nat) (K : hc_K) (lv : hc_L) (st : List Value) (h : hc_H) : Prop := spl n [] st (fun as rest => match rest with
  | .ref b :: rest => shrt rest ∧ ∃ r' h', MX Ph' z (.ref b :: as) h r' h' ∧ K lv (rpush r' rest) h'
  | _ => False)
theorem qs_invI {z : hc_M} {n index : Nat} (hP1 : hc_Ph Ph') (hP2 : ∀ bs U, Ph bs U → Ph' bs U) (hd : decode (mC M) pc = .ok (.invokespecial index, 3)) (hz : hc_z z n) (hl : Cond.methodLink (mN M).cls index (mN z) ∈ lw_g) (hs : Cond.instanceMethod (mN z) ∈ lw_g) (hi1 : (mN z).name = "<init>") (hr : mR z = none) (hR : hc_rm M z) (kk : qk Ph M h0 hf r (pc + 3) K) : qk Ph M h0 hf r pc (qi_invI Ph' z n K) := by
  intro lv st h hi
  obtain ⟨as, rest, hn, e0, hj⟩ := spl_spec _ _ _ _ hi
  clear hi
  subst e0
  rw [List.append_nil] at hj
  split at hj
  · rename_i b rest
    obtain ⟨hsh, r', h', hM, hi⟩ := hj
    refine cx.call hP1 hP2 hM (kk _ _ _ hi) (fun p l e s m args below meth c D tc bs X H locs ls cells slots hW hlv hpre hroom => ?_)
    obtain ⟨hx, hb, -, hml, hts, hown, -⟩ := id X
    exact va_runI (As := as) (rest := rest) (bytes := mC z) (maxL := mL z) ⟨hx, hb, hml, hown, hts⟩ (hM.2 l D tc bs) ⟨by rw [← hr]; exact callB_of n hts (hc_good hz.1) rfl rfl rfl (hts _ (List.mem_cons_of_mem _ hz.2.1)) (hts _ (List.mem_cons_of_mem _ hl)) hz.2.2 hR, hi1, hts _ (List.mem_cons_of_mem _ hs)⟩ hpre rfl hn hlv.1 rfl (lv_room (shrt_sum hsh)) hd hroom
  · exact hj.elim
theorem qs_invIN {z : hc_M} {n index : Nat} {host : String} (hP1 : hc_Ph Ph') (hP2 : ∀ bs U, Ph bs U → Ph' bs U) (hd : decode (mC M) pc = .ok (.invokespecial index, 3)) (hz : hc_z z n) (hl : ∀ U, hc_N U → va_Nw (.methodLinkNest (mN M).cls index (mN z) host) U) (hs : Cond.instanceMethod (mN z) ∈ lw_g) (hi1 : (mN z).name = "<init>") (hr : mR z = none) (hR : hc_rm M z) (kk : qk Ph M h0 hf r (pc + 3) K) : qk Ph M h0 hf r pc (qi_invI Ph' z n K) := by
  intro lv st h hi
  obtain ⟨as, rest, hn, e0, hj⟩ := spl_spec _ _ _ _ hi
  clear hi
  subst e0
  rw [List.append_nil] at hj
  split at hj
  · rename_i b rest
    obtain ⟨hsh, r', h', hM, hi⟩ := hj
    refine cx.call hP1 hP2 hM (kk _ _ _ hi) (fun p l e s m args below meth c D tc bs X H locs ls cells slots hW hlv hpre hroom => ?_)
    obtain ⟨hx, hb, -, hml, hts, hown, -, -, -, hN, -⟩ := id X
    exact va_runIN (As := as) (rest := rest) (bytes := mC z) (maxL := mL z) ⟨hx, hb, hml, hown, hts⟩ (hM.2 l D tc bs) ⟨by rw [← hr]; exact va_cnB n hts (hc_good hz.1) rfl rfl rfl (hl s hN) (hts _ (List.mem_cons_of_mem _ hz.2.1)) hz.2.2 hR, hi1, hts _ (List.mem_cons_of_mem _ hs)⟩ hpre rfl hn hlv.1 rfl (lv_room (shrt_sum hsh)) hd hroom
  · exact hj.elim
/-- ends -/
def qi_iret (r : Option Value) (hf : hc_H) : hc_L → List Value → hc_H → Prop
  | _, [.int v], h => r = some (.int v) ∧ hf = h
  | _, _, _ => False
def qi_zret (r : Option Value) (hf : hc_H) : hc_L → List Value → hc_H → Prop
  | _, [.int v], h => (v = 0 ∨ v = 1) ∧ r = some (.int v) ∧ hf = h
  | _, _, _ => False
def qi_lret (r : Option Value) (hf : hc_H) : hc_L → List Value → hc_H → Prop
  | _, [.long v], h => r = some (.long v) ∧ hf = h
  | _, _, _ => False
def qi_vret (r : Option Value) (hf : hc_H) : hc_L → List Value → hc_H → Prop
  | _, [], h => r = none ∧ hf = h
  | _, _, _ => False
theorem qs_iret (hd : decode (mC M) pc = .ok (.ireturn, 1)) (hr : mR M = some .int) : qk Ph M h0 hf r pc (qi_iret r hf) := by
  intro lv st h hi
  unfold qi_iret at hi
  split at hi
  · obtain ⟨rfl, rfl⟩ := hi
    refine ⟨⟨Nat.le_refl _, Nat.le_refl _⟩, fun p l e s m args below meth c D tc bs X g1 g2 H locs ls hW hS hl => ?_⟩
    obtain ⟨hx, hb, hrt, hml, hts, hown, hlocks, -⟩ := id X
    exact W.iret hx hb (hrt.trans hr) (fun t ht hWm => ⟨rfl, by rw [ht]; exact hW, hS.F ht⟩) hS.2.2 hd
  · exact hi.elim
theorem qs_zret (hd : decode (mC M) pc = .ok (.ireturn, 1)) (hr : mR M = some .boolean) : qk Ph M h0 hf r pc (qi_zret r hf) := by
  intro lv st h hi
  unfold qi_zret at hi
  split at hi
  · obtain ⟨hv, rfl, rfl⟩ := hi
    refine ⟨⟨Nat.le_refl _, Nat.le_refl _⟩, fun p l e s m args below meth c D tc bs X g1 g2 H locs ls hW hS hl => ?_⟩
    obtain ⟨hx, hb, hrt, hml, hts, hown, hlocks, -⟩ := id X
    exact W.zret hx hb (hrt.trans hr) (by rcases hv with rfl | rfl <;> rfl) (fun t ht hWm => ⟨rfl, by rw [ht]; exact hW, hS.F ht⟩) hS.2.2 hd
  · exact hi.elim
theorem qs_lret (hd : decode (mC M) pc = .ok (.lreturn, 1)) (hr : mR M = some .long) : qk Ph M h0 hf r pc (qi_lret r hf) := by
  intro lv st h hi
  unfold qi_lret at hi
  split at hi
  · obtain ⟨rfl, rfl⟩ := hi
    refine ⟨⟨Nat.le_refl _, Nat.le_refl _⟩, fun p l e s m args below meth c D tc bs X g1 g2 H locs ls hW hS hl => ?_⟩
    obtain ⟨hx, hb, hrt, hml, hts, hown, hlocks, -⟩ := id X
    exact W.lret hx hb (hrt.trans hr) (fun t ht hWm => ⟨rfl, by rw [ht]; exact hW, hS.F ht⟩) hS.2.2 hd
  · exact hi.elim
theorem qs_vret (hd : decode (mC M) pc = .ok (.return_, 1)) (hr : mR M = none) : qk Ph M h0 hf r pc (qi_vret r hf) := by
  intro lv st h hi
  unfold qi_vret at hi
  split at hi
  · obtain ⟨rfl, rfl⟩ := hi
    refine ⟨⟨Nat.le_refl _, Nat.le_refl _⟩, fun p l e s m args below meth c D tc bs X g1 g2 H locs ls hW hS hl => ?_⟩
    obtain ⟨hx, hb, hrt, hml, hts, hown, hlocks, -⟩ := id X
    exact W.vret hx hb (hrt.trans hr) (fun t ht hWm => ⟨rfl, by rw [ht]; exact hW, hS.F ht⟩) hS.2.2 hd
  · exact hi.elim
/-- the entry -/
def elv : List Value → hc_L
  | [] => []
  | .long x :: t => some (.long x) :: none :: elv t
  | .double x :: t => some (.double x) :: none :: elv t
  | v :: t => some v :: elv t
theorem elv_args : ∀ (vs : List Value) (k i : Nat) (v : Value), lget (elv vs) i = some v → (k + i, v) ∈ lv_args k vs := by
  intro vs
  induction vs with
  | nil => intro k i v h; simp [elv, lget] at h
  | cons w t ih =>
    intro k i v h
    cases w <;> (match i, h with
      | 0, h => first
        | (simp only [elv, lget, Option.some.injEq] at h; subst h; simp [lv_args])
      | i + 1, h => first
        | (simp only [elv, lget] at h
           have := ih (k + 1) i v h
           simp only [lv_args, Value.category]
           refine List.mem_cons_of_mem _ ?_
           first | (rw [show k + (i + 1) = k + 1 + i by omega]; exact this) | (simp at this ⊢; rw [show k + (i + 1) = k + 1 + i by omega]; exact this))
        | (cases i with
           | zero => simp [elv, lget] at h
           | succ i =>
             simp only [elv, lget] at h
             have := ih (k + 2) i v h
             simp only [lv_args, Value.category]
             refine List.mem_cons_of_mem _ ?_
             first | (rw [show k + (i + 1 + 1) = k + 2 + i by omega]; exact this) | (simp at this ⊢; rw [show k + (i + 1 + 1) = k + 2 + i by omega]; exact this)))
theorem lget_app {lv : hc_L} {k i : Nat} {v : Value} (h : lget (lv ++ List.replicate k none) i = some v) : lget lv i = some v := by
  induction lv generalizing i with
  | nil =>
    exfalso
    induction k generalizing i with
    | zero => simp [lget] at h
    | succ k ih => cases i with
      | zero => simp [lget, List.replicate] at h
      | succ i => simp only [List.nil_append, List.replicate, lget] at h; exact ih (by simpa using h)
  | cons a t ih => cases i with
    | zero => simpa [lget] using h
    | succ i => simp only [List.cons_append, lget] at h ⊢; exact ih h
theorem MX.of {as : List Value} {h : hc_H} {lv : hc_L} (k : Nat) (hlv : lv = elv as ++ List.replicate k none) (hpl : plainName (mN M).cls = true) (hsl : (lg_sl as).length ≤ mL M) (kx : cx Ph M h hf r 0 lv [] h) : MX Ph M as h r hf := by
  refine ⟨kx.1, fun l D tc bs => ?_⟩
  refine Met.ofW (cc := mC M) (maxL := mL M) (ret := mR M) hpl rfl ?_
  intro p e s m args below meth c s₁ B hml hv
  obtain ⟨rfl, hW, hK, hN, hph⟩ := hv
  have hts := atoms_spec (ws := hc_ws M) B.pre
  have hown : s.vm.findClass (mN M).cls = some m.cls := findClass_of_methodNamed B.named
  have hnam : meth.name = (mN M).name := (name_of_methodNamed B.named B.method).1
  have hl := lv_entry as hsl
  rw [lg_entry_eq]
  have K := kx.2 p l e s m as.toArray below meth c D tc bs ⟨B.exec, B.bytes, B.returns, hml, hts, hown, B.notSynchronized, hnam, hK, hN, by rw [hW.1]; exact hW.2.1, hph⟩ (Nat.le_refl _) (Nat.le_refl _) s.heap [] _ hW va_S.rf ⟨hl.1, hl.2.1, fun i v hi => hl.2.2 (i, v) (by rw [hlv] at hi; have := elv_args as 0 i v (lget_app hi); rwa [Nat.zero_add] at this)⟩
  rw [Nat.sub_self, Nat.sub_self] at K
  exact K
end QC
end
section
/-! SWITCHES, arraycopy. -/
section QW
variable {Ph : Nat → State → Prop} {M : hc_M} {h0 hf : hc_H} {r : Option Value} {pc : Nat} {K : hc_K}
def swok (Ph : Nat → State → Prop) (M : hc_M) (h0 hf : hc_H) (r : Option Value) (pc : Nat) : Int → List Int → List (Int32 × hc_K) → Prop
  | _, [], [] => True
  | lo, off :: os, (v, K) :: ks => v.toInt = lo ∧ (∃ tgt : Nat, (pc : Int) + off = (tgt : Int) ∧ qk Ph M h0 hf r tgt K) ∧ swok Ph M h0 hf r pc (lo + 1) os ks
  | _, _, _ => False
theorem swok_nth : ∀ (os : List Int) (ks : List (Int32 × hc_K)) (lo : Int) (i : Nat) (v : Int32) (K : hc_K), swok Ph M h0 hf r pc lo os ks → ks[i]? = some (v, K) → v.toInt = lo + i ∧ ∃ (off : Int) (tgt : Nat), os[i]? = some off ∧ (pc : Int) + off = (tgt : Int) ∧ qk Ph M h0 hf r tgt K := by
  intro os
  induction os with
  | nil => intro ks lo i v K h hk; cases ks with
    | nil => simp at hk
    | cons a t => exact h.elim
  | cons off os ih =>
    intro ks lo i v K h hk
    cases ks with
    | nil => exact h.elim
    | cons a t =>
      obtain ⟨v0, K0⟩ := a
      obtain ⟨h1, ⟨tgt, h2, h3⟩, h4⟩ := h
      cases i with
      | zero => cases hk; exact ⟨by rw [h1]; simp, off, tgt, rfl, h2, h3⟩
      | succ i =>
        have hk' : t[i]? = some (v, K) := by simpa using hk
        obtain ⟨q1, off', tgt', q2, q3, q4⟩ := ih t (lo + 1) i v K h4 hk'
        exact ⟨by rw [q1]; push_cast; omega, off', tgt', by simpa using q2, q3, q4⟩
theorem swok_len : ∀ (os : List Int) (ks : List (Int32 × hc_K)) (lo : Int), swok Ph M h0 hf r pc lo os ks → os.length = ks.length := by
  intro os
  induction os with
  | nil => intro ks lo h; cases ks with
    | nil => rfl
    | cons a t => exact h.elim
  | cons off os ih => intro ks lo h; cases ks with
    | nil => exact h.elim
    | cons a t => obtain ⟨v0, K0⟩ := a; simp [ih t _ h.2.2]
theorem qi_sw_spec : ∀ (ks : List (Int32 × hc_K)) (Kd : hc_K) (lv : hc_L) (st : List Value) (h : hc_H), qi_sw Kd ks lv st h → ∃ (x : Int32) (st' : List Value), st = .int x :: st' ∧ ((∃ (i : Nat) (K : hc_K), ks[i]? = some (x, K) ∧ K lv st' h) ∨ ((∀ (i : Nat) (v : Int32) (K : hc_K), ks[i]? = some (v, K) → x ≠ v) ∧ Kd lv st' h)) := by
  intro ks
  induction ks with
  | nil =>
    intro Kd lv st h hi
    match st, hi with
    | .int x :: st, hi => exact ⟨x, st, rfl, Or.inr ⟨fun i v K h => by simp at h, by simpa [qi_sw] using hi⟩⟩
  | cons a t ih =>
    intro Kd lv st h hi
    obtain ⟨v, K⟩ := a
    match st, hi with
    | .int x :: st, hi =>
      simp only [qi_sw] at hi
      by_cases hx : x = v
      · exact ⟨x, st, rfl, Or.inl ⟨0, K, by rw [hx]; rfl, hi.1 hx⟩⟩
      · obtain ⟨x', st', e, h1⟩ := ih Kd lv _ h (hi.2 hx)
        cases e
        refine ⟨x, st, rfl, ?_⟩
        rcases h1 with ⟨i, K', h2, h3⟩ | ⟨h2, h3⟩
        · exact Or.inl ⟨i + 1, K', by simpa using h2, h3⟩
        · refine Or.inr ⟨fun i v' K' hk => ?_, h3⟩
          cases i with
          | zero => cases hk; exact hx
          | succ i => exact h2 i v' K' (by simpa using hk)
theorem qs_table {dflt lo hi : Int} {offs : Array Int} {os : List Int} {len tgt : Nat} {ks : List (Int32 × hc_K)} {Kd : hc_K} (hd : decode (mC M) pc = .ok (.tableswitch dflt lo hi offs, len)) (hos : offs.toList = os) (hhi : hi + 1 = lo + (os.length : Int)) (hs : swok Ph M h0 hf r pc lo os ks) (ht : (pc : Int) + dflt = (tgt : Int)) (kd : qk Ph M h0 hf r tgt Kd) : qk Ph M h0 hf r pc (qi_sw Kd ks) := by
  intro lv st h hi0
  obtain ⟨x, st', rfl, h1⟩ := qi_sw_spec ks Kd lv st h hi0
  have hlen := swok_len os ks lo hs
  rcases h1 with ⟨i, K, h2, h3⟩ | ⟨h2, h3⟩
  · obtain ⟨q1, off, tg, q2, q3, q4⟩ := swok_nth os ks lo i x K hs h2
    have hil : i < os.length := (List.getElem?_eq_some_iff.mp q2).1
    refine (q4 lv st' h h3).step (fun p l e R s m args below meth c H locs cells slots Q ls hx hb hts hown hl kk => lv_tableIn (off := off) hx hb hd (by rw [q1]; omega) (by rw [q1]; omega) ?_ q3 (kk ls hl))
    rw [q1, show (lo + (i : Int) - lo).toNat = i by omega, ← Array.getElem?_toList, hos]
    exact q2
  · refine (kd lv st' h h3).step (fun p l e R s m args below meth c H locs cells slots Q ls hx hb hts hown hl kk => lv_tableOut hx hb hd ?_ ht (kk ls hl))
    by_cases g1 : x.toInt < lo
    · exact Or.inl g1
    · refine Or.inr ?_
      refine Int.not_le.mp (fun g2 => ?_)
      have hi' : (x.toInt - lo).toNat < ks.length := by omega
      obtain ⟨vK, hg⟩ : ∃ vK, ks[(x.toInt - lo).toNat]? = some vK := ⟨_, List.getElem?_eq_getElem hi'⟩
      obtain ⟨v, K⟩ := vK
      obtain ⟨q1, -⟩ := swok_nth os ks lo _ v K hs hg
      exact h2 _ v K hg (Int32.toInt_inj.mp (by rw [q1]; omega))
def luok (Ph : Nat → State → Prop) (M : hc_M) (h0 hf : hc_H) (r : Option Value) (pc : Nat) : List (Int × Int) → List (Int32 × hc_K) → Prop
  | [], [] => True
  | (a, off) :: os, (v, K) :: ks => v.toInt = a ∧ (∃ tgt : Nat, (pc : Int) + off = (tgt : Int) ∧ qk Ph M h0 hf r tgt K) ∧ luok Ph M h0 hf r pc os ks
  | _, _ => False
theorem luok_in : ∀ (os : List (Int × Int)) (ks : List (Int32 × hc_K)) (d : Int) (x : Int32) (tgt : Nat) (Kd : hc_K) (lv : hc_L) (st : List Value) (h : hc_H), luok Ph M h0 hf r pc os ks → (pc : Int) + d = (tgt : Int) → qk Ph M h0 hf r tgt Kd → qi_sw Kd ks lv (.int x :: st) h → ∃ (off : Int) (tg : Nat), Op.lookupswitch.offset os d x.toInt = off ∧ (pc : Int) + off = (tg : Int) ∧ cx Ph M h0 hf r tg lv st h := by
  intro os
  induction os with
  | nil =>
    intro ks d x tgt Kd lv st h hs hd kd hi
    cases ks with
    | nil => exact ⟨d, tgt, by first | rfl | simp [Op.lookupswitch.offset], hd, kd _ _ _ (by simpa [qi_sw] using hi)⟩
    | cons a t => exact hs.elim
  | cons a os ih =>
    intro ks d x tgt Kd lv st h hs hd kd hi
    obtain ⟨a, off⟩ := a
    cases ks with
    | nil => exact hs.elim
    | cons b t =>
      obtain ⟨v, K⟩ := b
      obtain ⟨h1, ⟨tg, h2, h3⟩, h4⟩ := hs
      simp only [qi_sw] at hi
      by_cases hx : x = v
      · refine ⟨off, tg, ?_, h2, h3 _ _ _ (hi.1 hx)⟩
        rw [Op.lookupswitch.offset_cons, if_pos (by rw [hx]; exact h1.symm)]
      · obtain ⟨off', tg', q1, q2, q3⟩ := ih t d x tgt Kd lv st h h4 hd kd (hi.2 hx)
        exact ⟨off', tg', by rw [lv_osw hx h1]; exact q1, q2, q3⟩
theorem qs_lookup {dflt : Int} {ps : Array (Int × Int)} {os : List (Int × Int)} {len tgt : Nat} {ks : List (Int32 × hc_K)} {Kd : hc_K} (hd : decode (mC M) pc = .ok (.lookupswitch dflt ps, len)) (hos : ps.toList = os) (hp : (ps.toList.zip (ps.toList.drop 1)).all (fun (a, next) => a.1 < next.1) = true) (hs : luok Ph M h0 hf r pc os ks) (ht : (pc : Int) + dflt = (tgt : Int)) (kd : qk Ph M h0 hf r tgt Kd) : qk Ph M h0 hf r pc (qi_sw Kd ks) := by
  intro lv st h hi
  obtain ⟨x, st', rfl, -⟩ := qi_sw_spec ks Kd lv st h hi
  obtain ⟨off, tg, q1, q2, q3⟩ := luok_in os ks dflt x tgt Kd lv st' h hs ht kd hi
  exact q3.step (fun p l e R s m args below meth c H locs cells slots Q ls hx hb hts hown hl kk => lv_lookup (off := off) hx hb hd hp (by rw [hos]; exact q1) q2 (kk ls hl))
/-- System.arraycopy over ints -/
def qi_acopy (K : hc_K) : hc_L → List Value → hc_H → Prop
  | lv, .int n :: .int dp :: .ref a :: .int sp :: .ref a0 :: st, h => shrt st ∧ at_i (h.1 a0) 0 (fun n0 f => at_i (h.1 a) 0 (fun n1 g => (¬ sp < 0 ∧ ¬ dp < 0 ∧ ¬ n < 0 ∧ sp.toNatClampNeg + n.toNatClampNeg ≤ n0 ∧ dp.toNatClampNeg + n.toNatClampNeg ≤ n1) ∧ K lv st (hc_set h a (.inl (0, n1, .inl (va_cpy f g sp.toNatClampNeg dp.toNatClampNeg n.toNatClampNeg))))))
  | _, _, _ => False
theorem qs_acopy {index : Nat} (hd : decode (mC M) pc = .ok (.invokestatic index, 3)) (hl1 : Cond.methodLink (mN M).cls index arraycopyName ∈ lw_g) (hl2 : Cond.native arraycopyName ∈ lw_g) (hl3 : Cond.static arraycopyName ∈ lw_g) (hl4 : Cond.initialized "java/lang/System" ∈ lw_g) (hF : 1 ≤ mF M) (hO : 26 ≤ mO M) (kk : qk Ph M h0 hf r (pc + 3) K) : qk Ph M h0 hf r pc (qi_acopy K) := by
  intro lv st h hi
  unfold qi_acopy at hi
  split at hi
  · rename_i n dp a sp a0 rest
    obtain ⟨hsh, hi⟩ := hi
    obtain ⟨n0, f, hf0, hi⟩ := at_i_spec hi
    obtain ⟨n1, g, hg0, ⟨h1, h2, h3, h4, h5⟩, hi⟩ := at_i_spec hi
    have k1 := kk _ _ _ hi
    refine ⟨k1.1, fun p l e s m args below meth c D tc bs X g1 g2 H locs ls hW hS hl => ?_⟩
    obtain ⟨hx, hb, -, hml, hts, hown, -, -, hK, -⟩ := id X
    have nn : ∀ z : Int32, ¬ z < 0 → z.toInt = (z.toNatClampNeg : Int) := by
      intro z hz
      have hz0 : (0 : Int) ≤ z.toInt := by
        have := Int32.not_lt.mp hz
        simpa using Int32.le_iff_toInt_le.mp this
      show z.toInt = ((z.toInt.toNat : Nat) : Int)
      omega
    intro T hT XT
    have hc0 : H[a0]? = some (vp_cell (tc 0) (n0, .inl f)) := (hW.2.2 a0 _ hf0).2
    obtain ⟨hba, hc1⟩ : bs ≤ a ∧ H[a]? = some (vp_cell (tc 0) (n1, .inl g)) := hW.2.2 a _ hg0
    obtain ⟨-, k0, hk0, cm0, hkk0⟩ := (hK.2 0 _ rfl).1 n0 (fun j => .int (f j))
    obtain ⟨-, k1', hk1, cm1, hkk1⟩ := (hK.2 0 _ rfl).1 n1 (fun j => .int (g j))
    have hsum := shrt_sum hsh
    have hnat : nativeFrameWords "java/lang/System" "arraycopy" 5 = 7 := by decide +kernel
    obtain ⟨vm', X', step⟩ := XT.arraycopy hx hown (hts _ (List.mem_cons_of_mem _ hl1)) (hts _ (List.mem_cons_of_mem _ hl2)) (hts _ (List.mem_cons_of_mem _ hl3)) (hts _ (List.mem_cons_of_mem _ hl4)) (src := a0) (dst := a) (cs := vp_cell (tc 0) (n0, .inl f)) (cd := vp_cell (tc 0) (n1, .inl g)) (srcPos := sp) (destPos := dp) (n := n) (by rw [hT]; exact hc0) (by rw [hT]; exact hc1)
      (fun _ h => by cases h) (fun _ h => by cases h) (fun h => by cases h) (fun h => by cases h) hk0 hk1 hkk0 hkk1 (by simp [refKind]) h1 h2 h3
      (by rw [nn sp h1, nn n h3]; show ¬ _ > ((arrV (tc 0) n0 (fun j => .int (f j))).slots.size : Int); rw [arrV_size]; omega)
      (by rw [nn dp h2, nn n h3]; show ¬ _ > ((arrV (tc 0) n1 (fun j => .int (g j))).slots.size : Int); rw [arrV_size]; omega)
      (fun vm₁ _ i hi => by
        have e : (vp_cell (tc 0) (n0, .inl f)).slots.getD (sp.toNatClampNeg + i) .null = .int (f (sp.toNatClampNeg + i)) := by
          show (arrV (tc 0) n0 (fun j => .int (f j))).slots.getD _ _ = _
          rw [Array.getD_eq_getD_getElem?, arrV_read _ _ (by omega)]
          rfl
        refine ⟨?_, ?_⟩
        · rw [e]
          rfl
        · rw [e]
          exact trivial)
      (g := F0 m pc ls (.int n :: .int dp :: .ref a :: .int sp :: .ref a0 :: rest)) rfl (by rw [hml]; exact hl.1) (rest := rest) rfl (by rw [hb]; exact hd) hF (by show 2 * 0 + _ + (nativeFrameWords "java/lang/System" "arraycopy" 5 + 11) ≤ mO M; omega)
    have e1 : copied (vp_cell (tc 0) (n0, .inl f)) (vp_cell (tc 0) (n1, .inl g)) sp dp n = vp_cell (tc 0) (n1, .inl (va_cpy f g sp.toNatClampNeg dp.toNatClampNeg n.toNatClampNeg)) := va_copied (fun z => .int z) (tc 0) (tc 0) f g h4
    rw [e1] at X' step
    have hla : a < H.size := (Array.getElem?_eq_some_iff.mp hc1).1
    have hheap : ((T.setVm vm').setCell a (vp_cell (tc 0) (n1, .inl (va_cpy f g sp.toNatClampNeg dp.toNatClampNeg n.toNatClampNeg)))).heap = H.setIfInBounds a (vp_cell (tc 0) (n1, .inl (va_cpy f g sp.toNatClampNeg dp.toNatClampNeg n.toNatClampNeg))) := by rw [← hT]; rfl
    have oq : ∀ q : Nat, q ≠ a → (H.setIfInBounds a (vp_cell (tc 0) (n1, .inl (va_cpy f g sp.toNatClampNeg dp.toNatClampNeg n.toNatClampNeg))))[q]? = H[q]? := fun q hq => by simp [Array.getElem?_setIfInBounds, Ne.symm hq]
    obtain ⟨t, b1, b2⟩ := k1.2 p l e s m args below meth c D tc bs X g1 g2 _ _ ls (hW.put hba (by simp) oq (show (H.setIfInBounds a _)[a]? = some _ by simp [Array.getElem?_setIfInBounds, hla])) ⟨by simp; exact hS.1, fun q g1 g2 => by
        rw [oq q (fun e => g2 (by rw [e]; exact hba))]
        exact hS.2.1 q g1 g2, fun q hq => by
        rcases List.mem_append.mp hq with h | h
        · exact hS.2.2 q h
        · obtain ⟨z, -, hz⟩ := List.mem_map.mp h
          rw [← hz]
          exact hba⟩ hl _ hheap X'
    exact ⟨t, step t b1, b2⟩
  · exact hi.elim
end QW
end
section
/-! WORDS: the tables' words that the methods use, by their places; fields. Written by wip/whole/gen_methods.py. -/
theorem inG_0 : ∀ w ∈ u_ws RX0 TX0 16, w ∈ lw_g := by decide +kernel
theorem hcd_0 : ∀ j, j < 16 → defaultValue (tyX0 j) = vp_V [.null, .null, .null, .null, .null, .null, .null, .null, .null, .null, .null, .null, .int 0, .int 0, .int 0, .int 0] j := by decide +kernel
theorem inG_1 : ∀ w ∈ u_ws RX1 TX1 2, w ∈ lw_g := by decide +kernel
theorem hcd_1 : ∀ j, j < 2 → defaultValue (tyX1 j) = vp_V [.null, .int 0] j := by decide +kernel
theorem inG_2 : ∀ w ∈ u_ws RX2 TX2 7, w ∈ lw_g := by decide +kernel
theorem hcd_2 : ∀ j, j < 7 → defaultValue (tyX2 j) = vp_V [.int 0, .int 0, .null, .null, .null, .null, .null] j := by decide +kernel
theorem inG_3 : ∀ w ∈ u_ws RX3 TX3 2, w ∈ lw_g := by decide +kernel
theorem hcd_3 : ∀ j, j < 2 → defaultValue (tyX3 j) = vp_V [.null, .int 0] j := by decide +kernel
theorem inG_4 : ∀ w ∈ u_ws RX4 TX4 12, w ∈ lw_g := by decide +kernel
theorem hcd_4 : ∀ j, j < 12 → defaultValue (tyX4 j) = vp_V [.null, .null, .null, .int 0, .int 0, .int 0, .int 0, .int 0, .long 0, .null, .null, .int 0] j := by decide +kernel
theorem inG_5 : ∀ w ∈ u_ws RX5 TX5 5, w ∈ lw_g := by decide +kernel
theorem hcd_5 : ∀ j, j < 5 → defaultValue (tyX5 j) = vp_V [.null, .null, .null, .null, .null] j := by decide +kernel
theorem inG_6 : ∀ w ∈ u_ws RX6 TX6 15, w ∈ lw_g := by decide +kernel
theorem hcd_6 : ∀ j, j < 15 → defaultValue (tyX6 j) = vp_V [.int 0, .null, .null, .null, .int 0, .null, .int 0, .null, .null, .null, .null, .null, .null, .null, .int 0] j := by decide +kernel
theorem wk_obj : Cond.code Lib.objectInit ⟨#[0xb1]⟩ 1 none ∈ lw_g := lw_in 76 (by decide +kernel) (by decide +kernel)
theorem wk_0 : Cond.selects "BalancedLine$Script" ⟨"BalancedLine$Script", "endOfItem", "(I)I"⟩ ⟨"BalancedLine$Script", "endOfItem", "(I)I"⟩ ∈ lw_g := lw_in 0 (by decide +kernel) (by decide +kernel)
theorem wk_1 : Cond.selects "BalancedLine$Script" ⟨"BalancedLine$Script", "takeItem", "(IILBalancedLine$Plan;)Z"⟩ ⟨"BalancedLine$Script", "takeItem", "(IILBalancedLine$Plan;)Z"⟩ ∈ lw_g := lw_in 1 (by decide +kernel) (by decide +kernel)
theorem wk_2 : Cond.selects "BalancedLine$Script" ⟨"BalancedLine$Script", "takeCycle", "(ILBalancedLine$Plan;)Z"⟩ ⟨"BalancedLine$Script", "takeCycle", "(ILBalancedLine$Plan;)Z"⟩ ∈ lw_g := lw_in 2 (by decide +kernel) (by decide +kernel)
theorem wk_3 : Cond.selects "BalancedLine$Script" ⟨"BalancedLine$Script", "figures", "(III)I"⟩ ⟨"BalancedLine$Script", "figures", "(III)I"⟩ ∈ lw_g := lw_in 3 (by decide +kernel) (by decide +kernel)
theorem wk_4 : Cond.selects "BalancedLine$Script" ⟨"BalancedLine$Script", "takeTask", "(IILBalancedLine$Plan;)Z"⟩ ⟨"BalancedLine$Script", "takeTask", "(IILBalancedLine$Plan;)Z"⟩ ∈ lw_g := lw_in 4 (by decide +kernel) (by decide +kernel)
theorem wk_5 : Cond.selects "BalancedLine$Script" ⟨"BalancedLine$Script", "takePair", "(ILBalancedLine$Plan;)Z"⟩ ⟨"BalancedLine$Script", "takePair", "(ILBalancedLine$Plan;)Z"⟩ ∈ lw_g := lw_in 5 (by decide +kernel) (by decide +kernel)
theorem wk_6 : Cond.selects "BalancedLine$Script" ⟨"BalancedLine$Script", "takeOrder", "(IILBalancedLine$Plan;)Z"⟩ ⟨"BalancedLine$Script", "takeOrder", "(IILBalancedLine$Plan;)Z"⟩ ∈ lw_g := lw_in 6 (by decide +kernel) (by decide +kernel)
theorem wk_7 : Cond.selects "BalancedLine$Past" ⟨"BalancedLine$Past", "dropOldest", "()V"⟩ ⟨"BalancedLine$Past", "dropOldest", "()V"⟩ ∈ lw_g := lw_in 7 (by decide +kernel) (by decide +kernel)
theorem wk_8 : Cond.selects "BalancedLine" ⟨"BalancedLine", "settle", "()V"⟩ ⟨"BalancedLine", "settle", "()V"⟩ ∈ lw_g := lw_in 8 (by decide +kernel) (by decide +kernel)
theorem wk_9 : Cond.selects "BalancedLine$Plan" ⟨"BalancedLine$Plan", "clash", "(III)I"⟩ ⟨"BalancedLine$Plan", "clash", "(III)I"⟩ ∈ lw_g := lw_in 9 (by decide +kernel) (by decide +kernel)
theorem wk_10 : Cond.selects "BalancedLine$Study" ⟨"BalancedLine$Study", "measureNow", "()V"⟩ ⟨"BalancedLine$Study", "measureNow", "()V"⟩ ∈ lw_g := lw_in 10 (by decide +kernel) (by decide +kernel)
theorem wk_11 : Cond.selects "BalancedLine$Study" ⟨"BalancedLine$Study", "measure", "(LBalancedLine$Plan;)V"⟩ ⟨"BalancedLine$Study", "measure", "(LBalancedLine$Plan;)V"⟩ ∈ lw_g := lw_in 11 (by decide +kernel) (by decide +kernel)
theorem wk_12 : Cond.selects "BalancedLine$Lines" ⟨"BalancedLine$Lines", "reach", "(II)V"⟩ ⟨"BalancedLine$Lines", "reach", "(II)V"⟩ ∈ lw_g := lw_in 12 (by decide +kernel) (by decide +kernel)
theorem wk_13 : Cond.selects "BalancedLine$Lines" ⟨"BalancedLine$Lines", "canEndWithin", "(II)Z"⟩ ⟨"BalancedLine$Lines", "canEndWithin", "(II)Z"⟩ ∈ lw_g := lw_in 13 (by decide +kernel) (by decide +kernel)
theorem wk_14 : Cond.selects "BalancedLine$Lines" ⟨"BalancedLine$Lines", "stepFrom", "(I)V"⟩ ⟨"BalancedLine$Lines", "stepFrom", "(I)V"⟩ ∈ lw_g := lw_in 14 (by decide +kernel) (by decide +kernel)
theorem wk_15 : Cond.selects "BalancedLine$Lines" ⟨"BalancedLine$Lines", "stationDue", "(I)I"⟩ ⟨"BalancedLine$Lines", "stationDue", "(I)I"⟩ ∈ lw_g := lw_in 15 (by decide +kernel) (by decide +kernel)
theorem wk_16 : Cond.selects "BalancedLine$Lines" ⟨"BalancedLine$Lines", "traceFrom", "(I)V"⟩ ⟨"BalancedLine$Lines", "traceFrom", "(I)V"⟩ ∈ lw_g := lw_in 16 (by decide +kernel) (by decide +kernel)
theorem wk_17 : Cond.selects "BalancedLine$Lines" ⟨"BalancedLine$Lines", "traceStep", "(III)V"⟩ ⟨"BalancedLine$Lines", "traceStep", "(III)V"⟩ ∈ lw_g := lw_in 17 (by decide +kernel) (by decide +kernel)
theorem wk_18 : Cond.selects "BalancedLine$Lines" ⟨"BalancedLine$Lines", "findCovered", "()V"⟩ ⟨"BalancedLine$Lines", "findCovered", "()V"⟩ ∈ lw_g := lw_in 18 (by decide +kernel) (by decide +kernel)
theorem wk_19 : Cond.selects "BalancedLine$Study" ⟨"BalancedLine$Study", "hasLineBy", "(II)Z"⟩ ⟨"BalancedLine$Study", "hasLineBy", "(II)Z"⟩ ∈ lw_g := lw_in 19 (by decide +kernel) (by decide +kernel)
theorem wk_20 : Cond.selects "BalancedLine$Study" ⟨"BalancedLine$Study", "fewestOfTrial", "()I"⟩ ⟨"BalancedLine$Study", "fewestOfTrial", "()I"⟩ ∈ lw_g := lw_in 20 (by decide +kernel) (by decide +kernel)
theorem wk_21 : Cond.selects "BalancedLine$Study" ⟨"BalancedLine$Study", "isBinding", "(III)Z"⟩ ⟨"BalancedLine$Study", "isBinding", "(III)Z"⟩ ∈ lw_g := lw_in 21 (by decide +kernel) (by decide +kernel)
theorem wk_22 : Cond.selects "BalancedLine$Study" ⟨"BalancedLine$Study", "addBinding", "(I)V"⟩ ⟨"BalancedLine$Study", "addBinding", "(I)V"⟩ ∈ lw_g := lw_in 22 (by decide +kernel) (by decide +kernel)
theorem wk_23 : Cond.selects "BalancedLine" ⟨"BalancedLine", "idleOfBest", "()I"⟩ ⟨"BalancedLine", "idleOfBest", "()I"⟩ ∈ lw_g := lw_in 23 (by decide +kernel) (by decide +kernel)
theorem wk_24 : Cond.selects "BalancedLineModel" ⟨"BalancedLineModel", "item", "(IZ)Z"⟩ ⟨"BalancedLineModel", "item", "(IZ)Z"⟩ ∈ lw_g := lw_in 24 (by decide +kernel) (by decide +kernel)
theorem wk_25 : Cond.selects "BalancedLineModel" ⟨"BalancedLineModel", "number", "(III)I"⟩ ⟨"BalancedLineModel", "number", "(III)I"⟩ ∈ lw_g := lw_in 25 (by decide +kernel) (by decide +kernel)
theorem wk_26 : Cond.selects "BalancedLineModel" ⟨"BalancedLineModel", "byteAt", "(I)I"⟩ ⟨"BalancedLineModel", "byteAt", "(I)I"⟩ ∈ lw_g := lw_in 26 (by decide +kernel) (by decide +kernel)
theorem wk_27 : Cond.selects "BalancedLineModel" ⟨"BalancedLineModel", "pairItem", "(I)Z"⟩ ⟨"BalancedLineModel", "pairItem", "(I)Z"⟩ ∈ lw_g := lw_in 27 (by decide +kernel) (by decide +kernel)
theorem wk_28 : Cond.selects "BalancedLineModel" ⟨"BalancedLineModel", "tells", "(II)I"⟩ ⟨"BalancedLineModel", "tells", "(II)I"⟩ ∈ lw_g := lw_in 28 (by decide +kernel) (by decide +kernel)
theorem wk_29 : Cond.selects "BalancedLineModel" ⟨"BalancedLineModel", "note", "()V"⟩ ⟨"BalancedLineModel", "note", "()V"⟩ ∈ lw_g := lw_in 29 (by decide +kernel) (by decide +kernel)
theorem wk_30 : Cond.selects "BalancedLineModel" ⟨"BalancedLineModel", "takesOff", "()V"⟩ ⟨"BalancedLineModel", "takesOff", "()V"⟩ ∈ lw_g := lw_in 30 (by decide +kernel) (by decide +kernel)
theorem wk_31 : Cond.selects "BalancedLineModel" ⟨"BalancedLineModel", "whyNot", "(II)I"⟩ ⟨"BalancedLineModel", "whyNot", "(II)I"⟩ ∈ lw_g := lw_in 31 (by decide +kernel) (by decide +kernel)
theorem wk_32 : Cond.selects "BalancedLineModel" ⟨"BalancedLineModel", "putBy", "(II)I"⟩ ⟨"BalancedLineModel", "putBy", "(II)I"⟩ ∈ lw_g := lw_in 32 (by decide +kernel) (by decide +kernel)
theorem wk_33 : Cond.selects "BalancedLineModel" ⟨"BalancedLineModel", "aheadOf", "(I)I"⟩ ⟨"BalancedLineModel", "aheadOf", "(I)I"⟩ ∈ lw_g := lw_in 33 (by decide +kernel) (by decide +kernel)
theorem wk_34 : Cond.selects "BalancedLineModel" ⟨"BalancedLineModel", "putIn", "(I)I"⟩ ⟨"BalancedLineModel", "putIn", "(I)I"⟩ ∈ lw_g := lw_in 34 (by decide +kernel) (by decide +kernel)
theorem wk_35 : Cond.selects "BalancedLineModel" ⟨"BalancedLineModel", "timesOf", "(I)I"⟩ ⟨"BalancedLineModel", "timesOf", "(I)I"⟩ ∈ lw_g := lw_in 35 (by decide +kernel) (by decide +kernel)
theorem wk_36 : Cond.selects "BalancedLineModel" ⟨"BalancedLineModel", "isTask", "(I)Z"⟩ ⟨"BalancedLineModel", "isTask", "(I)Z"⟩ ∈ lw_g := lw_in 36 (by decide +kernel) (by decide +kernel)
theorem wk_37 : Cond.selects "BalancedLineModel" ⟨"BalancedLineModel", "isPair", "(II)Z"⟩ ⟨"BalancedLineModel", "isPair", "(II)Z"⟩ ∈ lw_g := lw_in 37 (by decide +kernel) (by decide +kernel)
theorem wk_38 : Cond.selects "BalancedLineModel" ⟨"BalancedLineModel", "ordersMany", "()I"⟩ ⟨"BalancedLineModel", "ordersMany", "()I"⟩ ∈ lw_g := lw_in 38 (by decide +kernel) (by decide +kernel)
theorem wk_39 : Cond.selects "BalancedLineModel" ⟨"BalancedLineModel", "farBehind", "(I)I"⟩ ⟨"BalancedLineModel", "farBehind", "(I)I"⟩ ∈ lw_g := lw_in 39 (by decide +kernel) (by decide +kernel)
theorem wk_40 : Cond.selects "BalancedLineModel" ⟨"BalancedLineModel", "fewestBy", "(I)I"⟩ ⟨"BalancedLineModel", "fewestBy", "(I)I"⟩ ∈ lw_g := lw_in 40 (by decide +kernel) (by decide +kernel)
theorem wk_41 : Cond.selects "BalancedLineModel" ⟨"BalancedLineModel", "findRest", "(I)I"⟩ ⟨"BalancedLineModel", "findRest", "(I)I"⟩ ∈ lw_g := lw_in 41 (by decide +kernel) (by decide +kernel)
theorem wk_42 : Cond.selects "BalancedLineModel" ⟨"BalancedLineModel", "findGood", "(I)V"⟩ ⟨"BalancedLineModel", "findGood", "(I)V"⟩ ∈ lw_g := lw_in 42 (by decide +kernel) (by decide +kernel)
theorem wk_43 : Cond.selects "BalancedLineModel" ⟨"BalancedLineModel", "all", "()I"⟩ ⟨"BalancedLineModel", "all", "()I"⟩ ∈ lw_g := lw_in 43 (by decide +kernel) (by decide +kernel)
theorem wk_44 : Cond.selects "BalancedLineModel" ⟨"BalancedLineModel", "isGood", "(II)Z"⟩ ⟨"BalancedLineModel", "isGood", "(II)Z"⟩ ∈ lw_g := lw_in 44 (by decide +kernel) (by decide +kernel)
theorem wk_45 : Cond.selects "BalancedLineModel" ⟨"BalancedLineModel", "isNext", "(II)Z"⟩ ⟨"BalancedLineModel", "isNext", "(II)Z"⟩ ∈ lw_g := lw_in 45 (by decide +kernel) (by decide +kernel)
theorem wk_46 : Cond.selects "BalancedLineModel" ⟨"BalancedLineModel", "fixAll", "()V"⟩ ⟨"BalancedLineModel", "fixAll", "()V"⟩ ∈ lw_g := lw_in 46 (by decide +kernel) (by decide +kernel)
theorem wk_47 : Cond.selects "BalancedLineModel" ⟨"BalancedLineModel", "stationsOf", "(I)I"⟩ ⟨"BalancedLineModel", "stationsOf", "(I)I"⟩ ∈ lw_g := lw_in 47 (by decide +kernel) (by decide +kernel)
theorem wk_48 : Cond.selects "BalancedLineModel" ⟨"BalancedLineModel", "isBest", "(II)Z"⟩ ⟨"BalancedLineModel", "isBest", "(II)Z"⟩ ∈ lw_g := lw_in 48 (by decide +kernel) (by decide +kernel)
theorem wk_49 : Cond.selects "BalancedLineModel" ⟨"BalancedLineModel", "loads", "(IZ)I"⟩ ⟨"BalancedLineModel", "loads", "(IZ)I"⟩ ∈ lw_g := lw_in 49 (by decide +kernel) (by decide +kernel)
theorem wk_50 : Cond.selects "BalancedLineModel" ⟨"BalancedLineModel", "isFull", "(I)Z"⟩ ⟨"BalancedLineModel", "isFull", "(I)Z"⟩ ∈ lw_g := lw_in 50 (by decide +kernel) (by decide +kernel)
theorem wk_51 : Cond.selects "BalancedLineModel" ⟨"BalancedLineModel", "pairsOf", "(I)I"⟩ ⟨"BalancedLineModel", "pairsOf", "(I)I"⟩ ∈ lw_g := lw_in 51 (by decide +kernel) (by decide +kernel)
theorem wk_52 : Cond.selects "BalancedLineModel" ⟨"BalancedLineModel", "hand", "(I)I"⟩ ⟨"BalancedLineModel", "hand", "(I)I"⟩ ∈ lw_g := lw_in 52 (by decide +kernel) (by decide +kernel)
theorem wk_54 : Cond.initialized "BalancedLine" ∈ lw_g := lw_in 54 (by decide +kernel) (by decide +kernel)
theorem wk_55 : Cond.initialized "BalancedLine$Script" ∈ lw_g := lw_in 55 (by decide +kernel) (by decide +kernel)
theorem wk_56 : Cond.initialized "BalancedLine$Plan" ∈ lw_g := lw_in 56 (by decide +kernel) (by decide +kernel)
theorem wk_57 : Cond.initialized "BalancedLine$Past" ∈ lw_g := lw_in 57 (by decide +kernel) (by decide +kernel)
theorem wk_62 : Cond.initialized "java/util/Arrays" ∈ lw_g := lw_in 62 (by decide +kernel) (by decide +kernel)
theorem wk_63 : Cond.initialized "BalancedLine$Study" ∈ lw_g := lw_in 63 (by decide +kernel) (by decide +kernel)
theorem wk_64 : Cond.initialized "BalancedLine$Lines" ∈ lw_g := lw_in 64 (by decide +kernel) (by decide +kernel)
theorem wk_65 : Cond.initialized "java/lang/Math" ∈ lw_g := lw_in 65 (by decide +kernel) (by decide +kernel)
theorem wk_66 : Cond.initialized "BalancedLineModel" ∈ lw_g := lw_in 66 (by decide +kernel) (by decide +kernel)
theorem wk_67 : Cond.initialized "java/lang/System" ∈ lw_g := lw_in 67 (by decide +kernel) (by decide +kernel)
theorem wk_68 : Cond.initialized "java/lang/Integer" ∈ lw_g := lw_in 68 (by decide +kernel) (by decide +kernel)
theorem wk_75 : Cond.instanceMethod ⟨"java/lang/Object", "<init>", "()V"⟩ ∈ lw_g := lw_in 75 (by decide +kernel) (by decide +kernel)
theorem wk_82 : Cond.methodLink "BalancedLine$Script" 3 ⟨"java/lang/Object", "<init>", "()V"⟩ ∈ lw_g := lw_in 82 (by decide +kernel) (by decide +kernel)
theorem wk_83 : Cond.fieldLink "BalancedLine$Script" 9 "BalancedLine$Script" "letters" "[C" ∈ lw_g := lw_in 83 (by decide +kernel) (by decide +kernel)
theorem wk_84 : Cond.fieldLink "BalancedLine$Script" 15 "BalancedLine$Script" "length" "I" ∈ lw_g := lw_in 84 (by decide +kernel) (by decide +kernel)
theorem wk_85 : Cond.fieldLink "BalancedLine" 69 "BalancedLine$Script" "length" "I" ∈ lw_g := lw_in 85 (by decide +kernel) (by decide +kernel)
theorem wk_91 : Cond.arrayClass FieldType.char ∈ lw_g := lw_in 91 (by decide +kernel) (by decide +kernel)
theorem wk_93 : Cond.instantiable "BalancedLine$Plan" 7 ∈ lw_g := lw_in 93 (by decide +kernel) (by decide +kernel)
theorem wk_95 : Cond.instanceMethod ⟨"BalancedLine$Plan", "<init>", "()V"⟩ ∈ lw_g := lw_in 95 (by decide +kernel) (by decide +kernel)
theorem wk_96 : Cond.code ⟨"BalancedLine$Plan", "<init>", "()V"⟩ prog_4_method_1_code 1 none ∈ lw_g := lw_in 96 (by decide +kernel) (by decide +kernel)
theorem wk_97 : Cond.methodLink "BalancedLine$Plan" 3 ⟨"java/lang/Object", "<init>", "()V"⟩ ∈ lw_g := lw_in 97 (by decide +kernel) (by decide +kernel)
theorem wk_98 : Cond.fieldLink "BalancedLine$Study" 27 "BalancedLine$Plan" "tasks" "I" ∈ lw_g := lw_in 98 (by decide +kernel) (by decide +kernel)
theorem wk_99 : Cond.fieldLink "BalancedLine$Plan" 27 "BalancedLine$Plan" "tasks" "I" ∈ lw_g := lw_in 99 (by decide +kernel) (by decide +kernel)
theorem wk_100 : Cond.fieldLink "BalancedLine$Lines" 69 "BalancedLine$Plan" "tasks" "I" ∈ lw_g := lw_in 100 (by decide +kernel) (by decide +kernel)
theorem wk_101 : Cond.fieldLink "BalancedLine" 72 "BalancedLine$Plan" "tasks" "I" ∈ lw_g := lw_in 101 (by decide +kernel) (by decide +kernel)
theorem wk_102 : Cond.fieldLink "BalancedLine$Plan" 31 "BalancedLine$Plan" "pace" "I" ∈ lw_g := lw_in 102 (by decide +kernel) (by decide +kernel)
theorem wk_103 : Cond.fieldLink "BalancedLine$Lines" 88 "BalancedLine$Plan" "pace" "I" ∈ lw_g := lw_in 103 (by decide +kernel) (by decide +kernel)
theorem wk_104 : Cond.fieldLink "BalancedLine" 84 "BalancedLine$Plan" "pace" "I" ∈ lw_g := lw_in 104 (by decide +kernel) (by decide +kernel)
theorem wk_105 : Cond.fieldLink "BalancedLine$Script" 46 "BalancedLine$Plan" "pace" "I" ∈ lw_g := lw_in 105 (by decide +kernel) (by decide +kernel)
theorem wk_106 : Cond.fieldLink "BalancedLine$Study" 117 "BalancedLine$Plan" "pace" "I" ∈ lw_g := lw_in 106 (by decide +kernel) (by decide +kernel)
theorem wk_107 : Cond.fieldLink "BalancedLine$Plan" 9 "BalancedLine$Plan" "times" "[I" ∈ lw_g := lw_in 107 (by decide +kernel) (by decide +kernel)
theorem wk_108 : Cond.fieldLink "BalancedLine$Lines" 76 "BalancedLine$Plan" "times" "[I" ∈ lw_g := lw_in 108 (by decide +kernel) (by decide +kernel)
theorem wk_109 : Cond.fieldLink "BalancedLine" 97 "BalancedLine$Plan" "times" "[I" ∈ lw_g := lw_in 109 (by decide +kernel) (by decide +kernel)
theorem wk_110 : Cond.fieldLink "BalancedLine$Study" 123 "BalancedLine$Plan" "times" "[I" ∈ lw_g := lw_in 110 (by decide +kernel) (by decide +kernel)
theorem wk_111 : Cond.fieldLink "BalancedLine$Plan" 15 "BalancedLine$Plan" "ahead" "[I" ∈ lw_g := lw_in 111 (by decide +kernel) (by decide +kernel)
theorem wk_112 : Cond.fieldLink "BalancedLine$Lines" 79 "BalancedLine$Plan" "ahead" "[I" ∈ lw_g := lw_in 112 (by decide +kernel) (by decide +kernel)
theorem wk_113 : Cond.fieldLink "BalancedLine" 133 "BalancedLine$Plan" "ahead" "[I" ∈ lw_g := lw_in 113 (by decide +kernel) (by decide +kernel)
theorem wk_114 : Cond.fieldLink "BalancedLine$Plan" 18 "BalancedLine$Plan" "apart" "[I" ∈ lw_g := lw_in 114 (by decide +kernel) (by decide +kernel)
theorem wk_115 : Cond.fieldLink "BalancedLine$Lines" 85 "BalancedLine$Plan" "apart" "[I" ∈ lw_g := lw_in 115 (by decide +kernel) (by decide +kernel)
theorem wk_116 : Cond.fieldLink "BalancedLine" 143 "BalancedLine$Plan" "apart" "[I" ∈ lw_g := lw_in 116 (by decide +kernel) (by decide +kernel)
theorem wk_117 : Cond.fieldLink "BalancedLine$Plan" 21 "BalancedLine$Plan" "joined" "[I" ∈ lw_g := lw_in 117 (by decide +kernel) (by decide +kernel)
theorem wk_118 : Cond.fieldLink "BalancedLine$Lines" 82 "BalancedLine$Plan" "joined" "[I" ∈ lw_g := lw_in 118 (by decide +kernel) (by decide +kernel)
theorem wk_119 : Cond.fieldLink "BalancedLine" 146 "BalancedLine$Plan" "joined" "[I" ∈ lw_g := lw_in 119 (by decide +kernel) (by decide +kernel)
theorem wk_120 : Cond.fieldLink "BalancedLine$Plan" 24 "BalancedLine$Plan" "spots" "[I" ∈ lw_g := lw_in 120 (by decide +kernel) (by decide +kernel)
theorem wk_121 : Cond.fieldLink "BalancedLine" 152 "BalancedLine$Plan" "spots" "[I" ∈ lw_g := lw_in 121 (by decide +kernel) (by decide +kernel)
theorem wk_137 : Cond.arrayClass FieldType.int ∈ lw_g := lw_in 137 (by decide +kernel) (by decide +kernel)
theorem wk_143 : Cond.methodLink "BalancedLine$Past" 3 ⟨"java/lang/Object", "<init>", "()V"⟩ ∈ lw_g := lw_in 143 (by decide +kernel) (by decide +kernel)
theorem wk_144 : Cond.classLink "BalancedLine$Past" 9 "BalancedLine$Plan" ∈ lw_g := lw_in 144 (by decide +kernel) (by decide +kernel)
theorem wk_147 : Cond.fieldLink "BalancedLine$Past" 11 "BalancedLine$Past" "kept" "[LBalancedLine$Plan;" ∈ lw_g := lw_in 147 (by decide +kernel) (by decide +kernel)
theorem wk_148 : Cond.fieldLink "BalancedLine$Past" 18 "BalancedLine$Past" "size" "I" ∈ lw_g := lw_in 148 (by decide +kernel) (by decide +kernel)
theorem wk_149 : Cond.fieldLink "BalancedLine" 130 "BalancedLine$Past" "size" "I" ∈ lw_g := lw_in 149 (by decide +kernel) (by decide +kernel)
theorem wk_204 : Cond.methodLink "BalancedLine" 45 ⟨"BalancedLine$Script", "add", "(C)Z"⟩ ∈ lw_g := lw_in 204 (by decide +kernel) (by decide +kernel)
theorem wk_205 : Cond.instanceMethod ⟨"BalancedLine$Script", "add", "(C)Z"⟩ ∈ lw_g := lw_in 205 (by decide +kernel) (by decide +kernel)
theorem wk_206 : Cond.selects "BalancedLine$Script" ⟨"BalancedLine$Script", "add", "(C)Z"⟩ ⟨"BalancedLine$Script", "add", "(C)Z"⟩ ∈ lw_g := lw_in 206 (by decide +kernel) (by decide +kernel)
theorem wk_207 : Cond.code ⟨"BalancedLine$Script", "add", "(C)Z"⟩ prog_5_method_2_code 2 (some .boolean) ∈ lw_g := lw_in 207 (by decide +kernel) (by decide +kernel)
theorem wk_208 : Cond.methodLink "BalancedLine" 49 ⟨"BalancedLine$Script", "readInto", "(LBalancedLine$Plan;)I"⟩ ∈ lw_g := lw_in 208 (by decide +kernel) (by decide +kernel)
theorem wk_209 : Cond.instanceMethod ⟨"BalancedLine$Script", "readInto", "(LBalancedLine$Plan;)I"⟩ ∈ lw_g := lw_in 209 (by decide +kernel) (by decide +kernel)
theorem wk_210 : Cond.selects "BalancedLine$Script" ⟨"BalancedLine$Script", "readInto", "(LBalancedLine$Plan;)I"⟩ ⟨"BalancedLine$Script", "readInto", "(LBalancedLine$Plan;)I"⟩ ∈ lw_g := lw_in 210 (by decide +kernel) (by decide +kernel)
theorem wk_211 : Cond.code ⟨"BalancedLine$Script", "readInto", "(LBalancedLine$Plan;)I"⟩ prog_5_method_4_code 5 (some .int) ∈ lw_g := lw_in 211 (by decide +kernel) (by decide +kernel)
theorem wk_212 : Cond.methodLink "BalancedLine$Script" 19 ⟨"BalancedLine$Plan", "clear", "()V"⟩ ∈ lw_g := lw_in 212 (by decide +kernel) (by decide +kernel)
theorem wk_213 : Cond.instanceMethod ⟨"BalancedLine$Plan", "clear", "()V"⟩ ∈ lw_g := lw_in 213 (by decide +kernel) (by decide +kernel)
theorem wk_214 : Cond.selects "BalancedLine$Plan" ⟨"BalancedLine$Plan", "clear", "()V"⟩ ⟨"BalancedLine$Plan", "clear", "()V"⟩ ∈ lw_g := lw_in 214 (by decide +kernel) (by decide +kernel)
theorem wk_215 : Cond.code ⟨"BalancedLine$Plan", "clear", "()V"⟩ prog_4_method_2_code 1 none ∈ lw_g := lw_in 215 (by decide +kernel) (by decide +kernel)
theorem wk_216 : Cond.methodLink "BalancedLine$Plan" 34 ⟨"java/util/Arrays", "fill", "([II)V"⟩ ∈ lw_g := lw_in 216 (by decide +kernel) (by decide +kernel)
theorem wk_217 : Cond.static ⟨"java/util/Arrays", "fill", "([II)V"⟩ ∈ lw_g := lw_in 217 (by decide +kernel) (by decide +kernel)
theorem wk_218 : Cond.code ⟨"java/util/Arrays", "fill", "([II)V"⟩ prog_15_method_103_code 4 none ∈ lw_g := lw_in 218 (by decide +kernel) (by decide +kernel)
theorem wk_219 : Cond.methodLink "BalancedLine$Script" 24 ⟨"BalancedLine$Script", "endOfItem", "(I)I"⟩ ∈ lw_g := lw_in 219 (by decide +kernel) (by decide +kernel)
theorem wk_221 : Cond.instanceMethod ⟨"BalancedLine$Script", "endOfItem", "(I)I"⟩ ∈ lw_g := lw_in 221 (by decide +kernel) (by decide +kernel)
theorem wk_222 : Cond.code ⟨"BalancedLine$Script", "endOfItem", "(I)I"⟩ prog_5_method_5_code 3 (some .int) ∈ lw_g := lw_in 222 (by decide +kernel) (by decide +kernel)
theorem wk_223 : Cond.methodLink "BalancedLine$Script" 28 ⟨"BalancedLine$Script", "takeItem", "(IILBalancedLine$Plan;)Z"⟩ ∈ lw_g := lw_in 223 (by decide +kernel) (by decide +kernel)
theorem wk_225 : Cond.instanceMethod ⟨"BalancedLine$Script", "takeItem", "(IILBalancedLine$Plan;)Z"⟩ ∈ lw_g := lw_in 225 (by decide +kernel) (by decide +kernel)
theorem wk_226 : Cond.code ⟨"BalancedLine$Script", "takeItem", "(IILBalancedLine$Plan;)Z"⟩ prog_5_method_6_code 6 (some .boolean) ∈ lw_g := lw_in 226 (by decide +kernel) (by decide +kernel)
theorem wk_227 : Cond.methodLink "BalancedLine$Script" 32 ⟨"BalancedLine$Script", "takeCycle", "(ILBalancedLine$Plan;)Z"⟩ ∈ lw_g := lw_in 227 (by decide +kernel) (by decide +kernel)
theorem wk_229 : Cond.instanceMethod ⟨"BalancedLine$Script", "takeCycle", "(ILBalancedLine$Plan;)Z"⟩ ∈ lw_g := lw_in 229 (by decide +kernel) (by decide +kernel)
theorem wk_230 : Cond.code ⟨"BalancedLine$Script", "takeCycle", "(ILBalancedLine$Plan;)Z"⟩ prog_5_method_7_code 3 (some .boolean) ∈ lw_g := lw_in 230 (by decide +kernel) (by decide +kernel)
theorem wk_231 : Cond.methodLink "BalancedLine$Script" 42 ⟨"BalancedLine$Script", "figures", "(III)I"⟩ ∈ lw_g := lw_in 231 (by decide +kernel) (by decide +kernel)
theorem wk_233 : Cond.instanceMethod ⟨"BalancedLine$Script", "figures", "(III)I"⟩ ∈ lw_g := lw_in 233 (by decide +kernel) (by decide +kernel)
theorem wk_234 : Cond.code ⟨"BalancedLine$Script", "figures", "(III)I"⟩ prog_5_method_9_code 6 (some .int) ∈ lw_g := lw_in 234 (by decide +kernel) (by decide +kernel)
theorem wk_236 : Cond.static ⟨"BalancedLine", "isWithin", "(III)Z"⟩ ∈ lw_g := lw_in 236 (by decide +kernel) (by decide +kernel)
theorem wk_237 : Cond.code ⟨"BalancedLine", "isWithin", "(III)Z"⟩ prog_1_method_33_code 3 (some .boolean) ∈ lw_g := lw_in 237 (by decide +kernel) (by decide +kernel)
theorem wk_238 : Cond.methodLink "BalancedLine$Script" 36 ⟨"BalancedLine$Script", "takeTask", "(IILBalancedLine$Plan;)Z"⟩ ∈ lw_g := lw_in 238 (by decide +kernel) (by decide +kernel)
theorem wk_240 : Cond.instanceMethod ⟨"BalancedLine$Script", "takeTask", "(IILBalancedLine$Plan;)Z"⟩ ∈ lw_g := lw_in 240 (by decide +kernel) (by decide +kernel)
theorem wk_241 : Cond.code ⟨"BalancedLine$Script", "takeTask", "(IILBalancedLine$Plan;)Z"⟩ prog_5_method_8_code 5 (some .boolean) ∈ lw_g := lw_in 241 (by decide +kernel) (by decide +kernel)
theorem wk_242 : Cond.methodLink "BalancedLine$Script" 53 ⟨"BalancedLine$Plan", "addTask", "(I)Z"⟩ ∈ lw_g := lw_in 242 (by decide +kernel) (by decide +kernel)
theorem wk_243 : Cond.instanceMethod ⟨"BalancedLine$Plan", "addTask", "(I)Z"⟩ ∈ lw_g := lw_in 243 (by decide +kernel) (by decide +kernel)
theorem wk_244 : Cond.selects "BalancedLine$Plan" ⟨"BalancedLine$Plan", "addTask", "(I)Z"⟩ ⟨"BalancedLine$Plan", "addTask", "(I)Z"⟩ ∈ lw_g := lw_in 244 (by decide +kernel) (by decide +kernel)
theorem wk_245 : Cond.code ⟨"BalancedLine$Plan", "addTask", "(I)Z"⟩ prog_4_method_6_code 2 (some .boolean) ∈ lw_g := lw_in 245 (by decide +kernel) (by decide +kernel)
theorem wk_246 : Cond.methodLink "BalancedLine$Script" 39 ⟨"BalancedLine$Script", "takePair", "(ILBalancedLine$Plan;)Z"⟩ ∈ lw_g := lw_in 246 (by decide +kernel) (by decide +kernel)
theorem wk_248 : Cond.instanceMethod ⟨"BalancedLine$Script", "takePair", "(ILBalancedLine$Plan;)Z"⟩ ∈ lw_g := lw_in 248 (by decide +kernel) (by decide +kernel)
theorem wk_249 : Cond.code ⟨"BalancedLine$Script", "takePair", "(ILBalancedLine$Plan;)Z"⟩ prog_5_method_10_code 5 (some .boolean) ∈ lw_g := lw_in 249 (by decide +kernel) (by decide +kernel)
theorem wk_250 : Cond.methodLink "BalancedLine$Script" 57 ⟨"BalancedLine$Plan", "hasPair", "(II)Z"⟩ ∈ lw_g := lw_in 250 (by decide +kernel) (by decide +kernel)
theorem wk_251 : Cond.instanceMethod ⟨"BalancedLine$Plan", "hasPair", "(II)Z"⟩ ∈ lw_g := lw_in 251 (by decide +kernel) (by decide +kernel)
theorem wk_252 : Cond.selects "BalancedLine$Plan" ⟨"BalancedLine$Plan", "hasPair", "(II)Z"⟩ ⟨"BalancedLine$Plan", "hasPair", "(II)Z"⟩ ∈ lw_g := lw_in 252 (by decide +kernel) (by decide +kernel)
theorem wk_253 : Cond.code ⟨"BalancedLine$Plan", "hasPair", "(II)Z"⟩ prog_4_method_5_code 3 (some .boolean) ∈ lw_g := lw_in 253 (by decide +kernel) (by decide +kernel)
theorem wk_254 : Cond.methodLink "BalancedLine$Plan" 46 ⟨"BalancedLine$Plan", "has", "(I)Z"⟩ ∈ lw_g := lw_in 254 (by decide +kernel) (by decide +kernel)
theorem wk_255 : Cond.instanceMethod ⟨"BalancedLine$Plan", "has", "(I)Z"⟩ ∈ lw_g := lw_in 255 (by decide +kernel) (by decide +kernel)
theorem wk_256 : Cond.selects "BalancedLine$Plan" ⟨"BalancedLine$Plan", "has", "(I)Z"⟩ ⟨"BalancedLine$Plan", "has", "(I)Z"⟩ ∈ lw_g := lw_in 256 (by decide +kernel) (by decide +kernel)
theorem wk_257 : Cond.code ⟨"BalancedLine$Plan", "has", "(I)Z"⟩ prog_4_method_4_code 2 (some .boolean) ∈ lw_g := lw_in 257 (by decide +kernel) (by decide +kernel)
theorem wk_258 : Cond.methodLink "BalancedLine$Script" 61 ⟨"BalancedLine$Script", "takeOrder", "(IILBalancedLine$Plan;)Z"⟩ ∈ lw_g := lw_in 258 (by decide +kernel) (by decide +kernel)
theorem wk_260 : Cond.instanceMethod ⟨"BalancedLine$Script", "takeOrder", "(IILBalancedLine$Plan;)Z"⟩ ∈ lw_g := lw_in 260 (by decide +kernel) (by decide +kernel)
theorem wk_261 : Cond.code ⟨"BalancedLine$Script", "takeOrder", "(IILBalancedLine$Plan;)Z"⟩ prog_5_method_11_code 4 (some .boolean) ∈ lw_g := lw_in 261 (by decide +kernel) (by decide +kernel)
theorem wk_262 : Cond.methodLink "BalancedLine$Script" 72 ⟨"BalancedLine$Plan", "isBehind", "(II)Z"⟩ ∈ lw_g := lw_in 262 (by decide +kernel) (by decide +kernel)
theorem wk_263 : Cond.instanceMethod ⟨"BalancedLine$Plan", "isBehind", "(II)Z"⟩ ∈ lw_g := lw_in 263 (by decide +kernel) (by decide +kernel)
theorem wk_264 : Cond.selects "BalancedLine$Plan" ⟨"BalancedLine$Plan", "isBehind", "(II)Z"⟩ ⟨"BalancedLine$Plan", "isBehind", "(II)Z"⟩ ∈ lw_g := lw_in 264 (by decide +kernel) (by decide +kernel)
theorem wk_265 : Cond.code ⟨"BalancedLine$Plan", "isBehind", "(II)Z"⟩ prog_4_method_7_code 3 (some .boolean) ∈ lw_g := lw_in 265 (by decide +kernel) (by decide +kernel)
theorem wk_266 : Cond.methodLink "BalancedLine$Script" 75 ⟨"BalancedLine$Plan", "wouldGoRound", "(II)Z"⟩ ∈ lw_g := lw_in 266 (by decide +kernel) (by decide +kernel)
theorem wk_267 : Cond.instanceMethod ⟨"BalancedLine$Plan", "wouldGoRound", "(II)Z"⟩ ∈ lw_g := lw_in 267 (by decide +kernel) (by decide +kernel)
theorem wk_268 : Cond.selects "BalancedLine$Plan" ⟨"BalancedLine$Plan", "wouldGoRound", "(II)Z"⟩ ⟨"BalancedLine$Plan", "wouldGoRound", "(II)Z"⟩ ∈ lw_g := lw_in 268 (by decide +kernel) (by decide +kernel)
theorem wk_269 : Cond.code ⟨"BalancedLine$Plan", "wouldGoRound", "(II)Z"⟩ prog_4_method_8_code 3 (some .boolean) ∈ lw_g := lw_in 269 (by decide +kernel) (by decide +kernel)
theorem wk_270 : Cond.methodLink "BalancedLine$Plan" 50 ⟨"BalancedLine$Plan", "allBehind", "(I)I"⟩ ∈ lw_g := lw_in 270 (by decide +kernel) (by decide +kernel)
theorem wk_271 : Cond.instanceMethod ⟨"BalancedLine$Plan", "allBehind", "(I)I"⟩ ∈ lw_g := lw_in 271 (by decide +kernel) (by decide +kernel)
theorem wk_272 : Cond.selects "BalancedLine$Plan" ⟨"BalancedLine$Plan", "allBehind", "(I)I"⟩ ⟨"BalancedLine$Plan", "allBehind", "(I)I"⟩ ∈ lw_g := lw_in 272 (by decide +kernel) (by decide +kernel)
theorem wk_273 : Cond.code ⟨"BalancedLine$Plan", "allBehind", "(I)I"⟩ prog_4_method_14_code 5 (some .int) ∈ lw_g := lw_in 273 (by decide +kernel) (by decide +kernel)
theorem wk_274 : Cond.methodLink "BalancedLine$Script" 78 ⟨"BalancedLine$Plan", "setOrder", "(IIZ)V"⟩ ∈ lw_g := lw_in 274 (by decide +kernel) (by decide +kernel)
theorem wk_275 : Cond.instanceMethod ⟨"BalancedLine$Plan", "setOrder", "(IIZ)V"⟩ ∈ lw_g := lw_in 275 (by decide +kernel) (by decide +kernel)
theorem wk_276 : Cond.selects "BalancedLine$Plan" ⟨"BalancedLine$Plan", "setOrder", "(IIZ)V"⟩ ⟨"BalancedLine$Plan", "setOrder", "(IIZ)V"⟩ ∈ lw_g := lw_in 276 (by decide +kernel) (by decide +kernel)
theorem wk_277 : Cond.code ⟨"BalancedLine$Plan", "setOrder", "(IIZ)V"⟩ prog_4_method_9_code 4 none ∈ lw_g := lw_in 277 (by decide +kernel) (by decide +kernel)
theorem wk_278 : Cond.methodLink "BalancedLine$Script" 64 ⟨"BalancedLine$Plan", "zoneOf", "(II)I"⟩ ∈ lw_g := lw_in 278 (by decide +kernel) (by decide +kernel)
theorem wk_279 : Cond.instanceMethod ⟨"BalancedLine$Plan", "zoneOf", "(II)I"⟩ ∈ lw_g := lw_in 279 (by decide +kernel) (by decide +kernel)
theorem wk_280 : Cond.selects "BalancedLine$Plan" ⟨"BalancedLine$Plan", "zoneOf", "(II)I"⟩ ⟨"BalancedLine$Plan", "zoneOf", "(II)I"⟩ ∈ lw_g := lw_in 280 (by decide +kernel) (by decide +kernel)
theorem wk_281 : Cond.code ⟨"BalancedLine$Plan", "zoneOf", "(II)I"⟩ prog_4_method_10_code 3 (some .int) ∈ lw_g := lw_in 281 (by decide +kernel) (by decide +kernel)
theorem wk_282 : Cond.methodLink "BalancedLine$Script" 68 ⟨"BalancedLine$Plan", "setZone", "(III)V"⟩ ∈ lw_g := lw_in 282 (by decide +kernel) (by decide +kernel)
theorem wk_283 : Cond.instanceMethod ⟨"BalancedLine$Plan", "setZone", "(III)V"⟩ ∈ lw_g := lw_in 283 (by decide +kernel) (by decide +kernel)
theorem wk_284 : Cond.selects "BalancedLine$Plan" ⟨"BalancedLine$Plan", "setZone", "(III)V"⟩ ⟨"BalancedLine$Plan", "setZone", "(III)V"⟩ ∈ lw_g := lw_in 284 (by decide +kernel) (by decide +kernel)
theorem wk_285 : Cond.code ⟨"BalancedLine$Plan", "setZone", "(III)V"⟩ prog_4_method_11_code 4 none ∈ lw_g := lw_in 285 (by decide +kernel) (by decide +kernel)
theorem wk_286 : Cond.methodLink "BalancedLine$Plan" 54 ⟨"BalancedLine$Plan", "setPair", "([IIIZ)V"⟩ ∈ lw_g := lw_in 286 (by decide +kernel) (by decide +kernel)
theorem wk_287 : Cond.static ⟨"BalancedLine$Plan", "setPair", "([IIIZ)V"⟩ ∈ lw_g := lw_in 287 (by decide +kernel) (by decide +kernel)
theorem wk_288 : Cond.code ⟨"BalancedLine$Plan", "setPair", "([IIIZ)V"⟩ prog_4_method_12_code 4 none ∈ lw_g := lw_in 288 (by decide +kernel) (by decide +kernel)
theorem wk_289 : Cond.methodLink "BalancedLine" 53 ⟨"BalancedLine$Script", "clear", "()I"⟩ ∈ lw_g := lw_in 289 (by decide +kernel) (by decide +kernel)
theorem wk_290 : Cond.instanceMethod ⟨"BalancedLine$Script", "clear", "()I"⟩ ∈ lw_g := lw_in 290 (by decide +kernel) (by decide +kernel)
theorem wk_291 : Cond.selects "BalancedLine$Script" ⟨"BalancedLine$Script", "clear", "()I"⟩ ⟨"BalancedLine$Script", "clear", "()I"⟩ ∈ lw_g := lw_in 291 (by decide +kernel) (by decide +kernel)
theorem wk_292 : Cond.code ⟨"BalancedLine$Script", "clear", "()I"⟩ prog_5_method_3_code 2 (some .int) ∈ lw_g := lw_in 292 (by decide +kernel) (by decide +kernel)
theorem wk_298 : Cond.methodLink "BalancedLine$Study" 3 ⟨"java/lang/Object", "<init>", "()V"⟩ ∈ lw_g := lw_in 298 (by decide +kernel) (by decide +kernel)
theorem wk_299 : Cond.classLink "BalancedLine$Study" 25 "BalancedLine$Lines" ∈ lw_g := lw_in 299 (by decide +kernel) (by decide +kernel)
theorem wk_300 : Cond.instantiable "BalancedLine$Lines" 16 ∈ lw_g := lw_in 300 (by decide +kernel) (by decide +kernel)
theorem wk_301 : Cond.methodLink "BalancedLine$Study" 33 ⟨"BalancedLine$Lines", "<init>", "(I)V"⟩ ∈ lw_g := lw_in 301 (by decide +kernel) (by decide +kernel)
theorem wk_302 : Cond.instanceMethod ⟨"BalancedLine$Lines", "<init>", "(I)V"⟩ ∈ lw_g := lw_in 302 (by decide +kernel) (by decide +kernel)
theorem wk_303 : Cond.code ⟨"BalancedLine$Lines", "<init>", "(I)V"⟩ prog_2_method_1_code 3 none ∈ lw_g := lw_in 303 (by decide +kernel) (by decide +kernel)
theorem wk_304 : Cond.methodLink "BalancedLine$Lines" 3 ⟨"java/lang/Object", "<init>", "()V"⟩ ∈ lw_g := lw_in 304 (by decide +kernel) (by decide +kernel)
theorem wk_305 : Cond.methodLink "BalancedLine$Lines" 18 ⟨"java/lang/Math", "min", "(II)I"⟩ ∈ lw_g := lw_in 305 (by decide +kernel) (by decide +kernel)
theorem wk_306 : Cond.static ⟨"java/lang/Math", "min", "(II)I"⟩ ∈ lw_g := lw_in 306 (by decide +kernel) (by decide +kernel)
theorem wk_307 : Cond.code ⟨"java/lang/Math", "min", "(II)I"⟩ prog_10_method_69_code 2 (some .int) ∈ lw_g := lw_in 307 (by decide +kernel) (by decide +kernel)
theorem wk_308 : Cond.methodLink "BalancedLine$Lines" 24 ⟨"java/lang/Math", "max", "(II)I"⟩ ∈ lw_g := lw_in 308 (by decide +kernel) (by decide +kernel)
theorem wk_309 : Cond.static ⟨"java/lang/Math", "max", "(II)I"⟩ ∈ lw_g := lw_in 309 (by decide +kernel) (by decide +kernel)
theorem wk_310 : Cond.code ⟨"java/lang/Math", "max", "(II)I"⟩ prog_10_method_65_code 2 (some .int) ∈ lw_g := lw_in 310 (by decide +kernel) (by decide +kernel)
theorem wk_311 : Cond.fieldLink "BalancedLine$Lines" 27 "BalancedLine$Lines" "sums" "[I" ∈ lw_g := lw_in 311 (by decide +kernel) (by decide +kernel)
theorem wk_312 : Cond.fieldLink "BalancedLine$Lines" 30 "BalancedLine$Lines" "wants" "[I" ∈ lw_g := lw_in 312 (by decide +kernel) (by decide +kernel)
theorem wk_313 : Cond.fieldLink "BalancedLine$Lines" 33 "BalancedLine$Lines" "mates" "[I" ∈ lw_g := lw_in 313 (by decide +kernel) (by decide +kernel)
theorem wk_314 : Cond.fieldLink "BalancedLine$Lines" 36 "BalancedLine$Lines" "foes" "[I" ∈ lw_g := lw_in 314 (by decide +kernel) (by decide +kernel)
theorem wk_315 : Cond.fieldLink "BalancedLine$Lines" 39 "BalancedLine$Lines" "needs" "[I" ∈ lw_g := lw_in 315 (by decide +kernel) (by decide +kernel)
theorem wk_316 : Cond.fieldLink "BalancedLine$Lines" 42 "BalancedLine$Lines" "levels" "[I" ∈ lw_g := lw_in 316 (by decide +kernel) (by decide +kernel)
theorem wk_317 : Cond.fieldLink "BalancedLine$Lines" 45 "BalancedLine$Lines" "ways" "[I" ∈ lw_g := lw_in 317 (by decide +kernel) (by decide +kernel)
theorem wk_318 : Cond.fieldLink "BalancedLine$Lines" 48 "BalancedLine$Lines" "isCovered" "[Z" ∈ lw_g := lw_in 318 (by decide +kernel) (by decide +kernel)
theorem wk_319 : Cond.fieldLink "BalancedLine$Lines" 52 "BalancedLine$Lines" "places" "[J" ∈ lw_g := lw_in 319 (by decide +kernel) (by decide +kernel)
theorem wk_320 : Cond.fieldLink "BalancedLine$Lines" 56 "BalancedLine$Lines" "spread" "[J" ∈ lw_g := lw_in 320 (by decide +kernel) (by decide +kernel)
theorem wk_321 : Cond.fieldLink "BalancedLine$Lines" 9 "BalancedLine$Lines" "heldAt" "[I" ∈ lw_g := lw_in 321 (by decide +kernel) (by decide +kernel)
theorem wk_322 : Cond.fieldLink "BalancedLine$Lines" 15 "BalancedLine$Lines" "fixedIn" "[I" ∈ lw_g := lw_in 322 (by decide +kernel) (by decide +kernel)
theorem wk_323 : Cond.fieldLink "BalancedLine$Lines" 99 "BalancedLine$Lines" "fixed" "I" ∈ lw_g := lw_in 323 (by decide +kernel) (by decide +kernel)
theorem wk_324 : Cond.fieldLink "BalancedLine$Lines" 65 "BalancedLine$Lines" "whole" "I" ∈ lw_g := lw_in 324 (by decide +kernel) (by decide +kernel)
theorem wk_325 : Cond.fieldLink "BalancedLine$Lines" 95 "BalancedLine$Lines" "pace" "I" ∈ lw_g := lw_in 325 (by decide +kernel) (by decide +kernel)
theorem wk_326 : Cond.fieldLink "BalancedLine$Lines" 96 "BalancedLine$Lines" "usable" "I" ∈ lw_g := lw_in 326 (by decide +kernel) (by decide +kernel)
theorem wk_361 : Cond.arrayClass FieldType.boolean ∈ lw_g := lw_in 361 (by decide +kernel) (by decide +kernel)
theorem wk_362 : Cond.arrayClass FieldType.long ∈ lw_g := lw_in 362 (by decide +kernel) (by decide +kernel)
theorem wk_363 : Cond.fieldLink "BalancedLine$Study" 18 "BalancedLine$Study" "now" "LBalancedLine$Plan;" ∈ lw_g := lw_in 363 (by decide +kernel) (by decide +kernel)
theorem wk_364 : Cond.fieldLink "BalancedLine$Study" 22 "BalancedLine$Study" "trial" "LBalancedLine$Plan;" ∈ lw_g := lw_in 364 (by decide +kernel) (by decide +kernel)
theorem wk_365 : Cond.fieldLink "BalancedLine$Study" 36 "BalancedLine$Study" "lines" "LBalancedLine$Lines;" ∈ lw_g := lw_in 365 (by decide +kernel) (by decide +kernel)
theorem wk_366 : Cond.fieldLink "BalancedLine$Study" 40 "BalancedLine$Study" "isMeasured" "Z" ∈ lw_g := lw_in 366 (by decide +kernel) (by decide +kernel)
theorem wk_367 : Cond.fieldLink "BalancedLine$Study" 44 "BalancedLine$Study" "isSolved" "Z" ∈ lw_g := lw_in 367 (by decide +kernel) (by decide +kernel)
theorem wk_368 : Cond.fieldLink "BalancedLine$Study" 47 "BalancedLine$Study" "isBound" "Z" ∈ lw_g := lw_in 368 (by decide +kernel) (by decide +kernel)
theorem wk_369 : Cond.fieldLink "BalancedLine$Study" 73 "BalancedLine$Study" "stations" "I" ∈ lw_g := lw_in 369 (by decide +kernel) (by decide +kernel)
theorem wk_370 : Cond.fieldLink "BalancedLine" 170 "BalancedLine$Study" "stations" "I" ∈ lw_g := lw_in 370 (by decide +kernel) (by decide +kernel)
theorem wk_371 : Cond.fieldLink "BalancedLine$Study" 76 "BalancedLine$Study" "lineCount" "I" ∈ lw_g := lw_in 371 (by decide +kernel) (by decide +kernel)
theorem wk_372 : Cond.fieldLink "BalancedLine" 189 "BalancedLine$Study" "lineCount" "I" ∈ lw_g := lw_in 372 (by decide +kernel) (by decide +kernel)
theorem wk_373 : Cond.fieldLink "BalancedLine$Study" 88 "BalancedLine$Study" "bestPlaces" "J" ∈ lw_g := lw_in 373 (by decide +kernel) (by decide +kernel)
theorem wk_374 : Cond.fieldLink "BalancedLine$Study" 9 "BalancedLine$Study" "heldAt" "[I" ∈ lw_g := lw_in 374 (by decide +kernel) (by decide +kernel)
theorem wk_375 : Cond.fieldLink "BalancedLine$Study" 15 "BalancedLine$Study" "bindings" "[I" ∈ lw_g := lw_in 375 (by decide +kernel) (by decide +kernel)
theorem wk_376 : Cond.fieldLink "BalancedLine$Study" 148 "BalancedLine$Study" "bindingCount" "I" ∈ lw_g := lw_in 376 (by decide +kernel) (by decide +kernel)
theorem wk_402 : Cond.fieldLink "BalancedLine" 12 "BalancedLine" "script" "LBalancedLine$Script;" ∈ lw_g := lw_in 402 (by decide +kernel) (by decide +kernel)
theorem wk_403 : Cond.fieldLink "BalancedLine" 19 "BalancedLine" "now" "LBalancedLine$Plan;" ∈ lw_g := lw_in 403 (by decide +kernel) (by decide +kernel)
theorem wk_404 : Cond.fieldLink "BalancedLine" 23 "BalancedLine" "draft" "LBalancedLine$Plan;" ∈ lw_g := lw_in 404 (by decide +kernel) (by decide +kernel)
theorem wk_405 : Cond.fieldLink "BalancedLine" 29 "BalancedLine" "past" "LBalancedLine$Past;" ∈ lw_g := lw_in 405 (by decide +kernel) (by decide +kernel)
theorem wk_406 : Cond.fieldLink "BalancedLine" 61 "BalancedLine" "study" "LBalancedLine$Study;" ∈ lw_g := lw_in 406 (by decide +kernel) (by decide +kernel)
theorem wk_422 : Cond.methodLink "BalancedLine" 65 ⟨"BalancedLine", "isWithin", "(III)Z"⟩ ∈ lw_g := lw_in 422 (by decide +kernel) (by decide +kernel)
theorem wk_435 : Cond.methodLink "BalancedLine" 75 ⟨"BalancedLine$Plan", "copy", "(LBalancedLine$Plan;)V"⟩ ∈ lw_g := lw_in 435 (by decide +kernel) (by decide +kernel)
theorem wk_436 : Cond.instanceMethod ⟨"BalancedLine$Plan", "copy", "(LBalancedLine$Plan;)V"⟩ ∈ lw_g := lw_in 436 (by decide +kernel) (by decide +kernel)
theorem wk_437 : Cond.selects "BalancedLine$Plan" ⟨"BalancedLine$Plan", "copy", "(LBalancedLine$Plan;)V"⟩ ⟨"BalancedLine$Plan", "copy", "(LBalancedLine$Plan;)V"⟩ ∈ lw_g := lw_in 437 (by decide +kernel) (by decide +kernel)
theorem wk_438 : Cond.code ⟨"BalancedLine$Plan", "copy", "(LBalancedLine$Plan;)V"⟩ prog_4_method_3_code 2 none ∈ lw_g := lw_in 438 (by decide +kernel) (by decide +kernel)
theorem wk_439 : Cond.methodLink "BalancedLine$Plan" 40 ⟨"java/lang/System", "arraycopy", "(Ljava/lang/Object;ILjava/lang/Object;II)V"⟩ ∈ lw_g := lw_in 439 (by decide +kernel) (by decide +kernel)
theorem wk_440 : Cond.static ⟨"java/lang/System", "arraycopy", "(Ljava/lang/Object;ILjava/lang/Object;II)V"⟩ ∈ lw_g := lw_in 440 (by decide +kernel) (by decide +kernel)
theorem wk_441 : Cond.native ⟨"java/lang/System", "arraycopy", "(Ljava/lang/Object;ILjava/lang/Object;II)V"⟩ ∈ lw_g := lw_in 441 (by decide +kernel) (by decide +kernel)
theorem wk_442 : Cond.methodLink "BalancedLine" 79 ⟨"BalancedLine$Past", "clear", "()V"⟩ ∈ lw_g := lw_in 442 (by decide +kernel) (by decide +kernel)
theorem wk_443 : Cond.instanceMethod ⟨"BalancedLine$Past", "clear", "()V"⟩ ∈ lw_g := lw_in 443 (by decide +kernel) (by decide +kernel)
theorem wk_444 : Cond.selects "BalancedLine$Past" ⟨"BalancedLine$Past", "clear", "()V"⟩ ⟨"BalancedLine$Past", "clear", "()V"⟩ ∈ lw_g := lw_in 444 (by decide +kernel) (by decide +kernel)
theorem wk_445 : Cond.code ⟨"BalancedLine$Past", "clear", "()V"⟩ prog_3_method_2_code 1 none ∈ lw_g := lw_in 445 (by decide +kernel) (by decide +kernel)
theorem wk_446 : Cond.methodLink "BalancedLine" 81 ⟨"BalancedLine$Study", "forget", "()V"⟩ ∈ lw_g := lw_in 446 (by decide +kernel) (by decide +kernel)
theorem wk_447 : Cond.instanceMethod ⟨"BalancedLine$Study", "forget", "()V"⟩ ∈ lw_g := lw_in 447 (by decide +kernel) (by decide +kernel)
theorem wk_448 : Cond.selects "BalancedLine$Study" ⟨"BalancedLine$Study", "forget", "()V"⟩ ⟨"BalancedLine$Study", "forget", "()V"⟩ ∈ lw_g := lw_in 448 (by decide +kernel) (by decide +kernel)
theorem wk_449 : Cond.code ⟨"BalancedLine$Study", "forget", "()V"⟩ prog_6_method_2_code 1 none ∈ lw_g := lw_in 449 (by decide +kernel) (by decide +kernel)
theorem wk_454 : Cond.methodLink "BalancedLine" 87 ⟨"BalancedLine$Past", "keep", "(LBalancedLine$Plan;)V"⟩ ∈ lw_g := lw_in 454 (by decide +kernel) (by decide +kernel)
theorem wk_455 : Cond.instanceMethod ⟨"BalancedLine$Past", "keep", "(LBalancedLine$Plan;)V"⟩ ∈ lw_g := lw_in 455 (by decide +kernel) (by decide +kernel)
theorem wk_456 : Cond.selects "BalancedLine$Past" ⟨"BalancedLine$Past", "keep", "(LBalancedLine$Plan;)V"⟩ ⟨"BalancedLine$Past", "keep", "(LBalancedLine$Plan;)V"⟩ ∈ lw_g := lw_in 456 (by decide +kernel) (by decide +kernel)
theorem wk_457 : Cond.code ⟨"BalancedLine$Past", "keep", "(LBalancedLine$Plan;)V"⟩ prog_3_method_3_code 2 none ∈ lw_g := lw_in 457 (by decide +kernel) (by decide +kernel)
theorem wk_458 : Cond.methodLink "BalancedLine$Past" 22 ⟨"BalancedLine$Past", "dropOldest", "()V"⟩ ∈ lw_g := lw_in 458 (by decide +kernel) (by decide +kernel)
theorem wk_460 : Cond.instanceMethod ⟨"BalancedLine$Past", "dropOldest", "()V"⟩ ∈ lw_g := lw_in 460 (by decide +kernel) (by decide +kernel)
theorem wk_461 : Cond.code ⟨"BalancedLine$Past", "dropOldest", "()V"⟩ prog_3_method_4_code 3 none ∈ lw_g := lw_in 461 (by decide +kernel) (by decide +kernel)
theorem wk_462 : Cond.methodLink "BalancedLine$Past" 25 ⟨"BalancedLine$Plan", "copy", "(LBalancedLine$Plan;)V"⟩ ∈ lw_g := lw_in 462 (by decide +kernel) (by decide +kernel)
theorem wk_463 : Cond.methodLink "BalancedLine" 90 ⟨"BalancedLine", "settle", "()V"⟩ ∈ lw_g := lw_in 463 (by decide +kernel) (by decide +kernel)
theorem wk_465 : Cond.instanceMethod ⟨"BalancedLine", "settle", "()V"⟩ ∈ lw_g := lw_in 465 (by decide +kernel) (by decide +kernel)
theorem wk_466 : Cond.code ⟨"BalancedLine", "settle", "()V"⟩ prog_1_method_32_code 1 none ∈ lw_g := lw_in 466 (by decide +kernel) (by decide +kernel)
theorem wk_467 : Cond.methodLink "BalancedLine" 231 ⟨"BalancedLine$Plan", "takeOffMisfits", "()V"⟩ ∈ lw_g := lw_in 467 (by decide +kernel) (by decide +kernel)
theorem wk_468 : Cond.instanceMethod ⟨"BalancedLine$Plan", "takeOffMisfits", "()V"⟩ ∈ lw_g := lw_in 468 (by decide +kernel) (by decide +kernel)
theorem wk_469 : Cond.selects "BalancedLine$Plan" ⟨"BalancedLine$Plan", "takeOffMisfits", "()V"⟩ ⟨"BalancedLine$Plan", "takeOffMisfits", "()V"⟩ ∈ lw_g := lw_in 469 (by decide +kernel) (by decide +kernel)
theorem wk_470 : Cond.code ⟨"BalancedLine$Plan", "takeOffMisfits", "()V"⟩ prog_4_method_29_code 2 none ∈ lw_g := lw_in 470 (by decide +kernel) (by decide +kernel)
theorem wk_471 : Cond.methodLink "BalancedLine$Plan" 96 ⟨"BalancedLine$Plan", "whyNot", "(II)I"⟩ ∈ lw_g := lw_in 471 (by decide +kernel) (by decide +kernel)
theorem wk_472 : Cond.instanceMethod ⟨"BalancedLine$Plan", "whyNot", "(II)I"⟩ ∈ lw_g := lw_in 472 (by decide +kernel) (by decide +kernel)
theorem wk_473 : Cond.selects "BalancedLine$Plan" ⟨"BalancedLine$Plan", "whyNot", "(II)I"⟩ ⟨"BalancedLine$Plan", "whyNot", "(II)I"⟩ ∈ lw_g := lw_in 473 (by decide +kernel) (by decide +kernel)
theorem wk_474 : Cond.code ⟨"BalancedLine$Plan", "whyNot", "(II)I"⟩ prog_4_method_26_code 6 (some .int) ∈ lw_g := lw_in 474 (by decide +kernel) (by decide +kernel)
theorem wk_475 : Cond.methodLink "BalancedLine$Plan" 83 ⟨"BalancedLine$Plan", "clash", "(III)I"⟩ ∈ lw_g := lw_in 475 (by decide +kernel) (by decide +kernel)
theorem wk_477 : Cond.instanceMethod ⟨"BalancedLine$Plan", "clash", "(III)I"⟩ ∈ lw_g := lw_in 477 (by decide +kernel) (by decide +kernel)
theorem wk_478 : Cond.code ⟨"BalancedLine$Plan", "clash", "(III)I"⟩ prog_4_method_27_code 5 (some .int) ∈ lw_g := lw_in 478 (by decide +kernel) (by decide +kernel)
theorem wk_479 : Cond.methodLink "BalancedLine$Plan" 58 ⟨"BalancedLine$Plan", "isBehind", "(II)Z"⟩ ∈ lw_g := lw_in 479 (by decide +kernel) (by decide +kernel)
theorem wk_480 : Cond.methodLink "BalancedLine$Plan" 90 ⟨"BalancedLine$Plan", "zoneOf", "(II)I"⟩ ∈ lw_g := lw_in 480 (by decide +kernel) (by decide +kernel)
theorem wk_481 : Cond.methodLink "BalancedLine$Plan" 87 ⟨"BalancedLine$Plan", "firstOf", "(II)I"⟩ ∈ lw_g := lw_in 481 (by decide +kernel) (by decide +kernel)
theorem wk_482 : Cond.static ⟨"BalancedLine$Plan", "firstOf", "(II)I"⟩ ∈ lw_g := lw_in 482 (by decide +kernel) (by decide +kernel)
theorem wk_483 : Cond.code ⟨"BalancedLine$Plan", "firstOf", "(II)I"⟩ prog_4_method_28_code 2 (some .int) ∈ lw_g := lw_in 483 (by decide +kernel) (by decide +kernel)
theorem wk_484 : Cond.methodLink "BalancedLine$Plan" 93 ⟨"java/lang/Math", "min", "(II)I"⟩ ∈ lw_g := lw_in 484 (by decide +kernel) (by decide +kernel)
theorem wk_489 : Cond.methodLink "BalancedLine" 93 ⟨"BalancedLine$Plan", "has", "(I)Z"⟩ ∈ lw_g := lw_in 489 (by decide +kernel) (by decide +kernel)
theorem wk_494 : Cond.methodLink "BalancedLine" 101 ⟨"BalancedLine$Plan", "hasPair", "(II)Z"⟩ ∈ lw_g := lw_in 494 (by decide +kernel) (by decide +kernel)
theorem wk_495 : Cond.methodLink "BalancedLine" 105 ⟨"BalancedLine$Plan", "isBehind", "(II)Z"⟩ ∈ lw_g := lw_in 495 (by decide +kernel) (by decide +kernel)
theorem wk_496 : Cond.methodLink "BalancedLine" 108 ⟨"BalancedLine$Plan", "wouldGoRound", "(II)Z"⟩ ∈ lw_g := lw_in 496 (by decide +kernel) (by decide +kernel)
theorem wk_497 : Cond.methodLink "BalancedLine" 111 ⟨"BalancedLine$Plan", "setOrder", "(IIZ)V"⟩ ∈ lw_g := lw_in 497 (by decide +kernel) (by decide +kernel)
theorem wk_498 : Cond.methodLink "BalancedLine" 115 ⟨"BalancedLine$Plan", "orders", "()I"⟩ ∈ lw_g := lw_in 498 (by decide +kernel) (by decide +kernel)
theorem wk_499 : Cond.instanceMethod ⟨"BalancedLine$Plan", "orders", "()I"⟩ ∈ lw_g := lw_in 499 (by decide +kernel) (by decide +kernel)
theorem wk_500 : Cond.selects "BalancedLine$Plan" ⟨"BalancedLine$Plan", "orders", "()I"⟩ ⟨"BalancedLine$Plan", "orders", "()I"⟩ ∈ lw_g := lw_in 500 (by decide +kernel) (by decide +kernel)
theorem wk_501 : Cond.code ⟨"BalancedLine$Plan", "orders", "()I"⟩ prog_4_method_16_code 3 (some .int) ∈ lw_g := lw_in 501 (by decide +kernel) (by decide +kernel)
theorem wk_502 : Cond.methodLink "BalancedLine$Plan" 62 ⟨"java/lang/Integer", "bitCount", "(I)I"⟩ ∈ lw_g := lw_in 502 (by decide +kernel) (by decide +kernel)
theorem wk_503 : Cond.static ⟨"java/lang/Integer", "bitCount", "(I)I"⟩ ∈ lw_g := lw_in 503 (by decide +kernel) (by decide +kernel)
theorem wk_504 : Cond.code ⟨"java/lang/Integer", "bitCount", "(I)I"⟩ prog_9_method_49_code 1 (some .int) ∈ lw_g := lw_in 504 (by decide +kernel) (by decide +kernel)
theorem wk_505 : Cond.constant "java/lang/Integer" 265 (1431655765 : Int32) ∈ lw_g := lw_in 505 (by decide +kernel) (by decide +kernel)
theorem wk_506 : Cond.constant "java/lang/Integer" 266 (858993459 : Int32) ∈ lw_g := lw_in 506 (by decide +kernel) (by decide +kernel)
theorem wk_507 : Cond.constant "java/lang/Integer" 267 (252645135 : Int32) ∈ lw_g := lw_in 507 (by decide +kernel) (by decide +kernel)
theorem wk_512 : Cond.methodLink "BalancedLine" 118 ⟨"BalancedLine$Plan", "zoneOf", "(II)I"⟩ ∈ lw_g := lw_in 512 (by decide +kernel) (by decide +kernel)
theorem wk_513 : Cond.methodLink "BalancedLine" 122 ⟨"BalancedLine$Plan", "setZone", "(III)V"⟩ ∈ lw_g := lw_in 513 (by decide +kernel) (by decide +kernel)
theorem wk_518 : Cond.methodLink "BalancedLine" 126 ⟨"BalancedLine$Past", "bringBack", "(LBalancedLine$Plan;)Z"⟩ ∈ lw_g := lw_in 518 (by decide +kernel) (by decide +kernel)
theorem wk_519 : Cond.instanceMethod ⟨"BalancedLine$Past", "bringBack", "(LBalancedLine$Plan;)Z"⟩ ∈ lw_g := lw_in 519 (by decide +kernel) (by decide +kernel)
theorem wk_520 : Cond.selects "BalancedLine$Past" ⟨"BalancedLine$Past", "bringBack", "(LBalancedLine$Plan;)Z"⟩ ⟨"BalancedLine$Past", "bringBack", "(LBalancedLine$Plan;)Z"⟩ ∈ lw_g := lw_in 520 (by decide +kernel) (by decide +kernel)
theorem wk_521 : Cond.code ⟨"BalancedLine$Past", "bringBack", "(LBalancedLine$Plan;)Z"⟩ prog_3_method_5_code 2 (some .boolean) ∈ lw_g := lw_in 521 (by decide +kernel) (by decide +kernel)
theorem wk_526 : Cond.methodLink "BalancedLine" 136 ⟨"BalancedLine$Plan", "behind", "(I)I"⟩ ∈ lw_g := lw_in 526 (by decide +kernel) (by decide +kernel)
theorem wk_527 : Cond.instanceMethod ⟨"BalancedLine$Plan", "behind", "(I)I"⟩ ∈ lw_g := lw_in 527 (by decide +kernel) (by decide +kernel)
theorem wk_528 : Cond.selects "BalancedLine$Plan" ⟨"BalancedLine$Plan", "behind", "(I)I"⟩ ⟨"BalancedLine$Plan", "behind", "(I)I"⟩ ∈ lw_g := lw_in 528 (by decide +kernel) (by decide +kernel)
theorem wk_529 : Cond.code ⟨"BalancedLine$Plan", "behind", "(I)I"⟩ prog_4_method_13_code 4 (some .int) ∈ lw_g := lw_in 529 (by decide +kernel) (by decide +kernel)
theorem wk_530 : Cond.methodLink "BalancedLine" 140 ⟨"BalancedLine$Plan", "allBehind", "(I)I"⟩ ∈ lw_g := lw_in 530 (by decide +kernel) (by decide +kernel)
theorem wk_535 : Cond.methodLink "BalancedLine" 149 ⟨"BalancedLine", "isStation", "(I)Z"⟩ ∈ lw_g := lw_in 535 (by decide +kernel) (by decide +kernel)
theorem wk_536 : Cond.static ⟨"BalancedLine", "isStation", "(I)Z"⟩ ∈ lw_g := lw_in 536 (by decide +kernel) (by decide +kernel)
theorem wk_537 : Cond.code ⟨"BalancedLine", "isStation", "(I)Z"⟩ prog_1_method_34_code 1 (some .boolean) ∈ lw_g := lw_in 537 (by decide +kernel) (by decide +kernel)
theorem wk_538 : Cond.methodLink "BalancedLine" 155 ⟨"BalancedLine$Plan", "whyNot", "(II)I"⟩ ∈ lw_g := lw_in 538 (by decide +kernel) (by decide +kernel)
theorem wk_539 : Cond.methodLink "BalancedLine" 158 ⟨"BalancedLine$Plan", "putIn", "(I)I"⟩ ∈ lw_g := lw_in 539 (by decide +kernel) (by decide +kernel)
theorem wk_540 : Cond.instanceMethod ⟨"BalancedLine$Plan", "putIn", "(I)I"⟩ ∈ lw_g := lw_in 540 (by decide +kernel) (by decide +kernel)
theorem wk_541 : Cond.selects "BalancedLine$Plan" ⟨"BalancedLine$Plan", "putIn", "(I)I"⟩ ⟨"BalancedLine$Plan", "putIn", "(I)I"⟩ ∈ lw_g := lw_in 541 (by decide +kernel) (by decide +kernel)
theorem wk_542 : Cond.code ⟨"BalancedLine$Plan", "putIn", "(I)I"⟩ prog_4_method_22_code 4 (some .int) ∈ lw_g := lw_in 542 (by decide +kernel) (by decide +kernel)
theorem wk_543 : Cond.methodLink "BalancedLine" 161 ⟨"BalancedLine$Plan", "timeOf", "(I)I"⟩ ∈ lw_g := lw_in 543 (by decide +kernel) (by decide +kernel)
theorem wk_544 : Cond.instanceMethod ⟨"BalancedLine$Plan", "timeOf", "(I)I"⟩ ∈ lw_g := lw_in 544 (by decide +kernel) (by decide +kernel)
theorem wk_545 : Cond.selects "BalancedLine$Plan" ⟨"BalancedLine$Plan", "timeOf", "(I)I"⟩ ⟨"BalancedLine$Plan", "timeOf", "(I)I"⟩ ∈ lw_g := lw_in 545 (by decide +kernel) (by decide +kernel)
theorem wk_546 : Cond.code ⟨"BalancedLine$Plan", "timeOf", "(I)I"⟩ prog_4_method_18_code 4 (some .int) ∈ lw_g := lw_in 546 (by decide +kernel) (by decide +kernel)
theorem wk_567 : Cond.methodLink "BalancedLine" 164 ⟨"BalancedLine$Study", "fewestByHand", "()I"⟩ ∈ lw_g := lw_in 567 (by decide +kernel) (by decide +kernel)
theorem wk_568 : Cond.instanceMethod ⟨"BalancedLine$Study", "fewestByHand", "()I"⟩ ∈ lw_g := lw_in 568 (by decide +kernel) (by decide +kernel)
theorem wk_569 : Cond.selects "BalancedLine$Study" ⟨"BalancedLine$Study", "fewestByHand", "()I"⟩ ⟨"BalancedLine$Study", "fewestByHand", "()I"⟩ ∈ lw_g := lw_in 569 (by decide +kernel) (by decide +kernel)
theorem wk_570 : Cond.code ⟨"BalancedLine$Study", "fewestByHand", "()I"⟩ prog_6_method_8_code 1 (some .int) ∈ lw_g := lw_in 570 (by decide +kernel) (by decide +kernel)
theorem wk_571 : Cond.methodLink "BalancedLine$Study" 59 ⟨"BalancedLine$Study", "measureNow", "()V"⟩ ∈ lw_g := lw_in 571 (by decide +kernel) (by decide +kernel)
theorem wk_573 : Cond.instanceMethod ⟨"BalancedLine$Study", "measureNow", "()V"⟩ ∈ lw_g := lw_in 573 (by decide +kernel) (by decide +kernel)
theorem wk_574 : Cond.code ⟨"BalancedLine$Study", "measureNow", "()V"⟩ prog_6_method_4_code 1 none ∈ lw_g := lw_in 574 (by decide +kernel) (by decide +kernel)
theorem wk_575 : Cond.methodLink "BalancedLine$Study" 58 ⟨"BalancedLine$Study", "measure", "(LBalancedLine$Plan;)V"⟩ ∈ lw_g := lw_in 575 (by decide +kernel) (by decide +kernel)
theorem wk_577 : Cond.instanceMethod ⟨"BalancedLine$Study", "measure", "(LBalancedLine$Plan;)V"⟩ ∈ lw_g := lw_in 577 (by decide +kernel) (by decide +kernel)
theorem wk_578 : Cond.code ⟨"BalancedLine$Study", "measure", "(LBalancedLine$Plan;)V"⟩ prog_6_method_3_code 2 none ∈ lw_g := lw_in 578 (by decide +kernel) (by decide +kernel)
theorem wk_579 : Cond.methodLink "BalancedLine$Study" 50 ⟨"BalancedLine$Lines", "hasRoomFor", "(I)Z"⟩ ∈ lw_g := lw_in 579 (by decide +kernel) (by decide +kernel)
theorem wk_580 : Cond.instanceMethod ⟨"BalancedLine$Lines", "hasRoomFor", "(I)Z"⟩ ∈ lw_g := lw_in 580 (by decide +kernel) (by decide +kernel)
theorem wk_581 : Cond.selects "BalancedLine$Lines" ⟨"BalancedLine$Lines", "hasRoomFor", "(I)Z"⟩ ⟨"BalancedLine$Lines", "hasRoomFor", "(I)Z"⟩ ∈ lw_g := lw_in 581 (by decide +kernel) (by decide +kernel)
theorem wk_582 : Cond.code ⟨"BalancedLine$Lines", "hasRoomFor", "(I)Z"⟩ prog_2_method_2_code 2 (some .boolean) ∈ lw_g := lw_in 582 (by decide +kernel) (by decide +kernel)
theorem wk_583 : Cond.methodLink "BalancedLine$Study" 54 ⟨"BalancedLine$Lines", "measure", "(LBalancedLine$Plan;)V"⟩ ∈ lw_g := lw_in 583 (by decide +kernel) (by decide +kernel)
theorem wk_584 : Cond.instanceMethod ⟨"BalancedLine$Lines", "measure", "(LBalancedLine$Plan;)V"⟩ ∈ lw_g := lw_in 584 (by decide +kernel) (by decide +kernel)
theorem wk_585 : Cond.selects "BalancedLine$Lines" ⟨"BalancedLine$Lines", "measure", "(LBalancedLine$Plan;)V"⟩ ⟨"BalancedLine$Lines", "measure", "(LBalancedLine$Plan;)V"⟩ ∈ lw_g := lw_in 585 (by decide +kernel) (by decide +kernel)
theorem wk_586 : Cond.code ⟨"BalancedLine$Lines", "measure", "(LBalancedLine$Plan;)V"⟩ prog_2_method_4_code 8 none ∈ lw_g := lw_in 586 (by decide +kernel) (by decide +kernel)
theorem wk_587 : Cond.methodLink "BalancedLine$Lines" 59 ⟨"BalancedLine$Plan", "everyTask", "()I"⟩ ∈ lw_g := lw_in 587 (by decide +kernel) (by decide +kernel)
theorem wk_588 : Cond.instanceMethod ⟨"BalancedLine$Plan", "everyTask", "()I"⟩ ∈ lw_g := lw_in 588 (by decide +kernel) (by decide +kernel)
theorem wk_589 : Cond.selects "BalancedLine$Plan" ⟨"BalancedLine$Plan", "everyTask", "()I"⟩ ⟨"BalancedLine$Plan", "everyTask", "()I"⟩ ∈ lw_g := lw_in 589 (by decide +kernel) (by decide +kernel)
theorem wk_590 : Cond.code ⟨"BalancedLine$Plan", "everyTask", "()I"⟩ prog_4_method_19_code 1 (some .int) ∈ lw_g := lw_in 590 (by decide +kernel) (by decide +kernel)
theorem wk_591 : Cond.methodLink "BalancedLine$Lines" 72 ⟨"BalancedLine$Lines", "placeShift", "(I)I"⟩ ∈ lw_g := lw_in 591 (by decide +kernel) (by decide +kernel)
theorem wk_592 : Cond.static ⟨"BalancedLine$Lines", "placeShift", "(I)I"⟩ ∈ lw_g := lw_in 592 (by decide +kernel) (by decide +kernel)
theorem wk_593 : Cond.code ⟨"BalancedLine$Lines", "placeShift", "(I)I"⟩ prog_2_method_3_code 1 (some .int) ∈ lw_g := lw_in 593 (by decide +kernel) (by decide +kernel)
theorem wk_594 : Cond.methodLink "BalancedLine$Lines" 91 ⟨"BalancedLine$Lines", "fit", "(I)V"⟩ ∈ lw_g := lw_in 594 (by decide +kernel) (by decide +kernel)
theorem wk_595 : Cond.instanceMethod ⟨"BalancedLine$Lines", "fit", "(I)V"⟩ ∈ lw_g := lw_in 595 (by decide +kernel) (by decide +kernel)
theorem wk_596 : Cond.selects "BalancedLine$Lines" ⟨"BalancedLine$Lines", "fit", "(I)V"⟩ ⟨"BalancedLine$Lines", "fit", "(I)V"⟩ ∈ lw_g := lw_in 596 (by decide +kernel) (by decide +kernel)
theorem wk_597 : Cond.code ⟨"BalancedLine$Lines", "fit", "(I)V"⟩ prog_2_method_5_code 4 none ∈ lw_g := lw_in 597 (by decide +kernel) (by decide +kernel)
theorem wk_598 : Cond.methodLink "BalancedLine$Study" 99 ⟨"BalancedLine$Lines", "fix", "(LBalancedLine$Plan;)V"⟩ ∈ lw_g := lw_in 598 (by decide +kernel) (by decide +kernel)
theorem wk_599 : Cond.instanceMethod ⟨"BalancedLine$Lines", "fix", "(LBalancedLine$Plan;)V"⟩ ∈ lw_g := lw_in 599 (by decide +kernel) (by decide +kernel)
theorem wk_600 : Cond.selects "BalancedLine$Lines" ⟨"BalancedLine$Lines", "fix", "(LBalancedLine$Plan;)V"⟩ ⟨"BalancedLine$Lines", "fix", "(LBalancedLine$Plan;)V"⟩ ∈ lw_g := lw_in 600 (by decide +kernel) (by decide +kernel)
theorem wk_601 : Cond.code ⟨"BalancedLine$Lines", "fix", "(LBalancedLine$Plan;)V"⟩ prog_2_method_7_code 3 none ∈ lw_g := lw_in 601 (by decide +kernel) (by decide +kernel)
theorem wk_602 : Cond.methodLink "BalancedLine$Lines" 108 ⟨"BalancedLine$Plan", "allPut", "()I"⟩ ∈ lw_g := lw_in 602 (by decide +kernel) (by decide +kernel)
theorem wk_603 : Cond.instanceMethod ⟨"BalancedLine$Plan", "allPut", "()I"⟩ ∈ lw_g := lw_in 603 (by decide +kernel) (by decide +kernel)
theorem wk_604 : Cond.selects "BalancedLine$Plan" ⟨"BalancedLine$Plan", "allPut", "()I"⟩ ⟨"BalancedLine$Plan", "allPut", "()I"⟩ ∈ lw_g := lw_in 604 (by decide +kernel) (by decide +kernel)
theorem wk_605 : Cond.code ⟨"BalancedLine$Plan", "allPut", "()I"⟩ prog_4_method_23_code 1 (some .int) ∈ lw_g := lw_in 605 (by decide +kernel) (by decide +kernel)
theorem wk_606 : Cond.methodLink "BalancedLine$Plan" 67 ⟨"BalancedLine$Plan", "everyTask", "()I"⟩ ∈ lw_g := lw_in 606 (by decide +kernel) (by decide +kernel)
theorem wk_607 : Cond.methodLink "BalancedLine$Plan" 80 ⟨"BalancedLine$Plan", "putIn", "(I)I"⟩ ∈ lw_g := lw_in 607 (by decide +kernel) (by decide +kernel)
theorem wk_608 : Cond.methodLink "BalancedLine$Lines" 111 ⟨"BalancedLine$Plan", "putIn", "(I)I"⟩ ∈ lw_g := lw_in 608 (by decide +kernel) (by decide +kernel)
theorem wk_609 : Cond.methodLink "BalancedLine$Study" 102 ⟨"BalancedLine$Plan", "lastSpot", "()I"⟩ ∈ lw_g := lw_in 609 (by decide +kernel) (by decide +kernel)
theorem wk_610 : Cond.instanceMethod ⟨"BalancedLine$Plan", "lastSpot", "()I"⟩ ∈ lw_g := lw_in 610 (by decide +kernel) (by decide +kernel)
theorem wk_611 : Cond.selects "BalancedLine$Plan" ⟨"BalancedLine$Plan", "lastSpot", "()I"⟩ ⟨"BalancedLine$Plan", "lastSpot", "()I"⟩ ∈ lw_g := lw_in 611 (by decide +kernel) (by decide +kernel)
theorem wk_612 : Cond.code ⟨"BalancedLine$Plan", "lastSpot", "()I"⟩ prog_4_method_25_code 3 (some .int) ∈ lw_g := lw_in 612 (by decide +kernel) (by decide +kernel)
theorem wk_613 : Cond.methodLink "BalancedLine$Plan" 74 ⟨"java/lang/Math", "max", "(II)I"⟩ ∈ lw_g := lw_in 613 (by decide +kernel) (by decide +kernel)
theorem wk_614 : Cond.methodLink "BalancedLine$Study" 65 ⟨"BalancedLine$Plan", "highestFloor", "()I"⟩ ∈ lw_g := lw_in 614 (by decide +kernel) (by decide +kernel)
theorem wk_615 : Cond.instanceMethod ⟨"BalancedLine$Plan", "highestFloor", "()I"⟩ ∈ lw_g := lw_in 615 (by decide +kernel) (by decide +kernel)
theorem wk_616 : Cond.selects "BalancedLine$Plan" ⟨"BalancedLine$Plan", "highestFloor", "()I"⟩ ⟨"BalancedLine$Plan", "highestFloor", "()I"⟩ ∈ lw_g := lw_in 616 (by decide +kernel) (by decide +kernel)
theorem wk_617 : Cond.code ⟨"BalancedLine$Plan", "highestFloor", "()I"⟩ prog_4_method_33_code 1 (some .int) ∈ lw_g := lw_in 617 (by decide +kernel) (by decide +kernel)
theorem wk_618 : Cond.methodLink "BalancedLine$Plan" 108 ⟨"BalancedLine$Plan", "floorOfAllTimes", "()I"⟩ ∈ lw_g := lw_in 618 (by decide +kernel) (by decide +kernel)
theorem wk_619 : Cond.instanceMethod ⟨"BalancedLine$Plan", "floorOfAllTimes", "()I"⟩ ∈ lw_g := lw_in 619 (by decide +kernel) (by decide +kernel)
theorem wk_620 : Cond.selects "BalancedLine$Plan" ⟨"BalancedLine$Plan", "floorOfAllTimes", "()I"⟩ ⟨"BalancedLine$Plan", "floorOfAllTimes", "()I"⟩ ∈ lw_g := lw_in 620 (by decide +kernel) (by decide +kernel)
theorem wk_621 : Cond.code ⟨"BalancedLine$Plan", "floorOfAllTimes", "()I"⟩ prog_4_method_30_code 1 (some .int) ∈ lw_g := lw_in 621 (by decide +kernel) (by decide +kernel)
theorem wk_622 : Cond.methodLink "BalancedLine$Plan" 99 ⟨"BalancedLine$Plan", "total", "()I"⟩ ∈ lw_g := lw_in 622 (by decide +kernel) (by decide +kernel)
theorem wk_623 : Cond.instanceMethod ⟨"BalancedLine$Plan", "total", "()I"⟩ ∈ lw_g := lw_in 623 (by decide +kernel) (by decide +kernel)
theorem wk_624 : Cond.selects "BalancedLine$Plan" ⟨"BalancedLine$Plan", "total", "()I"⟩ ⟨"BalancedLine$Plan", "total", "()I"⟩ ∈ lw_g := lw_in 624 (by decide +kernel) (by decide +kernel)
theorem wk_625 : Cond.code ⟨"BalancedLine$Plan", "total", "()I"⟩ prog_4_method_20_code 1 (some .int) ∈ lw_g := lw_in 625 (by decide +kernel) (by decide +kernel)
theorem wk_626 : Cond.methodLink "BalancedLine$Plan" 71 ⟨"BalancedLine$Plan", "timeOf", "(I)I"⟩ ∈ lw_g := lw_in 626 (by decide +kernel) (by decide +kernel)
theorem wk_627 : Cond.methodLink "BalancedLine$Plan" 102 ⟨"BalancedLine$Plan", "roundedUp", "(II)I"⟩ ∈ lw_g := lw_in 627 (by decide +kernel) (by decide +kernel)
theorem wk_628 : Cond.static ⟨"BalancedLine$Plan", "roundedUp", "(II)I"⟩ ∈ lw_g := lw_in 628 (by decide +kernel) (by decide +kernel)
theorem wk_629 : Cond.code ⟨"BalancedLine$Plan", "roundedUp", "(II)I"⟩ prog_4_method_34_code 2 (some .int) ∈ lw_g := lw_in 629 (by decide +kernel) (by decide +kernel)
theorem wk_630 : Cond.methodLink "BalancedLine$Plan" 111 ⟨"BalancedLine$Plan", "floorOfHalves", "()I"⟩ ∈ lw_g := lw_in 630 (by decide +kernel) (by decide +kernel)
theorem wk_631 : Cond.instanceMethod ⟨"BalancedLine$Plan", "floorOfHalves", "()I"⟩ ∈ lw_g := lw_in 631 (by decide +kernel) (by decide +kernel)
theorem wk_632 : Cond.selects "BalancedLine$Plan" ⟨"BalancedLine$Plan", "floorOfHalves", "()I"⟩ ⟨"BalancedLine$Plan", "floorOfHalves", "()I"⟩ ∈ lw_g := lw_in 632 (by decide +kernel) (by decide +kernel)
theorem wk_633 : Cond.code ⟨"BalancedLine$Plan", "floorOfHalves", "()I"⟩ prog_4_method_31_code 4 (some .int) ∈ lw_g := lw_in 633 (by decide +kernel) (by decide +kernel)
theorem wk_634 : Cond.methodLink "BalancedLine$Plan" 114 ⟨"BalancedLine$Plan", "floorOfChains", "()I"⟩ ∈ lw_g := lw_in 634 (by decide +kernel) (by decide +kernel)
theorem wk_635 : Cond.instanceMethod ⟨"BalancedLine$Plan", "floorOfChains", "()I"⟩ ∈ lw_g := lw_in 635 (by decide +kernel) (by decide +kernel)
theorem wk_636 : Cond.selects "BalancedLine$Plan" ⟨"BalancedLine$Plan", "floorOfChains", "()I"⟩ ⟨"BalancedLine$Plan", "floorOfChains", "()I"⟩ ∈ lw_g := lw_in 636 (by decide +kernel) (by decide +kernel)
theorem wk_637 : Cond.code ⟨"BalancedLine$Plan", "floorOfChains", "()I"⟩ prog_4_method_32_code 3 (some .int) ∈ lw_g := lw_in 637 (by decide +kernel) (by decide +kernel)
theorem wk_638 : Cond.methodLink "BalancedLine$Plan" 105 ⟨"BalancedLine$Plan", "allAhead", "(I)I"⟩ ∈ lw_g := lw_in 638 (by decide +kernel) (by decide +kernel)
theorem wk_639 : Cond.instanceMethod ⟨"BalancedLine$Plan", "allAhead", "(I)I"⟩ ∈ lw_g := lw_in 639 (by decide +kernel) (by decide +kernel)
theorem wk_640 : Cond.selects "BalancedLine$Plan" ⟨"BalancedLine$Plan", "allAhead", "(I)I"⟩ ⟨"BalancedLine$Plan", "allAhead", "(I)I"⟩ ∈ lw_g := lw_in 640 (by decide +kernel) (by decide +kernel)
theorem wk_641 : Cond.code ⟨"BalancedLine$Plan", "allAhead", "(I)I"⟩ prog_4_method_15_code 5 (some .int) ∈ lw_g := lw_in 641 (by decide +kernel) (by decide +kernel)
theorem wk_642 : Cond.methodLink "BalancedLine$Study" 105 ⟨"java/lang/Math", "max", "(II)I"⟩ ∈ lw_g := lw_in 642 (by decide +kernel) (by decide +kernel)
theorem wk_643 : Cond.methodLink "BalancedLine$Study" 69 ⟨"BalancedLine$Lines", "search", "(II)I"⟩ ∈ lw_g := lw_in 643 (by decide +kernel) (by decide +kernel)
theorem wk_644 : Cond.instanceMethod ⟨"BalancedLine$Lines", "search", "(II)I"⟩ ∈ lw_g := lw_in 644 (by decide +kernel) (by decide +kernel)
theorem wk_645 : Cond.selects "BalancedLine$Lines" ⟨"BalancedLine$Lines", "search", "(II)I"⟩ ⟨"BalancedLine$Lines", "search", "(II)I"⟩ ∈ lw_g := lw_in 645 (by decide +kernel) (by decide +kernel)
theorem wk_646 : Cond.code ⟨"BalancedLine$Lines", "search", "(II)I"⟩ prog_2_method_8_code 4 (some .int) ∈ lw_g := lw_in 646 (by decide +kernel) (by decide +kernel)
theorem wk_647 : Cond.methodLink "BalancedLine$Lines" 114 ⟨"BalancedLine$Lines", "reach", "(II)V"⟩ ∈ lw_g := lw_in 647 (by decide +kernel) (by decide +kernel)
theorem wk_649 : Cond.instanceMethod ⟨"BalancedLine$Lines", "reach", "(II)V"⟩ ∈ lw_g := lw_in 649 (by decide +kernel) (by decide +kernel)
theorem wk_650 : Cond.code ⟨"BalancedLine$Lines", "reach", "(II)V"⟩ prog_2_method_10_code 5 none ∈ lw_g := lw_in 650 (by decide +kernel) (by decide +kernel)
theorem wk_651 : Cond.methodLink "BalancedLine$Lines" 102 ⟨"java/util/Arrays", "fill", "([II)V"⟩ ∈ lw_g := lw_in 651 (by decide +kernel) (by decide +kernel)
theorem wk_652 : Cond.methodLink "BalancedLine$Lines" 118 ⟨"BalancedLine$Lines", "canEndWithin", "(II)Z"⟩ ∈ lw_g := lw_in 652 (by decide +kernel) (by decide +kernel)
theorem wk_654 : Cond.instanceMethod ⟨"BalancedLine$Lines", "canEndWithin", "(II)Z"⟩ ∈ lw_g := lw_in 654 (by decide +kernel) (by decide +kernel)
theorem wk_655 : Cond.code ⟨"BalancedLine$Lines", "canEndWithin", "(II)Z"⟩ prog_2_method_11_code 4 (some .boolean) ∈ lw_g := lw_in 655 (by decide +kernel) (by decide +kernel)
theorem wk_656 : Cond.methodLink "BalancedLine$Lines" 122 ⟨"BalancedLine$Lines", "stepFrom", "(I)V"⟩ ∈ lw_g := lw_in 656 (by decide +kernel) (by decide +kernel)
theorem wk_658 : Cond.instanceMethod ⟨"BalancedLine$Lines", "stepFrom", "(I)V"⟩ ∈ lw_g := lw_in 658 (by decide +kernel) (by decide +kernel)
theorem wk_659 : Cond.code ⟨"BalancedLine$Lines", "stepFrom", "(I)V"⟩ prog_2_method_12_code 10 none ∈ lw_g := lw_in 659 (by decide +kernel) (by decide +kernel)
theorem wk_660 : Cond.methodLink "BalancedLine$Lines" 125 ⟨"BalancedLine$Lines", "stationDue", "(I)I"⟩ ∈ lw_g := lw_in 660 (by decide +kernel) (by decide +kernel)
theorem wk_662 : Cond.instanceMethod ⟨"BalancedLine$Lines", "stationDue", "(I)I"⟩ ∈ lw_g := lw_in 662 (by decide +kernel) (by decide +kernel)
theorem wk_663 : Cond.code ⟨"BalancedLine$Lines", "stationDue", "(I)I"⟩ prog_2_method_13_code 4 (some .int) ∈ lw_g := lw_in 663 (by decide +kernel) (by decide +kernel)
theorem wk_668 : Cond.methodLink "BalancedLine" 167 ⟨"BalancedLine$Study", "solve", "()V"⟩ ∈ lw_g := lw_in 668 (by decide +kernel) (by decide +kernel)
theorem wk_669 : Cond.instanceMethod ⟨"BalancedLine$Study", "solve", "()V"⟩ ∈ lw_g := lw_in 669 (by decide +kernel) (by decide +kernel)
theorem wk_670 : Cond.selects "BalancedLine$Study" ⟨"BalancedLine$Study", "solve", "()V"⟩ ⟨"BalancedLine$Study", "solve", "()V"⟩ ∈ lw_g := lw_in 670 (by decide +kernel) (by decide +kernel)
theorem wk_671 : Cond.code ⟨"BalancedLine$Study", "solve", "()V"⟩ prog_6_method_5_code 1 none ∈ lw_g := lw_in 671 (by decide +kernel) (by decide +kernel)
theorem wk_672 : Cond.methodLink "BalancedLine$Study" 62 ⟨"BalancedLine$Lines", "freeAll", "()V"⟩ ∈ lw_g := lw_in 672 (by decide +kernel) (by decide +kernel)
theorem wk_673 : Cond.instanceMethod ⟨"BalancedLine$Lines", "freeAll", "()V"⟩ ∈ lw_g := lw_in 673 (by decide +kernel) (by decide +kernel)
theorem wk_674 : Cond.selects "BalancedLine$Lines" ⟨"BalancedLine$Lines", "freeAll", "()V"⟩ ⟨"BalancedLine$Lines", "freeAll", "()V"⟩ ∈ lw_g := lw_in 674 (by decide +kernel) (by decide +kernel)
theorem wk_675 : Cond.code ⟨"BalancedLine$Lines", "freeAll", "()V"⟩ prog_2_method_6_code 1 none ∈ lw_g := lw_in 675 (by decide +kernel) (by decide +kernel)
theorem wk_676 : Cond.methodLink "BalancedLine$Study" 79 ⟨"BalancedLine$Lines", "traceBest", "()V"⟩ ∈ lw_g := lw_in 676 (by decide +kernel) (by decide +kernel)
theorem wk_677 : Cond.instanceMethod ⟨"BalancedLine$Lines", "traceBest", "()V"⟩ ∈ lw_g := lw_in 677 (by decide +kernel) (by decide +kernel)
theorem wk_678 : Cond.selects "BalancedLine$Lines" ⟨"BalancedLine$Lines", "traceBest", "()V"⟩ ⟨"BalancedLine$Lines", "traceBest", "()V"⟩ ∈ lw_g := lw_in 678 (by decide +kernel) (by decide +kernel)
theorem wk_679 : Cond.code ⟨"BalancedLine$Lines", "traceBest", "()V"⟩ prog_2_method_14_code 2 none ∈ lw_g := lw_in 679 (by decide +kernel) (by decide +kernel)
theorem wk_680 : Cond.methodLink "BalancedLine$Lines" 128 ⟨"BalancedLine$Lines", "traceFrom", "(I)V"⟩ ∈ lw_g := lw_in 680 (by decide +kernel) (by decide +kernel)
theorem wk_682 : Cond.instanceMethod ⟨"BalancedLine$Lines", "traceFrom", "(I)V"⟩ ∈ lw_g := lw_in 682 (by decide +kernel) (by decide +kernel)
theorem wk_683 : Cond.code ⟨"BalancedLine$Lines", "traceFrom", "(I)V"⟩ prog_2_method_15_code 5 none ∈ lw_g := lw_in 683 (by decide +kernel) (by decide +kernel)
theorem wk_685 : Cond.methodLink "BalancedLine$Lines" 135 ⟨"BalancedLine$Lines", "traceStep", "(III)V"⟩ ∈ lw_g := lw_in 685 (by decide +kernel) (by decide +kernel)
theorem wk_687 : Cond.instanceMethod ⟨"BalancedLine$Lines", "traceStep", "(III)V"⟩ ∈ lw_g := lw_in 687 (by decide +kernel) (by decide +kernel)
theorem wk_688 : Cond.code ⟨"BalancedLine$Lines", "traceStep", "(III)V"⟩ prog_2_method_16_code 7 none ∈ lw_g := lw_in 688 (by decide +kernel) (by decide +kernel)
theorem wk_689 : Cond.constant "BalancedLine$Lines" 139 (1000000 : Int32) ∈ lw_g := lw_in 689 (by decide +kernel) (by decide +kernel)
theorem wk_690 : Cond.methodLink "BalancedLine$Study" 82 ⟨"BalancedLine$Lines", "lineCount", "()I"⟩ ∈ lw_g := lw_in 690 (by decide +kernel) (by decide +kernel)
theorem wk_691 : Cond.instanceMethod ⟨"BalancedLine$Lines", "lineCount", "()I"⟩ ∈ lw_g := lw_in 691 (by decide +kernel) (by decide +kernel)
theorem wk_692 : Cond.selects "BalancedLine$Lines" ⟨"BalancedLine$Lines", "lineCount", "()I"⟩ ⟨"BalancedLine$Lines", "lineCount", "()I"⟩ ∈ lw_g := lw_in 692 (by decide +kernel) (by decide +kernel)
theorem wk_693 : Cond.code ⟨"BalancedLine$Lines", "lineCount", "()I"⟩ prog_2_method_17_code 1 (some .int) ∈ lw_g := lw_in 693 (by decide +kernel) (by decide +kernel)
theorem wk_694 : Cond.methodLink "BalancedLine$Study" 84 ⟨"BalancedLine$Lines", "bestPlaces", "()J"⟩ ∈ lw_g := lw_in 694 (by decide +kernel) (by decide +kernel)
theorem wk_695 : Cond.instanceMethod ⟨"BalancedLine$Lines", "bestPlaces", "()J"⟩ ∈ lw_g := lw_in 695 (by decide +kernel) (by decide +kernel)
theorem wk_696 : Cond.selects "BalancedLine$Lines" ⟨"BalancedLine$Lines", "bestPlaces", "()J"⟩ ⟨"BalancedLine$Lines", "bestPlaces", "()J"⟩ ∈ lw_g := lw_in 696 (by decide +kernel) (by decide +kernel)
theorem wk_697 : Cond.code ⟨"BalancedLine$Lines", "bestPlaces", "()J"⟩ prog_2_method_18_code 1 (some .long) ∈ lw_g := lw_in 697 (by decide +kernel) (by decide +kernel)
theorem wk_698 : Cond.methodLink "BalancedLine$Study" 91 ⟨"BalancedLine$Lines", "copyHeldAt", "([I)V"⟩ ∈ lw_g := lw_in 698 (by decide +kernel) (by decide +kernel)
theorem wk_699 : Cond.instanceMethod ⟨"BalancedLine$Lines", "copyHeldAt", "([I)V"⟩ ∈ lw_g := lw_in 699 (by decide +kernel) (by decide +kernel)
theorem wk_700 : Cond.selects "BalancedLine$Lines" ⟨"BalancedLine$Lines", "copyHeldAt", "([I)V"⟩ ⟨"BalancedLine$Lines", "copyHeldAt", "([I)V"⟩ ∈ lw_g := lw_in 700 (by decide +kernel) (by decide +kernel)
theorem wk_701 : Cond.code ⟨"BalancedLine$Lines", "copyHeldAt", "([I)V"⟩ prog_2_method_19_code 2 none ∈ lw_g := lw_in 701 (by decide +kernel) (by decide +kernel)
theorem wk_702 : Cond.methodLink "BalancedLine$Lines" 140 ⟨"java/lang/System", "arraycopy", "(Ljava/lang/Object;ILjava/lang/Object;II)V"⟩ ∈ lw_g := lw_in 702 (by decide +kernel) (by decide +kernel)
theorem wk_703 : Cond.methodLink "BalancedLine" 173 ⟨"BalancedLine$Study", "bestSpot", "(I)I"⟩ ∈ lw_g := lw_in 703 (by decide +kernel) (by decide +kernel)
theorem wk_704 : Cond.instanceMethod ⟨"BalancedLine$Study", "bestSpot", "(I)I"⟩ ∈ lw_g := lw_in 704 (by decide +kernel) (by decide +kernel)
theorem wk_705 : Cond.selects "BalancedLine$Study" ⟨"BalancedLine$Study", "bestSpot", "(I)I"⟩ ⟨"BalancedLine$Study", "bestSpot", "(I)I"⟩ ∈ lw_g := lw_in 705 (by decide +kernel) (by decide +kernel)
theorem wk_706 : Cond.code ⟨"BalancedLine$Study", "bestSpot", "(I)I"⟩ prog_6_method_6_code 2 (some .int) ∈ lw_g := lw_in 706 (by decide +kernel) (by decide +kernel)
theorem wk_707 : Cond.methodLink "BalancedLine$Study" 95 ⟨"BalancedLine$Lines", "placeShift", "(I)I"⟩ ∈ lw_g := lw_in 707 (by decide +kernel) (by decide +kernel)
theorem wk_712 : Cond.methodLink "BalancedLine" 176 ⟨"BalancedLine$Plan", "floorOfAllTimes", "()I"⟩ ∈ lw_g := lw_in 712 (by decide +kernel) (by decide +kernel)
theorem wk_713 : Cond.methodLink "BalancedLine" 179 ⟨"BalancedLine$Plan", "floorOfHalves", "()I"⟩ ∈ lw_g := lw_in 713 (by decide +kernel) (by decide +kernel)
theorem wk_714 : Cond.methodLink "BalancedLine" 182 ⟨"BalancedLine$Plan", "floorOfChains", "()I"⟩ ∈ lw_g := lw_in 714 (by decide +kernel) (by decide +kernel)
theorem wk_719 : Cond.methodLink "BalancedLine" 185 ⟨"BalancedLine$Study", "listedLoad", "(IZ)I"⟩ ∈ lw_g := lw_in 719 (by decide +kernel) (by decide +kernel)
theorem wk_720 : Cond.instanceMethod ⟨"BalancedLine$Study", "listedLoad", "(IZ)I"⟩ ∈ lw_g := lw_in 720 (by decide +kernel) (by decide +kernel)
theorem wk_721 : Cond.selects "BalancedLine$Study" ⟨"BalancedLine$Study", "listedLoad", "(IZ)I"⟩ ⟨"BalancedLine$Study", "listedLoad", "(IZ)I"⟩ ∈ lw_g := lw_in 721 (by decide +kernel) (by decide +kernel)
theorem wk_722 : Cond.code ⟨"BalancedLine$Study", "listedLoad", "(IZ)I"⟩ prog_6_method_9_code 3 (some .int) ∈ lw_g := lw_in 722 (by decide +kernel) (by decide +kernel)
theorem wk_723 : Cond.methodLink "BalancedLine$Study" 110 ⟨"BalancedLine$Lines", "listedLoad", "(IZ)I"⟩ ∈ lw_g := lw_in 723 (by decide +kernel) (by decide +kernel)
theorem wk_724 : Cond.instanceMethod ⟨"BalancedLine$Lines", "listedLoad", "(IZ)I"⟩ ∈ lw_g := lw_in 724 (by decide +kernel) (by decide +kernel)
theorem wk_725 : Cond.selects "BalancedLine$Lines" ⟨"BalancedLine$Lines", "listedLoad", "(IZ)I"⟩ ⟨"BalancedLine$Lines", "listedLoad", "(IZ)I"⟩ ∈ lw_g := lw_in 725 (by decide +kernel) (by decide +kernel)
theorem wk_726 : Cond.code ⟨"BalancedLine$Lines", "listedLoad", "(IZ)I"⟩ prog_2_method_20_code 5 (some .int) ∈ lw_g := lw_in 726 (by decide +kernel) (by decide +kernel)
theorem wk_727 : Cond.methodLink "BalancedLine$Lines" 146 ⟨"BalancedLine$Lines", "findCovered", "()V"⟩ ∈ lw_g := lw_in 727 (by decide +kernel) (by decide +kernel)
theorem wk_729 : Cond.instanceMethod ⟨"BalancedLine$Lines", "findCovered", "()V"⟩ ∈ lw_g := lw_in 729 (by decide +kernel) (by decide +kernel)
theorem wk_730 : Cond.code ⟨"BalancedLine$Lines", "findCovered", "()V"⟩ prog_2_method_21_code 4 none ∈ lw_g := lw_in 730 (by decide +kernel) (by decide +kernel)
theorem wk_751 : Cond.methodLink "BalancedLine" 192 ⟨"BalancedLine$Study", "possibleSpots", "(I)I"⟩ ∈ lw_g := lw_in 751 (by decide +kernel) (by decide +kernel)
theorem wk_752 : Cond.instanceMethod ⟨"BalancedLine$Study", "possibleSpots", "(I)I"⟩ ∈ lw_g := lw_in 752 (by decide +kernel) (by decide +kernel)
theorem wk_753 : Cond.selects "BalancedLine$Study" ⟨"BalancedLine$Study", "possibleSpots", "(I)I"⟩ ⟨"BalancedLine$Study", "possibleSpots", "(I)I"⟩ ∈ lw_g := lw_in 753 (by decide +kernel) (by decide +kernel)
theorem wk_754 : Cond.code ⟨"BalancedLine$Study", "possibleSpots", "(I)I"⟩ prog_6_method_7_code 4 (some .int) ∈ lw_g := lw_in 754 (by decide +kernel) (by decide +kernel)
theorem wk_759 : Cond.methodLink "BalancedLine" 195 ⟨"BalancedLine$Study", "shortestCycle", "(I)I"⟩ ∈ lw_g := lw_in 759 (by decide +kernel) (by decide +kernel)
theorem wk_760 : Cond.instanceMethod ⟨"BalancedLine$Study", "shortestCycle", "(I)I"⟩ ∈ lw_g := lw_in 760 (by decide +kernel) (by decide +kernel)
theorem wk_761 : Cond.selects "BalancedLine$Study" ⟨"BalancedLine$Study", "shortestCycle", "(I)I"⟩ ⟨"BalancedLine$Study", "shortestCycle", "(I)I"⟩ ∈ lw_g := lw_in 761 (by decide +kernel) (by decide +kernel)
theorem wk_762 : Cond.code ⟨"BalancedLine$Study", "shortestCycle", "(I)I"⟩ prog_6_method_13_code 7 (some .int) ∈ lw_g := lw_in 762 (by decide +kernel) (by decide +kernel)
theorem wk_763 : Cond.methodLink "BalancedLine$Study" 126 ⟨"BalancedLine$Plan", "longestTime", "()I"⟩ ∈ lw_g := lw_in 763 (by decide +kernel) (by decide +kernel)
theorem wk_764 : Cond.instanceMethod ⟨"BalancedLine$Plan", "longestTime", "()I"⟩ ∈ lw_g := lw_in 764 (by decide +kernel) (by decide +kernel)
theorem wk_765 : Cond.selects "BalancedLine$Plan" ⟨"BalancedLine$Plan", "longestTime", "()I"⟩ ⟨"BalancedLine$Plan", "longestTime", "()I"⟩ ∈ lw_g := lw_in 765 (by decide +kernel) (by decide +kernel)
theorem wk_766 : Cond.code ⟨"BalancedLine$Plan", "longestTime", "()I"⟩ prog_4_method_21_code 3 (some .int) ∈ lw_g := lw_in 766 (by decide +kernel) (by decide +kernel)
theorem wk_767 : Cond.methodLink "BalancedLine$Study" 129 ⟨"BalancedLine$Plan", "total", "()I"⟩ ∈ lw_g := lw_in 767 (by decide +kernel) (by decide +kernel)
theorem wk_768 : Cond.methodLink "BalancedLine$Study" 132 ⟨"BalancedLine$Plan", "roundedUp", "(II)I"⟩ ∈ lw_g := lw_in 768 (by decide +kernel) (by decide +kernel)
theorem wk_769 : Cond.methodLink "BalancedLine$Study" 114 ⟨"BalancedLine$Plan", "copy", "(LBalancedLine$Plan;)V"⟩ ∈ lw_g := lw_in 769 (by decide +kernel) (by decide +kernel)
theorem wk_770 : Cond.methodLink "BalancedLine$Study" 135 ⟨"BalancedLine$Study", "hasLineBy", "(II)Z"⟩ ∈ lw_g := lw_in 770 (by decide +kernel) (by decide +kernel)
theorem wk_772 : Cond.instanceMethod ⟨"BalancedLine$Study", "hasLineBy", "(II)Z"⟩ ∈ lw_g := lw_in 772 (by decide +kernel) (by decide +kernel)
theorem wk_773 : Cond.code ⟨"BalancedLine$Study", "hasLineBy", "(II)Z"⟩ prog_6_method_14_code 3 (some .boolean) ∈ lw_g := lw_in 773 (by decide +kernel) (by decide +kernel)
theorem wk_774 : Cond.methodLink "BalancedLine$Study" 142 ⟨"BalancedLine$Lines", "fit", "(I)V"⟩ ∈ lw_g := lw_in 774 (by decide +kernel) (by decide +kernel)
theorem wk_775 : Cond.methodLink "BalancedLine$Study" 145 ⟨"BalancedLine$Lines", "hasLine", "(I)Z"⟩ ∈ lw_g := lw_in 775 (by decide +kernel) (by decide +kernel)
theorem wk_776 : Cond.instanceMethod ⟨"BalancedLine$Lines", "hasLine", "(I)Z"⟩ ∈ lw_g := lw_in 776 (by decide +kernel) (by decide +kernel)
theorem wk_777 : Cond.selects "BalancedLine$Lines" ⟨"BalancedLine$Lines", "hasLine", "(I)Z"⟩ ⟨"BalancedLine$Lines", "hasLine", "(I)Z"⟩ ∈ lw_g := lw_in 777 (by decide +kernel) (by decide +kernel)
theorem wk_778 : Cond.code ⟨"BalancedLine$Lines", "hasLine", "(I)Z"⟩ prog_2_method_9_code 2 (some .boolean) ∈ lw_g := lw_in 778 (by decide +kernel) (by decide +kernel)
theorem wk_779 : Cond.methodLink "BalancedLine$Study" 139 ⟨"java/lang/Math", "min", "(II)I"⟩ ∈ lw_g := lw_in 779 (by decide +kernel) (by decide +kernel)
theorem wk_784 : Cond.methodLink "BalancedLine" 198 ⟨"BalancedLine$Study", "fewestByCycle", "(I)I"⟩ ∈ lw_g := lw_in 784 (by decide +kernel) (by decide +kernel)
theorem wk_785 : Cond.instanceMethod ⟨"BalancedLine$Study", "fewestByCycle", "(I)I"⟩ ∈ lw_g := lw_in 785 (by decide +kernel) (by decide +kernel)
theorem wk_786 : Cond.selects "BalancedLine$Study" ⟨"BalancedLine$Study", "fewestByCycle", "(I)I"⟩ ⟨"BalancedLine$Study", "fewestByCycle", "(I)I"⟩ ∈ lw_g := lw_in 786 (by decide +kernel) (by decide +kernel)
theorem wk_787 : Cond.code ⟨"BalancedLine$Study", "fewestByCycle", "(I)I"⟩ prog_6_method_10_code 2 (some .int) ∈ lw_g := lw_in 787 (by decide +kernel) (by decide +kernel)
theorem wk_788 : Cond.methodLink "BalancedLine$Study" 120 ⟨"BalancedLine$Study", "fewestOfTrial", "()I"⟩ ∈ lw_g := lw_in 788 (by decide +kernel) (by decide +kernel)
theorem wk_790 : Cond.instanceMethod ⟨"BalancedLine$Study", "fewestOfTrial", "()I"⟩ ∈ lw_g := lw_in 790 (by decide +kernel) (by decide +kernel)
theorem wk_791 : Cond.code ⟨"BalancedLine$Study", "fewestOfTrial", "()I"⟩ prog_6_method_12_code 1 (some .int) ∈ lw_g := lw_in 791 (by decide +kernel) (by decide +kernel)
theorem wk_796 : Cond.methodLink "BalancedLine" 201 ⟨"BalancedLine$Study", "fewestByTime", "(II)I"⟩ ∈ lw_g := lw_in 796 (by decide +kernel) (by decide +kernel)
theorem wk_797 : Cond.instanceMethod ⟨"BalancedLine$Study", "fewestByTime", "(II)I"⟩ ∈ lw_g := lw_in 797 (by decide +kernel) (by decide +kernel)
theorem wk_798 : Cond.selects "BalancedLine$Study" ⟨"BalancedLine$Study", "fewestByTime", "(II)I"⟩ ⟨"BalancedLine$Study", "fewestByTime", "(II)I"⟩ ∈ lw_g := lw_in 798 (by decide +kernel) (by decide +kernel)
theorem wk_799 : Cond.code ⟨"BalancedLine$Study", "fewestByTime", "(II)I"⟩ prog_6_method_11_code 3 (some .int) ∈ lw_g := lw_in 799 (by decide +kernel) (by decide +kernel)
theorem wk_804 : Cond.methodLink "BalancedLine" 204 ⟨"BalancedLine$Study", "findBindings", "()V"⟩ ∈ lw_g := lw_in 804 (by decide +kernel) (by decide +kernel)
theorem wk_805 : Cond.instanceMethod ⟨"BalancedLine$Study", "findBindings", "()V"⟩ ∈ lw_g := lw_in 805 (by decide +kernel) (by decide +kernel)
theorem wk_806 : Cond.selects "BalancedLine$Study" ⟨"BalancedLine$Study", "findBindings", "()V"⟩ ⟨"BalancedLine$Study", "findBindings", "()V"⟩ ∈ lw_g := lw_in 806 (by decide +kernel) (by decide +kernel)
theorem wk_807 : Cond.code ⟨"BalancedLine$Study", "findBindings", "()V"⟩ prog_6_method_16_code 4 none ∈ lw_g := lw_in 807 (by decide +kernel) (by decide +kernel)
theorem wk_808 : Cond.methodLink "BalancedLine$Study" 151 ⟨"BalancedLine$Study", "solve", "()V"⟩ ∈ lw_g := lw_in 808 (by decide +kernel) (by decide +kernel)
theorem wk_809 : Cond.methodLink "BalancedLine$Study" 154 ⟨"BalancedLine$Plan", "isBehind", "(II)Z"⟩ ∈ lw_g := lw_in 809 (by decide +kernel) (by decide +kernel)
theorem wk_810 : Cond.methodLink "BalancedLine$Study" 157 ⟨"BalancedLine$Study", "isBinding", "(III)Z"⟩ ∈ lw_g := lw_in 810 (by decide +kernel) (by decide +kernel)
theorem wk_812 : Cond.instanceMethod ⟨"BalancedLine$Study", "isBinding", "(III)Z"⟩ ∈ lw_g := lw_in 812 (by decide +kernel) (by decide +kernel)
theorem wk_813 : Cond.code ⟨"BalancedLine$Study", "isBinding", "(III)Z"⟩ prog_6_method_17_code 4 (some .boolean) ∈ lw_g := lw_in 813 (by decide +kernel) (by decide +kernel)
theorem wk_814 : Cond.methodLink "BalancedLine$Study" 164 ⟨"BalancedLine$Plan", "setOrder", "(IIZ)V"⟩ ∈ lw_g := lw_in 814 (by decide +kernel) (by decide +kernel)
theorem wk_815 : Cond.methodLink "BalancedLine$Study" 161 ⟨"BalancedLine$Study", "addBinding", "(I)V"⟩ ∈ lw_g := lw_in 815 (by decide +kernel) (by decide +kernel)
theorem wk_817 : Cond.instanceMethod ⟨"BalancedLine$Study", "addBinding", "(I)V"⟩ ∈ lw_g := lw_in 817 (by decide +kernel) (by decide +kernel)
theorem wk_818 : Cond.code ⟨"BalancedLine$Study", "addBinding", "(I)V"⟩ prog_6_method_18_code 2 none ∈ lw_g := lw_in 818 (by decide +kernel) (by decide +kernel)
theorem wk_819 : Cond.methodLink "BalancedLine" 207 ⟨"BalancedLine$Study", "listedBinding", "(I)I"⟩ ∈ lw_g := lw_in 819 (by decide +kernel) (by decide +kernel)
theorem wk_820 : Cond.instanceMethod ⟨"BalancedLine$Study", "listedBinding", "(I)I"⟩ ∈ lw_g := lw_in 820 (by decide +kernel) (by decide +kernel)
theorem wk_821 : Cond.selects "BalancedLine$Study" ⟨"BalancedLine$Study", "listedBinding", "(I)I"⟩ ⟨"BalancedLine$Study", "listedBinding", "(I)I"⟩ ∈ lw_g := lw_in 821 (by decide +kernel) (by decide +kernel)
theorem wk_822 : Cond.code ⟨"BalancedLine$Study", "listedBinding", "(I)I"⟩ prog_6_method_15_code 2 (some .int) ∈ lw_g := lw_in 822 (by decide +kernel) (by decide +kernel)
theorem wk_827 : Cond.methodLink "BalancedLine" 210 ⟨"BalancedLine$Plan", "pairs", "([I)I"⟩ ∈ lw_g := lw_in 827 (by decide +kernel) (by decide +kernel)
theorem wk_828 : Cond.instanceMethod ⟨"BalancedLine$Plan", "pairs", "([I)I"⟩ ∈ lw_g := lw_in 828 (by decide +kernel) (by decide +kernel)
theorem wk_829 : Cond.selects "BalancedLine$Plan" ⟨"BalancedLine$Plan", "pairs", "([I)I"⟩ ⟨"BalancedLine$Plan", "pairs", "([I)I"⟩ ∈ lw_g := lw_in 829 (by decide +kernel) (by decide +kernel)
theorem wk_830 : Cond.code ⟨"BalancedLine$Plan", "pairs", "([I)I"⟩ prog_4_method_17_code 4 (some .int) ∈ lw_g := lw_in 830 (by decide +kernel) (by decide +kernel)
theorem wk_831 : Cond.methodLink "BalancedLine" 214 ⟨"BalancedLine$Plan", "allPut", "()I"⟩ ∈ lw_g := lw_in 831 (by decide +kernel) (by decide +kernel)
theorem wk_832 : Cond.methodLink "BalancedLine" 217 ⟨"java/lang/Integer", "bitCount", "(I)I"⟩ ∈ lw_g := lw_in 832 (by decide +kernel) (by decide +kernel)
theorem wk_833 : Cond.methodLink "BalancedLine" 222 ⟨"BalancedLine$Plan", "stationsInUse", "()I"⟩ ∈ lw_g := lw_in 833 (by decide +kernel) (by decide +kernel)
theorem wk_834 : Cond.instanceMethod ⟨"BalancedLine$Plan", "stationsInUse", "()I"⟩ ∈ lw_g := lw_in 834 (by decide +kernel) (by decide +kernel)
theorem wk_835 : Cond.selects "BalancedLine$Plan" ⟨"BalancedLine$Plan", "stationsInUse", "()I"⟩ ⟨"BalancedLine$Plan", "stationsInUse", "()I"⟩ ∈ lw_g := lw_in 835 (by decide +kernel) (by decide +kernel)
theorem wk_836 : Cond.code ⟨"BalancedLine$Plan", "stationsInUse", "()I"⟩ prog_4_method_24_code 3 (some .int) ∈ lw_g := lw_in 836 (by decide +kernel) (by decide +kernel)
theorem wk_837 : Cond.methodLink "BalancedLine" 225 ⟨"BalancedLine$Plan", "total", "()I"⟩ ∈ lw_g := lw_in 837 (by decide +kernel) (by decide +kernel)
theorem wk_838 : Cond.methodLink "BalancedLine" 228 ⟨"BalancedLine", "idleOfBest", "()I"⟩ ∈ lw_g := lw_in 838 (by decide +kernel) (by decide +kernel)
theorem wk_840 : Cond.instanceMethod ⟨"BalancedLine", "idleOfBest", "()I"⟩ ∈ lw_g := lw_in 840 (by decide +kernel) (by decide +kernel)
theorem wk_841 : Cond.code ⟨"BalancedLine", "idleOfBest", "()I"⟩ prog_1_method_31_code 1 (some .int) ∈ lw_g := lw_in 841 (by decide +kernel) (by decide +kernel)
theorem wk_847 : Cond.methodLink "BalancedLineModel" 1 ⟨"java/lang/Object", "<init>", "()V"⟩ ∈ lw_g := lw_in 847 (by decide +kernel) (by decide +kernel)
theorem wk_848 : Cond.methodLink "BalancedLineModel" 44 ⟨"BalancedLineModel", "pairs", "([IIIIZ)V"⟩ ∈ lw_g := lw_in 848 (by decide +kernel) (by decide +kernel)
theorem wk_849 : Cond.static ⟨"BalancedLineModel", "pairs", "([IIIIZ)V"⟩ ∈ lw_g := lw_in 849 (by decide +kernel) (by decide +kernel)
theorem wk_850 : Cond.code ⟨"BalancedLineModel", "pairs", "([IIIIZ)V"⟩ prog_8_method_5_code 5 none ∈ lw_g := lw_in 850 (by decide +kernel) (by decide +kernel)
theorem wk_851 : Cond.fieldLink "BalancedLineModel" 60 "BalancedLineModel" "length" "I" ∈ lw_g := lw_in 851 (by decide +kernel) (by decide +kernel)
theorem wk_852 : Cond.fieldLink "BalancedLineModel" 7 "BalancedLineModel" "text" "[I" ∈ lw_g := lw_in 852 (by decide +kernel) (by decide +kernel)
theorem wk_853 : Cond.fieldLink "BalancedLineModel" 13 "BalancedLineModel" "now" "[I" ∈ lw_g := lw_in 853 (by decide +kernel) (by decide +kernel)
theorem wk_854 : Cond.fieldLink "BalancedLineModel" 16 "BalancedLineModel" "before" "[I" ∈ lw_g := lw_in 854 (by decide +kernel) (by decide +kernel)
theorem wk_855 : Cond.fieldLink "BalancedLineModel" 95 "BalancedLineModel" "undoMany" "I" ∈ lw_g := lw_in 855 (by decide +kernel) (by decide +kernel)
theorem wk_856 : Cond.fieldLink "BalancedLineModel" 19 "BalancedLineModel" "read" "[I" ∈ lw_g := lw_in 856 (by decide +kernel) (by decide +kernel)
theorem wk_857 : Cond.fieldLink "BalancedLineModel" 64 "BalancedLineModel" "spot" "I" ∈ lw_g := lw_in 857 (by decide +kernel) (by decide +kernel)
theorem wk_858 : Cond.fieldLink "BalancedLineModel" 22 "BalancedLineModel" "needs" "[I" ∈ lw_g := lw_in 858 (by decide +kernel) (by decide +kernel)
theorem wk_859 : Cond.fieldLink "BalancedLineModel" 25 "BalancedLineModel" "good" "[Z" ∈ lw_g := lw_in 859 (by decide +kernel) (by decide +kernel)
theorem wk_860 : Cond.fieldLink "BalancedLineModel" 29 "BalancedLineModel" "rest" "[I" ∈ lw_g := lw_in 860 (by decide +kernel) (by decide +kernel)
theorem wk_861 : Cond.fieldLink "BalancedLineModel" 32 "BalancedLineModel" "ways" "[I" ∈ lw_g := lw_in 861 (by decide +kernel) (by decide +kernel)
theorem wk_862 : Cond.fieldLink "BalancedLineModel" 35 "BalancedLineModel" "leads" "[Z" ∈ lw_g := lw_in 862 (by decide +kernel) (by decide +kernel)
theorem wk_863 : Cond.fieldLink "BalancedLineModel" 38 "BalancedLineModel" "comes" "[Z" ∈ lw_g := lw_in 863 (by decide +kernel) (by decide +kernel)
theorem wk_864 : Cond.fieldLink "BalancedLineModel" 41 "BalancedLineModel" "fixed" "[I" ∈ lw_g := lw_in 864 (by decide +kernel) (by decide +kernel)
theorem wk_865 : Cond.fieldLink "BalancedLineModel" 169 "BalancedLineModel" "fixedSet" "I" ∈ lw_g := lw_in 865 (by decide +kernel) (by decide +kernel)
theorem wk_901 : Cond.constantLong "BalancedLineModel" 52 (32 : Int64) ∈ lw_g := lw_in 901 (by decide +kernel) (by decide +kernel)
theorem wk_902 : Cond.constantLong "BalancedLineModel" 54 (126 : Int64) ∈ lw_g := lw_in 902 (by decide +kernel) (by decide +kernel)
theorem wk_903 : Cond.methodLink "BalancedLineModel" 56 ⟨"BalancedLineModel", "in", "(JJJ)Z"⟩ ∈ lw_g := lw_in 903 (by decide +kernel) (by decide +kernel)
theorem wk_904 : Cond.static ⟨"BalancedLineModel", "in", "(JJJ)Z"⟩ ∈ lw_g := lw_in 904 (by decide +kernel) (by decide +kernel)
theorem wk_905 : Cond.code ⟨"BalancedLineModel", "in", "(JJJ)Z"⟩ prog_8_method_2_code 6 (some .boolean) ∈ lw_g := lw_in 905 (by decide +kernel) (by decide +kernel)
theorem wk_911 : Cond.instanceMethod ⟨"BalancedLineModel", "fault", "()I"⟩ ∈ lw_g := lw_in 911 (by decide +kernel) (by decide +kernel)
theorem wk_912 : Cond.selects "BalancedLineModel" ⟨"BalancedLineModel", "fault", "()I"⟩ ⟨"BalancedLineModel", "fault", "()I"⟩ ∈ lw_g := lw_in 912 (by decide +kernel) (by decide +kernel)
theorem wk_913 : Cond.code ⟨"BalancedLineModel", "fault", "()I"⟩ prog_8_method_13_code 2 (some .int) ∈ lw_g := lw_in 913 (by decide +kernel) (by decide +kernel)
theorem wk_914 : Cond.methodLink "BalancedLineModel" 87 ⟨"BalancedLineModel", "item", "(IZ)Z"⟩ ∈ lw_g := lw_in 914 (by decide +kernel) (by decide +kernel)
theorem wk_916 : Cond.instanceMethod ⟨"BalancedLineModel", "item", "(IZ)Z"⟩ ∈ lw_g := lw_in 916 (by decide +kernel) (by decide +kernel)
theorem wk_917 : Cond.code ⟨"BalancedLineModel", "item", "(IZ)Z"⟩ prog_8_method_12_code 4 (some .boolean) ∈ lw_g := lw_in 917 (by decide +kernel) (by decide +kernel)
theorem wk_918 : Cond.methodLink "BalancedLineModel" 79 ⟨"BalancedLineModel", "number", "(III)I"⟩ ∈ lw_g := lw_in 918 (by decide +kernel) (by decide +kernel)
theorem wk_920 : Cond.instanceMethod ⟨"BalancedLineModel", "number", "(III)I"⟩ ∈ lw_g := lw_in 920 (by decide +kernel) (by decide +kernel)
theorem wk_921 : Cond.code ⟨"BalancedLineModel", "number", "(III)I"⟩ prog_8_method_10_code 6 (some .int) ∈ lw_g := lw_in 921 (by decide +kernel) (by decide +kernel)
theorem wk_922 : Cond.methodLink "BalancedLineModel" 67 ⟨"BalancedLineModel", "byteAt", "(I)I"⟩ ∈ lw_g := lw_in 922 (by decide +kernel) (by decide +kernel)
theorem wk_924 : Cond.instanceMethod ⟨"BalancedLineModel", "byteAt", "(I)I"⟩ ∈ lw_g := lw_in 924 (by decide +kernel) (by decide +kernel)
theorem wk_925 : Cond.code ⟨"BalancedLineModel", "byteAt", "(I)I"⟩ prog_8_method_9_code 2 (some .int) ∈ lw_g := lw_in 925 (by decide +kernel) (by decide +kernel)
theorem wk_926 : Cond.constantLong "BalancedLineModel" 71 (48 : Int64) ∈ lw_g := lw_in 926 (by decide +kernel) (by decide +kernel)
theorem wk_927 : Cond.constantLong "BalancedLineModel" 73 (57 : Int64) ∈ lw_g := lw_in 927 (by decide +kernel) (by decide +kernel)
theorem wk_928 : Cond.methodLink "BalancedLineModel" 83 ⟨"BalancedLineModel", "pairItem", "(I)Z"⟩ ∈ lw_g := lw_in 928 (by decide +kernel) (by decide +kernel)
theorem wk_930 : Cond.instanceMethod ⟨"BalancedLineModel", "pairItem", "(I)Z"⟩ ∈ lw_g := lw_in 930 (by decide +kernel) (by decide +kernel)
theorem wk_931 : Cond.code ⟨"BalancedLineModel", "pairItem", "(I)Z"⟩ prog_8_method_11_code 5 (some .boolean) ∈ lw_g := lw_in 931 (by decide +kernel) (by decide +kernel)
theorem wk_932 : Cond.methodLink "BalancedLineModel" 48 ⟨"BalancedLineModel", "has", "(II)Z"⟩ ∈ lw_g := lw_in 932 (by decide +kernel) (by decide +kernel)
theorem wk_933 : Cond.static ⟨"BalancedLineModel", "has", "(II)Z"⟩ ∈ lw_g := lw_in 933 (by decide +kernel) (by decide +kernel)
theorem wk_934 : Cond.code ⟨"BalancedLineModel", "has", "(II)Z"⟩ prog_8_method_3_code 2 (some .boolean) ∈ lw_g := lw_in 934 (by decide +kernel) (by decide +kernel)
theorem wk_935 : Cond.methodLink "BalancedLineModel" 75 ⟨"BalancedLineModel", "allBehind", "([II)I"⟩ ∈ lw_g := lw_in 935 (by decide +kernel) (by decide +kernel)
theorem wk_936 : Cond.static ⟨"BalancedLineModel", "allBehind", "([II)I"⟩ ∈ lw_g := lw_in 936 (by decide +kernel) (by decide +kernel)
theorem wk_937 : Cond.code ⟨"BalancedLineModel", "allBehind", "([II)I"⟩ prog_8_method_6_code 5 (some .int) ∈ lw_g := lw_in 937 (by decide +kernel) (by decide +kernel)
theorem wk_942 : Cond.methodLink "BalancedLineModel" 91 ⟨"BalancedLineModel", "fault", "()I"⟩ ∈ lw_g := lw_in 942 (by decide +kernel) (by decide +kernel)
theorem wk_951 : Cond.constantLong "BalancedLineModel" 111 (120 : Int64) ∈ lw_g := lw_in 951 (by decide +kernel) (by decide +kernel)
theorem wk_952 : Cond.methodLink "BalancedLineModel" 113 ⟨"BalancedLineModel", "tells", "(II)I"⟩ ∈ lw_g := lw_in 952 (by decide +kernel) (by decide +kernel)
theorem wk_954 : Cond.instanceMethod ⟨"BalancedLineModel", "tells", "(II)I"⟩ ∈ lw_g := lw_in 954 (by decide +kernel) (by decide +kernel)
theorem wk_955 : Cond.code ⟨"BalancedLineModel", "tells", "(II)I"⟩ prog_8_method_20_code 4 (some .int) ∈ lw_g := lw_in 955 (by decide +kernel) (by decide +kernel)
theorem wk_956 : Cond.methodLink "BalancedLineModel" 105 ⟨"BalancedLineModel", "note", "()V"⟩ ∈ lw_g := lw_in 956 (by decide +kernel) (by decide +kernel)
theorem wk_958 : Cond.instanceMethod ⟨"BalancedLineModel", "note", "()V"⟩ ∈ lw_g := lw_in 958 (by decide +kernel) (by decide +kernel)
theorem wk_959 : Cond.code ⟨"BalancedLineModel", "note", "()V"⟩ prog_8_method_15_code 2 none ∈ lw_g := lw_in 959 (by decide +kernel) (by decide +kernel)
theorem wk_960 : Cond.methodLink "BalancedLineModel" 108 ⟨"BalancedLineModel", "takesOff", "()V"⟩ ∈ lw_g := lw_in 960 (by decide +kernel) (by decide +kernel)
theorem wk_962 : Cond.instanceMethod ⟨"BalancedLineModel", "takesOff", "()V"⟩ ∈ lw_g := lw_in 962 (by decide +kernel) (by decide +kernel)
theorem wk_963 : Cond.code ⟨"BalancedLineModel", "takesOff", "()V"⟩ prog_8_method_19_code 3 none ∈ lw_g := lw_in 963 (by decide +kernel) (by decide +kernel)
theorem wk_964 : Cond.methodLink "BalancedLineModel" 101 ⟨"BalancedLineModel", "whyNot", "(II)I"⟩ ∈ lw_g := lw_in 964 (by decide +kernel) (by decide +kernel)
theorem wk_966 : Cond.instanceMethod ⟨"BalancedLineModel", "whyNot", "(II)I"⟩ ∈ lw_g := lw_in 966 (by decide +kernel) (by decide +kernel)
theorem wk_967 : Cond.code ⟨"BalancedLineModel", "whyNot", "(II)I"⟩ prog_8_method_32_code 4 (some .int) ∈ lw_g := lw_in 967 (by decide +kernel) (by decide +kernel)
theorem wk_968 : Cond.methodLink "BalancedLineModel" 135 ⟨"BalancedLineModel", "putBy", "(II)I"⟩ ∈ lw_g := lw_in 968 (by decide +kernel) (by decide +kernel)
theorem wk_970 : Cond.instanceMethod ⟨"BalancedLineModel", "putBy", "(II)I"⟩ ∈ lw_g := lw_in 970 (by decide +kernel) (by decide +kernel)
theorem wk_971 : Cond.code ⟨"BalancedLineModel", "putBy", "(II)I"⟩ prog_8_method_31_code 7 (some .int) ∈ lw_g := lw_in 971 (by decide +kernel) (by decide +kernel)
theorem wk_972 : Cond.methodLink "BalancedLineModel" 129 ⟨"BalancedLineModel", "aheadOf", "(I)I"⟩ ∈ lw_g := lw_in 972 (by decide +kernel) (by decide +kernel)
theorem wk_974 : Cond.instanceMethod ⟨"BalancedLineModel", "aheadOf", "(I)I"⟩ ∈ lw_g := lw_in 974 (by decide +kernel) (by decide +kernel)
theorem wk_975 : Cond.code ⟨"BalancedLineModel", "aheadOf", "(I)I"⟩ prog_8_method_26_code 4 (some .int) ∈ lw_g := lw_in 975 (by decide +kernel) (by decide +kernel)
theorem wk_976 : Cond.methodLink "BalancedLineModel" 138 ⟨"BalancedLineModel", "putIn", "(I)I"⟩ ∈ lw_g := lw_in 976 (by decide +kernel) (by decide +kernel)
theorem wk_978 : Cond.instanceMethod ⟨"BalancedLineModel", "putIn", "(I)I"⟩ ∈ lw_g := lw_in 978 (by decide +kernel) (by decide +kernel)
theorem wk_979 : Cond.code ⟨"BalancedLineModel", "putIn", "(I)I"⟩ prog_8_method_29_code 4 (some .int) ∈ lw_g := lw_in 979 (by decide +kernel) (by decide +kernel)
theorem wk_980 : Cond.methodLink "BalancedLineModel" 141 ⟨"BalancedLineModel", "timesOf", "(I)I"⟩ ∈ lw_g := lw_in 980 (by decide +kernel) (by decide +kernel)
theorem wk_982 : Cond.instanceMethod ⟨"BalancedLineModel", "timesOf", "(I)I"⟩ ∈ lw_g := lw_in 982 (by decide +kernel) (by decide +kernel)
theorem wk_983 : Cond.code ⟨"BalancedLineModel", "timesOf", "(I)I"⟩ prog_8_method_30_code 4 (some .int) ∈ lw_g := lw_in 983 (by decide +kernel) (by decide +kernel)
theorem wk_988 : Cond.methodLink "BalancedLineModel" 98 ⟨"BalancedLineModel", "isTask", "(I)Z"⟩ ∈ lw_g := lw_in 988 (by decide +kernel) (by decide +kernel)
theorem wk_990 : Cond.instanceMethod ⟨"BalancedLineModel", "isTask", "(I)Z"⟩ ∈ lw_g := lw_in 990 (by decide +kernel) (by decide +kernel)
theorem wk_991 : Cond.code ⟨"BalancedLineModel", "isTask", "(I)Z"⟩ prog_8_method_17_code 2 (some .boolean) ∈ lw_g := lw_in 991 (by decide +kernel) (by decide +kernel)
theorem wk_992 : Cond.constantLong "BalancedLineModel" 116 (60 : Int64) ∈ lw_g := lw_in 992 (by decide +kernel) (by decide +kernel)
theorem wk_997 : Cond.methodLink "BalancedLineModel" 121 ⟨"BalancedLineModel", "isPair", "(II)Z"⟩ ∈ lw_g := lw_in 997 (by decide +kernel) (by decide +kernel)
theorem wk_999 : Cond.instanceMethod ⟨"BalancedLineModel", "isPair", "(II)Z"⟩ ∈ lw_g := lw_in 999 (by decide +kernel) (by decide +kernel)
theorem wk_1000 : Cond.code ⟨"BalancedLineModel", "isPair", "(II)Z"⟩ prog_8_method_18_code 3 (some .boolean) ∈ lw_g := lw_in 1000 (by decide +kernel) (by decide +kernel)
theorem wk_1001 : Cond.methodLink "BalancedLineModel" 124 ⟨"BalancedLineModel", "ordersMany", "()I"⟩ ∈ lw_g := lw_in 1001 (by decide +kernel) (by decide +kernel)
theorem wk_1003 : Cond.instanceMethod ⟨"BalancedLineModel", "ordersMany", "()I"⟩ ∈ lw_g := lw_in 1003 (by decide +kernel) (by decide +kernel)
theorem wk_1004 : Cond.code ⟨"BalancedLineModel", "ordersMany", "()I"⟩ prog_8_method_23_code 3 (some .int) ∈ lw_g := lw_in 1004 (by decide +kernel) (by decide +kernel)
theorem wk_1005 : Cond.methodLink "BalancedLineModel" 118 ⟨"BalancedLineModel", "ones", "(I)I"⟩ ∈ lw_g := lw_in 1005 (by decide +kernel) (by decide +kernel)
theorem wk_1006 : Cond.static ⟨"BalancedLineModel", "ones", "(I)I"⟩ ∈ lw_g := lw_in 1006 (by decide +kernel) (by decide +kernel)
theorem wk_1007 : Cond.code ⟨"BalancedLineModel", "ones", "(I)I"⟩ prog_8_method_4_code 3 (some .int) ∈ lw_g := lw_in 1007 (by decide +kernel) (by decide +kernel)
theorem wk_1012 : Cond.constantLong "BalancedLineModel" 127 (2 : Int64) ∈ lw_g := lw_in 1012 (by decide +kernel) (by decide +kernel)
theorem wk_1017 : Cond.methodLink "BalancedLineModel" 132 ⟨"BalancedLineModel", "farBehind", "(I)I"⟩ ∈ lw_g := lw_in 1017 (by decide +kernel) (by decide +kernel)
theorem wk_1019 : Cond.instanceMethod ⟨"BalancedLineModel", "farBehind", "(I)I"⟩ ∈ lw_g := lw_in 1019 (by decide +kernel) (by decide +kernel)
theorem wk_1020 : Cond.code ⟨"BalancedLineModel", "farBehind", "(I)I"⟩ prog_8_method_27_code 4 (some .int) ∈ lw_g := lw_in 1020 (by decide +kernel) (by decide +kernel)
theorem wk_1025 : Cond.constantLong "BalancedLineModel" 144 (12 : Int64) ∈ lw_g := lw_in 1025 (by decide +kernel) (by decide +kernel)
theorem wk_1043 : Cond.instanceMethod ⟨"BalancedLineModel", "fewest", "()I"⟩ ∈ lw_g := lw_in 1043 (by decide +kernel) (by decide +kernel)
theorem wk_1044 : Cond.selects "BalancedLineModel" ⟨"BalancedLineModel", "fewest", "()I"⟩ ⟨"BalancedLineModel", "fewest", "()I"⟩ ∈ lw_g := lw_in 1044 (by decide +kernel) (by decide +kernel)
theorem wk_1045 : Cond.code ⟨"BalancedLineModel", "fewest", "()I"⟩ prog_8_method_44_code 1 (some .int) ∈ lw_g := lw_in 1045 (by decide +kernel) (by decide +kernel)
theorem wk_1046 : Cond.methodLink "BalancedLineModel" 162 ⟨"BalancedLineModel", "fewestBy", "(I)I"⟩ ∈ lw_g := lw_in 1046 (by decide +kernel) (by decide +kernel)
theorem wk_1048 : Cond.instanceMethod ⟨"BalancedLineModel", "fewestBy", "(I)I"⟩ ∈ lw_g := lw_in 1048 (by decide +kernel) (by decide +kernel)
theorem wk_1049 : Cond.code ⟨"BalancedLineModel", "fewestBy", "(I)I"⟩ prog_8_method_43_code 3 (some .int) ∈ lw_g := lw_in 1049 (by decide +kernel) (by decide +kernel)
theorem wk_1050 : Cond.methodLink "BalancedLineModel" 159 ⟨"BalancedLineModel", "findRest", "(I)I"⟩ ∈ lw_g := lw_in 1050 (by decide +kernel) (by decide +kernel)
theorem wk_1052 : Cond.instanceMethod ⟨"BalancedLineModel", "findRest", "(I)I"⟩ ∈ lw_g := lw_in 1052 (by decide +kernel) (by decide +kernel)
theorem wk_1053 : Cond.code ⟨"BalancedLineModel", "findRest", "(I)I"⟩ prog_8_method_42_code 6 (some .int) ∈ lw_g := lw_in 1053 (by decide +kernel) (by decide +kernel)
theorem wk_1054 : Cond.methodLink "BalancedLineModel" 152 ⟨"BalancedLineModel", "findGood", "(I)V"⟩ ∈ lw_g := lw_in 1054 (by decide +kernel) (by decide +kernel)
theorem wk_1056 : Cond.instanceMethod ⟨"BalancedLineModel", "findGood", "(I)V"⟩ ∈ lw_g := lw_in 1056 (by decide +kernel) (by decide +kernel)
theorem wk_1057 : Cond.code ⟨"BalancedLineModel", "findGood", "(I)V"⟩ prog_8_method_40_code 4 none ∈ lw_g := lw_in 1057 (by decide +kernel) (by decide +kernel)
theorem wk_1058 : Cond.methodLink "BalancedLineModel" 146 ⟨"BalancedLineModel", "all", "()I"⟩ ∈ lw_g := lw_in 1058 (by decide +kernel) (by decide +kernel)
theorem wk_1060 : Cond.instanceMethod ⟨"BalancedLineModel", "all", "()I"⟩ ∈ lw_g := lw_in 1060 (by decide +kernel) (by decide +kernel)
theorem wk_1061 : Cond.code ⟨"BalancedLineModel", "all", "()I"⟩ prog_8_method_38_code 1 (some .int) ∈ lw_g := lw_in 1061 (by decide +kernel) (by decide +kernel)
theorem wk_1062 : Cond.methodLink "BalancedLineModel" 149 ⟨"BalancedLineModel", "isGood", "(II)Z"⟩ ∈ lw_g := lw_in 1062 (by decide +kernel) (by decide +kernel)
theorem wk_1064 : Cond.instanceMethod ⟨"BalancedLineModel", "isGood", "(II)Z"⟩ ∈ lw_g := lw_in 1064 (by decide +kernel) (by decide +kernel)
theorem wk_1065 : Cond.code ⟨"BalancedLineModel", "isGood", "(II)Z"⟩ prog_8_method_39_code 5 (some .boolean) ∈ lw_g := lw_in 1065 (by decide +kernel) (by decide +kernel)
theorem wk_1066 : Cond.methodLink "BalancedLineModel" 156 ⟨"BalancedLineModel", "isNext", "(II)Z"⟩ ∈ lw_g := lw_in 1066 (by decide +kernel) (by decide +kernel)
theorem wk_1068 : Cond.instanceMethod ⟨"BalancedLineModel", "isNext", "(II)Z"⟩ ∈ lw_g := lw_in 1068 (by decide +kernel) (by decide +kernel)
theorem wk_1069 : Cond.code ⟨"BalancedLineModel", "isNext", "(II)Z"⟩ prog_8_method_41_code 3 (some .boolean) ∈ lw_g := lw_in 1069 (by decide +kernel) (by decide +kernel)
theorem wk_1078 : Cond.methodLink "BalancedLineModel" 165 ⟨"BalancedLineModel", "fewest", "()I"⟩ ∈ lw_g := lw_in 1078 (by decide +kernel) (by decide +kernel)
theorem wk_1087 : Cond.constant "BalancedLineModel" 168 (1000000 : Int32) ∈ lw_g := lw_in 1087 (by decide +kernel) (by decide +kernel)
theorem wk_1092 : Cond.methodLink "BalancedLineModel" 178 ⟨"BalancedLineModel", "fixAll", "()V"⟩ ∈ lw_g := lw_in 1092 (by decide +kernel) (by decide +kernel)
theorem wk_1094 : Cond.instanceMethod ⟨"BalancedLineModel", "fixAll", "()V"⟩ ∈ lw_g := lw_in 1094 (by decide +kernel) (by decide +kernel)
theorem wk_1095 : Cond.code ⟨"BalancedLineModel", "fixAll", "()V"⟩ prog_8_method_51_code 4 none ∈ lw_g := lw_in 1095 (by decide +kernel) (by decide +kernel)
theorem wk_1096 : Cond.methodLink "BalancedLineModel" 175 ⟨"BalancedLineModel", "stationsOf", "(I)I"⟩ ∈ lw_g := lw_in 1096 (by decide +kernel) (by decide +kernel)
theorem wk_1098 : Cond.instanceMethod ⟨"BalancedLineModel", "stationsOf", "(I)I"⟩ ∈ lw_g := lw_in 1098 (by decide +kernel) (by decide +kernel)
theorem wk_1099 : Cond.code ⟨"BalancedLineModel", "stationsOf", "(I)I"⟩ prog_8_method_50_code 6 (some .int) ∈ lw_g := lw_in 1099 (by decide +kernel) (by decide +kernel)
theorem wk_1100 : Cond.methodLink "BalancedLineModel" 172 ⟨"BalancedLineModel", "isBest", "(II)Z"⟩ ∈ lw_g := lw_in 1100 (by decide +kernel) (by decide +kernel)
theorem wk_1102 : Cond.instanceMethod ⟨"BalancedLineModel", "isBest", "(II)Z"⟩ ∈ lw_g := lw_in 1102 (by decide +kernel) (by decide +kernel)
theorem wk_1103 : Cond.code ⟨"BalancedLineModel", "isBest", "(II)Z"⟩ prog_8_method_49_code 6 (some .boolean) ∈ lw_g := lw_in 1103 (by decide +kernel) (by decide +kernel)
theorem wk_1120 : Cond.methodLink "BalancedLineModel" 181 ⟨"BalancedLineModel", "up", "(II)I"⟩ ∈ lw_g := lw_in 1120 (by decide +kernel) (by decide +kernel)
theorem wk_1121 : Cond.static ⟨"BalancedLineModel", "up", "(II)I"⟩ ∈ lw_g := lw_in 1121 (by decide +kernel) (by decide +kernel)
theorem wk_1122 : Cond.code ⟨"BalancedLineModel", "up", "(II)I"⟩ prog_8_method_56_code 2 (some .int) ∈ lw_g := lw_in 1122 (by decide +kernel) (by decide +kernel)
theorem wk_1127 : Cond.methodLink "BalancedLineModel" 187 ⟨"BalancedLineModel", "loads", "(IZ)I"⟩ ∈ lw_g := lw_in 1127 (by decide +kernel) (by decide +kernel)
theorem wk_1129 : Cond.instanceMethod ⟨"BalancedLineModel", "loads", "(IZ)I"⟩ ∈ lw_g := lw_in 1129 (by decide +kernel) (by decide +kernel)
theorem wk_1130 : Cond.code ⟨"BalancedLineModel", "loads", "(IZ)I"⟩ prog_8_method_59_code 5 (some .int) ∈ lw_g := lw_in 1130 (by decide +kernel) (by decide +kernel)
theorem wk_1131 : Cond.methodLink "BalancedLineModel" 184 ⟨"BalancedLineModel", "isFull", "(I)Z"⟩ ∈ lw_g := lw_in 1131 (by decide +kernel) (by decide +kernel)
theorem wk_1133 : Cond.instanceMethod ⟨"BalancedLineModel", "isFull", "(I)Z"⟩ ∈ lw_g := lw_in 1133 (by decide +kernel) (by decide +kernel)
theorem wk_1134 : Cond.code ⟨"BalancedLineModel", "isFull", "(I)Z"⟩ prog_8_method_58_code 5 (some .boolean) ∈ lw_g := lw_in 1134 (by decide +kernel) (by decide +kernel)
theorem wk_1147 : Cond.methodLink "BalancedLineModel" 191 ⟨"BalancedLineModel", "pairsOf", "(I)I"⟩ ∈ lw_g := lw_in 1147 (by decide +kernel) (by decide +kernel)
theorem wk_1149 : Cond.instanceMethod ⟨"BalancedLineModel", "pairsOf", "(I)I"⟩ ∈ lw_g := lw_in 1149 (by decide +kernel) (by decide +kernel)
theorem wk_1150 : Cond.code ⟨"BalancedLineModel", "pairsOf", "(I)I"⟩ prog_8_method_63_code 4 (some .int) ∈ lw_g := lw_in 1150 (by decide +kernel) (by decide +kernel)
theorem wk_1151 : Cond.methodLink "BalancedLineModel" 194 ⟨"BalancedLineModel", "hand", "(I)I"⟩ ∈ lw_g := lw_in 1151 (by decide +kernel) (by decide +kernel)
theorem wk_1153 : Cond.instanceMethod ⟨"BalancedLineModel", "hand", "(I)I"⟩ ∈ lw_g := lw_in 1153 (by decide +kernel) (by decide +kernel)
theorem wk_1154 : Cond.code ⟨"BalancedLineModel", "hand", "(I)I"⟩ prog_8_method_64_code 6 (some .int) ∈ lw_g := lw_in 1154 (by decide +kernel) (by decide +kernel)
theorem qs_new_int {Ph : Nat → State → Prop} {M : hc_M} {h0 hf : hc_H} {r : Option Value} {pc : Nat} {K : hc_K} (hd : decode (mC M) pc = .ok (.newarray .int, 2)) (kk : qk Ph M h0 hf r (pc + 2) K) : qk Ph M h0 hf r pc (qi_newa 0 K) := qs_newa (kd := 0) .int hd rfl (fun _ => rfl) wk_137 (fun s cA h => h) (fun cA n => rfl) (by decide) kk
theorem qs_new_boolean {Ph : Nat → State → Prop} {M : hc_M} {h0 hf : hc_H} {r : Option Value} {pc : Nat} {K : hc_K} (hd : decode (mC M) pc = .ok (.newarray .boolean, 2)) (kk : qk Ph M h0 hf r (pc + 2) K) : qk Ph M h0 hf r pc (qi_newa 1 K) := qs_newa (kd := 1) .boolean hd rfl (fun _ => rfl) wk_361 (fun s cA h => h) (fun cA n => rfl) (by decide) kk
theorem qs_new_long {Ph : Nat → State → Prop} {M : hc_M} {h0 hf : hc_H} {r : Option Value} {pc : Nat} {K : hc_K} (hd : decode (mC M) pc = .ok (.newarray .long, 2)) (kk : qk Ph M h0 hf r (pc + 2) K) : qk Ph M h0 hf r pc (qi_newa 2 K) := qs_newa (kd := 2) .long hd rfl (fun _ => rfl) wk_362 (fun s cA h => h) (fun cA n => rfl) (by decide) kk
theorem qs_new_char {Ph : Nat → State → Prop} {M : hc_M} {h0 hf : hc_H} {r : Option Value} {pc : Nat} {K : hc_K} (hd : decode (mC M) pc = .ok (.newarray .char, 2)) (kk : qk Ph M h0 hf r (pc + 2) K) : qk Ph M h0 hf r pc (qi_newa 3 K) := qs_newa (kd := 3) .char hd rfl (fun _ => rfl) wk_91 (fun s cA h => h) (fun cA n => rfl) (by decide) kk
theorem qs_ldcw {Ph : Nat → State → Prop} {M : hc_M} {h0 hf : hc_H} {r : Option Value} {pc : Nat} {K : hc_K} {index : Nat} {v : Int32} (hd : decode (mC M) pc = .ok (.ldc_w index, 3)) (hw : Cond.constant (mN M).cls index v ∈ lw_g) (k : qk Ph M h0 hf r (pc + 3) K) : qk Ph M h0 hf r pc (qi_push v K) := fun lv st h hi => (k lv _ h hi).step (fun p l e R s m args below meth c H locs cells slots Q ls hx hb hts hown hl kk => lv_ldcw hx hb hown (hts _ (List.mem_cons_of_mem _ hw)) hd (kk ls hl))
theorem ff_P_9 : hc_fld "BalancedLine$Plan" 9 2 2 := ⟨RX2, TX2, 7, tyX2, rfl, by decide, inG_2, wk_107, tyX2_ok, nmX2⟩
theorem ff_P_15 : hc_fld "BalancedLine$Plan" 15 2 3 := ⟨RX2, TX2, 7, tyX2, rfl, by decide, inG_2, wk_111, tyX2_ok, nmX2⟩
theorem ff_P_18 : hc_fld "BalancedLine$Plan" 18 2 4 := ⟨RX2, TX2, 7, tyX2, rfl, by decide, inG_2, wk_114, tyX2_ok, nmX2⟩
theorem ff_P_21 : hc_fld "BalancedLine$Plan" 21 2 5 := ⟨RX2, TX2, 7, tyX2, rfl, by decide, inG_2, wk_117, tyX2_ok, nmX2⟩
theorem ff_P_24 : hc_fld "BalancedLine$Plan" 24 2 6 := ⟨RX2, TX2, 7, tyX2, rfl, by decide, inG_2, wk_120, tyX2_ok, nmX2⟩
theorem ff_P_27 : hc_fld "BalancedLine$Plan" 27 2 0 := ⟨RX2, TX2, 7, tyX2, rfl, by decide, inG_2, wk_99, tyX2_ok, nmX2⟩
theorem ff_P_31 : hc_fld "BalancedLine$Plan" 31 2 1 := ⟨RX2, TX2, 7, tyX2, rfl, by decide, inG_2, wk_102, tyX2_ok, nmX2⟩
theorem ff_H_11 : hc_fld "BalancedLine$Past" 11 1 0 := ⟨RX1, TX1, 2, tyX1, rfl, by decide, inG_1, wk_147, tyX1_ok, nmX1⟩
theorem ff_H_18 : hc_fld "BalancedLine$Past" 18 1 1 := ⟨RX1, TX1, 2, tyX1, rfl, by decide, inG_1, wk_148, tyX1_ok, nmX1⟩
theorem ff_S_9 : hc_fld "BalancedLine$Script" 9 3 0 := ⟨RX3, TX3, 2, tyX3, rfl, by decide, inG_3, wk_83, tyX3_ok, nmX3⟩
theorem ff_S_15 : hc_fld "BalancedLine$Script" 15 3 1 := ⟨RX3, TX3, 2, tyX3, rfl, by decide, inG_3, wk_84, tyX3_ok, nmX3⟩
theorem ff_S_46 : hc_fld "BalancedLine$Script" 46 2 1 := ⟨RX2, TX2, 7, tyX2, rfl, by decide, inG_2, wk_105, tyX2_ok, nmX2⟩
theorem ff_L_9 : hc_fld "BalancedLine$Lines" 9 0 10 := ⟨RX0, TX0, 16, tyX0, rfl, by decide, inG_0, wk_321, tyX0_ok, nmX0⟩
theorem ff_L_15 : hc_fld "BalancedLine$Lines" 15 0 11 := ⟨RX0, TX0, 16, tyX0, rfl, by decide, inG_0, wk_322, tyX0_ok, nmX0⟩
theorem ff_L_27 : hc_fld "BalancedLine$Lines" 27 0 0 := ⟨RX0, TX0, 16, tyX0, rfl, by decide, inG_0, wk_311, tyX0_ok, nmX0⟩
theorem ff_L_30 : hc_fld "BalancedLine$Lines" 30 0 1 := ⟨RX0, TX0, 16, tyX0, rfl, by decide, inG_0, wk_312, tyX0_ok, nmX0⟩
theorem ff_L_33 : hc_fld "BalancedLine$Lines" 33 0 2 := ⟨RX0, TX0, 16, tyX0, rfl, by decide, inG_0, wk_313, tyX0_ok, nmX0⟩
theorem ff_L_36 : hc_fld "BalancedLine$Lines" 36 0 3 := ⟨RX0, TX0, 16, tyX0, rfl, by decide, inG_0, wk_314, tyX0_ok, nmX0⟩
theorem ff_L_39 : hc_fld "BalancedLine$Lines" 39 0 4 := ⟨RX0, TX0, 16, tyX0, rfl, by decide, inG_0, wk_315, tyX0_ok, nmX0⟩
theorem ff_L_42 : hc_fld "BalancedLine$Lines" 42 0 5 := ⟨RX0, TX0, 16, tyX0, rfl, by decide, inG_0, wk_316, tyX0_ok, nmX0⟩
theorem ff_L_45 : hc_fld "BalancedLine$Lines" 45 0 6 := ⟨RX0, TX0, 16, tyX0, rfl, by decide, inG_0, wk_317, tyX0_ok, nmX0⟩
theorem ff_L_48 : hc_fld "BalancedLine$Lines" 48 0 7 := ⟨RX0, TX0, 16, tyX0, rfl, by decide, inG_0, wk_318, tyX0_ok, nmX0⟩
theorem ff_L_52 : hc_fld "BalancedLine$Lines" 52 0 8 := ⟨RX0, TX0, 16, tyX0, rfl, by decide, inG_0, wk_319, tyX0_ok, nmX0⟩
theorem ff_L_56 : hc_fld "BalancedLine$Lines" 56 0 9 := ⟨RX0, TX0, 16, tyX0, rfl, by decide, inG_0, wk_320, tyX0_ok, nmX0⟩
theorem ff_L_96 : hc_fld "BalancedLine$Lines" 96 0 15 := ⟨RX0, TX0, 16, tyX0, rfl, by decide, inG_0, wk_326, tyX0_ok, nmX0⟩
theorem ff_L_65 : hc_fld "BalancedLine$Lines" 65 0 13 := ⟨RX0, TX0, 16, tyX0, rfl, by decide, inG_0, wk_324, tyX0_ok, nmX0⟩
theorem ff_L_95 : hc_fld "BalancedLine$Lines" 95 0 14 := ⟨RX0, TX0, 16, tyX0, rfl, by decide, inG_0, wk_325, tyX0_ok, nmX0⟩
theorem ff_L_88 : hc_fld "BalancedLine$Lines" 88 2 1 := ⟨RX2, TX2, 7, tyX2, rfl, by decide, inG_2, wk_103, tyX2_ok, nmX2⟩
theorem ff_L_76 : hc_fld "BalancedLine$Lines" 76 2 2 := ⟨RX2, TX2, 7, tyX2, rfl, by decide, inG_2, wk_108, tyX2_ok, nmX2⟩
theorem ff_L_79 : hc_fld "BalancedLine$Lines" 79 2 3 := ⟨RX2, TX2, 7, tyX2, rfl, by decide, inG_2, wk_112, tyX2_ok, nmX2⟩
theorem ff_L_82 : hc_fld "BalancedLine$Lines" 82 2 5 := ⟨RX2, TX2, 7, tyX2, rfl, by decide, inG_2, wk_118, tyX2_ok, nmX2⟩
theorem ff_L_85 : hc_fld "BalancedLine$Lines" 85 2 4 := ⟨RX2, TX2, 7, tyX2, rfl, by decide, inG_2, wk_115, tyX2_ok, nmX2⟩
theorem ff_L_69 : hc_fld "BalancedLine$Lines" 69 2 0 := ⟨RX2, TX2, 7, tyX2, rfl, by decide, inG_2, wk_100, tyX2_ok, nmX2⟩
theorem ff_L_99 : hc_fld "BalancedLine$Lines" 99 0 12 := ⟨RX0, TX0, 16, tyX0, rfl, by decide, inG_0, wk_323, tyX0_ok, nmX0⟩
theorem ff_Y_9 : hc_fld "BalancedLine$Study" 9 4 9 := ⟨RX4, TX4, 12, tyX4, rfl, by decide, inG_4, wk_374, tyX4_ok, nmX4⟩
theorem ff_Y_15 : hc_fld "BalancedLine$Study" 15 4 10 := ⟨RX4, TX4, 12, tyX4, rfl, by decide, inG_4, wk_375, tyX4_ok, nmX4⟩
theorem ff_Y_18 : hc_fld "BalancedLine$Study" 18 4 0 := ⟨RX4, TX4, 12, tyX4, rfl, by decide, inG_4, wk_363, tyX4_ok, nmX4⟩
theorem ff_Y_22 : hc_fld "BalancedLine$Study" 22 4 1 := ⟨RX4, TX4, 12, tyX4, rfl, by decide, inG_4, wk_364, tyX4_ok, nmX4⟩
theorem ff_Y_27 : hc_fld "BalancedLine$Study" 27 2 0 := ⟨RX2, TX2, 7, tyX2, rfl, by decide, inG_2, wk_98, tyX2_ok, nmX2⟩
theorem ff_Y_36 : hc_fld "BalancedLine$Study" 36 4 2 := ⟨RX4, TX4, 12, tyX4, rfl, by decide, inG_4, wk_365, tyX4_ok, nmX4⟩
theorem ff_Y_40 : hc_fld "BalancedLine$Study" 40 4 3 := ⟨RX4, TX4, 12, tyX4, rfl, by decide, inG_4, wk_366, tyX4_ok, nmX4⟩
theorem ff_Y_44 : hc_fld "BalancedLine$Study" 44 4 4 := ⟨RX4, TX4, 12, tyX4, rfl, by decide, inG_4, wk_367, tyX4_ok, nmX4⟩
theorem ff_Y_47 : hc_fld "BalancedLine$Study" 47 4 5 := ⟨RX4, TX4, 12, tyX4, rfl, by decide, inG_4, wk_368, tyX4_ok, nmX4⟩
theorem ff_Y_73 : hc_fld "BalancedLine$Study" 73 4 6 := ⟨RX4, TX4, 12, tyX4, rfl, by decide, inG_4, wk_369, tyX4_ok, nmX4⟩
theorem ff_Y_76 : hc_fld "BalancedLine$Study" 76 4 7 := ⟨RX4, TX4, 12, tyX4, rfl, by decide, inG_4, wk_371, tyX4_ok, nmX4⟩
theorem ff_Y_88 : hc_fld "BalancedLine$Study" 88 4 8 := ⟨RX4, TX4, 12, tyX4, rfl, by decide, inG_4, wk_373, tyX4_ok, nmX4⟩
theorem ff_Y_117 : hc_fld "BalancedLine$Study" 117 2 1 := ⟨RX2, TX2, 7, tyX2, rfl, by decide, inG_2, wk_106, tyX2_ok, nmX2⟩
theorem ff_Y_123 : hc_fld "BalancedLine$Study" 123 2 2 := ⟨RX2, TX2, 7, tyX2, rfl, by decide, inG_2, wk_110, tyX2_ok, nmX2⟩
theorem ff_Y_148 : hc_fld "BalancedLine$Study" 148 4 11 := ⟨RX4, TX4, 12, tyX4, rfl, by decide, inG_4, wk_376, tyX4_ok, nmX4⟩
theorem ff_B_12 : hc_fld "BalancedLine" 12 5 0 := ⟨RX5, TX5, 5, tyX5, rfl, by decide, inG_5, wk_402, tyX5_ok, nmX5⟩
theorem ff_B_69 : hc_fld "BalancedLine" 69 3 1 := ⟨RX3, TX3, 2, tyX3, rfl, by decide, inG_3, wk_85, tyX3_ok, nmX3⟩
theorem ff_B_23 : hc_fld "BalancedLine" 23 5 2 := ⟨RX5, TX5, 5, tyX5, rfl, by decide, inG_5, wk_404, tyX5_ok, nmX5⟩
theorem ff_B_19 : hc_fld "BalancedLine" 19 5 1 := ⟨RX5, TX5, 5, tyX5, rfl, by decide, inG_5, wk_403, tyX5_ok, nmX5⟩
theorem ff_B_29 : hc_fld "BalancedLine" 29 5 3 := ⟨RX5, TX5, 5, tyX5, rfl, by decide, inG_5, wk_405, tyX5_ok, nmX5⟩
theorem ff_B_61 : hc_fld "BalancedLine" 61 5 4 := ⟨RX5, TX5, 5, tyX5, rfl, by decide, inG_5, wk_406, tyX5_ok, nmX5⟩
theorem ff_B_72 : hc_fld "BalancedLine" 72 2 0 := ⟨RX2, TX2, 7, tyX2, rfl, by decide, inG_2, wk_101, tyX2_ok, nmX2⟩
theorem ff_B_84 : hc_fld "BalancedLine" 84 2 1 := ⟨RX2, TX2, 7, tyX2, rfl, by decide, inG_2, wk_104, tyX2_ok, nmX2⟩
theorem ff_B_97 : hc_fld "BalancedLine" 97 2 2 := ⟨RX2, TX2, 7, tyX2, rfl, by decide, inG_2, wk_109, tyX2_ok, nmX2⟩
theorem ff_B_130 : hc_fld "BalancedLine" 130 1 1 := ⟨RX1, TX1, 2, tyX1, rfl, by decide, inG_1, wk_149, tyX1_ok, nmX1⟩
theorem ff_B_146 : hc_fld "BalancedLine" 146 2 5 := ⟨RX2, TX2, 7, tyX2, rfl, by decide, inG_2, wk_119, tyX2_ok, nmX2⟩
theorem ff_B_143 : hc_fld "BalancedLine" 143 2 4 := ⟨RX2, TX2, 7, tyX2, rfl, by decide, inG_2, wk_116, tyX2_ok, nmX2⟩
theorem ff_B_133 : hc_fld "BalancedLine" 133 2 3 := ⟨RX2, TX2, 7, tyX2, rfl, by decide, inG_2, wk_113, tyX2_ok, nmX2⟩
theorem ff_B_152 : hc_fld "BalancedLine" 152 2 6 := ⟨RX2, TX2, 7, tyX2, rfl, by decide, inG_2, wk_121, tyX2_ok, nmX2⟩
theorem ff_B_170 : hc_fld "BalancedLine" 170 4 6 := ⟨RX4, TX4, 12, tyX4, rfl, by decide, inG_4, wk_370, tyX4_ok, nmX4⟩
theorem ff_B_189 : hc_fld "BalancedLine" 189 4 7 := ⟨RX4, TX4, 12, tyX4, rfl, by decide, inG_4, wk_372, tyX4_ok, nmX4⟩
theorem ff_R_13 : hc_fld "BalancedLineModel" 13 6 2 := ⟨RX6, TX6, 15, tyX6, rfl, by decide, inG_6, wk_853, tyX6_ok, nmX6⟩
theorem ff_R_7 : hc_fld "BalancedLineModel" 7 6 1 := ⟨RX6, TX6, 15, tyX6, rfl, by decide, inG_6, wk_852, tyX6_ok, nmX6⟩
theorem ff_R_16 : hc_fld "BalancedLineModel" 16 6 3 := ⟨RX6, TX6, 15, tyX6, rfl, by decide, inG_6, wk_854, tyX6_ok, nmX6⟩
theorem ff_R_19 : hc_fld "BalancedLineModel" 19 6 5 := ⟨RX6, TX6, 15, tyX6, rfl, by decide, inG_6, wk_856, tyX6_ok, nmX6⟩
theorem ff_R_22 : hc_fld "BalancedLineModel" 22 6 7 := ⟨RX6, TX6, 15, tyX6, rfl, by decide, inG_6, wk_858, tyX6_ok, nmX6⟩
theorem ff_R_25 : hc_fld "BalancedLineModel" 25 6 8 := ⟨RX6, TX6, 15, tyX6, rfl, by decide, inG_6, wk_859, tyX6_ok, nmX6⟩
theorem ff_R_29 : hc_fld "BalancedLineModel" 29 6 9 := ⟨RX6, TX6, 15, tyX6, rfl, by decide, inG_6, wk_860, tyX6_ok, nmX6⟩
theorem ff_R_32 : hc_fld "BalancedLineModel" 32 6 10 := ⟨RX6, TX6, 15, tyX6, rfl, by decide, inG_6, wk_861, tyX6_ok, nmX6⟩
theorem ff_R_35 : hc_fld "BalancedLineModel" 35 6 11 := ⟨RX6, TX6, 15, tyX6, rfl, by decide, inG_6, wk_862, tyX6_ok, nmX6⟩
theorem ff_R_38 : hc_fld "BalancedLineModel" 38 6 12 := ⟨RX6, TX6, 15, tyX6, rfl, by decide, inG_6, wk_863, tyX6_ok, nmX6⟩
theorem ff_R_41 : hc_fld "BalancedLineModel" 41 6 13 := ⟨RX6, TX6, 15, tyX6, rfl, by decide, inG_6, wk_864, tyX6_ok, nmX6⟩
theorem ff_R_60 : hc_fld "BalancedLineModel" 60 6 0 := ⟨RX6, TX6, 15, tyX6, rfl, by decide, inG_6, wk_851, tyX6_ok, nmX6⟩
theorem ff_R_64 : hc_fld "BalancedLineModel" 64 6 6 := ⟨RX6, TX6, 15, tyX6, rfl, by decide, inG_6, wk_857, tyX6_ok, nmX6⟩
theorem ff_R_95 : hc_fld "BalancedLineModel" 95 6 4 := ⟨RX6, TX6, 15, tyX6, rfl, by decide, inG_6, wk_855, tyX6_ok, nmX6⟩
theorem ff_R_169 : hc_fld "BalancedLineModel" 169 6 14 := ⟨RX6, TX6, 15, tyX6, rfl, by decide, inG_6, wk_865, tyX6_ok, nmX6⟩
end
section
/-! java/lang/Integer.bitCount(I)I -/
abbrev M_J_bitCount : hc_M := (⟨"java/lang/Integer", "bitCount", "(I)I"⟩, prog_9_method_49_code, 1, (some .int), 0, 0)
theorem d_J_bitCount_0 : decode (mC M_J_bitCount) 0 = .ok (.iload_n 0, 1) := by decide +kernel
theorem d_J_bitCount_1 : decode (mC M_J_bitCount) 1 = .ok (.iload_n 0, 1) := by decide +kernel
theorem d_J_bitCount_2 : decode (mC M_J_bitCount) 2 = .ok (.iconst 1, 1) := by decide +kernel
theorem d_J_bitCount_3 : decode (mC M_J_bitCount) 3 = .ok (.iushr, 1) := by decide +kernel
theorem d_J_bitCount_4 : decode (mC M_J_bitCount) 4 = .ok (.ldc_w 265, 3) := by decide +kernel
theorem d_J_bitCount_7 : decode (mC M_J_bitCount) 7 = .ok (.iand, 1) := by decide +kernel
theorem d_J_bitCount_8 : decode (mC M_J_bitCount) 8 = .ok (.isub, 1) := by decide +kernel
theorem d_J_bitCount_9 : decode (mC M_J_bitCount) 9 = .ok (.istore_n 0, 1) := by decide +kernel
theorem d_J_bitCount_10 : decode (mC M_J_bitCount) 10 = .ok (.iload_n 0, 1) := by decide +kernel
theorem d_J_bitCount_11 : decode (mC M_J_bitCount) 11 = .ok (.ldc_w 266, 3) := by decide +kernel
theorem d_J_bitCount_14 : decode (mC M_J_bitCount) 14 = .ok (.iand, 1) := by decide +kernel
theorem d_J_bitCount_15 : decode (mC M_J_bitCount) 15 = .ok (.iload_n 0, 1) := by decide +kernel
theorem d_J_bitCount_16 : decode (mC M_J_bitCount) 16 = .ok (.iconst 2, 1) := by decide +kernel
theorem d_J_bitCount_17 : decode (mC M_J_bitCount) 17 = .ok (.iushr, 1) := by decide +kernel
theorem d_J_bitCount_18 : decode (mC M_J_bitCount) 18 = .ok (.ldc_w 266, 3) := by decide +kernel
theorem d_J_bitCount_21 : decode (mC M_J_bitCount) 21 = .ok (.iand, 1) := by decide +kernel
theorem d_J_bitCount_22 : decode (mC M_J_bitCount) 22 = .ok (.iadd, 1) := by decide +kernel
theorem d_J_bitCount_23 : decode (mC M_J_bitCount) 23 = .ok (.istore_n 0, 1) := by decide +kernel
theorem d_J_bitCount_24 : decode (mC M_J_bitCount) 24 = .ok (.iload_n 0, 1) := by decide +kernel
theorem d_J_bitCount_25 : decode (mC M_J_bitCount) 25 = .ok (.iload_n 0, 1) := by decide +kernel
theorem d_J_bitCount_26 : decode (mC M_J_bitCount) 26 = .ok (.iconst 4, 1) := by decide +kernel
theorem d_J_bitCount_27 : decode (mC M_J_bitCount) 27 = .ok (.iushr, 1) := by decide +kernel
theorem d_J_bitCount_28 : decode (mC M_J_bitCount) 28 = .ok (.iadd, 1) := by decide +kernel
theorem d_J_bitCount_29 : decode (mC M_J_bitCount) 29 = .ok (.ldc_w 267, 3) := by decide +kernel
theorem d_J_bitCount_32 : decode (mC M_J_bitCount) 32 = .ok (.iand, 1) := by decide +kernel
theorem d_J_bitCount_33 : decode (mC M_J_bitCount) 33 = .ok (.istore_n 0, 1) := by decide +kernel
theorem d_J_bitCount_34 : decode (mC M_J_bitCount) 34 = .ok (.iload_n 0, 1) := by decide +kernel
theorem d_J_bitCount_35 : decode (mC M_J_bitCount) 35 = .ok (.iload_n 0, 1) := by decide +kernel
theorem d_J_bitCount_36 : decode (mC M_J_bitCount) 36 = .ok (.bipush 8, 2) := by decide +kernel
theorem d_J_bitCount_38 : decode (mC M_J_bitCount) 38 = .ok (.iushr, 1) := by decide +kernel
theorem d_J_bitCount_39 : decode (mC M_J_bitCount) 39 = .ok (.iadd, 1) := by decide +kernel
theorem d_J_bitCount_40 : decode (mC M_J_bitCount) 40 = .ok (.istore_n 0, 1) := by decide +kernel
theorem d_J_bitCount_41 : decode (mC M_J_bitCount) 41 = .ok (.iload_n 0, 1) := by decide +kernel
theorem d_J_bitCount_42 : decode (mC M_J_bitCount) 42 = .ok (.iload_n 0, 1) := by decide +kernel
theorem d_J_bitCount_43 : decode (mC M_J_bitCount) 43 = .ok (.bipush 16, 2) := by decide +kernel
theorem d_J_bitCount_45 : decode (mC M_J_bitCount) 45 = .ok (.iushr, 1) := by decide +kernel
theorem d_J_bitCount_46 : decode (mC M_J_bitCount) 46 = .ok (.iadd, 1) := by decide +kernel
theorem d_J_bitCount_47 : decode (mC M_J_bitCount) 47 = .ok (.istore_n 0, 1) := by decide +kernel
theorem d_J_bitCount_48 : decode (mC M_J_bitCount) 48 = .ok (.iload_n 0, 1) := by decide +kernel
theorem d_J_bitCount_49 : decode (mC M_J_bitCount) 49 = .ok (.bipush 63, 2) := by decide +kernel
theorem d_J_bitCount_51 : decode (mC M_J_bitCount) 51 = .ok (.iand, 1) := by decide +kernel
theorem d_J_bitCount_52 : decode (mC M_J_bitCount) 52 = .ok (.ireturn, 1) := by decide +kernel
def vc_J_bitCount_0 (r : Option Value) (hf : hc_H) (J : Nat → hc_K) (lv : hc_L) (st : List Value) (h : hc_H) : Prop := (qi_iload 0 (qi_iload 0 (qi_push (nI 1) (qi_iushr (qi_push (nI 1431655765) (qi_iand (qi_isub (qi_istore 0 (qi_iload 0 (qi_push (nI 858993459) (qi_iand (qi_iload 0 (qi_push (nI 2) (qi_iushr (qi_push (nI 858993459) (qi_iand (qi_iadd (qi_istore 0 (qi_iload 0 (qi_iload 0 (qi_push (nI 4) (qi_iushr (qi_iadd (qi_push (nI 252645135) (qi_iand (qi_istore 0 (qi_iload 0 (qi_iload 0 (qi_push (nI 8) (qi_iushr (qi_iadd (qi_istore 0 (qi_iload 0 (qi_iload 0 (qi_push (nI 16) (qi_iushr (qi_iadd (qi_istore 0 (qi_iload 0 (qi_push (nI 63) (qi_iand (qi_iret r hf)))))))))))))))))))))))))))))))))))))))))) lv st h
theorem sn_J_bitCount_0 {Ph : Nat → State → Prop} {h0 hf : hc_H} {r : Option Value} : qk Ph M_J_bitCount h0 hf r 0 (vc_J_bitCount_0 r hf (cx Ph M_J_bitCount h0 hf r)) := (qs_iload_n d_J_bitCount_0 rfl (qs_iload_n d_J_bitCount_1 rfl (qs_iconst d_J_bitCount_2 (by decide) (qs_iushr d_J_bitCount_3 (qs_ldcw d_J_bitCount_4 (by first | exact wk_505 | exact (show _ ∈ lw_g from wk_505)) (qs_iand d_J_bitCount_7 (qs_isub d_J_bitCount_8 (qs_istore_n d_J_bitCount_9 rfl (by decide) (qs_iload_n d_J_bitCount_10 rfl (qs_ldcw d_J_bitCount_11 (by first | exact wk_506 | exact (show _ ∈ lw_g from wk_506)) (qs_iand d_J_bitCount_14 (qs_iload_n d_J_bitCount_15 rfl (qs_iconst d_J_bitCount_16 (by decide) (qs_iushr d_J_bitCount_17 (qs_ldcw d_J_bitCount_18 (by first | exact wk_506 | exact (show _ ∈ lw_g from wk_506)) (qs_iand d_J_bitCount_21 (qs_iadd d_J_bitCount_22 (qs_istore_n d_J_bitCount_23 rfl (by decide) (qs_iload_n d_J_bitCount_24 rfl (qs_iload_n d_J_bitCount_25 rfl (qs_iconst d_J_bitCount_26 (by decide) (qs_iushr d_J_bitCount_27 (qs_iadd d_J_bitCount_28 (qs_ldcw d_J_bitCount_29 (by first | exact wk_507 | exact (show _ ∈ lw_g from wk_507)) (qs_iand d_J_bitCount_32 (qs_istore_n d_J_bitCount_33 rfl (by decide) (qs_iload_n d_J_bitCount_34 rfl (qs_iload_n d_J_bitCount_35 rfl (qs_bipush d_J_bitCount_36 (by decide) (qs_iushr d_J_bitCount_38 (qs_iadd d_J_bitCount_39 (qs_istore_n d_J_bitCount_40 rfl (by decide) (qs_iload_n d_J_bitCount_41 rfl (qs_iload_n d_J_bitCount_42 rfl (qs_bipush d_J_bitCount_43 (by decide) (qs_iushr d_J_bitCount_45 (qs_iadd d_J_bitCount_46 (qs_istore_n d_J_bitCount_47 rfl (by decide) (qs_iload_n d_J_bitCount_48 rfl (qs_bipush d_J_bitCount_49 (by decide) (qs_iand d_J_bitCount_51 (qs_iret d_J_bitCount_52 rfl))))))))))))))))))))))))))))))))))))))))))
/-! java/lang/Math.max(II)I -/
abbrev M_J_max : hc_M := (⟨"java/lang/Math", "max", "(II)I"⟩, prog_10_method_65_code, 2, (some .int), 0, 0)
theorem d_J_max_0 : decode (mC M_J_max) 0 = .ok (.iload_n 0, 1) := by decide +kernel
theorem d_J_max_1 : decode (mC M_J_max) 1 = .ok (.iload_n 1, 1) := by decide +kernel
theorem d_J_max_2 : decode (mC M_J_max) 2 = .ok (.if_icmp .lt 7, 3) := by decide +kernel
theorem d_J_max_5 : decode (mC M_J_max) 5 = .ok (.iload_n 0, 1) := by decide +kernel
theorem d_J_max_6 : decode (mC M_J_max) 6 = .ok (.goto 4, 3) := by decide +kernel
theorem d_J_max_9 : decode (mC M_J_max) 9 = .ok (.iload_n 1, 1) := by decide +kernel
theorem d_J_max_10 : decode (mC M_J_max) 10 = .ok (.ireturn, 1) := by decide +kernel
def vc_J_max_10 (r : Option Value) (hf : hc_H) (J : Nat → hc_K) (lv : hc_L) (st : List Value) (h : hc_H) : Prop := (qi_iret r hf) lv st h
theorem sn_J_max_10 {Ph : Nat → State → Prop} {h0 hf : hc_H} {r : Option Value} : qk Ph M_J_max h0 hf r 10 (vc_J_max_10 r hf (cx Ph M_J_max h0 hf r)) := (qs_iret d_J_max_10 rfl)
def vc_J_max_9 (r : Option Value) (hf : hc_H) (J : Nat → hc_K) (lv : hc_L) (st : List Value) (h : hc_H) : Prop := (qi_iload 1 (vc_J_max_10 r hf J)) lv st h
theorem sn_J_max_9 {Ph : Nat → State → Prop} {h0 hf : hc_H} {r : Option Value} : qk Ph M_J_max h0 hf r 9 (vc_J_max_9 r hf (cx Ph M_J_max h0 hf r)) := (qs_iload_n d_J_max_9 rfl sn_J_max_10)
def vc_J_max_0 (r : Option Value) (hf : hc_H) (J : Nat → hc_K) (lv : hc_L) (st : List Value) (h : hc_H) : Prop := (qi_iload 0 (qi_iload 1 (qi_icmp_lt (vc_J_max_9 r hf J) (qi_iload 0 (vc_J_max_10 r hf J))))) lv st h
theorem sn_J_max_0 {Ph : Nat → State → Prop} {h0 hf : hc_H} {r : Option Value} : qk Ph M_J_max h0 hf r 0 (vc_J_max_0 r hf (cx Ph M_J_max h0 hf r)) := (qs_iload_n d_J_max_0 rfl (qs_iload_n d_J_max_1 rfl (qs_icmp_lt (tgt := 9) d_J_max_2 (by decide) sn_J_max_9 (qs_iload_n d_J_max_5 rfl (qs_goto (tgt := 10) d_J_max_6 (by decide) sn_J_max_10)))))
/-! java/lang/Math.min(II)I -/
abbrev M_J_min : hc_M := (⟨"java/lang/Math", "min", "(II)I"⟩, prog_10_method_69_code, 2, (some .int), 0, 0)
theorem d_J_min_0 : decode (mC M_J_min) 0 = .ok (.iload_n 0, 1) := by decide +kernel
theorem d_J_min_1 : decode (mC M_J_min) 1 = .ok (.iload_n 1, 1) := by decide +kernel
theorem d_J_min_2 : decode (mC M_J_min) 2 = .ok (.if_icmp .gt 7, 3) := by decide +kernel
theorem d_J_min_5 : decode (mC M_J_min) 5 = .ok (.iload_n 0, 1) := by decide +kernel
theorem d_J_min_6 : decode (mC M_J_min) 6 = .ok (.goto 4, 3) := by decide +kernel
theorem d_J_min_9 : decode (mC M_J_min) 9 = .ok (.iload_n 1, 1) := by decide +kernel
theorem d_J_min_10 : decode (mC M_J_min) 10 = .ok (.ireturn, 1) := by decide +kernel
def vc_J_min_10 (r : Option Value) (hf : hc_H) (J : Nat → hc_K) (lv : hc_L) (st : List Value) (h : hc_H) : Prop := (qi_iret r hf) lv st h
theorem sn_J_min_10 {Ph : Nat → State → Prop} {h0 hf : hc_H} {r : Option Value} : qk Ph M_J_min h0 hf r 10 (vc_J_min_10 r hf (cx Ph M_J_min h0 hf r)) := (qs_iret d_J_min_10 rfl)
def vc_J_min_9 (r : Option Value) (hf : hc_H) (J : Nat → hc_K) (lv : hc_L) (st : List Value) (h : hc_H) : Prop := (qi_iload 1 (vc_J_min_10 r hf J)) lv st h
theorem sn_J_min_9 {Ph : Nat → State → Prop} {h0 hf : hc_H} {r : Option Value} : qk Ph M_J_min h0 hf r 9 (vc_J_min_9 r hf (cx Ph M_J_min h0 hf r)) := (qs_iload_n d_J_min_9 rfl sn_J_min_10)
def vc_J_min_0 (r : Option Value) (hf : hc_H) (J : Nat → hc_K) (lv : hc_L) (st : List Value) (h : hc_H) : Prop := (qi_iload 0 (qi_iload 1 (qi_icmp_gt (vc_J_min_9 r hf J) (qi_iload 0 (vc_J_min_10 r hf J))))) lv st h
theorem sn_J_min_0 {Ph : Nat → State → Prop} {h0 hf : hc_H} {r : Option Value} : qk Ph M_J_min h0 hf r 0 (vc_J_min_0 r hf (cx Ph M_J_min h0 hf r)) := (qs_iload_n d_J_min_0 rfl (qs_iload_n d_J_min_1 rfl (qs_icmp_gt (tgt := 9) d_J_min_2 (by decide) sn_J_min_9 (qs_iload_n d_J_min_5 rfl (qs_goto (tgt := 10) d_J_min_6 (by decide) sn_J_min_10)))))
/-! java/util/Arrays.fill([II)V -/
abbrev M_J_fill : hc_M := (⟨"java/util/Arrays", "fill", "([II)V"⟩, prog_15_method_103_code, 4, none, 0, 0)
theorem d_J_fill_0 : decode (mC M_J_fill) 0 = .ok (.iconst 0, 1) := by decide +kernel
theorem d_J_fill_1 : decode (mC M_J_fill) 1 = .ok (.istore_n 2, 1) := by decide +kernel
theorem d_J_fill_2 : decode (mC M_J_fill) 2 = .ok (.aload_n 0, 1) := by decide +kernel
theorem d_J_fill_3 : decode (mC M_J_fill) 3 = .ok (.arraylength, 1) := by decide +kernel
theorem d_J_fill_4 : decode (mC M_J_fill) 4 = .ok (.istore_n 3, 1) := by decide +kernel
theorem d_J_fill_5 : decode (mC M_J_fill) 5 = .ok (.iload_n 2, 1) := by decide +kernel
theorem d_J_fill_6 : decode (mC M_J_fill) 6 = .ok (.iload_n 3, 1) := by decide +kernel
theorem d_J_fill_7 : decode (mC M_J_fill) 7 = .ok (.if_icmp .ge 13, 3) := by decide +kernel
theorem d_J_fill_10 : decode (mC M_J_fill) 10 = .ok (.aload_n 0, 1) := by decide +kernel
theorem d_J_fill_11 : decode (mC M_J_fill) 11 = .ok (.iload_n 2, 1) := by decide +kernel
theorem d_J_fill_12 : decode (mC M_J_fill) 12 = .ok (.iload_n 1, 1) := by decide +kernel
theorem d_J_fill_13 : decode (mC M_J_fill) 13 = .ok (.iastore, 1) := by decide +kernel
theorem d_J_fill_14 : decode (mC M_J_fill) 14 = .ok (.iinc 2 1, 3) := by decide +kernel
theorem d_J_fill_17 : decode (mC M_J_fill) 17 = .ok (.goto (-12), 3) := by decide +kernel
theorem d_J_fill_20 : decode (mC M_J_fill) 20 = .ok (.return_, 1) := by decide +kernel
def vc_J_fill_20 (r : Option Value) (hf : hc_H) (J : Nat → hc_K) (lv : hc_L) (st : List Value) (h : hc_H) : Prop := (qi_vret r hf) lv st h
theorem sn_J_fill_20 {Ph : Nat → State → Prop} {h0 hf : hc_H} {r : Option Value} : qk Ph M_J_fill h0 hf r 20 (vc_J_fill_20 r hf (cx Ph M_J_fill h0 hf r)) := (qs_vret d_J_fill_20 rfl)
def vc_J_fill_5 (r : Option Value) (hf : hc_H) (J : Nat → hc_K) (lv : hc_L) (st : List Value) (h : hc_H) : Prop := (qi_iload 2 (qi_iload 3 (qi_icmp_ge (vc_J_fill_20 r hf J) (qi_aload 0 (qi_iload 2 (qi_iload 1 (qi_iast (qi_iinc 2 (nI 1) (J 5))))))))) lv st h
theorem sn_J_fill_5 {Ph : Nat → State → Prop} {h0 hf : hc_H} {r : Option Value} : qk Ph M_J_fill h0 hf r 5 (vc_J_fill_5 r hf (cx Ph M_J_fill h0 hf r)) := (qs_iload_n d_J_fill_5 rfl (qs_iload_n d_J_fill_6 rfl (qs_icmp_ge (tgt := 20) d_J_fill_7 (by decide) sn_J_fill_20 (qs_aload_n d_J_fill_10 rfl (qs_iload_n d_J_fill_11 rfl (qs_iload_n d_J_fill_12 rfl (qs_iastore d_J_fill_13 (qs_iinc d_J_fill_14 (by decide) (by decide) (qs_goto (tgt := 5) d_J_fill_17 (by decide) (fun _ _ _ h9 => h9))))))))))
def vc_J_fill_0 (r : Option Value) (hf : hc_H) (J : Nat → hc_K) (lv : hc_L) (st : List Value) (h : hc_H) : Prop := (qi_push (nI 0) (qi_istore 2 (qi_aload 0 (qi_alen (qi_istore 3 (J 5)))))) lv st h
theorem sn_J_fill_0 {Ph : Nat → State → Prop} {h0 hf : hc_H} {r : Option Value} : qk Ph M_J_fill h0 hf r 0 (vc_J_fill_0 r hf (cx Ph M_J_fill h0 hf r)) := (qs_iconst d_J_fill_0 (by decide) (qs_istore_n d_J_fill_1 rfl (by decide) (qs_aload_n d_J_fill_2 rfl (qs_alen d_J_fill_3 (qs_istore_n d_J_fill_4 rfl (by decide) (fun _ _ _ h9 => h9))))))
end
