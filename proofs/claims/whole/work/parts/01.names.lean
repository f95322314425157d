-- ===== PART A: goes FIRST, ahead of the names: the tables' words, and 'selects' of the private methods out of them =====
/-- a private method of a class that the tables say can be made, by its rows of tables_1 -/
def lw_okq (q : MethodName × Nat) : Prop := (q.1.cls ≠ "java/lang/invoke/MethodHandle" ∧ q.1.cls ≠ "java/lang/invoke/VarHandle") ∧ Cond.instantiable q.1.cls q.2 ∈ tables_1 ∧ Cond.privateMethod q.1 ∈ tables_1 ∧ Cond.instanceMethod q.1 ∈ tables_1
theorem lw_p0 : lw_okq (⟨"ClockCall", "landAt", "(I)LClockCall$Land;"⟩, 14) := ⟨⟨by decide +kernel, by decide +kernel⟩, List.mem_of_getElem? (i := 19) (by decide +kernel), List.mem_of_getElem? (i := 317) (by decide +kernel), List.mem_of_getElem? (i := 318) (by decide +kernel)⟩
theorem lw_p1 : lw_okq (⟨"ClockCall", "personAt", "(I)LClockCall$Person;"⟩, 14) := ⟨⟨by decide +kernel, by decide +kernel⟩, List.mem_of_getElem? (i := 19) (by decide +kernel), List.mem_of_getElem? (i := 351) (by decide +kernel), List.mem_of_getElem? (i := 352) (by decide +kernel)⟩
theorem lw_p2 : lw_okq (⟨"ClockCall", "seriesAt", "(I)LClockCall$Series;"⟩, 14) := ⟨⟨by decide +kernel, by decide +kernel⟩, List.mem_of_getElem? (i := 19) (by decide +kernel), List.mem_of_getElem? (i := 373) (by decide +kernel), List.mem_of_getElem? (i := 374) (by decide +kernel)⟩
theorem lw_p3 : lw_okq (⟨"ClockCall", "meetingCount", "()I"⟩, 14) := ⟨⟨by decide +kernel, by decide +kernel⟩, List.mem_of_getElem? (i := 19) (by decide +kernel), List.mem_of_getElem? (i := 442) (by decide +kernel), List.mem_of_getElem? (i := 443) (by decide +kernel)⟩
theorem lw_p4 : lw_okq (⟨"ClockCall", "isKnown", "(I)Z"⟩, 14) := ⟨⟨by decide +kernel, by decide +kernel⟩, List.mem_of_getElem? (i := 19) (by decide +kernel), List.mem_of_getElem? (i := 508) (by decide +kernel), List.mem_of_getElem? (i := 509) (by decide +kernel)⟩
theorem lw_p5 : lw_okq (⟨"ClockCall", "seatLesser", "(LClockCall$Series;II)V"⟩, 14) := ⟨⟨by decide +kernel, by decide +kernel⟩, List.mem_of_getElem? (i := 19) (by decide +kernel), List.mem_of_getElem? (i := 611) (by decide +kernel), List.mem_of_getElem? (i := 612) (by decide +kernel)⟩
theorem lw_p6 : lw_okq (⟨"ClockCall", "seat", "(IIII)Z"⟩, 14) := ⟨⟨by decide +kernel, by decide +kernel⟩, List.mem_of_getElem? (i := 19) (by decide +kernel), List.mem_of_getElem? (i := 634) (by decide +kernel), List.mem_of_getElem? (i := 635) (by decide +kernel)⟩
theorem lw_p7 : lw_okq (⟨"ClockCall$Seating", "preferSecond", "(LClockCall$Sheet;I)I"⟩, 6) := ⟨⟨by decide +kernel, by decide +kernel⟩, List.mem_of_getElem? (i := 79) (by decide +kernel), List.mem_of_getElem? (i := 671) (by decide +kernel), List.mem_of_getElem? (i := 672) (by decide +kernel)⟩
theorem lw_p8 : lw_okq (⟨"ClockCall$Board", "add", "(LClockCall$Series;II)V"⟩, 5) := ⟨⟨by decide +kernel, by decide +kernel⟩, List.mem_of_getElem? (i := 55) (by decide +kernel), List.mem_of_getElem? (i := 680) (by decide +kernel), List.mem_of_getElem? (i := 681) (by decide +kernel)⟩
theorem lw_p9 : lw_okq (⟨"ClockCall$Seating", "isBehindChain", "(LClockCall$Series;LClockCall$Sheet;LClockCall$Board;)Z"⟩, 6) := ⟨⟨by decide +kernel, by decide +kernel⟩, List.mem_of_getElem? (i := 79) (by decide +kernel), List.mem_of_getElem? (i := 698) (by decide +kernel), List.mem_of_getElem? (i := 699) (by decide +kernel)⟩
theorem lw_p10 : lw_okq (⟨"ClockCall$Blame", "listSuspects", "(LClockCall$Series;)V"⟩, 4) := ⟨⟨by decide +kernel, by decide +kernel⟩, List.mem_of_getElem? (i := 225) (by decide +kernel), List.mem_of_getElem? (i := 742) (by decide +kernel), List.mem_of_getElem? (i := 743) (by decide +kernel)⟩
theorem lw_p11 : lw_okq (⟨"ClockCall$Blame", "noteHindered", "(LClockCall$Series;I)V"⟩, 4) := ⟨⟨by decide +kernel, by decide +kernel⟩, List.mem_of_getElem? (i := 225) (by decide +kernel), List.mem_of_getElem? (i := 751) (by decide +kernel), List.mem_of_getElem? (i := 752) (by decide +kernel)⟩
theorem lw_p12 : lw_okq (⟨"ClockCall$Blame", "leastSet", "(I)I"⟩, 4) := ⟨⟨by decide +kernel, by decide +kernel⟩, List.mem_of_getElem? (i := 225) (by decide +kernel), List.mem_of_getElem? (i := 755) (by decide +kernel), List.mem_of_getElem? (i := 756) (by decide +kernel)⟩
theorem lw_p13 : lw_okq (⟨"ClockCall$Blame", "hinderedBy", "(I)I"⟩, 4) := ⟨⟨by decide +kernel, by decide +kernel⟩, List.mem_of_getElem? (i := 225) (by decide +kernel), List.mem_of_getElem? (i := 759) (by decide +kernel), List.mem_of_getElem? (i := 760) (by decide +kernel)⟩
theorem lw_p14 : lw_okq (⟨"ClockCall$Blame", "personsOf", "(I)I"⟩, 4) := ⟨⟨by decide +kernel, by decide +kernel⟩, List.mem_of_getElem? (i := 225) (by decide +kernel), List.mem_of_getElem? (i := 769) (by decide +kernel), List.mem_of_getElem? (i := 770) (by decide +kernel)⟩
theorem lw_p15 : lw_okq (⟨"ClockCall$Planner", "leastAt", "(II)I"⟩, 11) := ⟨⟨by decide +kernel, by decide +kernel⟩, List.mem_of_getElem? (i := 112) (by decide +kernel), List.mem_of_getElem? (i := 777) (by decide +kernel), List.mem_of_getElem? (i := 778) (by decide +kernel)⟩
def lw_privs_1 : List (MethodName × Nat) := [(⟨"ClockCall", "landAt", "(I)LClockCall$Land;"⟩, 14), (⟨"ClockCall", "personAt", "(I)LClockCall$Person;"⟩, 14), (⟨"ClockCall", "seriesAt", "(I)LClockCall$Series;"⟩, 14), (⟨"ClockCall", "meetingCount", "()I"⟩, 14), (⟨"ClockCall", "isKnown", "(I)Z"⟩, 14), (⟨"ClockCall", "seatLesser", "(LClockCall$Series;II)V"⟩, 14), (⟨"ClockCall", "seat", "(IIII)Z"⟩, 14), (⟨"ClockCall$Seating", "preferSecond", "(LClockCall$Sheet;I)I"⟩, 6), (⟨"ClockCall$Board", "add", "(LClockCall$Series;II)V"⟩, 5), (⟨"ClockCall$Seating", "isBehindChain", "(LClockCall$Series;LClockCall$Sheet;LClockCall$Board;)Z"⟩, 6), (⟨"ClockCall$Blame", "listSuspects", "(LClockCall$Series;)V"⟩, 4), (⟨"ClockCall$Blame", "noteHindered", "(LClockCall$Series;I)V"⟩, 4), (⟨"ClockCall$Blame", "leastSet", "(I)I"⟩, 4), (⟨"ClockCall$Blame", "hinderedBy", "(I)I"⟩, 4), (⟨"ClockCall$Blame", "personsOf", "(I)I"⟩, 4), (⟨"ClockCall$Planner", "leastAt", "(II)I"⟩, 11)]
theorem lw_r1 : ∀ q ∈ lw_privs_1, lw_okq q := List.forall_mem_cons.mpr ⟨lw_p0, List.forall_mem_cons.mpr ⟨lw_p1, List.forall_mem_cons.mpr ⟨lw_p2, List.forall_mem_cons.mpr ⟨lw_p3, List.forall_mem_cons.mpr ⟨lw_p4, List.forall_mem_cons.mpr ⟨lw_p5, List.forall_mem_cons.mpr ⟨lw_p6, List.forall_mem_cons.mpr ⟨lw_p7, List.forall_mem_cons.mpr ⟨lw_p8, List.forall_mem_cons.mpr ⟨lw_p9, List.forall_mem_cons.mpr ⟨lw_p10, List.forall_mem_cons.mpr ⟨lw_p11, List.forall_mem_cons.mpr ⟨lw_p12, List.forall_mem_cons.mpr ⟨lw_p13, List.forall_mem_cons.mpr ⟨lw_p14, List.forall_mem_cons.mpr ⟨lw_p15, fun _ h => absurd h List.not_mem_nil⟩⟩⟩⟩⟩⟩⟩⟩⟩⟩⟩⟩⟩⟩⟩⟩
theorem lw_p16 : lw_okq (⟨"ClockCall$Planner", "search", "(I)V"⟩, 11) := ⟨⟨by decide +kernel, by decide +kernel⟩, List.mem_of_getElem? (i := 112) (by decide +kernel), List.mem_of_getElem? (i := 782) (by decide +kernel), List.mem_of_getElem? (i := 783) (by decide +kernel)⟩
theorem lw_p17 : lw_okq (⟨"ClockCall$Evener", "bringGreatest", "([II)V"⟩, 4) := ⟨⟨by decide +kernel, by decide +kernel⟩, List.mem_of_getElem? (i := 118) (by decide +kernel), List.mem_of_getElem? (i := 793) (by decide +kernel), List.mem_of_getElem? (i := 794) (by decide +kernel)⟩
theorem lw_p18 : lw_okq (⟨"ClockCall$Planner", "searchBehind", "(II)V"⟩, 11) := ⟨⟨by decide +kernel, by decide +kernel⟩, List.mem_of_getElem? (i := 112) (by decide +kernel), List.mem_of_getElem? (i := 802) (by decide +kernel), List.mem_of_getElem? (i := 803) (by decide +kernel)⟩
theorem lw_p19 : lw_okq (⟨"ClockCall$Planner", "charge", "(II)V"⟩, 11) := ⟨⟨by decide +kernel, by decide +kernel⟩, List.mem_of_getElem? (i := 112) (by decide +kernel), List.mem_of_getElem? (i := 806) (by decide +kernel), List.mem_of_getElem? (i := 807) (by decide +kernel)⟩
theorem lw_p20 : lw_okq (⟨"ClockCall$Mover", "search", "(II)V"⟩, 11) := ⟨⟨by decide +kernel, by decide +kernel⟩, List.mem_of_getElem? (i := 176) (by decide +kernel), List.mem_of_getElem? (i := 839) (by decide +kernel), List.mem_of_getElem? (i := 840) (by decide +kernel)⟩
theorem lw_p21 : lw_okq (⟨"ClockCall$Mover", "searchBehind", "(II)V"⟩, 11) := ⟨⟨by decide +kernel, by decide +kernel⟩, List.mem_of_getElem? (i := 176) (by decide +kernel), List.mem_of_getElem? (i := 848) (by decide +kernel), List.mem_of_getElem? (i := 849) (by decide +kernel)⟩
theorem lw_p22 : lw_okq (⟨"ClockCall$Mover", "charge", "(II)V"⟩, 11) := ⟨⟨by decide +kernel, by decide +kernel⟩, List.mem_of_getElem? (i := 176) (by decide +kernel), List.mem_of_getElem? (i := 853) (by decide +kernel), List.mem_of_getElem? (i := 854) (by decide +kernel)⟩
theorem lw_p23 : lw_okq (⟨"ClockCall", "isShifted", "(LClockCall$Series;III)Z"⟩, 14) := ⟨⟨by decide +kernel, by decide +kernel⟩, List.mem_of_getElem? (i := 19) (by decide +kernel), List.mem_of_getElem? (i := 882) (by decide +kernel), List.mem_of_getElem? (i := 883) (by decide +kernel)⟩
theorem lw_p24 : lw_okq (⟨"ClockCallModel", "isLand", "(I)Z"⟩, 43) := ⟨⟨by decide +kernel, by decide +kernel⟩, List.mem_of_getElem? (i := 887) (by decide +kernel), List.mem_of_getElem? (i := 1034) (by decide +kernel), List.mem_of_getElem? (i := 1035) (by decide +kernel)⟩
theorem lw_p25 : lw_okq (⟨"ClockCallModel", "isPerson", "(I)Z"⟩, 43) := ⟨⟨by decide +kernel, by decide +kernel⟩, List.mem_of_getElem? (i := 887) (by decide +kernel), List.mem_of_getElem? (i := 1042) (by decide +kernel), List.mem_of_getElem? (i := 1043) (by decide +kernel)⟩
theorem lw_p26 : lw_okq (⟨"ClockCallModel", "fact", "(IIIIZ)I"⟩, 43) := ⟨⟨by decide +kernel, by decide +kernel⟩, List.mem_of_getElem? (i := 887) (by decide +kernel), List.mem_of_getElem? (i := 1054) (by decide +kernel), List.mem_of_getElem? (i := 1055) (by decide +kernel)⟩
theorem lw_p27 : lw_okq (⟨"ClockCallModel", "isSeries", "(I)Z"⟩, 43) := ⟨⟨by decide +kernel, by decide +kernel⟩, List.mem_of_getElem? (i := 887) (by decide +kernel), List.mem_of_getElem? (i := 1070) (by decide +kernel), List.mem_of_getElem? (i := 1071) (by decide +kernel)⟩
theorem lw_p28 : lw_okq (⟨"ClockCallModel", "isKnown", "(I)Z"⟩, 43) := ⟨⟨by decide +kernel, by decide +kernel⟩, List.mem_of_getElem? (i := 887) (by decide +kernel), List.mem_of_getElem? (i := 1081) (by decide +kernel), List.mem_of_getElem? (i := 1082) (by decide +kernel)⟩
theorem lw_p29 : lw_okq (⟨"ClockCallModel", "offsetAt", "(III)I"⟩, 43) := ⟨⟨by decide +kernel, by decide +kernel⟩, List.mem_of_getElem? (i := 887) (by decide +kernel), List.mem_of_getElem? (i := 1086) (by decide +kernel), List.mem_of_getElem? (i := 1087) (by decide +kernel)⟩
theorem lw_p30 : lw_okq (⟨"ClockCallModel", "isSpan", "(IIII)Z"⟩, 43) := ⟨⟨by decide +kernel, by decide +kernel⟩, List.mem_of_getElem? (i := 887) (by decide +kernel), List.mem_of_getElem? (i := 1101) (by decide +kernel), List.mem_of_getElem? (i := 1102) (by decide +kernel)⟩
theorem lw_p31 : lw_okq (⟨"ClockCallModel", "reasons", "(IIII)I"⟩, 43) := ⟨⟨by decide +kernel, by decide +kernel⟩, List.mem_of_getElem? (i := 887) (by decide +kernel), List.mem_of_getElem? (i := 1105) (by decide +kernel), List.mem_of_getElem? (i := 1106) (by decide +kernel)⟩
def lw_privs_2 : List (MethodName × Nat) := [(⟨"ClockCall$Planner", "search", "(I)V"⟩, 11), (⟨"ClockCall$Evener", "bringGreatest", "([II)V"⟩, 4), (⟨"ClockCall$Planner", "searchBehind", "(II)V"⟩, 11), (⟨"ClockCall$Planner", "charge", "(II)V"⟩, 11), (⟨"ClockCall$Mover", "search", "(II)V"⟩, 11), (⟨"ClockCall$Mover", "searchBehind", "(II)V"⟩, 11), (⟨"ClockCall$Mover", "charge", "(II)V"⟩, 11), (⟨"ClockCall", "isShifted", "(LClockCall$Series;III)Z"⟩, 14), (⟨"ClockCallModel", "isLand", "(I)Z"⟩, 43), (⟨"ClockCallModel", "isPerson", "(I)Z"⟩, 43), (⟨"ClockCallModel", "fact", "(IIIIZ)I"⟩, 43), (⟨"ClockCallModel", "isSeries", "(I)Z"⟩, 43), (⟨"ClockCallModel", "isKnown", "(I)Z"⟩, 43), (⟨"ClockCallModel", "offsetAt", "(III)I"⟩, 43), (⟨"ClockCallModel", "isSpan", "(IIII)Z"⟩, 43), (⟨"ClockCallModel", "reasons", "(IIII)I"⟩, 43)]
theorem lw_r2 : ∀ q ∈ lw_privs_2, lw_okq q := List.forall_mem_cons.mpr ⟨lw_p16, List.forall_mem_cons.mpr ⟨lw_p17, List.forall_mem_cons.mpr ⟨lw_p18, List.forall_mem_cons.mpr ⟨lw_p19, List.forall_mem_cons.mpr ⟨lw_p20, List.forall_mem_cons.mpr ⟨lw_p21, List.forall_mem_cons.mpr ⟨lw_p22, List.forall_mem_cons.mpr ⟨lw_p23, List.forall_mem_cons.mpr ⟨lw_p24, List.forall_mem_cons.mpr ⟨lw_p25, List.forall_mem_cons.mpr ⟨lw_p26, List.forall_mem_cons.mpr ⟨lw_p27, List.forall_mem_cons.mpr ⟨lw_p28, List.forall_mem_cons.mpr ⟨lw_p29, List.forall_mem_cons.mpr ⟨lw_p30, List.forall_mem_cons.mpr ⟨lw_p31, fun _ h => absurd h List.not_mem_nil⟩⟩⟩⟩⟩⟩⟩⟩⟩⟩⟩⟩⟩⟩⟩⟩
theorem lw_p32 : lw_okq (⟨"ClockCallModel", "reason", "(III)I"⟩, 43) := ⟨⟨by decide +kernel, by decide +kernel⟩, List.mem_of_getElem? (i := 887) (by decide +kernel), List.mem_of_getElem? (i := 1109) (by decide +kernel), List.mem_of_getElem? (i := 1110) (by decide +kernel)⟩
theorem lw_p33 : lw_okq (⟨"ClockCallModel", "costAt", "(II)I"⟩, 43) := ⟨⟨by decide +kernel, by decide +kernel⟩, List.mem_of_getElem? (i := 887) (by decide +kernel), List.mem_of_getElem? (i := 1113) (by decide +kernel), List.mem_of_getElem? (i := 1114) (by decide +kernel)⟩
theorem lw_p34 : lw_okq (⟨"ClockCallModel", "costs", "(IIII)I"⟩, 43) := ⟨⟨by decide +kernel, by decide +kernel⟩, List.mem_of_getElem? (i := 887) (by decide +kernel), List.mem_of_getElem? (i := 1121) (by decide +kernel), List.mem_of_getElem? (i := 1122) (by decide +kernel)⟩
theorem lw_p35 : lw_okq (⟨"ClockCallModel", "isPair", "(III)Z"⟩, 43) := ⟨⟨by decide +kernel, by decide +kernel⟩, List.mem_of_getElem? (i := 887) (by decide +kernel), List.mem_of_getElem? (i := 1145) (by decide +kernel), List.mem_of_getElem? (i := 1146) (by decide +kernel)⟩
theorem lw_p36 : lw_okq (⟨"ClockCallModel", "takesWeek", "(II)V"⟩, 43) := ⟨⟨by decide +kernel, by decide +kernel⟩, List.mem_of_getElem? (i := 887) (by decide +kernel), List.mem_of_getElem? (i := 1149) (by decide +kernel), List.mem_of_getElem? (i := 1150) (by decide +kernel)⟩
theorem lw_p37 : lw_okq (⟨"ClockCallModel", "comeAll", "(I)V"⟩, 43) := ⟨⟨by decide +kernel, by decide +kernel⟩, List.mem_of_getElem? (i := 887) (by decide +kernel), List.mem_of_getElem? (i := 1153) (by decide +kernel), List.mem_of_getElem? (i := 1154) (by decide +kernel)⟩
theorem lw_p38 : lw_okq (⟨"ClockCallModel", "asksFree", "(I)V"⟩, 43) := ⟨⟨by decide +kernel, by decide +kernel⟩, List.mem_of_getElem? (i := 887) (by decide +kernel), List.mem_of_getElem? (i := 1157) (by decide +kernel), List.mem_of_getElem? (i := 1158) (by decide +kernel)⟩
theorem lw_p39 : lw_okq (⟨"ClockCallModel", "isIn", "(II)Z"⟩, 43) := ⟨⟨by decide +kernel, by decide +kernel⟩, List.mem_of_getElem? (i := 887) (by decide +kernel), List.mem_of_getElem? (i := 1161) (by decide +kernel), List.mem_of_getElem? (i := 1162) (by decide +kernel)⟩
theorem lw_p40 : lw_okq (⟨"ClockCallModel", "slotOf", "(II)I"⟩, 43) := ⟨⟨by decide +kernel, by decide +kernel⟩, List.mem_of_getElem? (i := 887) (by decide +kernel), List.mem_of_getElem? (i := 1165) (by decide +kernel), List.mem_of_getElem? (i := 1166) (by decide +kernel)⟩
theorem lw_p41 : lw_okq (⟨"ClockCallModel", "isFree", "(III)Z"⟩, 43) := ⟨⟨by decide +kernel, by decide +kernel⟩, List.mem_of_getElem? (i := 887) (by decide +kernel), List.mem_of_getElem? (i := 1169) (by decide +kernel), List.mem_of_getElem? (i := 1170) (by decide +kernel)⟩
theorem lw_p42 : lw_okq (⟨"ClockCallModel", "meet", "(IIII)Z"⟩, 43) := ⟨⟨by decide +kernel, by decide +kernel⟩, List.mem_of_getElem? (i := 887) (by decide +kernel), List.mem_of_getElem? (i := 1173) (by decide +kernel), List.mem_of_getElem? (i := 1174) (by decide +kernel)⟩
theorem lw_p43 : lw_okq (⟨"ClockCallModel", "comesTo", "(IIII)I"⟩, 43) := ⟨⟨by decide +kernel, by decide +kernel⟩, List.mem_of_getElem? (i := 887) (by decide +kernel), List.mem_of_getElem? (i := 1177) (by decide +kernel), List.mem_of_getElem? (i := 1178) (by decide +kernel)⟩
theorem lw_p44 : lw_okq (⟨"ClockCallModel", "fitsBy", "(III)Z"⟩, 43) := ⟨⟨by decide +kernel, by decide +kernel⟩, List.mem_of_getElem? (i := 887) (by decide +kernel), List.mem_of_getElem? (i := 1181) (by decide +kernel), List.mem_of_getElem? (i := 1182) (by decide +kernel)⟩
theorem lw_p45 : lw_okq (⟨"ClockCallModel", "isBehind", "(II)Z"⟩, 43) := ⟨⟨by decide +kernel, by decide +kernel⟩, List.mem_of_getElem? (i := 887) (by decide +kernel), List.mem_of_getElem? (i := 1185) (by decide +kernel), List.mem_of_getElem? (i := 1186) (by decide +kernel)⟩
theorem lw_p46 : lw_okq (⟨"ClockCallModel", "lists", "(I)V"⟩, 43) := ⟨⟨by decide +kernel, by decide +kernel⟩, List.mem_of_getElem? (i := 887) (by decide +kernel), List.mem_of_getElem? (i := 1193) (by decide +kernel), List.mem_of_getElem? (i := 1194) (by decide +kernel)⟩
theorem lw_p47 : lw_okq (⟨"ClockCallModel", "priceOf", "(IIIII)I"⟩, 43) := ⟨⟨by decide +kernel, by decide +kernel⟩, List.mem_of_getElem? (i := 887) (by decide +kernel), List.mem_of_getElem? (i := 1197) (by decide +kernel), List.mem_of_getElem? (i := 1198) (by decide +kernel)⟩
def lw_privs_3 : List (MethodName × Nat) := [(⟨"ClockCallModel", "reason", "(III)I"⟩, 43), (⟨"ClockCallModel", "costAt", "(II)I"⟩, 43), (⟨"ClockCallModel", "costs", "(IIII)I"⟩, 43), (⟨"ClockCallModel", "isPair", "(III)Z"⟩, 43), (⟨"ClockCallModel", "takesWeek", "(II)V"⟩, 43), (⟨"ClockCallModel", "comeAll", "(I)V"⟩, 43), (⟨"ClockCallModel", "asksFree", "(I)V"⟩, 43), (⟨"ClockCallModel", "isIn", "(II)Z"⟩, 43), (⟨"ClockCallModel", "slotOf", "(II)I"⟩, 43), (⟨"ClockCallModel", "isFree", "(III)Z"⟩, 43), (⟨"ClockCallModel", "meet", "(IIII)Z"⟩, 43), (⟨"ClockCallModel", "comesTo", "(IIII)I"⟩, 43), (⟨"ClockCallModel", "fitsBy", "(III)Z"⟩, 43), (⟨"ClockCallModel", "isBehind", "(II)Z"⟩, 43), (⟨"ClockCallModel", "lists", "(I)V"⟩, 43), (⟨"ClockCallModel", "priceOf", "(IIIII)I"⟩, 43)]
theorem lw_r3 : ∀ q ∈ lw_privs_3, lw_okq q := List.forall_mem_cons.mpr ⟨lw_p32, List.forall_mem_cons.mpr ⟨lw_p33, List.forall_mem_cons.mpr ⟨lw_p34, List.forall_mem_cons.mpr ⟨lw_p35, List.forall_mem_cons.mpr ⟨lw_p36, List.forall_mem_cons.mpr ⟨lw_p37, List.forall_mem_cons.mpr ⟨lw_p38, List.forall_mem_cons.mpr ⟨lw_p39, List.forall_mem_cons.mpr ⟨lw_p40, List.forall_mem_cons.mpr ⟨lw_p41, List.forall_mem_cons.mpr ⟨lw_p42, List.forall_mem_cons.mpr ⟨lw_p43, List.forall_mem_cons.mpr ⟨lw_p44, List.forall_mem_cons.mpr ⟨lw_p45, List.forall_mem_cons.mpr ⟨lw_p46, List.forall_mem_cons.mpr ⟨lw_p47, fun _ h => absurd h List.not_mem_nil⟩⟩⟩⟩⟩⟩⟩⟩⟩⟩⟩⟩⟩⟩⟩⟩
theorem lw_p48 : lw_okq (⟨"ClockCallModel", "leastStuck", "(I)I"⟩, 43) := ⟨⟨by decide +kernel, by decide +kernel⟩, List.mem_of_getElem? (i := 887) (by decide +kernel), List.mem_of_getElem? (i := 1201) (by decide +kernel), List.mem_of_getElem? (i := 1202) (by decide +kernel)⟩
theorem lw_p49 : lw_okq (⟨"ClockCallModel", "goesFor", "(II)Z"⟩, 43) := ⟨⟨by decide +kernel, by decide +kernel⟩, List.mem_of_getElem? (i := 887) (by decide +kernel), List.mem_of_getElem? (i := 1205) (by decide +kernel), List.mem_of_getElem? (i := 1206) (by decide +kernel)⟩
theorem lw_p50 : lw_okq (⟨"ClockCallModel", "sorts", "()V"⟩, 43) := ⟨⟨by decide +kernel, by decide +kernel⟩, List.mem_of_getElem? (i := 887) (by decide +kernel), List.mem_of_getElem? (i := 1215) (by decide +kernel), List.mem_of_getElem? (i := 1216) (by decide +kernel)⟩
theorem lw_p51 : lw_okq (⟨"ClockCallModel", "isLess", "()Z"⟩, 43) := ⟨⟨by decide +kernel, by decide +kernel⟩, List.mem_of_getElem? (i := 887) (by decide +kernel), List.mem_of_getElem? (i := 1219) (by decide +kernel), List.mem_of_getElem? (i := 1220) (by decide +kernel)⟩
theorem lw_p52 : lw_okq (⟨"ClockCallModel", "isBest", "()V"⟩, 43) := ⟨⟨by decide +kernel, by decide +kernel⟩, List.mem_of_getElem? (i := 887) (by decide +kernel), List.mem_of_getElem? (i := 1223) (by decide +kernel), List.mem_of_getElem? (i := 1224) (by decide +kernel)⟩
theorem lw_p53 : lw_okq (⟨"ClockCallModel", "weekSums", "()V"⟩, 43) := ⟨⟨by decide +kernel, by decide +kernel⟩, List.mem_of_getElem? (i := 887) (by decide +kernel), List.mem_of_getElem? (i := 1235) (by decide +kernel), List.mem_of_getElem? (i := 1236) (by decide +kernel)⟩
theorem lw_p54 : lw_okq (⟨"ClockCallModel", "takesChoice", "(I)Z"⟩, 43) := ⟨⟨by decide +kernel, by decide +kernel⟩, List.mem_of_getElem? (i := 887) (by decide +kernel), List.mem_of_getElem? (i := 1239) (by decide +kernel), List.mem_of_getElem? (i := 1240) (by decide +kernel)⟩
theorem lw_p55 : lw_okq (⟨"ClockCallModel", "isShifted", "(IIII)Z"⟩, 43) := ⟨⟨by decide +kernel, by decide +kernel⟩, List.mem_of_getElem? (i := 887) (by decide +kernel), List.mem_of_getElem? (i := 1259) (by decide +kernel), List.mem_of_getElem? (i := 1260) (by decide +kernel)⟩
def lw_privs_4 : List (MethodName × Nat) := [(⟨"ClockCallModel", "leastStuck", "(I)I"⟩, 43), (⟨"ClockCallModel", "goesFor", "(II)Z"⟩, 43), (⟨"ClockCallModel", "sorts", "()V"⟩, 43), (⟨"ClockCallModel", "isLess", "()Z"⟩, 43), (⟨"ClockCallModel", "isBest", "()V"⟩, 43), (⟨"ClockCallModel", "weekSums", "()V"⟩, 43), (⟨"ClockCallModel", "takesChoice", "(I)Z"⟩, 43), (⟨"ClockCallModel", "isShifted", "(IIII)Z"⟩, 43)]
theorem lw_r4 : ∀ q ∈ lw_privs_4, lw_okq q := List.forall_mem_cons.mpr ⟨lw_p48, List.forall_mem_cons.mpr ⟨lw_p49, List.forall_mem_cons.mpr ⟨lw_p50, List.forall_mem_cons.mpr ⟨lw_p51, List.forall_mem_cons.mpr ⟨lw_p52, List.forall_mem_cons.mpr ⟨lw_p53, List.forall_mem_cons.mpr ⟨lw_p54, List.forall_mem_cons.mpr ⟨lw_p55, fun _ h => absurd h List.not_mem_nil⟩⟩⟩⟩⟩⟩⟩⟩
def lw_privs : List (MethodName × Nat) := lw_privs_1 ++ (lw_privs_2 ++ (lw_privs_3 ++ (lw_privs_4)))
def lw_tbl : List Cond := k2_sels lw_privs ++ tables_1
theorem lw_privs_ok : ∀ q ∈ lw_privs, lw_okq q := by
  show ∀ q ∈ lw_privs_1 ++ (lw_privs_2 ++ (lw_privs_3 ++ (lw_privs_4))), lw_okq q
  exact List.forall_mem_append.mpr ⟨lw_r1, List.forall_mem_append.mpr ⟨lw_r2, List.forall_mem_append.mpr ⟨lw_r3, lw_r4⟩⟩⟩
/-! ===== BEGIN words of one list among another's, by their places ===== -/
theorem goodIn_r {big : List Cond} (ws : List Cond) (ps : List Nat) (hp : ws = ps.filterMap (fun i => big[i]?)) (h : ws.all goodWord = true) : GoodIn big ws := by
  intro w hw
  have h1 := List.all_eq_true.mp h w hw
  rw [hp] at hw
  obtain ⟨i, -, hi⟩ := List.mem_filterMap.mp hw
  have hm : w ∈ big := by first | exact List.mem_of_getElem? hi | exact List.getElem?_mem hi
  exact ⟨hm, good_of_word h1⟩
theorem goodIn_app {big a b : List Cond} (ha : GoodIn big a) (hb : GoodIn big b) : GoodIn big (a ++ b) := fun w h => (List.mem_append.mp h).elim (ha w) (hb w)
theorem goodIn_ca {big a b : List Cond} {c : Cond} (ha : GoodIn big (c :: a)) (hb : GoodIn big b) : GoodIn big (c :: (a ++ b)) := fun w h => (List.mem_cons.mp h).elim (fun e => ha w (List.mem_cons.mpr (Or.inl e))) (fun h => (List.mem_append.mp h).elim (fun h => ha w (List.mem_cons.mpr (Or.inr h))) (hb w))
theorem goodIn_sub {big ws : List Cond} (hm : ∀ w ∈ ws, w ∈ big) (h : ws.all goodWord = true) : GoodIn big ws := fun w hw => ⟨hm w hw, good_of_word (List.all_eq_true.mp h w hw)⟩
/-! ===== END ===== -/

/-! ===== BEGIN printed: names, fields, word lists, decode rows ===== -/
def RX0 : String := "ClockCall$Blame"
def TX0 : u_T := fun k => match k with
  | 0 => ("ClockCall$Blame", "seating", "LClockCall$Seating;", true)
  | 1 => ("ClockCall$Blame", "suspects", "[I", true)
  | 2 => ("ClockCall$Blame", "hinders", "[I", true)
  | _ => ("ClockCall$Blame", "size", "I", false)
def tyX0 : Nat → FieldType := fun k => match k with
  | 0 => .object "ClockCall$Seating"
  | 1 => .array .int
  | 2 => .array .int
  | _ => .int
abbrev wsX00 : List Cond := u_ws RX0 TX0 4
theorem nmX0 : ∀ a, a < 4 → ∀ b, b < 4 → a ≠ b → (TX0 a).2.1 ≠ (TX0 b).2.1 := by decide +kernel
theorem tyX0_ok : ∀ k, k < 4 → parseFieldDescriptor (TX0 k).2.2.1 = some (tyX0 k) := by decide +kernel
abbrev cX0_init : ByteArray := prog_2_method_1_code
def yX0_init : MethodName := ⟨RX0, "<init>", "()V"⟩
abbrev cX0_find : ByteArray := prog_2_method_2_code
def yX0_find : MethodName := ⟨RX0, "find", "(LClockCall$Series;LClockCall$Sheet;LClockCall$Board;)I"⟩
abbrev cX0_listSuspects : ByteArray := prog_2_method_3_code
def yX0_listSuspects : MethodName := ⟨RX0, "listSuspects", "(LClockCall$Series;)V"⟩
abbrev cX0_noteHindered : ByteArray := prog_2_method_4_code
def yX0_noteHindered : MethodName := ⟨RX0, "noteHindered", "(LClockCall$Series;I)V"⟩
abbrev cX0_leastSet : ByteArray := prog_2_method_5_code
def yX0_leastSet : MethodName := ⟨RX0, "leastSet", "(I)I"⟩
abbrev cX0_hinderedBy : ByteArray := prog_2_method_6_code
def yX0_hinderedBy : MethodName := ⟨RX0, "hinderedBy", "(I)I"⟩
abbrev cX0_personsOf : ByteArray := prog_2_method_7_code
def yX0_personsOf : MethodName := ⟨RX0, "personsOf", "(I)I"⟩
def RX1 : String := "ClockCall$Board"
def TX1 : u_T := fun k => match k with
  | 0 => ("ClockCall$Board", "from", "[I", true)
  | 1 => ("ClockCall$Board", "upTo", "[I", true)
  | 2 => ("ClockCall$Board", "who", "[I", true)
  | 3 => ("ClockCall$Board", "endOf", "[I", true)
  | _ => ("ClockCall$Board", "size", "I", false)
def tyX1 : Nat → FieldType := fun k => match k with
  | 0 => .array .int
  | 1 => .array .int
  | 2 => .array .int
  | 3 => .array .int
  | _ => .int
abbrev wsX10 : List Cond := u_ws RX1 TX1 5
theorem nmX1 : ∀ a, a < 5 → ∀ b, b < 5 → a ≠ b → (TX1 a).2.1 ≠ (TX1 b).2.1 := by decide +kernel
theorem tyX1_ok : ∀ k, k < 5 → parseFieldDescriptor (TX1 k).2.2.1 = some (tyX1 k) := by decide +kernel
abbrev cX1_init : ByteArray := prog_3_method_1_code
def yX1_init : MethodName := ⟨RX1, "<init>", "()V"⟩
abbrev cX1_clear : ByteArray := prog_3_method_2_code
def yX1_clear : MethodName := ⟨RX1, "clear", "()V"⟩
abbrev cX1_put : ByteArray := prog_3_method_3_code
def yX1_put : MethodName := ⟨RX1, "put", "(LClockCall$Series;LClockCall$Sheet;LClockCall$Seating;)V"⟩
abbrev cX1_add : ByteArray := prog_3_method_4_code
def yX1_add : MethodName := ⟨RX1, "add", "(LClockCall$Series;II)V"⟩
abbrev cX1_engaged : ByteArray := prog_3_method_5_code
def yX1_engaged : MethodName := ⟨RX1, "engaged", "(II)I"⟩
def RX2 : String := "ClockCall$Evener"
def TX2 : u_T := fun k => match k with
  | 0 => ("ClockCall$Evener", "best", "[I", true)
  | 1 => ("ClockCall$Evener", "tried", "[I", true)
  | 2 => ("ClockCall$Evener", "size", "I", false)
  | _ => ("ClockCall$Evener", "isFound", "Z", false)
def tyX2 : Nat → FieldType := fun k => match k with
  | 0 => .array .int
  | 1 => .array .int
  | 2 => .int
  | _ => .boolean
abbrev wsX20 : List Cond := u_ws RX2 TX2 4
theorem nmX2 : ∀ a, a < 4 → ∀ b, b < 4 → a ≠ b → (TX2 a).2.1 ≠ (TX2 b).2.1 := by decide +kernel
theorem tyX2_ok : ∀ k, k < 4 → parseFieldDescriptor (TX2 k).2.2.1 = some (tyX2 k) := by decide +kernel
abbrev cX2_init : ByteArray := prog_4_method_1_code
def yX2_init : MethodName := ⟨RX2, "<init>", "()V"⟩
abbrev cX2_begin : ByteArray := prog_4_method_2_code
def yX2_begin : MethodName := ⟨RX2, "begin", "(I)V"⟩
abbrev cX2_isBetter : ByteArray := prog_4_method_3_code
def yX2_isBetter : MethodName := ⟨RX2, "isBetter", "([I)Z"⟩
abbrev cX2_keep : ByteArray := prog_4_method_4_code
def yX2_keep : MethodName := ⟨RX2, "keep", "([I)V"⟩
abbrev cX2_bringGreatest : ByteArray := prog_4_method_5_code
def yX2_bringGreatest : MethodName := ⟨RX2, "bringGreatest", "([II)V"⟩
abbrev cX2_greatest : ByteArray := prog_4_method_6_code
def yX2_greatest : MethodName := ⟨RX2, "greatest", "()I"⟩
def RX3 : String := "ClockCall$Fact"
def TX3 : u_T := fun k => match k with
  | 0 => ("ClockCall$Fact", "number", "I", true)
  | 1 => ("ClockCall$Fact", "from", "I", true)
  | 2 => ("ClockCall$Fact", "value", "I", true)
  | 3 => ("ClockCall$Fact", "isPrivate", "Z", true)
  | _ => ("ClockCall$Fact", "earlier", "LClockCall$Fact;", true)
def tyX3 : Nat → FieldType := fun k => match k with
  | 0 => .int
  | 1 => .int
  | 2 => .int
  | 3 => .boolean
  | _ => .object "ClockCall$Fact"
abbrev wsX30 : List Cond := u_ws RX3 TX3 5
theorem nmX3 : ∀ a, a < 5 → ∀ b, b < 5 → a ≠ b → (TX3 a).2.1 ≠ (TX3 b).2.1 := by decide +kernel
theorem tyX3_ok : ∀ k, k < 5 → parseFieldDescriptor (TX3 k).2.2.1 = some (tyX3 k) := by decide +kernel
abbrev cX3_init : ByteArray := prog_5_method_1_code
def yX3_init : MethodName := ⟨RX3, "<init>", "(IIIZLClockCall$Fact;)V"⟩
def RX4 : String := "ClockCall$Land"
def TX4 : u_T := fun k => match k with
  | 0 => ("ClockCall$Land", "firstOffset", "I", true)
  | 1 => ("ClockCall$Land", "changes", "LClockCall$Fact;", false)
  | _ => ("ClockCall$Land", "feasts", "LClockCall$Fact;", false)
def tyX4 : Nat → FieldType := fun k => match k with
  | 0 => .int
  | 1 => .object "ClockCall$Fact"
  | _ => .object "ClockCall$Fact"
abbrev wsX40 : List Cond := u_ws RX4 TX4 3
theorem nmX4 : ∀ a, a < 3 → ∀ b, b < 3 → a ≠ b → (TX4 a).2.1 ≠ (TX4 b).2.1 := by decide +kernel
theorem tyX4_ok : ∀ k, k < 3 → parseFieldDescriptor (TX4 k).2.2.1 = some (tyX4 k) := by decide +kernel
abbrev cX4_init : ByteArray := prog_6_method_1_code
def yX4_init : MethodName := ⟨RX4, "<init>", "(I)V"⟩
abbrev cX4_offsetAt : ByteArray := prog_6_method_2_code
def yX4_offsetAt : MethodName := ⟨RX4, "offsetAt", "(II)I"⟩
abbrev cX4_celebrates : ByteArray := prog_6_method_3_code
def yX4_celebrates : MethodName := ⟨RX4, "celebrates", "(II)Z"⟩
def RX5 : String := "ClockCall$Mover"
def TX5 : u_T := fun k => match k with
  | 0 => ("ClockCall$Mover", "evener", "LClockCall$Evener;", true)
  | 1 => ("ClockCall$Mover", "board", "LClockCall$Board;", true)
  | 2 => ("ClockCall$Mover", "moved", "[LClockCall$Series;", true)
  | 3 => ("ClockCall$Mover", "sheets", "[LClockCall$Sheet;", true)
  | 4 => ("ClockCall$Mover", "seatings", "[LClockCall$Seating;", true)
  | 5 => ("ClockCall$Mover", "now", "[I", true)
  | 6 => ("ClockCall$Mover", "way", "[I", true)
  | 7 => ("ClockCall$Mover", "best", "[I", true)
  | 8 => ("ClockCall$Mover", "sums", "[I", true)
  | 9 => ("ClockCall$Mover", "size", "I", false)
  | _ => ("ClockCall$Mover", "persons", "I", false)
def tyX5 : Nat → FieldType := fun k => match k with
  | 0 => .object "ClockCall$Evener"
  | 1 => .object "ClockCall$Board"
  | 2 => .array (.object "ClockCall$Series")
  | 3 => .array (.object "ClockCall$Sheet")
  | 4 => .array (.object "ClockCall$Seating")
  | 5 => .array .int
  | 6 => .array .int
  | 7 => .array .int
  | 8 => .array .int
  | 9 => .int
  | _ => .int
abbrev wsX50 : List Cond := u_ws RX5 TX5 11
theorem nmX5 : ∀ a, a < 11 → ∀ b, b < 11 → a ≠ b → (TX5 a).2.1 ≠ (TX5 b).2.1 := by decide +kernel
theorem tyX5_ok : ∀ k, k < 11 → parseFieldDescriptor (TX5 k).2.2.1 = some (tyX5 k) := by decide +kernel
abbrev cX5_init : ByteArray := prog_7_method_1_code
def yX5_init : MethodName := ⟨RX5, "<init>", "()V"⟩
abbrev cX5_begin : ByteArray := prog_7_method_2_code
def yX5_begin : MethodName := ⟨RX5, "begin", "(I)V"⟩
abbrev cX5_add : ByteArray := prog_7_method_3_code
def yX5_add : MethodName := ⟨RX5, "add", "(LClockCall$Series;LClockCall$Sheet;I)V"⟩
abbrev cX5_findBest : ByteArray := prog_7_method_4_code
def yX5_findBest : MethodName := ⟨RX5, "findBest", "()I"⟩
abbrev cX5_settle : ByteArray := prog_7_method_5_code
def yX5_settle : MethodName := ⟨RX5, "settle", "(I)V"⟩
abbrev cX5_search : ByteArray := prog_7_method_6_code
def yX5_search : MethodName := ⟨RX5, "search", "(II)V"⟩
abbrev cX5_searchBehind : ByteArray := prog_7_method_7_code
def yX5_searchBehind : MethodName := ⟨RX5, "searchBehind", "(II)V"⟩
abbrev cX5_charge : ByteArray := prog_7_method_8_code
def yX5_charge : MethodName := ⟨RX5, "charge", "(II)V"⟩
def RX6 : String := "ClockCall$Person"
def TX6 : u_T := fun k => match k with
  | 0 => ("ClockCall$Person", "home", "LClockCall$Land;", true)
  | 1 => ("ClockCall$Person", "off", "I", true)
  | 2 => ("ClockCall$Person", "cells", "[B", true)
  | 3 => ("ClockCall$Person", "cellCount", "I", false)
  | _ => ("ClockCall$Person", "spans", "LClockCall$Fact;", false)
def tyX6 : Nat → FieldType := fun k => match k with
  | 0 => .object "ClockCall$Land"
  | 1 => .int
  | 2 => .array .byte
  | 3 => .int
  | _ => .object "ClockCall$Fact"
abbrev wsX60 : List Cond := u_ws RX6 TX6 5
theorem nmX6 : ∀ a, a < 5 → ∀ b, b < 5 → a ≠ b → (TX6 a).2.1 ≠ (TX6 b).2.1 := by decide +kernel
theorem tyX6_ok : ∀ k, k < 5 → parseFieldDescriptor (TX6 k).2.2.1 = some (tyX6 k) := by decide +kernel
abbrev cX6_init : ByteArray := prog_8_method_1_code
def yX6_init : MethodName := ⟨RX6, "<init>", "(LClockCall$Land;I)V"⟩
abbrev cX6_clearCells : ByteArray := prog_8_method_2_code
def yX6_clearCells : MethodName := ⟨RX6, "clearCells", "(I)V"⟩
abbrev cX6_cellAt : ByteArray := prog_8_method_3_code
def yX6_cellAt : MethodName := ⟨RX6, "cellAt", "(I)I"⟩
abbrev cX6_spanAt : ByteArray := prog_8_method_4_code
def yX6_spanAt : MethodName := ⟨RX6, "spanAt", "(II)LClockCall$Fact;"⟩
abbrev cX6_hindrance : ByteArray := prog_8_method_5_code
def yX6_hindrance : MethodName := ⟨RX6, "hindrance", "(III)I"⟩
abbrev cX6_hindranceAt : ByteArray := prog_8_method_6_code
def yX6_hindranceAt : MethodName := ⟨RX6, "hindranceAt", "(II)I"⟩
abbrev cX6_price : ByteArray := prog_8_method_7_code
def yX6_price : MethodName := ⟨RX6, "price", "(III)I"⟩
def RX7 : String := "ClockCall$Planner"
def TX7 : u_T := fun k => match k with
  | 0 => ("ClockCall$Planner", "evener", "LClockCall$Evener;", true)
  | 1 => ("ClockCall$Planner", "seating", "LClockCall$Seating;", true)
  | 2 => ("ClockCall$Planner", "best", "[I", true)
  | 3 => ("ClockCall$Planner", "way", "[I", true)
  | 4 => ("ClockCall$Planner", "fitting", "[I", true)
  | 5 => ("ClockCall$Planner", "prices", "[I", true)
  | 6 => ("ClockCall$Planner", "leastFrom", "[I", true)
  | 7 => ("ClockCall$Planner", "sums", "[I", true)
  | 8 => ("ClockCall$Planner", "reached", "[I", true)
  | 9 => ("ClockCall$Planner", "weeks", "I", false)
  | _ => ("ClockCall$Planner", "persons", "I", false)
def tyX7 : Nat → FieldType := fun k => match k with
  | 0 => .object "ClockCall$Evener"
  | 1 => .object "ClockCall$Seating"
  | 2 => .array .int
  | 3 => .array .int
  | 4 => .array .int
  | 5 => .array .int
  | 6 => .array .int
  | 7 => .array .int
  | 8 => .array .int
  | 9 => .int
  | _ => .int
abbrev wsX70 : List Cond := u_ws RX7 TX7 11
theorem nmX7 : ∀ a, a < 11 → ∀ b, b < 11 → a ≠ b → (TX7 a).2.1 ≠ (TX7 b).2.1 := by decide +kernel
theorem tyX7_ok : ∀ k, k < 11 → parseFieldDescriptor (TX7 k).2.2.1 = some (tyX7 k) := by decide +kernel
abbrev cX7_init : ByteArray := prog_9_method_1_code
def yX7_init : MethodName := ⟨RX7, "<init>", "()V"⟩
abbrev cX7_begin : ByteArray := prog_9_method_2_code
def yX7_begin : MethodName := ⟨RX7, "begin", "(II)V"⟩
abbrev cX7_priceAt : ByteArray := prog_9_method_3_code
def yX7_priceAt : MethodName := ⟨RX7, "priceAt", "(II)I"⟩
abbrev cX7_rate : ByteArray := prog_9_method_4_code
def yX7_rate : MethodName := ⟨RX7, "rate", "(ILClockCall$Series;LClockCall$Sheet;LClockCall$Board;)Z"⟩
abbrev cX7_findBest : ByteArray := prog_9_method_5_code
def yX7_findBest : MethodName := ⟨RX7, "findBest", "()V"⟩
abbrev cX7_leastAt : ByteArray := prog_9_method_6_code
def yX7_leastAt : MethodName := ⟨RX7, "leastAt", "(II)I"⟩
abbrev cX7_search : ByteArray := prog_9_method_7_code
def yX7_search : MethodName := ⟨RX7, "search", "(I)V"⟩
abbrev cX7_searchBehind : ByteArray := prog_9_method_8_code
def yX7_searchBehind : MethodName := ⟨RX7, "searchBehind", "(II)V"⟩
abbrev cX7_charge : ByteArray := prog_9_method_9_code
def yX7_charge : MethodName := ⟨RX7, "charge", "(II)V"⟩
def RX8 : String := "ClockCall$Seating"
def TX8 : u_T := fun k => match k with
  | 0 => ("ClockCall$Seating", "first", "I", false)
  | 1 => ("ClockCall$Seating", "second", "I", false)
  | 2 => ("ClockCall$Seating", "freeFirst", "I", false)
  | 3 => ("ClockCall$Seating", "freeSecond", "I", false)
  | 4 => ("ClockCall$Seating", "comesFirst", "I", false)
  | _ => ("ClockCall$Seating", "comesSecond", "I", false)
def tyX8 : Nat → FieldType := fun k => match k with
  | 0 => .int
  | 1 => .int
  | 2 => .int
  | 3 => .int
  | 4 => .int
  | _ => .int
abbrev wsX80 : List Cond := u_ws RX8 TX8 6
theorem nmX8 : ∀ a, a < 6 → ∀ b, b < 6 → a ≠ b → (TX8 a).2.1 ≠ (TX8 b).2.1 := by decide +kernel
theorem tyX8_ok : ∀ k, k < 6 → parseFieldDescriptor (TX8 k).2.2.1 = some (tyX8 k) := by decide +kernel
abbrev cX8_init : ByteArray := prog_10_method_1_code
def yX8_init : MethodName := ⟨RX8, "<init>", "()V"⟩
abbrev cX8_seat : ByteArray := prog_10_method_2_code
def yX8_seat : MethodName := ⟨RX8, "seat", "(LClockCall$Series;LClockCall$Sheet;LClockCall$Board;I)V"⟩
abbrev cX8_freeAt : ByteArray := prog_10_method_3_code
def yX8_freeAt : MethodName := ⟨RX8, "freeAt", "(LClockCall$Series;LClockCall$Sheet;LClockCall$Board;I)I"⟩
abbrev cX8_preferSecond : ByteArray := prog_10_method_4_code
def yX8_preferSecond : MethodName := ⟨RX8, "preferSecond", "(LClockCall$Sheet;I)I"⟩
abbrev cX8_stands : ByteArray := prog_10_method_5_code
def yX8_stands : MethodName := ⟨RX8, "stands", "(LClockCall$Series;LClockCall$Sheet;I)Z"⟩
abbrev cX8_suits : ByteArray := prog_10_method_6_code
def yX8_suits : MethodName := ⟨RX8, "suits", "(LClockCall$Series;LClockCall$Sheet;LClockCall$Board;I)Z"⟩
abbrev cX8_isBehindChain : ByteArray := prog_10_method_7_code
def yX8_isBehindChain : MethodName := ⟨RX8, "isBehindChain", "(LClockCall$Series;LClockCall$Sheet;LClockCall$Board;)Z"⟩
abbrev cX8_priceFor : ByteArray := prog_10_method_8_code
def yX8_priceFor : MethodName := ⟨RX8, "priceFor", "(LClockCall$Sheet;I)I"⟩
def RX9 : String := "ClockCall$Series"
def TX9 : u_T := fun k => match k with
  | 0 => ("ClockCall$Series", "number", "I", true)
  | 1 => ("ClockCall$Series", "length", "I", true)
  | 2 => ("ClockCall$Series", "chain", "LClockCall$Series;", true)
  | 3 => ("ClockCall$Series", "chair", "I", true)
  | 4 => ("ClockCall$Series", "slots", "[I", true)
  | 5 => ("ClockCall$Series", "byRole", "[I", true)
  | 6 => ("ClockCall$Series", "chosen", "[I", true)
  | 7 => ("ClockCall$Series", "optionCount", "I", false)
  | _ => ("ClockCall$Series", "cants", "LClockCall$Fact;", false)
def tyX9 : Nat → FieldType := fun k => match k with
  | 0 => .int
  | 1 => .int
  | 2 => .object "ClockCall$Series"
  | 3 => .int
  | 4 => .array .int
  | 5 => .array .int
  | 6 => .array .int
  | 7 => .int
  | _ => .object "ClockCall$Fact"
abbrev wsX90 : List Cond := u_ws RX9 TX9 9
theorem nmX9 : ∀ a, a < 9 → ∀ b, b < 9 → a ≠ b → (TX9 a).2.1 ≠ (TX9 b).2.1 := by decide +kernel
theorem tyX9_ok : ∀ k, k < 9 → parseFieldDescriptor (TX9 k).2.2.1 = some (tyX9 k) := by decide +kernel
abbrev cX9_init : ByteArray := prog_11_method_1_code
def yX9_init : MethodName := ⟨RX9, "<init>", "(IILClockCall$Series;I)V"⟩
abbrev cX9_isSplit : ByteArray := prog_11_method_2_code
def yX9_isSplit : MethodName := ⟨RX9, "isSplit", "()Z"⟩
abbrev cX9_mostWeeks : ByteArray := prog_11_method_3_code
def yX9_mostWeeks : MethodName := ⟨RX9, "mostWeeks", "()I"⟩
abbrev cX9_choices : ByteArray := prog_11_method_4_code
def yX9_choices : MethodName := ⟨RX9, "choices", "()I"⟩
abbrev cX9_firstOf : ByteArray := prog_11_method_5_code
def yX9_firstOf : MethodName := ⟨RX9, "firstOf", "(I)I"⟩
abbrev cX9_secondOf : ByteArray := prog_11_method_6_code
def yX9_secondOf : MethodName := ⟨RX9, "secondOf", "(I)I"⟩
abbrev cX9_has : ByteArray := prog_11_method_7_code
def yX9_has : MethodName := ⟨RX9, "has", "(I)Z"⟩
abbrev cX9_choiceOf : ByteArray := prog_11_method_8_code
def yX9_choiceOf : MethodName := ⟨RX9, "choiceOf", "(II)I"⟩
abbrev cX9_optionsOf : ByteArray := prog_11_method_9_code
def yX9_optionsOf : MethodName := ⟨RX9, "optionsOf", "(I)I"⟩
abbrev cX9_allOptions : ByteArray := prog_11_method_10_code
def yX9_allOptions : MethodName := ⟨RX9, "allOptions", "()I"⟩
abbrev cX9_startOf : ByteArray := prog_11_method_11_code
def yX9_startOf : MethodName := ⟨RX9, "startOf", "(II)I"⟩
abbrev cX9_giveRole : ByteArray := prog_11_method_12_code
def yX9_giveRole : MethodName := ⟨RX9, "giveRole", "(II)V"⟩
abbrev cX9_withRole : ByteArray := prog_11_method_13_code
def yX9_withRole : MethodName := ⟨RX9, "withRole", "()I"⟩
abbrev cX9_chairAlone : ByteArray := prog_11_method_14_code
def yX9_chairAlone : MethodName := ⟨RX9, "chairAlone", "()I"⟩
abbrev cX9_everyone : ByteArray := prog_11_method_15_code
def yX9_everyone : MethodName := ⟨RX9, "everyone", "()I"⟩
abbrev cX9_hasCant : ByteArray := prog_11_method_16_code
def yX9_hasCant : MethodName := ⟨RX9, "hasCant", "(III)Z"⟩
def RX10 : String := "ClockCall$Sheet"
def TX10 : u_T := fun k => match k with
  | 0 => ("ClockCall$Sheet", "starts", "[I", true)
  | 1 => ("ClockCall$Sheet", "able", "[I", true)
  | _ => ("ClockCall$Sheet", "prices", "[I", true)
def tyX10 : Nat → FieldType := fun k => match k with
  | 0 => .array .int
  | 1 => .array .int
  | _ => .array .int
abbrev wsX100 : List Cond := u_ws RX10 TX10 3
theorem nmX10 : ∀ a, a < 3 → ∀ b, b < 3 → a ≠ b → (TX10 a).2.1 ≠ (TX10 b).2.1 := by decide +kernel
theorem tyX10_ok : ∀ k, k < 3 → parseFieldDescriptor (TX10 k).2.2.1 = some (tyX10 k) := by decide +kernel
abbrev cX10_init : ByteArray := prog_12_method_1_code
def yX10_init : MethodName := ⟨RX10, "<init>", "()V"⟩
abbrev cX10_fill : ByteArray := prog_12_method_2_code
def yX10_fill : MethodName := ⟨RX10, "fill", "(LClockCall$Series;IIII[LClockCall$Person;)V"⟩
def RX11 : String := "ClockCall"
def TX11 : u_T := fun k => match k with
  | 0 => ("ClockCall", "lands", "[LClockCall$Land;", true)
  | 1 => ("ClockCall", "persons", "[LClockCall$Person;", true)
  | 2 => ("ClockCall", "rows", "[LClockCall$Series;", true)
  | 3 => ("ClockCall", "sheets", "[LClockCall$Sheet;", true)
  | 4 => ("ClockCall", "board", "LClockCall$Board;", true)
  | 5 => ("ClockCall", "seating", "LClockCall$Seating;", true)
  | 6 => ("ClockCall", "planner", "LClockCall$Planner;", true)
  | 7 => ("ClockCall", "mover", "LClockCall$Mover;", true)
  | 8 => ("ClockCall", "blame", "LClockCall$Blame;", true)
  | 9 => ("ClockCall", "landCount", "I", false)
  | 10 => ("ClockCall", "personCount", "I", false)
  | 11 => ("ClockCall", "factCount", "I", false)
  | 12 => ("ClockCall", "seriesCount", "I", false)
  | _ => ("ClockCall", "stuckOnes", "I", false)
def tyX11 : Nat → FieldType := fun k => match k with
  | 0 => .array (.object "ClockCall$Land")
  | 1 => .array (.object "ClockCall$Person")
  | 2 => .array (.object "ClockCall$Series")
  | 3 => .array (.object "ClockCall$Sheet")
  | 4 => .object "ClockCall$Board"
  | 5 => .object "ClockCall$Seating"
  | 6 => .object "ClockCall$Planner"
  | 7 => .object "ClockCall$Mover"
  | 8 => .object "ClockCall$Blame"
  | 9 => .int
  | 10 => .int
  | 11 => .int
  | 12 => .int
  | _ => .int
abbrev wsX110 : List Cond := u_ws RX11 TX11 14
theorem nmX11 : ∀ a, a < 14 → ∀ b, b < 14 → a ≠ b → (TX11 a).2.1 ≠ (TX11 b).2.1 := by decide +kernel
theorem tyX11_ok : ∀ k, k < 14 → parseFieldDescriptor (TX11 k).2.2.1 = some (tyX11 k) := by decide +kernel
abbrev cX11_init : ByteArray := prog_1_method_1_code
def yX11_init : MethodName := ⟨RX11, "<init>", "()V"⟩
abbrev cX11_land : ByteArray := prog_1_method_2_code
def yX11_land : MethodName := ⟨RX11, "land", "(I)I"⟩
abbrev cX11_person : ByteArray := prog_1_method_3_code
def yX11_person : MethodName := ⟨RX11, "person", "(II)I"⟩
abbrev cX11_row : ByteArray := prog_1_method_4_code
def yX11_row : MethodName := ⟨RX11, "row", "(II)Z"⟩
abbrev cX11_cell : ByteArray := prog_1_method_5_code
def yX11_cell : MethodName := ⟨RX11, "cell", "(III)Z"⟩
abbrev cX11_series : ByteArray := prog_1_method_6_code
def yX11_series : MethodName := ⟨RX11, "series", "(III)I"⟩
abbrev cX11_option : ByteArray := prog_1_method_7_code
def yX11_option : MethodName := ⟨RX11, "option", "(II)I"⟩
abbrev cX11_role : ByteArray := prog_1_method_8_code
def yX11_role : MethodName := ⟨RX11, "role", "(III)Z"⟩
abbrev cX11_count : ByteArray := prog_1_method_9_code
def yX11_count : MethodName := ⟨RX11, "count", "(I)I"⟩
abbrev cX11_change : ByteArray := prog_1_method_10_code
def yX11_change : MethodName := ⟨RX11, "change", "(III)I"⟩
abbrev cX11_feast : ByteArray := prog_1_method_11_code
def yX11_feast : MethodName := ⟨RX11, "feast", "(II)I"⟩
abbrev cX11_busy : ByteArray := prog_1_method_12_code
def yX11_busy : MethodName := ⟨RX11, "busy", "(IIIZ)I"⟩
abbrev cX11_cant : ByteArray := prog_1_method_13_code
def yX11_cant : MethodName := ⟨RX11, "cant", "(III)I"⟩
abbrev cX11_local : ByteArray := prog_1_method_14_code
def yX11_local : MethodName := ⟨RX11, "local", "(IIII)I"⟩
abbrev cX11_when : ByteArray := prog_1_method_15_code
def yX11_when : MethodName := ⟨RX11, "when", "(IIIII)I"⟩
abbrev cX11_can : ByteArray := prog_1_method_16_code
def yX11_can : MethodName := ⟨RX11, "can", "(IIII)I"⟩
abbrev cX11_cost : ByteArray := prog_1_method_17_code
def yX11_cost : MethodName := ⟨RX11, "cost", "(IIII)I"⟩
abbrev cX11_span : ByteArray := prog_1_method_18_code
def yX11_span : MethodName := ⟨RX11, "span", "(III)I"⟩
abbrev cX11_fits : ByteArray := prog_1_method_19_code
def yX11_fits : MethodName := ⟨RX11, "fits", "(IIIII)I"⟩
abbrev cX11_plan : ByteArray := prog_1_method_20_code
def yX11_plan : MethodName := ⟨RX11, "plan", "(IIII)I"⟩
abbrev cX11_stuck : ByteArray := prog_1_method_21_code
def yX11_stuck : MethodName := ⟨RX11, "stuck", "(I)I"⟩
abbrev cX11_move : ByteArray := prog_1_method_22_code
def yX11_move : MethodName := ⟨RX11, "move", "(II)I"⟩
abbrev cX11_planned : ByteArray := prog_1_method_23_code
def yX11_planned : MethodName := ⟨RX11, "planned", "(III)I"⟩
abbrev cX11_comes : ByteArray := prog_1_method_24_code
def yX11_comes : MethodName := ⟨RX11, "comes", "(IIII)I"⟩
abbrev cX11_sum : ByteArray := prog_1_method_25_code
def yX11_sum : MethodName := ⟨RX11, "sum", "(II)I"⟩
abbrev cX11_shifted : ByteArray := prog_1_method_26_code
def yX11_shifted : MethodName := ⟨RX11, "shifted", "(II)I"⟩
abbrev cX11_isOffset : ByteArray := prog_1_method_27_code
def yX11_isOffset : MethodName := ⟨RX11, "isOffset", "(I)Z"⟩
abbrev cX11_isSlot : ByteArray := prog_1_method_28_code
def yX11_isSlot : MethodName := ⟨RX11, "isSlot", "(I)Z"⟩
abbrev cX11_isWeek : ByteArray := prog_1_method_29_code
def yX11_isWeek : MethodName := ⟨RX11, "isWeek", "(I)Z"⟩
abbrev cX11_isStretch : ByteArray := prog_1_method_30_code
def yX11_isStretch : MethodName := ⟨RX11, "isStretch", "(II)Z"⟩
abbrev cX11_isIn : ByteArray := prog_1_method_31_code
def yX11_isIn : MethodName := ⟨RX11, "isIn", "(II)Z"⟩
abbrev cX11_isKnown : ByteArray := prog_1_method_32_code
def yX11_isKnown : MethodName := ⟨RX11, "isKnown", "(I)Z"⟩
abbrev cX11_landAt : ByteArray := prog_1_method_33_code
def yX11_landAt : MethodName := ⟨RX11, "landAt", "(I)LClockCall$Land;"⟩
abbrev cX11_personAt : ByteArray := prog_1_method_34_code
def yX11_personAt : MethodName := ⟨RX11, "personAt", "(I)LClockCall$Person;"⟩
abbrev cX11_seriesAt : ByteArray := prog_1_method_35_code
def yX11_seriesAt : MethodName := ⟨RX11, "seriesAt", "(I)LClockCall$Series;"⟩
abbrev cX11_meetingCount : ByteArray := prog_1_method_36_code
def yX11_meetingCount : MethodName := ⟨RX11, "meetingCount", "()I"⟩
abbrev cX11_isShifted : ByteArray := prog_1_method_37_code
def yX11_isShifted : MethodName := ⟨RX11, "isShifted", "(LClockCall$Series;III)Z"⟩
abbrev cX11_seatLesser : ByteArray := prog_1_method_38_code
def yX11_seatLesser : MethodName := ⟨RX11, "seatLesser", "(LClockCall$Series;II)V"⟩
abbrev cX11_seat : ByteArray := prog_1_method_39_code
def yX11_seat : MethodName := ⟨RX11, "seat", "(IIII)Z"⟩
def RX12 : String := "ClockCallModel"
def TX12 : u_T := fun k => match k with
  | 0 => ("ClockCallModel", "thrown", "I", false)
  | 1 => ("ClockCallModel", "lands", "I", false)
  | 2 => ("ClockCallModel", "offset", "[I", true)
  | 3 => ("ClockCallModel", "persons", "I", false)
  | 4 => ("ClockCallModel", "landOf", "[I", true)
  | 5 => ("ClockCallModel", "offDays", "[I", true)
  | 6 => ("ClockCallModel", "cells", "[I", true)
  | 7 => ("ClockCallModel", "cell", "[I", true)
  | 8 => ("ClockCallModel", "facts", "I", false)
  | 9 => ("ClockCallModel", "factSort", "[I", true)
  | 10 => ("ClockCallModel", "factOf", "[I", true)
  | 11 => ("ClockCallModel", "factA", "[I", true)
  | 12 => ("ClockCallModel", "factB", "[I", true)
  | 13 => ("ClockCallModel", "factPrivate", "[Z", true)
  | 14 => ("ClockCallModel", "series", "I", false)
  | 15 => ("ClockCallModel", "length", "[I", true)
  | 16 => ("ClockCallModel", "chain", "[I", true)
  | 17 => ("ClockCallModel", "chair", "[I", true)
  | 18 => ("ClockCallModel", "options", "[I", true)
  | 19 => ("ClockCallModel", "option", "[I", true)
  | 20 => ("ClockCallModel", "role", "[I", true)
  | 21 => ("ClockCallModel", "planned", "[I", true)
  | 22 => ("ClockCallModel", "week", "I", false)
  | 23 => ("ClockCallModel", "known", "I", false)
  | 24 => ("ClockCallModel", "pickI", "[I", true)
  | 25 => ("ClockCallModel", "pickJ", "[I", true)
  | 26 => ("ClockCallModel", "come", "[I", true)
  | 27 => ("ClockCallModel", "free", "[Z", true)
  | 28 => ("ClockCallModel", "choiceI", "[I", true)
  | 29 => ("ClockCallModel", "choiceJ", "[I", true)
  | 30 => ("ClockCallModel", "choiceMany", "[I", true)
  | 31 => ("ClockCallModel", "sums", "[I", true)
  | 32 => ("ClockCallModel", "sorted", "[I", true)
  | 33 => ("ClockCallModel", "bestSorted", "[I", true)
  | 34 => ("ClockCallModel", "may", "[Z", true)
  | 35 => ("ClockCallModel", "price", "[I", true)
  | 36 => ("ClockCallModel", "picked", "[I", true)
  | 37 => ("ClockCallModel", "bestPicked", "[I", true)
  | 38 => ("ClockCallModel", "stuck", "I", false)
  | 39 => ("ClockCallModel", "at", "[I", true)
  | 40 => ("ClockCallModel", "bestAt", "[I", true)
  | 41 => ("ClockCallModel", "wasI", "[I", true)
  | _ => ("ClockCallModel", "wasJ", "[I", true)
def tyX12 : Nat → FieldType := fun k => match k with
  | 0 => .int
  | 1 => .int
  | 2 => .array .int
  | 3 => .int
  | 4 => .array .int
  | 5 => .array .int
  | 6 => .array .int
  | 7 => .array .int
  | 8 => .int
  | 9 => .array .int
  | 10 => .array .int
  | 11 => .array .int
  | 12 => .array .int
  | 13 => .array .boolean
  | 14 => .int
  | 15 => .array .int
  | 16 => .array .int
  | 17 => .array .int
  | 18 => .array .int
  | 19 => .array .int
  | 20 => .array .int
  | 21 => .array .int
  | 22 => .int
  | 23 => .int
  | 24 => .array .int
  | 25 => .array .int
  | 26 => .array .int
  | 27 => .array .boolean
  | 28 => .array .int
  | 29 => .array .int
  | 30 => .array .int
  | 31 => .array .int
  | 32 => .array .int
  | 33 => .array .int
  | 34 => .array .boolean
  | 35 => .array .int
  | 36 => .array .int
  | 37 => .array .int
  | 38 => .int
  | 39 => .array .int
  | 40 => .array .int
  | 41 => .array .int
  | _ => .array .int
abbrev wsX120 : List Cond := u_ws RX12 TX12 43
theorem nmX12 : ∀ a, a < 43 → ∀ b, b < 43 → a ≠ b → (TX12 a).2.1 ≠ (TX12 b).2.1 := by decide +kernel
theorem tyX12_ok : ∀ k, k < 43 → parseFieldDescriptor (TX12 k).2.2.1 = some (tyX12 k) := by decide +kernel
abbrev cX12_init : ByteArray := prog_14_method_2_code
def yX12_init : MethodName := ⟨RX12, "<init>", "()V"⟩
abbrev cX12_isLand : ByteArray := prog_14_method_3_code
def yX12_isLand : MethodName := ⟨RX12, "isLand", "(I)Z"⟩
abbrev cX12_isPerson : ByteArray := prog_14_method_4_code
def yX12_isPerson : MethodName := ⟨RX12, "isPerson", "(I)Z"⟩
abbrev cX12_isSeries : ByteArray := prog_14_method_5_code
def yX12_isSeries : MethodName := ⟨RX12, "isSeries", "(I)Z"⟩
abbrev cX12_isWeek : ByteArray := prog_14_method_6_code
def yX12_isWeek : MethodName := ⟨RX12, "isWeek", "(I)Z"⟩
abbrev cX12_isKnown : ByteArray := prog_14_method_7_code
def yX12_isKnown : MethodName := ⟨RX12, "isKnown", "(I)Z"⟩
abbrev cX12_isOffset : ByteArray := prog_14_method_8_code
def yX12_isOffset : MethodName := ⟨RX12, "isOffset", "(I)Z"⟩
abbrev cX12_land : ByteArray := prog_14_method_9_code
def yX12_land : MethodName := ⟨RX12, "land", "(I)I"⟩
abbrev cX12_person : ByteArray := prog_14_method_10_code
def yX12_person : MethodName := ⟨RX12, "person", "(II)I"⟩
abbrev cX12_row : ByteArray := prog_14_method_11_code
def yX12_row : MethodName := ⟨RX12, "row", "(II)Z"⟩
abbrev cX12_cell : ByteArray := prog_14_method_12_code
def yX12_cell : MethodName := ⟨RX12, "cell", "(III)Z"⟩
abbrev cX12_fact : ByteArray := prog_14_method_13_code
def yX12_fact : MethodName := ⟨RX12, "fact", "(IIIIZ)I"⟩
abbrev cX12_change : ByteArray := prog_14_method_14_code
def yX12_change : MethodName := ⟨RX12, "change", "(III)I"⟩
abbrev cX12_feast : ByteArray := prog_14_method_15_code
def yX12_feast : MethodName := ⟨RX12, "feast", "(II)I"⟩
abbrev cX12_busy : ByteArray := prog_14_method_16_code
def yX12_busy : MethodName := ⟨RX12, "busy", "(IIIZ)I"⟩
abbrev cX12_cant : ByteArray := prog_14_method_17_code
def yX12_cant : MethodName := ⟨RX12, "cant", "(III)I"⟩
abbrev cX12_offsetAt : ByteArray := prog_14_method_18_code
def yX12_offsetAt : MethodName := ⟨RX12, "offsetAt", "(III)I"⟩
abbrev cX12_down : ByteArray := prog_14_method_19_code
def yX12_down : MethodName := ⟨RX12, "down", "(II)I"⟩
abbrev cX12_local : ByteArray := prog_14_method_20_code
def yX12_local : MethodName := ⟨RX12, "local", "(IIII)I"⟩
abbrev cX12_when : ByteArray := prog_14_method_21_code
def yX12_when : MethodName := ⟨RX12, "when", "(IIIII)I"⟩
abbrev cX12_costAt : ByteArray := prog_14_method_22_code
def yX12_costAt : MethodName := ⟨RX12, "costAt", "(II)I"⟩
abbrev cX12_reason : ByteArray := prog_14_method_23_code
def yX12_reason : MethodName := ⟨RX12, "reason", "(III)I"⟩
abbrev cX12_reasons : ByteArray := prog_14_method_24_code
def yX12_reasons : MethodName := ⟨RX12, "reasons", "(IIII)I"⟩
abbrev cX12_costs : ByteArray := prog_14_method_25_code
def yX12_costs : MethodName := ⟨RX12, "costs", "(IIII)I"⟩
abbrev cX12_isSpan : ByteArray := prog_14_method_26_code
def yX12_isSpan : MethodName := ⟨RX12, "isSpan", "(IIII)Z"⟩
abbrev cX12_can : ByteArray := prog_14_method_27_code
def yX12_can : MethodName := ⟨RX12, "can", "(IIII)I"⟩
abbrev cX12_cost : ByteArray := prog_14_method_28_code
def yX12_cost : MethodName := ⟨RX12, "cost", "(IIII)I"⟩
abbrev cX12_span : ByteArray := prog_14_method_29_code
def yX12_span : MethodName := ⟨RX12, "span", "(III)I"⟩
abbrev cX12_series : ByteArray := prog_14_method_30_code
def yX12_series : MethodName := ⟨RX12, "series", "(III)I"⟩
abbrev cX12_option : ByteArray := prog_14_method_31_code
def yX12_option : MethodName := ⟨RX12, "option", "(II)I"⟩
abbrev cX12_role : ByteArray := prog_14_method_32_code
def yX12_role : MethodName := ⟨RX12, "role", "(III)Z"⟩
abbrev cX12_slotOf : ByteArray := prog_14_method_33_code
def yX12_slotOf : MethodName := ⟨RX12, "slotOf", "(II)I"⟩
abbrev cX12_isIn : ByteArray := prog_14_method_34_code
def yX12_isIn : MethodName := ⟨RX12, "isIn", "(II)Z"⟩
abbrev cX12_meet : ByteArray := prog_14_method_35_code
def yX12_meet : MethodName := ⟨RX12, "meet", "(IIII)Z"⟩
abbrev cX12_isFree : ByteArray := prog_14_method_36_code
def yX12_isFree : MethodName := ⟨RX12, "isFree", "(III)Z"⟩
abbrev cX12_asksFree : ByteArray := prog_14_method_37_code
def yX12_asksFree : MethodName := ⟨RX12, "asksFree", "(I)V"⟩
abbrev cX12_comesTo : ByteArray := prog_14_method_38_code
def yX12_comesTo : MethodName := ⟨RX12, "comesTo", "(IIII)I"⟩
abbrev cX12_comeAll : ByteArray := prog_14_method_39_code
def yX12_comeAll : MethodName := ⟨RX12, "comeAll", "(I)V"⟩
abbrev cX12_takesWeek : ByteArray := prog_14_method_40_code
def yX12_takesWeek : MethodName := ⟨RX12, "takesWeek", "(II)V"⟩
abbrev cX12_isBehind : ByteArray := prog_14_method_41_code
def yX12_isBehind : MethodName := ⟨RX12, "isBehind", "(II)Z"⟩
abbrev cX12_fitsBy : ByteArray := prog_14_method_42_code
def yX12_fitsBy : MethodName := ⟨RX12, "fitsBy", "(III)Z"⟩
abbrev cX12_isPair : ByteArray := prog_14_method_43_code
def yX12_isPair : MethodName := ⟨RX12, "isPair", "(III)Z"⟩
abbrev cX12_fits : ByteArray := prog_14_method_44_code
def yX12_fits : MethodName := ⟨RX12, "fits", "(IIIII)I"⟩
abbrev cX12_lists : ByteArray := prog_14_method_45_code
def yX12_lists : MethodName := ⟨RX12, "lists", "(I)V"⟩
abbrev cX12_sorts : ByteArray := prog_14_method_46_code
def yX12_sorts : MethodName := ⟨RX12, "sorts", "()V"⟩
abbrev cX12_isLess : ByteArray := prog_14_method_47_code
def yX12_isLess : MethodName := ⟨RX12, "isLess", "()Z"⟩
abbrev cX12_isBest : ByteArray := prog_14_method_48_code
def yX12_isBest : MethodName := ⟨RX12, "isBest", "()V"⟩
abbrev cX12_priceOf : ByteArray := prog_14_method_49_code
def yX12_priceOf : MethodName := ⟨RX12, "priceOf", "(IIIII)I"⟩
abbrev cX12_plan : ByteArray := prog_14_method_50_code
def yX12_plan : MethodName := ⟨RX12, "plan", "(IIII)I"⟩
abbrev cX12_goesFor : ByteArray := prog_14_method_51_code
def yX12_goesFor : MethodName := ⟨RX12, "goesFor", "(II)Z"⟩
abbrev cX12_leastStuck : ByteArray := prog_14_method_52_code
def yX12_leastStuck : MethodName := ⟨RX12, "leastStuck", "(I)I"⟩
abbrev cX12_bits : ByteArray := prog_14_method_53_code
def yX12_bits : MethodName := ⟨RX12, "bits", "(I)I"⟩
abbrev cX12_isAhead : ByteArray := prog_14_method_54_code
def yX12_isAhead : MethodName := ⟨RX12, "isAhead", "(II)Z"⟩
abbrev cX12_stuck : ByteArray := prog_14_method_55_code
def yX12_stuck : MethodName := ⟨RX12, "stuck", "(I)I"⟩
abbrev cX12_weekSums : ByteArray := prog_14_method_56_code
def yX12_weekSums : MethodName := ⟨RX12, "weekSums", "()V"⟩
abbrev cX12_takesChoice : ByteArray := prog_14_method_57_code
def yX12_takesChoice : MethodName := ⟨RX12, "takesChoice", "(I)Z"⟩
abbrev cX12_move : ByteArray := prog_14_method_58_code
def yX12_move : MethodName := ⟨RX12, "move", "(II)I"⟩
abbrev cX12_planned : ByteArray := prog_14_method_59_code
def yX12_planned : MethodName := ⟨RX12, "planned", "(III)I"⟩
abbrev cX12_comes : ByteArray := prog_14_method_60_code
def yX12_comes : MethodName := ⟨RX12, "comes", "(IIII)I"⟩
abbrev cX12_sum : ByteArray := prog_14_method_61_code
def yX12_sum : MethodName := ⟨RX12, "sum", "(II)I"⟩
abbrev cX12_isShifted : ByteArray := prog_14_method_62_code
def yX12_isShifted : MethodName := ⟨RX12, "isShifted", "(IIII)Z"⟩
abbrev cX12_shifted : ByteArray := prog_14_method_63_code
def yX12_shifted : MethodName := ⟨RX12, "shifted", "(II)I"⟩
abbrev cX12_count : ByteArray := prog_14_method_64_code
def yX12_count : MethodName := ⟨RX12, "count", "(I)I"⟩
def RJ6 : String := "java/lang/Integer"
def TJ6 : u_T := fun k => match k with
  | _ => ("", "", "", false)
def tyJ6 : Nat → FieldType := fun k => match k with
  | _ => .int
abbrev wsJ60 : List Cond := u_ws RJ6 TJ6 0
theorem nmJ6 : ∀ a, a < 0 → ∀ b, b < 0 → a ≠ b → (TJ6 a).2.1 ≠ (TJ6 b).2.1 := by decide +kernel
theorem tyJ6_ok : ∀ k, k < 0 → parseFieldDescriptor (TJ6 k).2.2.1 = some (tyJ6 k) := by decide +kernel
abbrev cJ6_bitCount_0f7a4 : ByteArray := prog_15_method_49_code
def yJ6_bitCount_0f7a4 : MethodName := ⟨RJ6, "bitCount", "(I)I"⟩
def RJ9 : String := "java/lang/Math"
def TJ9 : u_T := fun k => match k with
  | _ => ("", "", "", false)
def tyJ9 : Nat → FieldType := fun k => match k with
  | _ => .int
abbrev wsJ90 : List Cond := u_ws RJ9 TJ9 0
theorem nmJ9 : ∀ a, a < 0 → ∀ b, b < 0 → a ≠ b → (TJ9 a).2.1 ≠ (TJ9 b).2.1 := by decide +kernel
theorem tyJ9_ok : ∀ k, k < 0 → parseFieldDescriptor (TJ9 k).2.2.1 = some (tyJ9 k) := by decide +kernel
abbrev cJ9_floorDiv_7cf53 : ByteArray := prog_16_method_47_code
def yJ9_floorDiv_7cf53 : MethodName := ⟨RJ9, "floorDiv", "(II)I"⟩
abbrev cJ9_floorMod_7cf53 : ByteArray := prog_16_method_50_code
def yJ9_floorMod_7cf53 : MethodName := ⟨RJ9, "floorMod", "(II)I"⟩
abbrev cJ9_abs_0f7a4 : ByteArray := prog_16_method_59_code
def yJ9_abs_0f7a4 : MethodName := ⟨RJ9, "abs", "(I)I"⟩
abbrev cJ9_max_7cf53 : ByteArray := prog_16_method_65_code
def yJ9_max_7cf53 : MethodName := ⟨RJ9, "max", "(II)I"⟩
abbrev cJ9_min_7cf53 : ByteArray := prog_16_method_69_code
def yJ9_min_7cf53 : MethodName := ⟨RJ9, "min", "(II)I"⟩
def RJ10 : String := "java/lang/System"
def TJ10 : u_T := fun k => match k with
  | _ => ("", "", "", false)
def tyJ10 : Nat → FieldType := fun k => match k with
  | _ => .int
abbrev wsJ100 : List Cond := u_ws RJ10 TJ10 0
theorem nmJ10 : ∀ a, a < 0 → ∀ b, b < 0 → a ≠ b → (TJ10 a).2.1 ≠ (TJ10 b).2.1 := by decide +kernel
theorem tyJ10_ok : ∀ k, k < 0 → parseFieldDescriptor (TJ10 k).2.2.1 = some (tyJ10 k) := by decide +kernel
def RJ7 : String := "java/util/Arrays"
def TJ7 : u_T := fun k => match k with
  | _ => ("", "", "", false)
def tyJ7 : Nat → FieldType := fun k => match k with
  | _ => .int
abbrev wsJ70 : List Cond := u_ws RJ7 TJ7 0
theorem nmJ7 : ∀ a, a < 0 → ∀ b, b < 0 → a ≠ b → (TJ7 a).2.1 ≠ (TJ7 b).2.1 := by decide +kernel
theorem tyJ7_ok : ∀ k, k < 0 → parseFieldDescriptor (TJ7 k).2.2.1 = some (tyJ7 k) := by decide +kernel
abbrev cJ7_fill_53178 : ByteArray := prog_18_method_103_code
def yJ7_fill_53178 : MethodName := ⟨RJ7, "fill", "([II)V"⟩
abbrev cJ7_fill_031fb : ByteArray := prog_18_method_109_code
def yJ7_fill_031fb : MethodName := ⟨RJ7, "fill", "([BB)V"⟩
def RL : String := "ClockCallLaw"
abbrev cL_law : ByteArray := code
def yL_law : MethodName := ⟨RL, "law", "([I)Z"⟩
set_option maxRecDepth 20000 in
theorem inX0 : ∀ w ∈ wsX00, w ∈ lw_tbl := by decide +kernel
set_option maxRecDepth 20000 in
theorem inX1 : ∀ w ∈ wsX10, w ∈ lw_tbl := by decide +kernel
set_option maxRecDepth 20000 in
theorem inX2 : ∀ w ∈ wsX20, w ∈ lw_tbl := by decide +kernel
set_option maxRecDepth 20000 in
theorem inX3 : ∀ w ∈ wsX30, w ∈ lw_tbl := by decide +kernel
set_option maxRecDepth 20000 in
theorem inX4 : ∀ w ∈ wsX40, w ∈ lw_tbl := by decide +kernel
set_option maxRecDepth 20000 in
theorem inX5 : ∀ w ∈ wsX50, w ∈ lw_tbl := by decide +kernel
set_option maxRecDepth 20000 in
theorem inX6 : ∀ w ∈ wsX60, w ∈ lw_tbl := by decide +kernel
set_option maxRecDepth 20000 in
theorem inX7 : ∀ w ∈ wsX70, w ∈ lw_tbl := by decide +kernel
set_option maxRecDepth 20000 in
theorem inX8 : ∀ w ∈ wsX80, w ∈ lw_tbl := by decide +kernel
set_option maxRecDepth 20000 in
theorem inX9 : ∀ w ∈ wsX90, w ∈ lw_tbl := by decide +kernel
set_option maxRecDepth 20000 in
theorem inX10 : ∀ w ∈ wsX100, w ∈ lw_tbl := by decide +kernel
set_option maxRecDepth 20000 in
theorem inX11 : ∀ w ∈ wsX110, w ∈ lw_tbl := by decide +kernel
set_option maxRecDepth 20000 in
theorem inX12 : ∀ w ∈ wsX120, w ∈ lw_tbl := by decide +kernel
abbrev vwCl : List vw_C := [(RX0, TX0, 4), (RX1, TX1, 5), (RX2, TX2, 4), (RX3, TX3, 5), (RX4, TX4, 3), (RX5, TX5, 11), (RX6, TX6, 5), (RX7, TX7, 11), (RX8, TX8, 6), (RX9, TX9, 9), (RX10, TX10, 3), (RX11, TX11, 14), (RX12, TX12, 43)]
def tsG : List Cond := lw_tbl.filter goodWord
theorem tsG_all : ∀ w ∈ tsG, goodWord w = true := fun w h => (List.mem_filter.mp h).2
theorem tsG_sub : ∀ w ∈ tsG, w ∈ lw_tbl := fun w h => (List.mem_filter.mp h).1
theorem tsG_of {w : Cond} (h : w ∈ lw_tbl) (g : goodWord w = true) : w ∈ tsG := List.mem_filter.mpr ⟨h, g⟩
theorem tsG_goodIn {big : List Cond} (h : ∀ w ∈ tsG, w ∈ big) : GoodIn big tsG := fun w hw => ⟨h w hw, good_of_word (tsG_all w hw)⟩
