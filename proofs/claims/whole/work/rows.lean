section
-- ===== PART A: goes FIRST, ahead of the names: the tables' words, and 'selects' of the private methods out of them =====
/-- a private method of a class that the tables say can be made, by its rows of tables_1 -/
def lw_okq (q : MethodName × Nat) : Prop := (q.1.cls ≠ "java/lang/invoke/MethodHandle" ∧ q.1.cls ≠ "java/lang/invoke/VarHandle") ∧ Cond.instantiable q.1.cls q.2 ∈ tables_1 ∧ Cond.privateMethod q.1 ∈ tables_1 ∧ Cond.instanceMethod q.1 ∈ tables_1
theorem lw_p0 : lw_okq (⟨"ClockCall", "landAt", "(I)LClockCall$Land;"⟩, 14) := ⟨⟨by decide +kernel, by decide +kernel⟩, List.mem_of_getElem? (i := 19) (by decide +kernel), List.mem_of_getElem? (i := 317) (by decide +kernel), List.mem_of_getElem? (i := 318) (by decide +kernel)⟩
theorem lw_p1 : lw_okq (⟨"ClockCall", "personAt", "(I)LClockCall$Person;"⟩, 14) := ⟨⟨by decide +kernel, by decide +kernel⟩, List.mem_of_getElem? (i := 19) (by decide +kernel), List.mem_of_getElem? (i := 351) (by decide +kernel), List.mem_of_getElem? (i := 352) (by decide +kernel)⟩
theorem lw_p2 : lw_okq (⟨"ClockCall", "seriesAt", "(I)LClockCall$Series;"⟩, 14) := ⟨⟨by decide +kernel, by decide +kernel⟩, List.mem_of_getElem? (i := 19) (by decide +kernel), List.mem_of_getElem? (i := 373) (by decide +kernel), List.mem_of_getElem? (i := 374) (by decide +kernel)⟩
theorem lw_p3 : lw_okq (⟨"ClockCall", "meetingCount", "()I"⟩, 14) := ⟨⟨by decide +kernel, by decide +kernel⟩, List.mem_of_getElem? (i := 19) (by decide +kernel), List.mem_of_getElem? (i := 442) (by decide +kernel), List.mem_of_getElem? (i := 443) (by decide +kernel)⟩
theorem lw_p4 : lw_okq (⟨"ClockCall", "isKnown", "(I)Z"⟩, 14) := ⟨⟨by decide +kernel, by decide +kernel⟩, List.mem_of_getElem? (i := 19) (by decide +kernel), List.mem_of_getElem? (i := 508) (by decide +kernel), List.mem_of_getElem? (i := 509) (by decide +kernel)⟩
theorem lw_p5 : lw_okq (⟨"ClockCall", "seatLesser", "(LClockCall$Series;II)V"⟩, 14) := ⟨⟨by decide +kernel, by decide +kernel⟩, List.mem_of_getElem? (i := 19) (by decide +kernel), List.mem_of_getElem? (i := 611) (by decide +kernel), List.mem_of_getElem? (i := 612) (by decide +kernel)⟩
theorem lw_p6 : lw_okq (⟨"ClockCall", "seat", "(IIII)Z"⟩, 14) := ⟨⟨by decide +kernel, by decide +kernel⟩, List.mem_of_getElem? (i := 19) (by decide +kernel), List.mem_of_getElem? (i := 634) (by decide +kernel), List.mem_of_getElem? (i := 635) (by decide +kernel)⟩
theorem lw_p7 : lw_okq (⟨"ClockCall$Seating", "preferSecond", "(LClockCall$Sheet;I)I"⟩, 6) := ⟨⟨by decide +kernel, by decide +kernel⟩, List.mem_of_getElem? (i := 79) (by decide +kernel), List.mem_of_getElem? (i := 671) (by decide +kernel), List.mem_of_getElem? (i := 672) (by decide +kernel)⟩
theorem lw_p8 : lw_okq (⟨"ClockCall$Board", "add", "(LClockCall$Series;II)V"⟩, 5) := ⟨⟨by decide +kernel, by decide +kernel⟩, List.mem_of_getElem? (i := 55) (by decide +kernel), List.mem_of_getElem? (i := 680) (by decide +kernel), List.mem_of_getElem? (i := 681) (by decide +kernel)⟩
theorem lw_p9 : lw_okq (⟨"ClockCall$Seating", "isBehindChain", "(LClockCall$Series;LClockCall$Sheet;LClockCall$Board;)Z"⟩, 6) := ⟨⟨by decide +kernel, by decide +kernel⟩, List.mem_of_getElem? (i := 79) (by decide +kernel), List.mem_of_getElem? (i := 698) (by decide +kernel), List.mem_of_getElem? (i := 699) (by decide +kernel)⟩
theorem lw_p10 : lw_okq (⟨"ClockCall$Blame", "listSuspects", "(LClockCall$Series;)V"⟩, 4) := ⟨⟨by decide +kernel, by decide +kernel⟩, List.mem_of_getElem? (i := 225) (by decide +kernel), List.mem_of_getElem? (i := 742) (by decide +kernel), List.mem_of_getElem? (i := 743) (by decide +kernel)⟩
theorem lw_p11 : lw_okq (⟨"ClockCall$Blame", "noteHindered", "(LClockCall$Series;I)V"⟩, 4) := ⟨⟨by decide +kernel, by decide +kernel⟩, List.mem_of_getElem? (i := 225) (by decide +kernel), List.mem_of_getElem? (i := 751) (by decide +kernel), List.mem_of_getElem? (i := 752) (by decide +kernel)⟩
theorem lw_p12 : lw_okq (⟨"ClockCall$Blame", "leastSet", "(I)I"⟩, 4) := ⟨⟨by decide +kernel, by decide +kernel⟩, List.mem_of_getElem? (i := 225) (by decide +kernel), List.mem_of_getElem? (i := 755) (by decide +kernel), List.mem_of_getElem? (i := 756) (by decide +kernel)⟩
theorem lw_p13 : lw_okq (⟨"ClockCall$Blame", "hinderedBy", "(I)I"⟩, 4) := ⟨⟨by decide +kernel, by decide +kernel⟩, List.mem_of_getElem? (i := 225) (by decide +kernel), List.mem_of_getElem? (i := 759) (by decide +kernel), List.mem_of_getElem? (i := 760) (by decide +kernel)⟩
theorem lw_p14 : lw_okq (⟨"ClockCall$Blame", "personsOf", "(I)I"⟩, 4) := ⟨⟨by decide +kernel, by decide +kernel⟩, List.mem_of_getElem? (i := 225) (by decide +kernel), List.mem_of_getElem? (i := 769) (by decide +kernel), List.mem_of_getElem? (i := 770) (by decide +kernel)⟩
theorem lw_p15 : lw_okq (⟨"ClockCall$Planner", "leastAt", "(II)I"⟩, 11) := ⟨⟨by decide +kernel, by decide +kernel⟩, List.mem_of_getElem? (i := 112) (by decide +kernel), List.mem_of_getElem? (i := 777) (by decide +kernel), List.mem_of_getElem? (i := 778) (by decide +kernel)⟩
def lw_privs_1 : List (MethodName × Nat) := [(⟨"ClockCall", "landAt", "(I)LClockCall$Land;"⟩, 14), (⟨"ClockCall", "personAt", "(I)LClockCall$Person;"⟩, 14), (⟨"ClockCall", "seriesAt", "(I)LClockCall$Series;"⟩, 14), (⟨"ClockCall", "meetingCount", "()I"⟩, 14), (⟨"ClockCall", "isKnown", "(I)Z"⟩, 14), (⟨"ClockCall", "seatLesser", "(LClockCall$Series;II)V"⟩, 14), (⟨"ClockCall", "seat", "(IIII)Z"⟩, 14), (⟨"ClockCall$Seating", "preferSecond", "(LClockCall$Sheet;I)I"⟩, 6), (⟨"ClockCall$Board", "add", "(LClockCall$Series;II)V"⟩, 5), (⟨"ClockCall$Seating", "isBehindChain", "(LClockCall$Series;LClockCall$Sheet;LClockCall$Board;)Z"⟩, 6), (⟨"ClockCall$Blame", "listSuspects", "(LClockCall$Series;)V"⟩, 4), (⟨"ClockCall$Blame", "noteHindered", "(LClockCall$Series;I)V"⟩, 4), (⟨"ClockCall$Blame", "leastSet", "(I)I"⟩, 4), (⟨"ClockCall$Blame", "hinderedBy", "(I)I"⟩, 4), (⟨"ClockCall$Blame", "personsOf", "(I)I"⟩, 4), (⟨"ClockCall$Planner", "leastAt", "(II)I"⟩, 11)]
theorem lw_r1 : ∀ q ∈ lw_privs_1, lw_okq q := List.forall_mem_cons.mpr ⟨lw_p0, List.forall_mem_cons.mpr ⟨lw_p1, List.forall_mem_cons.mpr ⟨lw_p2, List.forall_mem_cons.mpr ⟨lw_p3, List.forall_mem_cons.mpr ⟨lw_p4, List.forall_mem_cons.mpr ⟨lw_p5, List.forall_mem_cons.mpr ⟨lw_p6, List.forall_mem_cons.mpr ⟨lw_p7, List.forall_mem_cons.mpr ⟨lw_p8, List.forall_mem_cons.mpr ⟨lw_p9, List.forall_mem_cons.mpr ⟨lw_p10, List.forall_mem_cons.mpr ⟨lw_p11, List.forall_mem_cons.mpr ⟨lw_p12, List.forall_mem_cons.mpr ⟨lw_p13, List.forall_mem_cons.mpr ⟨lw_p14, List.forall_mem_cons.mpr ⟨lw_p15, fun _ h => absurd h List.not_mem_nil⟩⟩⟩⟩⟩⟩⟩⟩⟩⟩⟩⟩⟩⟩⟩⟩
theorem lw_p16 : lw_okq (⟨"ClockCall$Planner", "search", "(I)V"⟩, 11) := ⟨⟨by decide +kernel, by decide +kernel⟩, List.mem_of_getElem? (i := 112) (by decide +kernel), List.mem_of_getElem? (i := 782) (by decide +kernel), List.mem_of_getElem? (i := 783) (by decide +kernel)⟩
theorem lw_p17 : lw_okq (⟨"ClockCall$Evener", "bringGreatest", "([II)V"⟩, 4) := ⟨⟨by decide +kernel, by decide +kernel⟩, List.mem_of_getElem? (i := 118) (by decide +kernel), List.mem_of_getElem? (i := 793) (by decide +kernel), List.mem_of_getElem? (i := 794) (by decide +kernel)⟩
theorem lw_p18 : lw_okq (⟨"ClockCall$Planner", "searchBehind", "(II)V"⟩, 11) := ⟨⟨by decide +kernel, by decide +kernel⟩, List.mem_of_getElem? (i := 112) (by decide +kernel), List.mem_of_getElem? (i := 802) (by decide +kernel), List.mem_of_getElem? (i := 803) (by decide +kernel)⟩
theorem lw_p19 : lw_okq (⟨"ClockCall$Planner", "charge", "(II)V"⟩, 11) := ⟨⟨by decide +kernel, by decide +kernel⟩, List.mem_of_getElem? (i := 112) (by decide +kernel), List.mem_of_getElem? (i := 806) (by decide +kernel), List.mem_of_getElem? (i := 807) (by decide +kernel)⟩
theorem lw_p20 : lw_okq (⟨"ClockCall$Mover", "search", "(II)V"⟩, 11) := ⟨⟨by decide +kernel, by decide +kernel⟩, List.mem_of_getElem? (i := 176) (by decide +kernel), List.mem_of_getElem? (i := 839) (by decide +kernel), List.mem_of_getElem? (i := 840) (by decide +kernel)⟩
theorem lw_p21 : lw_okq (⟨"ClockCall$Mover", "searchBehind", "(II)V"⟩, 11) := ⟨⟨by decide +kernel, by decide +kernel⟩, List.mem_of_getElem? (i := 176) (by decide +kernel), List.mem_of_getElem? (i := 848) (by decide +kernel), List.mem_of_getElem? (i := 849) (by decide +kernel)⟩
theorem lw_p22 : lw_okq (⟨"ClockCall$Mover", "charge", "(II)V"⟩, 11) := ⟨⟨by decide +kernel, by decide +kernel⟩, List.mem_of_getElem? (i := 176) (by decide +kernel), List.mem_of_getElem? (i := 853) (by decide +kernel), List.mem_of_getElem? (i := 854) (by decide +kernel)⟩
theorem lw_p23 : lw_okq (⟨"ClockCall", "isShifted", "(LClockCall$Series;III)Z"⟩, 14) := ⟨⟨by decide +kernel, by decide +kernel⟩, List.mem_of_getElem? (i := 19) (by decide +kernel), List.mem_of_getElem? (i := 882) (by decide +kernel), List.mem_of_getElem? (i := 883) (by decide +kernel)⟩
theorem lw_p24 : lw_okq (⟨"ClockCallModel", "isLand", "(I)Z"⟩, 43) := ⟨⟨by decide +kernel, by decide +kernel⟩, List.mem_of_getElem? (i := 887) (by decide +kernel), List.mem_of_getElem? (i := 1034) (by decide +kernel), List.mem_of_getElem? (i := 1035) (by decide +kernel)⟩
theorem lw_p25 : lw_okq (⟨"ClockCallModel", "isPerson", "(I)Z"⟩, 43) := ⟨⟨by decide +kernel, by decide +kernel⟩, List.mem_of_getElem? (i := 887) (by decide +kernel), List.mem_of_getElem? (i := 1042) (by decide +kernel), List.mem_of_getElem? (i := 1043) (by decide +kernel)⟩
theorem lw_p26 : lw_okq (⟨"ClockCallModel", "fact", "(IIIIZ)I"⟩, 43) := ⟨⟨by decide +kernel, by decide +kernel⟩, List.mem_of_getElem? (i := 887) (by decide +kernel), List.mem_of_getElem? (i := 1054) (by decide +kernel), List.mem_of_getElem? (i := 1055) (by decide +kernel)⟩
theorem lw_p27 : lw_okq (⟨"ClockCallModel", "isSeries", "(I)Z"⟩, 43) := ⟨⟨by decide +kernel, by decide +kernel⟩, List.mem_of_getElem? (i := 887) (by decide +kernel), List.mem_of_getElem? (i := 1070) (by decide +kernel), List.mem_of_getElem? (i := 1071) (by decide +kernel)⟩
theorem lw_p28 : lw_okq (⟨"ClockCallModel", "isKnown", "(I)Z"⟩, 43) := ⟨⟨by decide +kernel, by decide +kernel⟩, List.mem_of_getElem? (i := 887) (by decide +kernel), List.mem_of_getElem? (i := 1081) (by decide +kernel), List.mem_of_getElem? (i := 1082) (by decide +kernel)⟩
theorem lw_p29 : lw_okq (⟨"ClockCallModel", "offsetAt", "(III)I"⟩, 43) := ⟨⟨by decide +kernel, by decide +kernel⟩, List.mem_of_getElem? (i := 887) (by decide +kernel), List.mem_of_getElem? (i := 1086) (by decide +kernel), List.mem_of_getElem? (i := 1087) (by decide +kernel)⟩
theorem lw_p30 : lw_okq (⟨"ClockCallModel", "isSpan", "(IIII)Z"⟩, 43) := ⟨⟨by decide +kernel, by decide +kernel⟩, List.mem_of_getElem? (i := 887) (by decide +kernel), List.mem_of_getElem? (i := 1101) (by decide +kernel), List.mem_of_getElem? (i := 1102) (by decide +kernel)⟩
theorem lw_p31 : lw_okq (⟨"ClockCallModel", "reasons", "(IIII)I"⟩, 43) := ⟨⟨by decide +kernel, by decide +kernel⟩, List.mem_of_getElem? (i := 887) (by decide +kernel), List.mem_of_getElem? (i := 1105) (by decide +kernel), List.mem_of_getElem? (i := 1106) (by decide +kernel)⟩
def lw_privs_2 : List (MethodName × Nat) := [(⟨"ClockCall$Planner", "search", "(I)V"⟩, 11), (⟨"ClockCall$Evener", "bringGreatest", "([II)V"⟩, 4), (⟨"ClockCall$Planner", "searchBehind", "(II)V"⟩, 11), (⟨"ClockCall$Planner", "charge", "(II)V"⟩, 11), (⟨"ClockCall$Mover", "search", "(II)V"⟩, 11), (⟨"ClockCall$Mover", "searchBehind", "(II)V"⟩, 11), (⟨"ClockCall$Mover", "charge", "(II)V"⟩, 11), (⟨"ClockCall", "isShifted", "(LClockCall$Series;III)Z"⟩, 14), (⟨"ClockCallModel", "isLand", "(I)Z"⟩, 43), (⟨"ClockCallModel", "isPerson", "(I)Z"⟩, 43), (⟨"ClockCallModel", "fact", "(IIIIZ)I"⟩, 43), (⟨"ClockCallModel", "isSeries", "(I)Z"⟩, 43), (⟨"ClockCallModel", "isKnown", "(I)Z"⟩, 43), (⟨"ClockCallModel", "offsetAt", "(III)I"⟩, 43), (⟨"ClockCallModel", "isSpan", "(IIII)Z"⟩, 43), (⟨"ClockCallModel", "reasons", "(IIII)I"⟩, 43)]
theorem lw_r2 : ∀ q ∈ lw_privs_2, lw_okq q := List.forall_mem_cons.mpr ⟨lw_p16, List.forall_mem_cons.mpr ⟨lw_p17, List.forall_mem_cons.mpr ⟨lw_p18, List.forall_mem_cons.mpr ⟨lw_p19, List.forall_mem_cons.mpr ⟨lw_p20, List.forall_mem_cons.mpr ⟨lw_p21, List.forall_mem_cons.mpr ⟨lw_p22, List.forall_mem_cons.mpr ⟨lw_p23, List.forall_mem_cons.mpr ⟨lw_p24, List.forall_mem_cons.mpr ⟨lw_p25, List.forall_mem_cons.mpr ⟨lw_p26, List.forall_mem_cons.mpr ⟨lw_p27, List.forall_mem_cons.mpr ⟨lw_p28, List.forall_mem_cons.mpr ⟨lw_p29, List.forall_mem_cons.mpr ⟨lw_p30, List.forall_mem_cons.mpr ⟨lw_p31, fun _ h => absurd h List.not_mem_nil⟩⟩⟩⟩⟩⟩⟩⟩⟩⟩⟩⟩⟩⟩⟩⟩
theorem lw_p32 : lw_okq (⟨"ClockCallModel", "reason", "(III)I"⟩, 43) := ⟨⟨by decide +kernel, by decide +kernel⟩, List.mem_of_getElem? (i := 887) (by decide +kernel), List.mem_of_getElem? (i := 1109) (by decide +kernel), List.mem_of_getElem? (i := 1110) (by decide +kernel)⟩
theorem lw_p33 : lw_okq (⟨"ClockCallModel", "costAt", "(II)I"⟩, 43) := ⟨⟨by decide +kernel, by decide +kernel⟩, List.mem_of_getElem? (i := 887) (by decide +kernel), List.mem_of_getElem? (i := 1113) (by decide +kernel), List.mem_of_getElem? (i := 1114) (by decide +kernel)⟩
theorem lw_p34 : lw_okq (⟨"ClockCallModel", "costs", "(IIII)I"⟩, 43) := ⟨⟨by decide +kernel, by decide +kernel⟩, List.mem_of_getElem? (i := 887) (by decide +kernel), List.mem_of_getElem? (i := 1121) (by decide +kernel), List.mem_of_getElem? (i := 1122) (by decide +kernel)⟩
theorem lw_p35 : lw_okq (⟨"ClockCallModel", "isPair", "(III)Z"⟩, 43) := ⟨⟨by decide +kernel, by decide +kernel⟩, List.mem_of_getElem? (i := 887) (by decide +kernel), List.mem_of_getElem? (i := 1145) (by decide +kernel), List.mem_of_getElem? (i := 1146) (by decide +kernel)⟩
theorem lw_p36 : lw_okq (⟨"ClockCallModel", "takesWeek", "(II)V"⟩, 43) := ⟨⟨by decide +kernel, by decide +kernel⟩, List.mem_of_getElem? (i := 887) (by decide +kernel), List.mem_of_getElem? (i := 1149) (by decide +kernel), List.mem_of_getElem? (i := 1150) (by decide +kernel)⟩
theorem lw_p37 : lw_okq (⟨"ClockCallModel", "comeAll", "(I)V"⟩, 43) := ⟨⟨by decide +kernel, by decide +kernel⟩, List.mem_of_getElem? (i := 887) (by decide +kernel), List.mem_of_getElem? (i := 1153) (by decide +kernel), List.mem_of_getElem? (i := 1154) (by decide +kernel)⟩
theorem lw_p38 : lw_okq (⟨"ClockCallModel", "asksFree", "(I)V"⟩, 43) := ⟨⟨by decide +kernel, by decide +kernel⟩, List.mem_of_getElem? (i := 887) (by decide +kernel), List.mem_of_getElem? (i := 1157) (by decide +kernel), List.mem_of_getElem? (i := 1158) (by decide +kernel)⟩
theorem lw_p39 : lw_okq (⟨"ClockCallModel", "isIn", "(II)Z"⟩, 43) := ⟨⟨by decide +kernel, by decide +kernel⟩, List.mem_of_getElem? (i := 887) (by decide +kernel), List.mem_of_getElem? (i := 1161) (by decide +kernel), List.mem_of_getElem? (i := 1162) (by decide +kernel)⟩
theorem lw_p40 : lw_okq (⟨"ClockCallModel", "slotOf", "(II)I"⟩, 43) := ⟨⟨by decide +kernel, by decide +kernel⟩, List.mem_of_getElem? (i := 887) (by decide +kernel), List.mem_of_getElem? (i := 1165) (by decide +kernel), List.mem_of_getElem? (i := 1166) (by decide +kernel)⟩
theorem lw_p41 : lw_okq (⟨"ClockCallModel", "isFree", "(III)Z"⟩, 43) := ⟨⟨by decide +kernel, by decide +kernel⟩, List.mem_of_getElem? (i := 887) (by decide +kernel), List.mem_of_getElem? (i := 1169) (by decide +kernel), List.mem_of_getElem? (i := 1170) (by decide +kernel)⟩
theorem lw_p42 : lw_okq (⟨"ClockCallModel", "meet", "(IIII)Z"⟩, 43) := ⟨⟨by decide +kernel, by decide +kernel⟩, List.mem_of_getElem? (i := 887) (by decide +kernel), List.mem_of_getElem? (i := 1173) (by decide +kernel), List.mem_of_getElem? (i := 1174) (by decide +kernel)⟩
theorem lw_p43 : lw_okq (⟨"ClockCallModel", "comesTo", "(IIII)I"⟩, 43) := ⟨⟨by decide +kernel, by decide +kernel⟩, List.mem_of_getElem? (i := 887) (by decide +kernel), List.mem_of_getElem? (i := 1177) (by decide +kernel), List.mem_of_getElem? (i := 1178) (by decide +kernel)⟩
theorem lw_p44 : lw_okq (⟨"ClockCallModel", "fitsBy", "(III)Z"⟩, 43) := ⟨⟨by decide +kernel, by decide +kernel⟩, List.mem_of_getElem? (i := 887) (by decide +kernel), List.mem_of_getElem? (i := 1181) (by decide +kernel), List.mem_of_getElem? (i := 1182) (by decide +kernel)⟩
theorem lw_p45 : lw_okq (⟨"ClockCallModel", "isBehind", "(II)Z"⟩, 43) := ⟨⟨by decide +kernel, by decide +kernel⟩, List.mem_of_getElem? (i := 887) (by decide +kernel), List.mem_of_getElem? (i := 1185) (by decide +kernel), List.mem_of_getElem? (i := 1186) (by decide +kernel)⟩
theorem lw_p46 : lw_okq (⟨"ClockCallModel", "lists", "(I)V"⟩, 43) := ⟨⟨by decide +kernel, by decide +kernel⟩, List.mem_of_getElem? (i := 887) (by decide +kernel), List.mem_of_getElem? (i := 1193) (by decide +kernel), List.mem_of_getElem? (i := 1194) (by decide +kernel)⟩
theorem lw_p47 : lw_okq (⟨"ClockCallModel", "priceOf", "(IIIII)I"⟩, 43) := ⟨⟨by decide +kernel, by decide +kernel⟩, List.mem_of_getElem? (i := 887) (by decide +kernel), List.mem_of_getElem? (i := 1197) (by decide +kernel), List.mem_of_getElem? (i := 1198) (by decide +kernel)⟩
def lw_privs_3 : List (MethodName × Nat) := [(⟨"ClockCallModel", "reason", "(III)I"⟩, 43), (⟨"ClockCallModel", "costAt", "(II)I"⟩, 43), (⟨"ClockCallModel", "costs", "(IIII)I"⟩, 43), (⟨"ClockCallModel", "isPair", "(III)Z"⟩, 43), (⟨"ClockCallModel", "takesWeek", "(II)V"⟩, 43), (⟨"ClockCallModel", "comeAll", "(I)V"⟩, 43), (⟨"ClockCallModel", "asksFree", "(I)V"⟩, 43), (⟨"ClockCallModel", "isIn", "(II)Z"⟩, 43), (⟨"ClockCallModel", "slotOf", "(II)I"⟩, 43), (⟨"ClockCallModel", "isFree", "(III)Z"⟩, 43), (⟨"ClockCallModel", "meet", "(IIII)Z"⟩, 43), (⟨"ClockCallModel", "comesTo", "(IIII)I"⟩, 43), (⟨"ClockCallModel", "fitsBy", "(III)Z"⟩, 43), (⟨"ClockCallModel", "isBehind", "(II)Z"⟩, 43), (⟨"ClockCallModel", "lists", "(I)V"⟩, 43), (⟨"ClockCallModel", "priceOf", "(IIIII)I"⟩, 43)]
theorem lw_r3 : ∀ q ∈ lw_privs_3, lw_okq q := List.forall_mem_cons.mpr ⟨lw_p32, List.forall_mem_cons.mpr ⟨lw_p33, List.forall_mem_cons.mpr ⟨lw_p34, List.forall_mem_cons.mpr ⟨lw_p35, List.forall_mem_cons.mpr ⟨lw_p36, List.forall_mem_cons.mpr ⟨lw_p37, List.forall_mem_cons.mpr ⟨lw_p38, List.forall_mem_cons.mpr ⟨lw_p39, List.forall_mem_cons.mpr ⟨lw_p40, List.forall_mem_cons.mpr ⟨lw_p41, List.forall_mem_cons.mpr ⟨lw_p42, List.forall_mem_cons.mpr ⟨lw_p43, List.forall_mem_cons.mpr ⟨lw_p44, List.forall_mem_cons.mpr ⟨lw_p45, List.forall_mem_cons.mpr ⟨lw_p46, List.forall_mem_cons.mpr ⟨lw_p47, fun _ h => absurd h List.not_mem_nil⟩⟩⟩⟩⟩⟩⟩⟩⟩⟩⟩⟩⟩⟩⟩⟩
theorem lw_p48 : lw_okq (⟨"ClockCallModel", "leastStuck", "(I)I"⟩, 43) := ⟨⟨by decide +kernel, by decide +kernel⟩, List.mem_of_getElem? (i := 887) (by decide +kernel), List.mem_of_getElem? (i := 1201) (by decide +kernel), List.mem_of_getElem? (i := 1202) (by decide +kernel)⟩
theorem lw_p49 : lw_okq (⟨"ClockCallModel", "goesFor", "(II)Z"⟩, 43) := ⟨⟨by decide +kernel, by decide +kernel⟩, List.mem_of_getElem? (i := 887) (by decide +kernel), List.mem_of_getElem? (i := 1205) (by decide +kernel), List.mem_of_getElem? (i := 1206) (by decide +kernel)⟩
theorem lw_p50 : lw_okq (⟨"ClockCallModel", "sorts", "()V"⟩, 43) := ⟨⟨by decide +kernel, by decide +kernel⟩, List.mem_of_getElem? (i := 887) (by decide +kernel), List.mem_of_getElem? (i := 1215) (by decide +kernel), List.mem_of_getElem? (i := 1216) (by decide +kernel)⟩
theorem lw_p51 : lw_okq (⟨"ClockCallModel", "isLess", "()Z"⟩, 43) := ⟨⟨by decide +kernel, by decide +kernel⟩, List.mem_of_getElem? (i := 887) (by decide +kernel), List.mem_of_getElem? (i := 1219) (by decide +kernel), List.mem_of_getElem? (i := 1220) (by decide +kernel)⟩
theorem lw_p52 : lw_okq (⟨"ClockCallModel", "isBest", "()V"⟩, 43) := ⟨⟨by decide +kernel, by decide +kernel⟩, List.mem_of_getElem? (i := 887) (by decide +kernel), List.mem_of_getElem? (i := 1223) (by decide +kernel), List.mem_of_getElem? (i := 1224) (by decide +kernel)⟩
theorem lw_p53 : lw_okq (⟨"ClockCallModel", "weekSums", "()V"⟩, 43) := ⟨⟨by decide +kernel, by decide +kernel⟩, List.mem_of_getElem? (i := 887) (by decide +kernel), List.mem_of_getElem? (i := 1235) (by decide +kernel), List.mem_of_getElem? (i := 1236) (by decide +kernel)⟩
theorem lw_p54 : lw_okq (⟨"ClockCallModel", "takesChoice", "(I)Z"⟩, 43) := ⟨⟨by decide +kernel, by decide +kernel⟩, List.mem_of_getElem? (i := 887) (by decide +kernel), List.mem_of_getElem? (i := 1239) (by decide +kernel), List.mem_of_getElem? (i := 1240) (by decide +kernel)⟩
theorem lw_p55 : lw_okq (⟨"ClockCallModel", "isShifted", "(IIII)Z"⟩, 43) := ⟨⟨by decide +kernel, by decide +kernel⟩, List.mem_of_getElem? (i := 887) (by decide +kernel), List.mem_of_getElem? (i := 1259) (by decide +kernel), List.mem_of_getElem? (i := 1260) (by decide +kernel)⟩
def lw_privs_4 : List (MethodName × Nat) := [(⟨"ClockCallModel", "leastStuck", "(I)I"⟩, 43), (⟨"ClockCallModel", "goesFor", "(II)Z"⟩, 43), (⟨"ClockCallModel", "sorts", "()V"⟩, 43), (⟨"ClockCallModel", "isLess", "()Z"⟩, 43), (⟨"ClockCallModel", "isBest", "()V"⟩, 43), (⟨"ClockCallModel", "weekSums", "()V"⟩, 43), (⟨"ClockCallModel", "takesChoice", "(I)Z"⟩, 43), (⟨"ClockCallModel", "isShifted", "(IIII)Z"⟩, 43)]
theorem lw_r4 : ∀ q ∈ lw_privs_4, lw_okq q := List.forall_mem_cons.mpr ⟨lw_p48, List.forall_mem_cons.mpr ⟨lw_p49, List.forall_mem_cons.mpr ⟨lw_p50, List.forall_mem_cons.mpr ⟨lw_p51, List.forall_mem_cons.mpr ⟨lw_p52, List.forall_mem_cons.mpr ⟨lw_p53, List.forall_mem_cons.mpr ⟨lw_p54, List.forall_mem_cons.mpr ⟨lw_p55, fun _ h => absurd h List.not_mem_nil⟩⟩⟩⟩⟩⟩⟩⟩
def lw_privs : List (MethodName × Nat) := lw_privs_1 ++ (lw_privs_2 ++ (lw_privs_3 ++ (lw_privs_4)))
def lw_tbl : List Cond := k2_sels lw_privs ++ tables_1
theorem lw_privs_ok : ∀ q ∈ lw_privs, lw_okq q := by
  show ∀ q ∈ lw_privs_1 ++ (lw_privs_2 ++ (lw_privs_3 ++ (lw_privs_4))), lw_okq q
  exact List.forall_mem_append.mpr ⟨lw_r1, List.forall_mem_append.mpr ⟨lw_r2, List.forall_mem_append.mpr ⟨lw_r3, lw_r4⟩⟩⟩
/-! ===== BEGIN words of one list among another's, by their places ===== -/
theorem goodIn_r {big : List Cond} (ws : List Cond) (ps : List Nat) (hp : ws = ps.filterMap (fun i => big[i]?)) (h : ws.all goodWord = true) : GoodIn big ws := by
  intro w hw
  have h1 := List.all_eq_true.mp h w hw
  rw [hp] at hw
  obtain ⟨i, -, hi⟩ := List.mem_filterMap.mp hw
  have hm : w ∈ big := by first | exact List.mem_of_getElem? hi | exact List.getElem?_mem hi
  exact ⟨hm, good_of_word h1⟩
theorem goodIn_app {big a b : List Cond} (ha : GoodIn big a) (hb : GoodIn big b) : GoodIn big (a ++ b) := fun w h => (List.mem_append.mp h).elim (ha w) (hb w)
theorem goodIn_ca {big a b : List Cond} {c : Cond} (ha : GoodIn big (c :: a)) (hb : GoodIn big b) : GoodIn big (c :: (a ++ b)) := fun w h => (List.mem_cons.mp h).elim (fun e => ha w (List.mem_cons.mpr (Or.inl e))) (fun h => (List.mem_append.mp h).elim (fun h => ha w (List.mem_cons.mpr (Or.inr h))) (hb w))
theorem goodIn_sub {big ws : List Cond} (hm : ∀ w ∈ ws, w ∈ big) (h : ws.all goodWord = true) : GoodIn big ws := fun w hw => ⟨hm w hw, good_of_word (List.all_eq_true.mp h w hw)⟩
/-! ===== END ===== -/

/-! ===== BEGIN printed: names, fields, word lists, decode rows ===== -/
def RX0 : String := "ClockCall$Blame"
def TX0 : u_T := fun k => match k with
  | 0 => ("ClockCall$Blame", "seating", "LClockCall$Seating;", true)
  | 1 => ("ClockCall$Blame", "suspects", "[I", true)
  | 2 => ("ClockCall$Blame", "hinders", "[I", true)
  | _ => ("ClockCall$Blame", "size", "I", false)
def tyX0 : Nat → FieldType := fun k => match k with
  | 0 => .object "ClockCall$Seating"
  | 1 => .array .int
  | 2 => .array .int
  | _ => .int
abbrev wsX00 : List Cond := u_ws RX0 TX0 4
theorem nmX0 : ∀ a, a < 4 → ∀ b, b < 4 → a ≠ b → (TX0 a).2.1 ≠ (TX0 b).2.1 := by decide +kernel
theorem tyX0_ok : ∀ k, k < 4 → parseFieldDescriptor (TX0 k).2.2.1 = some (tyX0 k) := by decide +kernel
abbrev cX0_init : ByteArray := prog_2_method_1_code
def yX0_init : MethodName := ⟨RX0, "<init>", "()V"⟩
abbrev cX0_find : ByteArray := prog_2_method_2_code
def yX0_find : MethodName := ⟨RX0, "find", "(LClockCall$Series;LClockCall$Sheet;LClockCall$Board;)I"⟩
abbrev cX0_listSuspects : ByteArray := prog_2_method_3_code
def yX0_listSuspects : MethodName := ⟨RX0, "listSuspects", "(LClockCall$Series;)V"⟩
abbrev cX0_noteHindered : ByteArray := prog_2_method_4_code
def yX0_noteHindered : MethodName := ⟨RX0, "noteHindered", "(LClockCall$Series;I)V"⟩
abbrev cX0_leastSet : ByteArray := prog_2_method_5_code
def yX0_leastSet : MethodName := ⟨RX0, "leastSet", "(I)I"⟩
abbrev cX0_hinderedBy : ByteArray := prog_2_method_6_code
def yX0_hinderedBy : MethodName := ⟨RX0, "hinderedBy", "(I)I"⟩
abbrev cX0_personsOf : ByteArray := prog_2_method_7_code
def yX0_personsOf : MethodName := ⟨RX0, "personsOf", "(I)I"⟩
def RX1 : String := "ClockCall$Board"
def TX1 : u_T := fun k => match k with
  | 0 => ("ClockCall$Board", "from", "[I", true)
  | 1 => ("ClockCall$Board", "upTo", "[I", true)
  | 2 => ("ClockCall$Board", "who", "[I", true)
  | 3 => ("ClockCall$Board", "endOf", "[I", true)
  | _ => ("ClockCall$Board", "size", "I", false)
def tyX1 : Nat → FieldType := fun k => match k with
  | 0 => .array .int
  | 1 => .array .int
  | 2 => .array .int
  | 3 => .array .int
  | _ => .int
abbrev wsX10 : List Cond := u_ws RX1 TX1 5
theorem nmX1 : ∀ a, a < 5 → ∀ b, b < 5 → a ≠ b → (TX1 a).2.1 ≠ (TX1 b).2.1 := by decide +kernel
theorem tyX1_ok : ∀ k, k < 5 → parseFieldDescriptor (TX1 k).2.2.1 = some (tyX1 k) := by decide +kernel
abbrev cX1_init : ByteArray := prog_3_method_1_code
def yX1_init : MethodName := ⟨RX1, "<init>", "()V"⟩
abbrev cX1_clear : ByteArray := prog_3_method_2_code
def yX1_clear : MethodName := ⟨RX1, "clear", "()V"⟩
abbrev cX1_put : ByteArray := prog_3_method_3_code
def yX1_put : MethodName := ⟨RX1, "put", "(LClockCall$Series;LClockCall$Sheet;LClockCall$Seating;)V"⟩
abbrev cX1_add : ByteArray := prog_3_method_4_code
def yX1_add : MethodName := ⟨RX1, "add", "(LClockCall$Series;II)V"⟩
abbrev cX1_engaged : ByteArray := prog_3_method_5_code
def yX1_engaged : MethodName := ⟨RX1, "engaged", "(II)I"⟩
def RX2 : String := "ClockCall$Evener"
def TX2 : u_T := fun k => match k with
  | 0 => ("ClockCall$Evener", "best", "[I", true)
  | 1 => ("ClockCall$Evener", "tried", "[I", true)
  | 2 => ("ClockCall$Evener", "size", "I", false)
  | _ => ("ClockCall$Evener", "isFound", "Z", false)
def tyX2 : Nat → FieldType := fun k => match k with
  | 0 => .array .int
  | 1 => .array .int
  | 2 => .int
  | _ => .boolean
abbrev wsX20 : List Cond := u_ws RX2 TX2 4
theorem nmX2 : ∀ a, a < 4 → ∀ b, b < 4 → a ≠ b → (TX2 a).2.1 ≠ (TX2 b).2.1 := by decide +kernel
theorem tyX2_ok : ∀ k, k < 4 → parseFieldDescriptor (TX2 k).2.2.1 = some (tyX2 k) := by decide +kernel
abbrev cX2_init : ByteArray := prog_4_method_1_code
def yX2_init : MethodName := ⟨RX2, "<init>", "()V"⟩
abbrev cX2_begin : ByteArray := prog_4_method_2_code
def yX2_begin : MethodName := ⟨RX2, "begin", "(I)V"⟩
abbrev cX2_isBetter : ByteArray := prog_4_method_3_code
def yX2_isBetter : MethodName := ⟨RX2, "isBetter", "([I)Z"⟩
abbrev cX2_keep : ByteArray := prog_4_method_4_code
def yX2_keep : MethodName := ⟨RX2, "keep", "([I)V"⟩
abbrev cX2_bringGreatest : ByteArray := prog_4_method_5_code
def yX2_bringGreatest : MethodName := ⟨RX2, "bringGreatest", "([II)V"⟩
abbrev cX2_greatest : ByteArray := prog_4_method_6_code
def yX2_greatest : MethodName := ⟨RX2, "greatest", "()I"⟩
def RX3 : String := "ClockCall$Fact"
def TX3 : u_T := fun k => match k with
  | 0 => ("ClockCall$Fact", "number", "I", true)
  | 1 => ("ClockCall$Fact", "from", "I", true)
  | 2 => ("ClockCall$Fact", "value", "I", true)
  | 3 => ("ClockCall$Fact", "isPrivate", "Z", true)
  | _ => ("ClockCall$Fact", "earlier", "LClockCall$Fact;", true)
def tyX3 : Nat → FieldType := fun k => match k with
  | 0 => .int
  | 1 => .int
  | 2 => .int
  | 3 => .boolean
  | _ => .object "ClockCall$Fact"
abbrev wsX30 : List Cond := u_ws RX3 TX3 5
theorem nmX3 : ∀ a, a < 5 → ∀ b, b < 5 → a ≠ b → (TX3 a).2.1 ≠ (TX3 b).2.1 := by decide +kernel
theorem tyX3_ok : ∀ k, k < 5 → parseFieldDescriptor (TX3 k).2.2.1 = some (tyX3 k) := by decide +kernel
abbrev cX3_init : ByteArray := prog_5_method_1_code
def yX3_init : MethodName := ⟨RX3, "<init>", "(IIIZLClockCall$Fact;)V"⟩
def RX4 : String := "ClockCall$Land"
def TX4 : u_T := fun k => match k with
  | 0 => ("ClockCall$Land", "firstOffset", "I", true)
  | 1 => ("ClockCall$Land", "changes", "LClockCall$Fact;", false)
  | _ => ("ClockCall$Land", "feasts", "LClockCall$Fact;", false)
def tyX4 : Nat → FieldType := fun k => match k with
  | 0 => .int
  | 1 => .object "ClockCall$Fact"
  | _ => .object "ClockCall$Fact"
abbrev wsX40 : List Cond := u_ws RX4 TX4 3
theorem nmX4 : ∀ a, a < 3 → ∀ b, b < 3 → a ≠ b → (TX4 a).2.1 ≠ (TX4 b).2.1 := by decide +kernel
theorem tyX4_ok : ∀ k, k < 3 → parseFieldDescriptor (TX4 k).2.2.1 = some (tyX4 k) := by decide +kernel
abbrev cX4_init : ByteArray := prog_6_method_1_code
def yX4_init : MethodName := ⟨RX4, "<init>", "(I)V"⟩
abbrev cX4_offsetAt : ByteArray := prog_6_method_2_code
def yX4_offsetAt : MethodName := ⟨RX4, "offsetAt", "(II)I"⟩
abbrev cX4_celebrates : ByteArray := prog_6_method_3_code
def yX4_celebrates : MethodName := ⟨RX4, "celebrates", "(II)Z"⟩
def RX5 : String := "ClockCall$Mover"
def TX5 : u_T := fun k => match k with
  | 0 => ("ClockCall$Mover", "evener", "LClockCall$Evener;", true)
  | 1 => ("ClockCall$Mover", "board", "LClockCall$Board;", true)
  | 2 => ("ClockCall$Mover", "moved", "[LClockCall$Series;", true)
  | 3 => ("ClockCall$Mover", "sheets", "[LClockCall$Sheet;", true)
  | 4 => ("ClockCall$Mover", "seatings", "[LClockCall$Seating;", true)
  | 5 => ("ClockCall$Mover", "now", "[I", true)
  | 6 => ("ClockCall$Mover", "way", "[I", true)
  | 7 => ("ClockCall$Mover", "best", "[I", true)
  | 8 => ("ClockCall$Mover", "sums", "[I", true)
  | 9 => ("ClockCall$Mover", "size", "I", false)
  | _ => ("ClockCall$Mover", "persons", "I", false)
def tyX5 : Nat → FieldType := fun k => match k with
  | 0 => .object "ClockCall$Evener"
  | 1 => .object "ClockCall$Board"
  | 2 => .array (.object "ClockCall$Series")
  | 3 => .array (.object "ClockCall$Sheet")
  | 4 => .array (.object "ClockCall$Seating")
  | 5 => .array .int
  | 6 => .array .int
  | 7 => .array .int
  | 8 => .array .int
  | 9 => .int
  | _ => .int
abbrev wsX50 : List Cond := u_ws RX5 TX5 11
theorem nmX5 : ∀ a, a < 11 → ∀ b, b < 11 → a ≠ b → (TX5 a).2.1 ≠ (TX5 b).2.1 := by decide +kernel
theorem tyX5_ok : ∀ k, k < 11 → parseFieldDescriptor (TX5 k).2.2.1 = some (tyX5 k) := by decide +kernel
abbrev cX5_init : ByteArray := prog_7_method_1_code
def yX5_init : MethodName := ⟨RX5, "<init>", "()V"⟩
abbrev cX5_begin : ByteArray := prog_7_method_2_code
def yX5_begin : MethodName := ⟨RX5, "begin", "(I)V"⟩
abbrev cX5_add : ByteArray := prog_7_method_3_code
def yX5_add : MethodName := ⟨RX5, "add", "(LClockCall$Series;LClockCall$Sheet;I)V"⟩
abbrev cX5_findBest : ByteArray := prog_7_method_4_code
def yX5_findBest : MethodName := ⟨RX5, "findBest", "()I"⟩
abbrev cX5_settle : ByteArray := prog_7_method_5_code
def yX5_settle : MethodName := ⟨RX5, "settle", "(I)V"⟩
abbrev cX5_search : ByteArray := prog_7_method_6_code
def yX5_search : MethodName := ⟨RX5, "search", "(II)V"⟩
abbrev cX5_searchBehind : ByteArray := prog_7_method_7_code
def yX5_searchBehind : MethodName := ⟨RX5, "searchBehind", "(II)V"⟩
abbrev cX5_charge : ByteArray := prog_7_method_8_code
def yX5_charge : MethodName := ⟨RX5, "charge", "(II)V"⟩
def RX6 : String := "ClockCall$Person"
def TX6 : u_T := fun k => match k with
  | 0 => ("ClockCall$Person", "home", "LClockCall$Land;", true)
  | 1 => ("ClockCall$Person", "off", "I", true)
  | 2 => ("ClockCall$Person", "cells", "[B", true)
  | 3 => ("ClockCall$Person", "cellCount", "I", false)
  | _ => ("ClockCall$Person", "spans", "LClockCall$Fact;", false)
def tyX6 : Nat → FieldType := fun k => match k with
  | 0 => .object "ClockCall$Land"
  | 1 => .int
  | 2 => .array .byte
  | 3 => .int
  | _ => .object "ClockCall$Fact"
abbrev wsX60 : List Cond := u_ws RX6 TX6 5
theorem nmX6 : ∀ a, a < 5 → ∀ b, b < 5 → a ≠ b → (TX6 a).2.1 ≠ (TX6 b).2.1 := by decide +kernel
theorem tyX6_ok : ∀ k, k < 5 → parseFieldDescriptor (TX6 k).2.2.1 = some (tyX6 k) := by decide +kernel
abbrev cX6_init : ByteArray := prog_8_method_1_code
def yX6_init : MethodName := ⟨RX6, "<init>", "(LClockCall$Land;I)V"⟩
abbrev cX6_clearCells : ByteArray := prog_8_method_2_code
def yX6_clearCells : MethodName := ⟨RX6, "clearCells", "(I)V"⟩
abbrev cX6_cellAt : ByteArray := prog_8_method_3_code
def yX6_cellAt : MethodName := ⟨RX6, "cellAt", "(I)I"⟩
abbrev cX6_spanAt : ByteArray := prog_8_method_4_code
def yX6_spanAt : MethodName := ⟨RX6, "spanAt", "(II)LClockCall$Fact;"⟩
abbrev cX6_hindrance : ByteArray := prog_8_method_5_code
def yX6_hindrance : MethodName := ⟨RX6, "hindrance", "(III)I"⟩
abbrev cX6_hindranceAt : ByteArray := prog_8_method_6_code
def yX6_hindranceAt : MethodName := ⟨RX6, "hindranceAt", "(II)I"⟩
abbrev cX6_price : ByteArray := prog_8_method_7_code
def yX6_price : MethodName := ⟨RX6, "price", "(III)I"⟩
def RX7 : String := "ClockCall$Planner"
def TX7 : u_T := fun k => match k with
  | 0 => ("ClockCall$Planner", "evener", "LClockCall$Evener;", true)
  | 1 => ("ClockCall$Planner", "seating", "LClockCall$Seating;", true)
  | 2 => ("ClockCall$Planner", "best", "[I", true)
  | 3 => ("ClockCall$Planner", "way", "[I", true)
  | 4 => ("ClockCall$Planner", "fitting", "[I", true)
  | 5 => ("ClockCall$Planner", "prices", "[I", true)
  | 6 => ("ClockCall$Planner", "leastFrom", "[I", true)
  | 7 => ("ClockCall$Planner", "sums", "[I", true)
  | 8 => ("ClockCall$Planner", "reached", "[I", true)
  | 9 => ("ClockCall$Planner", "weeks", "I", false)
  | _ => ("ClockCall$Planner", "persons", "I", false)
def tyX7 : Nat → FieldType := fun k => match k with
  | 0 => .object "ClockCall$Evener"
  | 1 => .object "ClockCall$Seating"
  | 2 => .array .int
  | 3 => .array .int
  | 4 => .array .int
  | 5 => .array .int
  | 6 => .array .int
  | 7 => .array .int
  | 8 => .array .int
  | 9 => .int
  | _ => .int
abbrev wsX70 : List Cond := u_ws RX7 TX7 11
theorem nmX7 : ∀ a, a < 11 → ∀ b, b < 11 → a ≠ b → (TX7 a).2.1 ≠ (TX7 b).2.1 := by decide +kernel
theorem tyX7_ok : ∀ k, k < 11 → parseFieldDescriptor (TX7 k).2.2.1 = some (tyX7 k) := by decide +kernel
abbrev cX7_init : ByteArray := prog_9_method_1_code
def yX7_init : MethodName := ⟨RX7, "<init>", "()V"⟩
abbrev cX7_begin : ByteArray := prog_9_method_2_code
def yX7_begin : MethodName := ⟨RX7, "begin", "(II)V"⟩
abbrev cX7_priceAt : ByteArray := prog_9_method_3_code
def yX7_priceAt : MethodName := ⟨RX7, "priceAt", "(II)I"⟩
abbrev cX7_rate : ByteArray := prog_9_method_4_code
def yX7_rate : MethodName := ⟨RX7, "rate", "(ILClockCall$Series;LClockCall$Sheet;LClockCall$Board;)Z"⟩
abbrev cX7_findBest : ByteArray := prog_9_method_5_code
def yX7_findBest : MethodName := ⟨RX7, "findBest", "()V"⟩
abbrev cX7_leastAt : ByteArray := prog_9_method_6_code
def yX7_leastAt : MethodName := ⟨RX7, "leastAt", "(II)I"⟩
abbrev cX7_search : ByteArray := prog_9_method_7_code
def yX7_search : MethodName := ⟨RX7, "search", "(I)V"⟩
abbrev cX7_searchBehind : ByteArray := prog_9_method_8_code
def yX7_searchBehind : MethodName := ⟨RX7, "searchBehind", "(II)V"⟩
abbrev cX7_charge : ByteArray := prog_9_method_9_code
def yX7_charge : MethodName := ⟨RX7, "charge", "(II)V"⟩
def RX8 : String := "ClockCall$Seating"
def TX8 : u_T := fun k => match k with
  | 0 => ("ClockCall$Seating", "first", "I", false)
  | 1 => ("ClockCall$Seating", "second", "I", false)
  | 2 => ("ClockCall$Seating", "freeFirst", "I", false)
  | 3 => ("ClockCall$Seating", "freeSecond", "I", false)
  | 4 => ("ClockCall$Seating", "comesFirst", "I", false)
  | _ => ("ClockCall$Seating", "comesSecond", "I", false)
def tyX8 : Nat → FieldType := fun k => match k with
  | 0 => .int
  | 1 => .int
  | 2 => .int
  | 3 => .int
  | 4 => .int
  | _ => .int
abbrev wsX80 : List Cond := u_ws RX8 TX8 6
theorem nmX8 : ∀ a, a < 6 → ∀ b, b < 6 → a ≠ b → (TX8 a).2.1 ≠ (TX8 b).2.1 := by decide +kernel
theorem tyX8_ok : ∀ k, k < 6 → parseFieldDescriptor (TX8 k).2.2.1 = some (tyX8 k) := by decide +kernel
abbrev cX8_init : ByteArray := prog_10_method_1_code
def yX8_init : MethodName := ⟨RX8, "<init>", "()V"⟩
abbrev cX8_seat : ByteArray := prog_10_method_2_code
def yX8_seat : MethodName := ⟨RX8, "seat", "(LClockCall$Series;LClockCall$Sheet;LClockCall$Board;I)V"⟩
abbrev cX8_freeAt : ByteArray := prog_10_method_3_code
def yX8_freeAt : MethodName := ⟨RX8, "freeAt", "(LClockCall$Series;LClockCall$Sheet;LClockCall$Board;I)I"⟩
abbrev cX8_preferSecond : ByteArray := prog_10_method_4_code
def yX8_preferSecond : MethodName := ⟨RX8, "preferSecond", "(LClockCall$Sheet;I)I"⟩
abbrev cX8_stands : ByteArray := prog_10_method_5_code
def yX8_stands : MethodName := ⟨RX8, "stands", "(LClockCall$Series;LClockCall$Sheet;I)Z"⟩
abbrev cX8_suits : ByteArray := prog_10_method_6_code
def yX8_suits : MethodName := ⟨RX8, "suits", "(LClockCall$Series;LClockCall$Sheet;LClockCall$Board;I)Z"⟩
abbrev cX8_isBehindChain : ByteArray := prog_10_method_7_code
def yX8_isBehindChain : MethodName := ⟨RX8, "isBehindChain", "(LClockCall$Series;LClockCall$Sheet;LClockCall$Board;)Z"⟩
abbrev cX8_priceFor : ByteArray := prog_10_method_8_code
def yX8_priceFor : MethodName := ⟨RX8, "priceFor", "(LClockCall$Sheet;I)I"⟩
def RX9 : String := "ClockCall$Series"
def TX9 : u_T := fun k => match k with
  | 0 => ("ClockCall$Series", "number", "I", true)
  | 1 => ("ClockCall$Series", "length", "I", true)
  | 2 => ("ClockCall$Series", "chain", "LClockCall$Series;", true)
  | 3 => ("ClockCall$Series", "chair", "I", true)
  | 4 => ("ClockCall$Series", "slots", "[I", true)
  | 5 => ("ClockCall$Series", "byRole", "[I", true)
  | 6 => ("ClockCall$Series", "chosen", "[I", true)
  | 7 => ("ClockCall$Series", "optionCount", "I", false)
  | _ => ("ClockCall$Series", "cants", "LClockCall$Fact;", false)
def tyX9 : Nat → FieldType := fun k => match k with
  | 0 => .int
  | 1 => .int
  | 2 => .object "ClockCall$Series"
  | 3 => .int
  | 4 => .array .int
  | 5 => .array .int
  | 6 => .array .int
  | 7 => .int
  | _ => .object "ClockCall$Fact"
abbrev wsX90 : List Cond := u_ws RX9 TX9 9
theorem nmX9 : ∀ a, a < 9 → ∀ b, b < 9 → a ≠ b → (TX9 a).2.1 ≠ (TX9 b).2.1 := by decide +kernel
theorem tyX9_ok : ∀ k, k < 9 → parseFieldDescriptor (TX9 k).2.2.1 = some (tyX9 k) := by decide +kernel
abbrev cX9_init : ByteArray := prog_11_method_1_code
def yX9_init : MethodName := ⟨RX9, "<init>", "(IILClockCall$Series;I)V"⟩
abbrev cX9_isSplit : ByteArray := prog_11_method_2_code
def yX9_isSplit : MethodName := ⟨RX9, "isSplit", "()Z"⟩
abbrev cX9_mostWeeks : ByteArray := prog_11_method_3_code
def yX9_mostWeeks : MethodName := ⟨RX9, "mostWeeks", "()I"⟩
abbrev cX9_choices : ByteArray := prog_11_method_4_code
def yX9_choices : MethodName := ⟨RX9, "choices", "()I"⟩
abbrev cX9_firstOf : ByteArray := prog_11_method_5_code
def yX9_firstOf : MethodName := ⟨RX9, "firstOf", "(I)I"⟩
abbrev cX9_secondOf : ByteArray := prog_11_method_6_code
def yX9_secondOf : MethodName := ⟨RX9, "secondOf", "(I)I"⟩
abbrev cX9_has : ByteArray := prog_11_method_7_code
def yX9_has : MethodName := ⟨RX9, "has", "(I)Z"⟩
abbrev cX9_choiceOf : ByteArray := prog_11_method_8_code
def yX9_choiceOf : MethodName := ⟨RX9, "choiceOf", "(II)I"⟩
abbrev cX9_optionsOf : ByteArray := prog_11_method_9_code
def yX9_optionsOf : MethodName := ⟨RX9, "optionsOf", "(I)I"⟩
abbrev cX9_allOptions : ByteArray := prog_11_method_10_code
def yX9_allOptions : MethodName := ⟨RX9, "allOptions", "()I"⟩
abbrev cX9_startOf : ByteArray := prog_11_method_11_code
def yX9_startOf : MethodName := ⟨RX9, "startOf", "(II)I"⟩
abbrev cX9_giveRole : ByteArray := prog_11_method_12_code
def yX9_giveRole : MethodName := ⟨RX9, "giveRole", "(II)V"⟩
abbrev cX9_withRole : ByteArray := prog_11_method_13_code
def yX9_withRole : MethodName := ⟨RX9, "withRole", "()I"⟩
abbrev cX9_chairAlone : ByteArray := prog_11_method_14_code
def yX9_chairAlone : MethodName := ⟨RX9, "chairAlone", "()I"⟩
abbrev cX9_everyone : ByteArray := prog_11_method_15_code
def yX9_everyone : MethodName := ⟨RX9, "everyone", "()I"⟩
abbrev cX9_hasCant : ByteArray := prog_11_method_16_code
def yX9_hasCant : MethodName := ⟨RX9, "hasCant", "(III)Z"⟩
def RX10 : String := "ClockCall$Sheet"
def TX10 : u_T := fun k => match k with
  | 0 => ("ClockCall$Sheet", "starts", "[I", true)
  | 1 => ("ClockCall$Sheet", "able", "[I", true)
  | _ => ("ClockCall$Sheet", "prices", "[I", true)
def tyX10 : Nat → FieldType := fun k => match k with
  | 0 => .array .int
  | 1 => .array .int
  | _ => .array .int
abbrev wsX100 : List Cond := u_ws RX10 TX10 3
theorem nmX10 : ∀ a, a < 3 → ∀ b, b < 3 → a ≠ b → (TX10 a).2.1 ≠ (TX10 b).2.1 := by decide +kernel
theorem tyX10_ok : ∀ k, k < 3 → parseFieldDescriptor (TX10 k).2.2.1 = some (tyX10 k) := by decide +kernel
abbrev cX10_init : ByteArray := prog_12_method_1_code
def yX10_init : MethodName := ⟨RX10, "<init>", "()V"⟩
abbrev cX10_fill : ByteArray := prog_12_method_2_code
def yX10_fill : MethodName := ⟨RX10, "fill", "(LClockCall$Series;IIII[LClockCall$Person;)V"⟩
def RX11 : String := "ClockCall"
def TX11 : u_T := fun k => match k with
  | 0 => ("ClockCall", "lands", "[LClockCall$Land;", true)
  | 1 => ("ClockCall", "persons", "[LClockCall$Person;", true)
  | 2 => ("ClockCall", "rows", "[LClockCall$Series;", true)
  | 3 => ("ClockCall", "sheets", "[LClockCall$Sheet;", true)
  | 4 => ("ClockCall", "board", "LClockCall$Board;", true)
  | 5 => ("ClockCall", "seating", "LClockCall$Seating;", true)
  | 6 => ("ClockCall", "planner", "LClockCall$Planner;", true)
  | 7 => ("ClockCall", "mover", "LClockCall$Mover;", true)
  | 8 => ("ClockCall", "blame", "LClockCall$Blame;", true)
  | 9 => ("ClockCall", "landCount", "I", false)
  | 10 => ("ClockCall", "personCount", "I", false)
  | 11 => ("ClockCall", "factCount", "I", false)
  | 12 => ("ClockCall", "seriesCount", "I", false)
  | _ => ("ClockCall", "stuckOnes", "I", false)
def tyX11 : Nat → FieldType := fun k => match k with
  | 0 => .array (.object "ClockCall$Land")
  | 1 => .array (.object "ClockCall$Person")
  | 2 => .array (.object "ClockCall$Series")
  | 3 => .array (.object "ClockCall$Sheet")
  | 4 => .object "ClockCall$Board"
  | 5 => .object "ClockCall$Seating"
  | 6 => .object "ClockCall$Planner"
  | 7 => .object "ClockCall$Mover"
  | 8 => .object "ClockCall$Blame"
  | 9 => .int
  | 10 => .int
  | 11 => .int
  | 12 => .int
  | _ => .int
abbrev wsX110 : List Cond := u_ws RX11 TX11 14
theorem nmX11 : ∀ a, a < 14 → ∀ b, b < 14 → a ≠ b → (TX11 a).2.1 ≠ (TX11 b).2.1 := by decide +kernel
theorem tyX11_ok : ∀ k, k < 14 → parseFieldDescriptor (TX11 k).2.2.1 = some (tyX11 k) := by decide +kernel
abbrev cX11_init : ByteArray := prog_1_method_1_code
def yX11_init : MethodName := ⟨RX11, "<init>", "()V"⟩
abbrev cX11_land : ByteArray := prog_1_method_2_code
def yX11_land : MethodName := ⟨RX11, "land", "(I)I"⟩
abbrev cX11_person : ByteArray := prog_1_method_3_code
def yX11_person : MethodName := ⟨RX11, "person", "(II)I"⟩
abbrev cX11_row : ByteArray := prog_1_method_4_code
def yX11_row : MethodName := ⟨RX11, "row", "(II)Z"⟩
abbrev cX11_cell : ByteArray := prog_1_method_5_code
def yX11_cell : MethodName := ⟨RX11, "cell", "(III)Z"⟩
abbrev cX11_series : ByteArray := prog_1_method_6_code
def yX11_series : MethodName := ⟨RX11, "series", "(III)I"⟩
abbrev cX11_option : ByteArray := prog_1_method_7_code
def yX11_option : MethodName := ⟨RX11, "option", "(II)I"⟩
abbrev cX11_role : ByteArray := prog_1_method_8_code
def yX11_role : MethodName := ⟨RX11, "role", "(III)Z"⟩
abbrev cX11_count : ByteArray := prog_1_method_9_code
def yX11_count : MethodName := ⟨RX11, "count", "(I)I"⟩
abbrev cX11_change : ByteArray := prog_1_method_10_code
def yX11_change : MethodName := ⟨RX11, "change", "(III)I"⟩
abbrev cX11_feast : ByteArray := prog_1_method_11_code
def yX11_feast : MethodName := ⟨RX11, "feast", "(II)I"⟩
abbrev cX11_busy : ByteArray := prog_1_method_12_code
def yX11_busy : MethodName := ⟨RX11, "busy", "(IIIZ)I"⟩
abbrev cX11_cant : ByteArray := prog_1_method_13_code
def yX11_cant : MethodName := ⟨RX11, "cant", "(III)I"⟩
abbrev cX11_local : ByteArray := prog_1_method_14_code
def yX11_local : MethodName := ⟨RX11, "local", "(IIII)I"⟩
abbrev cX11_when : ByteArray := prog_1_method_15_code
def yX11_when : MethodName := ⟨RX11, "when", "(IIIII)I"⟩
abbrev cX11_can : ByteArray := prog_1_method_16_code
def yX11_can : MethodName := ⟨RX11, "can", "(IIII)I"⟩
abbrev cX11_cost : ByteArray := prog_1_method_17_code
def yX11_cost : MethodName := ⟨RX11, "cost", "(IIII)I"⟩
abbrev cX11_span : ByteArray := prog_1_method_18_code
def yX11_span : MethodName := ⟨RX11, "span", "(III)I"⟩
abbrev cX11_fits : ByteArray := prog_1_method_19_code
def yX11_fits : MethodName := ⟨RX11, "fits", "(IIIII)I"⟩
abbrev cX11_plan : ByteArray := prog_1_method_20_code
def yX11_plan : MethodName := ⟨RX11, "plan", "(IIII)I"⟩
abbrev cX11_stuck : ByteArray := prog_1_method_21_code
def yX11_stuck : MethodName := ⟨RX11, "stuck", "(I)I"⟩
abbrev cX11_move : ByteArray := prog_1_method_22_code
def yX11_move : MethodName := ⟨RX11, "move", "(II)I"⟩
abbrev cX11_planned : ByteArray := prog_1_method_23_code
def yX11_planned : MethodName := ⟨RX11, "planned", "(III)I"⟩
abbrev cX11_comes : ByteArray := prog_1_method_24_code
def yX11_comes : MethodName := ⟨RX11, "comes", "(IIII)I"⟩
abbrev cX11_sum : ByteArray := prog_1_method_25_code
def yX11_sum : MethodName := ⟨RX11, "sum", "(II)I"⟩
abbrev cX11_shifted : ByteArray := prog_1_method_26_code
def yX11_shifted : MethodName := ⟨RX11, "shifted", "(II)I"⟩
abbrev cX11_isOffset : ByteArray := prog_1_method_27_code
def yX11_isOffset : MethodName := ⟨RX11, "isOffset", "(I)Z"⟩
abbrev cX11_isSlot : ByteArray := prog_1_method_28_code
def yX11_isSlot : MethodName := ⟨RX11, "isSlot", "(I)Z"⟩
abbrev cX11_isWeek : ByteArray := prog_1_method_29_code
def yX11_isWeek : MethodName := ⟨RX11, "isWeek", "(I)Z"⟩
abbrev cX11_isStretch : ByteArray := prog_1_method_30_code
def yX11_isStretch : MethodName := ⟨RX11, "isStretch", "(II)Z"⟩
abbrev cX11_isIn : ByteArray := prog_1_method_31_code
def yX11_isIn : MethodName := ⟨RX11, "isIn", "(II)Z"⟩
abbrev cX11_isKnown : ByteArray := prog_1_method_32_code
def yX11_isKnown : MethodName := ⟨RX11, "isKnown", "(I)Z"⟩
abbrev cX11_landAt : ByteArray := prog_1_method_33_code
def yX11_landAt : MethodName := ⟨RX11, "landAt", "(I)LClockCall$Land;"⟩
abbrev cX11_personAt : ByteArray := prog_1_method_34_code
def yX11_personAt : MethodName := ⟨RX11, "personAt", "(I)LClockCall$Person;"⟩
abbrev cX11_seriesAt : ByteArray := prog_1_method_35_code
def yX11_seriesAt : MethodName := ⟨RX11, "seriesAt", "(I)LClockCall$Series;"⟩
abbrev cX11_meetingCount : ByteArray := prog_1_method_36_code
def yX11_meetingCount : MethodName := ⟨RX11, "meetingCount", "()I"⟩
abbrev cX11_isShifted : ByteArray := prog_1_method_37_code
def yX11_isShifted : MethodName := ⟨RX11, "isShifted", "(LClockCall$Series;III)Z"⟩
abbrev cX11_seatLesser : ByteArray := prog_1_method_38_code
def yX11_seatLesser : MethodName := ⟨RX11, "seatLesser", "(LClockCall$Series;II)V"⟩
abbrev cX11_seat : ByteArray := prog_1_method_39_code
def yX11_seat : MethodName := ⟨RX11, "seat", "(IIII)Z"⟩
def RX12 : String := "ClockCallModel"
def TX12 : u_T := fun k => match k with
  | 0 => ("ClockCallModel", "thrown", "I", false)
  | 1 => ("ClockCallModel", "lands", "I", false)
  | 2 => ("ClockCallModel", "offset", "[I", true)
  | 3 => ("ClockCallModel", "persons", "I", false)
  | 4 => ("ClockCallModel", "landOf", "[I", true)
  | 5 => ("ClockCallModel", "offDays", "[I", true)
  | 6 => ("ClockCallModel", "cells", "[I", true)
  | 7 => ("ClockCallModel", "cell", "[I", true)
  | 8 => ("ClockCallModel", "facts", "I", false)
  | 9 => ("ClockCallModel", "factSort", "[I", true)
  | 10 => ("ClockCallModel", "factOf", "[I", true)
  | 11 => ("ClockCallModel", "factA", "[I", true)
  | 12 => ("ClockCallModel", "factB", "[I", true)
  | 13 => ("ClockCallModel", "factPrivate", "[Z", true)
  | 14 => ("ClockCallModel", "series", "I", false)
  | 15 => ("ClockCallModel", "length", "[I", true)
  | 16 => ("ClockCallModel", "chain", "[I", true)
  | 17 => ("ClockCallModel", "chair", "[I", true)
  | 18 => ("ClockCallModel", "options", "[I", true)
  | 19 => ("ClockCallModel", "option", "[I", true)
  | 20 => ("ClockCallModel", "role", "[I", true)
  | 21 => ("ClockCallModel", "planned", "[I", true)
  | 22 => ("ClockCallModel", "week", "I", false)
  | 23 => ("ClockCallModel", "known", "I", false)
  | 24 => ("ClockCallModel", "pickI", "[I", true)
  | 25 => ("ClockCallModel", "pickJ", "[I", true)
  | 26 => ("ClockCallModel", "come", "[I", true)
  | 27 => ("ClockCallModel", "free", "[Z", true)
  | 28 => ("ClockCallModel", "choiceI", "[I", true)
  | 29 => ("ClockCallModel", "choiceJ", "[I", true)
  | 30 => ("ClockCallModel", "choiceMany", "[I", true)
  | 31 => ("ClockCallModel", "sums", "[I", true)
  | 32 => ("ClockCallModel", "sorted", "[I", true)
  | 33 => ("ClockCallModel", "bestSorted", "[I", true)
  | 34 => ("ClockCallModel", "may", "[Z", true)
  | 35 => ("ClockCallModel", "price", "[I", true)
  | 36 => ("ClockCallModel", "picked", "[I", true)
  | 37 => ("ClockCallModel", "bestPicked", "[I", true)
  | 38 => ("ClockCallModel", "stuck", "I", false)
  | 39 => ("ClockCallModel", "at", "[I", true)
  | 40 => ("ClockCallModel", "bestAt", "[I", true)
  | 41 => ("ClockCallModel", "wasI", "[I", true)
  | _ => ("ClockCallModel", "wasJ", "[I", true)
def tyX12 : Nat → FieldType := fun k => match k with
  | 0 => .int
  | 1 => .int
  | 2 => .array .int
  | 3 => .int
  | 4 => .array .int
  | 5 => .array .int
  | 6 => .array .int
  | 7 => .array .int
  | 8 => .int
  | 9 => .array .int
  | 10 => .array .int
  | 11 => .array .int
  | 12 => .array .int
  | 13 => .array .boolean
  | 14 => .int
  | 15 => .array .int
  | 16 => .array .int
  | 17 => .array .int
  | 18 => .array .int
  | 19 => .array .int
  | 20 => .array .int
  | 21 => .array .int
  | 22 => .int
  | 23 => .int
  | 24 => .array .int
  | 25 => .array .int
  | 26 => .array .int
  | 27 => .array .boolean
  | 28 => .array .int
  | 29 => .array .int
  | 30 => .array .int
  | 31 => .array .int
  | 32 => .array .int
  | 33 => .array .int
  | 34 => .array .boolean
  | 35 => .array .int
  | 36 => .array .int
  | 37 => .array .int
  | 38 => .int
  | 39 => .array .int
  | 40 => .array .int
  | 41 => .array .int
  | _ => .array .int
abbrev wsX120 : List Cond := u_ws RX12 TX12 43
theorem nmX12 : ∀ a, a < 43 → ∀ b, b < 43 → a ≠ b → (TX12 a).2.1 ≠ (TX12 b).2.1 := by decide +kernel
theorem tyX12_ok : ∀ k, k < 43 → parseFieldDescriptor (TX12 k).2.2.1 = some (tyX12 k) := by decide +kernel
abbrev cX12_init : ByteArray := prog_14_method_2_code
def yX12_init : MethodName := ⟨RX12, "<init>", "()V"⟩
abbrev cX12_isLand : ByteArray := prog_14_method_3_code
def yX12_isLand : MethodName := ⟨RX12, "isLand", "(I)Z"⟩
abbrev cX12_isPerson : ByteArray := prog_14_method_4_code
def yX12_isPerson : MethodName := ⟨RX12, "isPerson", "(I)Z"⟩
abbrev cX12_isSeries : ByteArray := prog_14_method_5_code
def yX12_isSeries : MethodName := ⟨RX12, "isSeries", "(I)Z"⟩
abbrev cX12_isWeek : ByteArray := prog_14_method_6_code
def yX12_isWeek : MethodName := ⟨RX12, "isWeek", "(I)Z"⟩
abbrev cX12_isKnown : ByteArray := prog_14_method_7_code
def yX12_isKnown : MethodName := ⟨RX12, "isKnown", "(I)Z"⟩
abbrev cX12_isOffset : ByteArray := prog_14_method_8_code
def yX12_isOffset : MethodName := ⟨RX12, "isOffset", "(I)Z"⟩
abbrev cX12_land : ByteArray := prog_14_method_9_code
def yX12_land : MethodName := ⟨RX12, "land", "(I)I"⟩
abbrev cX12_person : ByteArray := prog_14_method_10_code
def yX12_person : MethodName := ⟨RX12, "person", "(II)I"⟩
abbrev cX12_row : ByteArray := prog_14_method_11_code
def yX12_row : MethodName := ⟨RX12, "row", "(II)Z"⟩
abbrev cX12_cell : ByteArray := prog_14_method_12_code
def yX12_cell : MethodName := ⟨RX12, "cell", "(III)Z"⟩
abbrev cX12_fact : ByteArray := prog_14_method_13_code
def yX12_fact : MethodName := ⟨RX12, "fact", "(IIIIZ)I"⟩
abbrev cX12_change : ByteArray := prog_14_method_14_code
def yX12_change : MethodName := ⟨RX12, "change", "(III)I"⟩
abbrev cX12_feast : ByteArray := prog_14_method_15_code
def yX12_feast : MethodName := ⟨RX12, "feast", "(II)I"⟩
abbrev cX12_busy : ByteArray := prog_14_method_16_code
def yX12_busy : MethodName := ⟨RX12, "busy", "(IIIZ)I"⟩
abbrev cX12_cant : ByteArray := prog_14_method_17_code
def yX12_cant : MethodName := ⟨RX12, "cant", "(III)I"⟩
abbrev cX12_offsetAt : ByteArray := prog_14_method_18_code
def yX12_offsetAt : MethodName := ⟨RX12, "offsetAt", "(III)I"⟩
abbrev cX12_down : ByteArray := prog_14_method_19_code
def yX12_down : MethodName := ⟨RX12, "down", "(II)I"⟩
abbrev cX12_local : ByteArray := prog_14_method_20_code
def yX12_local : MethodName := ⟨RX12, "local", "(IIII)I"⟩
abbrev cX12_when : ByteArray := prog_14_method_21_code
def yX12_when : MethodName := ⟨RX12, "when", "(IIIII)I"⟩
abbrev cX12_costAt : ByteArray := prog_14_method_22_code
def yX12_costAt : MethodName := ⟨RX12, "costAt", "(II)I"⟩
abbrev cX12_reason : ByteArray := prog_14_method_23_code
def yX12_reason : MethodName := ⟨RX12, "reason", "(III)I"⟩
abbrev cX12_reasons : ByteArray := prog_14_method_24_code
def yX12_reasons : MethodName := ⟨RX12, "reasons", "(IIII)I"⟩
abbrev cX12_costs : ByteArray := prog_14_method_25_code
def yX12_costs : MethodName := ⟨RX12, "costs", "(IIII)I"⟩
abbrev cX12_isSpan : ByteArray := prog_14_method_26_code
def yX12_isSpan : MethodName := ⟨RX12, "isSpan", "(IIII)Z"⟩
abbrev cX12_can : ByteArray := prog_14_method_27_code
def yX12_can : MethodName := ⟨RX12, "can", "(IIII)I"⟩
abbrev cX12_cost : ByteArray := prog_14_method_28_code
def yX12_cost : MethodName := ⟨RX12, "cost", "(IIII)I"⟩
abbrev cX12_span : ByteArray := prog_14_method_29_code
def yX12_span : MethodName := ⟨RX12, "span", "(III)I"⟩
abbrev cX12_series : ByteArray := prog_14_method_30_code
def yX12_series : MethodName := ⟨RX12, "series", "(III)I"⟩
abbrev cX12_option : ByteArray := prog_14_method_31_code
def yX12_option : MethodName := ⟨RX12, "option", "(II)I"⟩
abbrev cX12_role : ByteArray := prog_14_method_32_code
def yX12_role : MethodName := ⟨RX12, "role", "(III)Z"⟩
abbrev cX12_slotOf : ByteArray := prog_14_method_33_code
def yX12_slotOf : MethodName := ⟨RX12, "slotOf", "(II)I"⟩
abbrev cX12_isIn : ByteArray := prog_14_method_34_code
def yX12_isIn : MethodName := ⟨RX12, "isIn", "(II)Z"⟩
abbrev cX12_meet : ByteArray := prog_14_method_35_code
def yX12_meet : MethodName := ⟨RX12, "meet", "(IIII)Z"⟩
abbrev cX12_isFree : ByteArray := prog_14_method_36_code
def yX12_isFree : MethodName := ⟨RX12, "isFree", "(III)Z"⟩
abbrev cX12_asksFree : ByteArray := prog_14_method_37_code
def yX12_asksFree : MethodName := ⟨RX12, "asksFree", "(I)V"⟩
abbrev cX12_comesTo : ByteArray := prog_14_method_38_code
def yX12_comesTo : MethodName := ⟨RX12, "comesTo", "(IIII)I"⟩
abbrev cX12_comeAll : ByteArray := prog_14_method_39_code
def yX12_comeAll : MethodName := ⟨RX12, "comeAll", "(I)V"⟩
abbrev cX12_takesWeek : ByteArray := prog_14_method_40_code
def yX12_takesWeek : MethodName := ⟨RX12, "takesWeek", "(II)V"⟩
abbrev cX12_isBehind : ByteArray := prog_14_method_41_code
def yX12_isBehind : MethodName := ⟨RX12, "isBehind", "(II)Z"⟩
abbrev cX12_fitsBy : ByteArray := prog_14_method_42_code
def yX12_fitsBy : MethodName := ⟨RX12, "fitsBy", "(III)Z"⟩
abbrev cX12_isPair : ByteArray := prog_14_method_43_code
def yX12_isPair : MethodName := ⟨RX12, "isPair", "(III)Z"⟩
abbrev cX12_fits : ByteArray := prog_14_method_44_code
def yX12_fits : MethodName := ⟨RX12, "fits", "(IIIII)I"⟩
abbrev cX12_lists : ByteArray := prog_14_method_45_code
def yX12_lists : MethodName := ⟨RX12, "lists", "(I)V"⟩
abbrev cX12_sorts : ByteArray := prog_14_method_46_code
def yX12_sorts : MethodName := ⟨RX12, "sorts", "()V"⟩
abbrev cX12_isLess : ByteArray := prog_14_method_47_code
def yX12_isLess : MethodName := ⟨RX12, "isLess", "()Z"⟩
abbrev cX12_isBest : ByteArray := prog_14_method_48_code
def yX12_isBest : MethodName := ⟨RX12, "isBest", "()V"⟩
abbrev cX12_priceOf : ByteArray := prog_14_method_49_code
def yX12_priceOf : MethodName := ⟨RX12, "priceOf", "(IIIII)I"⟩
abbrev cX12_plan : ByteArray := prog_14_method_50_code
def yX12_plan : MethodName := ⟨RX12, "plan", "(IIII)I"⟩
abbrev cX12_goesFor : ByteArray := prog_14_method_51_code
def yX12_goesFor : MethodName := ⟨RX12, "goesFor", "(II)Z"⟩
abbrev cX12_leastStuck : ByteArray := prog_14_method_52_code
def yX12_leastStuck : MethodName := ⟨RX12, "leastStuck", "(I)I"⟩
abbrev cX12_bits : ByteArray := prog_14_method_53_code
def yX12_bits : MethodName := ⟨RX12, "bits", "(I)I"⟩
abbrev cX12_isAhead : ByteArray := prog_14_method_54_code
def yX12_isAhead : MethodName := ⟨RX12, "isAhead", "(II)Z"⟩
abbrev cX12_stuck : ByteArray := prog_14_method_55_code
def yX12_stuck : MethodName := ⟨RX12, "stuck", "(I)I"⟩
abbrev cX12_weekSums : ByteArray := prog_14_method_56_code
def yX12_weekSums : MethodName := ⟨RX12, "weekSums", "()V"⟩
abbrev cX12_takesChoice : ByteArray := prog_14_method_57_code
def yX12_takesChoice : MethodName := ⟨RX12, "takesChoice", "(I)Z"⟩
abbrev cX12_move : ByteArray := prog_14_method_58_code
def yX12_move : MethodName := ⟨RX12, "move", "(II)I"⟩
abbrev cX12_planned : ByteArray := prog_14_method_59_code
def yX12_planned : MethodName := ⟨RX12, "planned", "(III)I"⟩
abbrev cX12_comes : ByteArray := prog_14_method_60_code
def yX12_comes : MethodName := ⟨RX12, "comes", "(IIII)I"⟩
abbrev cX12_sum : ByteArray := prog_14_method_61_code
def yX12_sum : MethodName := ⟨RX12, "sum", "(II)I"⟩
abbrev cX12_isShifted : ByteArray := prog_14_method_62_code
def yX12_isShifted : MethodName := ⟨RX12, "isShifted", "(IIII)Z"⟩
abbrev cX12_shifted : ByteArray := prog_14_method_63_code
def yX12_shifted : MethodName := ⟨RX12, "shifted", "(II)I"⟩
abbrev cX12_count : ByteArray := prog_14_method_64_code
def yX12_count : MethodName := ⟨RX12, "count", "(I)I"⟩
def RJ6 : String := "java/lang/Integer"
def TJ6 : u_T := fun k => match k with
  | _ => ("", "", "", false)
def tyJ6 : Nat → FieldType := fun k => match k with
  | _ => .int
abbrev wsJ60 : List Cond := u_ws RJ6 TJ6 0
theorem nmJ6 : ∀ a, a < 0 → ∀ b, b < 0 → a ≠ b → (TJ6 a).2.1 ≠ (TJ6 b).2.1 := by decide +kernel
theorem tyJ6_ok : ∀ k, k < 0 → parseFieldDescriptor (TJ6 k).2.2.1 = some (tyJ6 k) := by decide +kernel
abbrev cJ6_bitCount_0f7a4 : ByteArray := prog_15_method_49_code
def yJ6_bitCount_0f7a4 : MethodName := ⟨RJ6, "bitCount", "(I)I"⟩
def RJ9 : String := "java/lang/Math"
def TJ9 : u_T := fun k => match k with
  | _ => ("", "", "", false)
def tyJ9 : Nat → FieldType := fun k => match k with
  | _ => .int
abbrev wsJ90 : List Cond := u_ws RJ9 TJ9 0
theorem nmJ9 : ∀ a, a < 0 → ∀ b, b < 0 → a ≠ b → (TJ9 a).2.1 ≠ (TJ9 b).2.1 := by decide +kernel
theorem tyJ9_ok : ∀ k, k < 0 → parseFieldDescriptor (TJ9 k).2.2.1 = some (tyJ9 k) := by decide +kernel
abbrev cJ9_floorDiv_7cf53 : ByteArray := prog_16_method_47_code
def yJ9_floorDiv_7cf53 : MethodName := ⟨RJ9, "floorDiv", "(II)I"⟩
abbrev cJ9_floorMod_7cf53 : ByteArray := prog_16_method_50_code
def yJ9_floorMod_7cf53 : MethodName := ⟨RJ9, "floorMod", "(II)I"⟩
abbrev cJ9_abs_0f7a4 : ByteArray := prog_16_method_59_code
def yJ9_abs_0f7a4 : MethodName := ⟨RJ9, "abs", "(I)I"⟩
abbrev cJ9_max_7cf53 : ByteArray := prog_16_method_65_code
def yJ9_max_7cf53 : MethodName := ⟨RJ9, "max", "(II)I"⟩
abbrev cJ9_min_7cf53 : ByteArray := prog_16_method_69_code
def yJ9_min_7cf53 : MethodName := ⟨RJ9, "min", "(II)I"⟩
def RJ10 : String := "java/lang/System"
def TJ10 : u_T := fun k => match k with
  | _ => ("", "", "", false)
def tyJ10 : Nat → FieldType := fun k => match k with
  | _ => .int
abbrev wsJ100 : List Cond := u_ws RJ10 TJ10 0
theorem nmJ10 : ∀ a, a < 0 → ∀ b, b < 0 → a ≠ b → (TJ10 a).2.1 ≠ (TJ10 b).2.1 := by decide +kernel
theorem tyJ10_ok : ∀ k, k < 0 → parseFieldDescriptor (TJ10 k).2.2.1 = some (tyJ10 k) := by decide +kernel
def RJ7 : String := "java/util/Arrays"
def TJ7 : u_T := fun k => match k with
  | _ => ("", "", "", false)
def tyJ7 : Nat → FieldType := fun k => match k with
  | _ => .int
abbrev wsJ70 : List Cond := u_ws RJ7 TJ7 0
theorem nmJ7 : ∀ a, a < 0 → ∀ b, b < 0 → a ≠ b → (TJ7 a).2.1 ≠ (TJ7 b).2.1 := by decide +kernel
theorem tyJ7_ok : ∀ k, k < 0 → parseFieldDescriptor (TJ7 k).2.2.1 = some (tyJ7 k) := by decide +kernel
abbrev cJ7_fill_53178 : ByteArray := prog_18_method_103_code
def yJ7_fill_53178 : MethodName := ⟨RJ7, "fill", "([II)V"⟩
abbrev cJ7_fill_031fb : ByteArray := prog_18_method_109_code
def yJ7_fill_031fb : MethodName := ⟨RJ7, "fill", "([BB)V"⟩
def RL : String := "ClockCallLaw"
abbrev cL_law : ByteArray := code
def yL_law : MethodName := ⟨RL, "law", "([I)Z"⟩
set_option maxRecDepth 20000 in
theorem inX0 : ∀ w ∈ wsX00, w ∈ lw_tbl := by decide +kernel
set_option maxRecDepth 20000 in
theorem inX1 : ∀ w ∈ wsX10, w ∈ lw_tbl := by decide +kernel
set_option maxRecDepth 20000 in
theorem inX2 : ∀ w ∈ wsX20, w ∈ lw_tbl := by decide +kernel
set_option maxRecDepth 20000 in
theorem inX3 : ∀ w ∈ wsX30, w ∈ lw_tbl := by decide +kernel
set_option maxRecDepth 20000 in
theorem inX4 : ∀ w ∈ wsX40, w ∈ lw_tbl := by decide +kernel
set_option maxRecDepth 20000 in
theorem inX5 : ∀ w ∈ wsX50, w ∈ lw_tbl := by decide +kernel
set_option maxRecDepth 20000 in
theorem inX6 : ∀ w ∈ wsX60, w ∈ lw_tbl := by decide +kernel
set_option maxRecDepth 20000 in
theorem inX7 : ∀ w ∈ wsX70, w ∈ lw_tbl := by decide +kernel
set_option maxRecDepth 20000 in
theorem inX8 : ∀ w ∈ wsX80, w ∈ lw_tbl := by decide +kernel
set_option maxRecDepth 20000 in
theorem inX9 : ∀ w ∈ wsX90, w ∈ lw_tbl := by decide +kernel
set_option maxRecDepth 20000 in
theorem inX10 : ∀ w ∈ wsX100, w ∈ lw_tbl := by decide +kernel
set_option maxRecDepth 20000 in
theorem inX11 : ∀ w ∈ wsX110, w ∈ lw_tbl := by decide +kernel
set_option maxRecDepth 20000 in
theorem inX12 : ∀ w ∈ wsX120, w ∈ lw_tbl := by decide +kernel
abbrev vwCl : List vw_C := [(RX0, TX0, 4), (RX1, TX1, 5), (RX2, TX2, 4), (RX3, TX3, 5), (RX4, TX4, 3), (RX5, TX5, 11), (RX6, TX6, 5), (RX7, TX7, 11), (RX8, TX8, 6), (RX9, TX9, 9), (RX10, TX10, 3), (RX11, TX11, 14), (RX12, TX12, 43)]
def tsG : List Cond := lw_tbl.filter goodWord
theorem tsG_all : ∀ w ∈ tsG, goodWord w = true := fun w h => (List.mem_filter.mp h).2
theorem tsG_sub : ∀ w ∈ tsG, w ∈ lw_tbl := fun w h => (List.mem_filter.mp h).1
theorem tsG_of {w : Cond} (h : w ∈ lw_tbl) (g : goodWord w = true) : w ∈ tsG := List.mem_filter.mpr ⟨h, g⟩
theorem tsG_goodIn {big : List Cond} (h : ∀ w ∈ tsG, w ∈ big) : GoodIn big tsG := fun w hw => ⟨h w hw, good_of_word (tsG_all w hw)⟩
end
section
theorem dX0_init_0 : decode cX0_init 0 = .ok (.aload_n 0, 1) := by decide +kernel
theorem dX0_init_1 : decode cX0_init 1 = .ok (.invokespecial 3, 3) := by decide +kernel
theorem dX0_init_4 : decode cX0_init 4 = .ok (.aload_n 0, 1) := by decide +kernel
theorem dX0_init_5 : decode cX0_init 5 = .ok (.new 9, 3) := by decide +kernel
theorem dX0_init_8 : decode cX0_init 8 = .ok (.dup, 1) := by decide +kernel
theorem dX0_init_9 : decode cX0_init 9 = .ok (.invokespecial 11, 3) := by decide +kernel
theorem dX0_init_12 : decode cX0_init 12 = .ok (.putfield 12, 3) := by decide +kernel
theorem dX0_init_15 : decode cX0_init 15 = .ok (.aload_n 0, 1) := by decide +kernel
theorem dX0_init_16 : decode cX0_init 16 = .ok (.bipush 12, 2) := by decide +kernel
theorem dX0_init_18 : decode cX0_init 18 = .ok (.newarray .int, 2) := by decide +kernel
theorem dX0_init_20 : decode cX0_init 20 = .ok (.putfield 18, 3) := by decide +kernel
theorem dX0_init_23 : decode cX0_init 23 = .ok (.aload_n 0, 1) := by decide +kernel
theorem dX0_init_24 : decode cX0_init 24 = .ok (.bipush 12, 2) := by decide +kernel
theorem dX0_init_26 : decode cX0_init 26 = .ok (.newarray .int, 2) := by decide +kernel
theorem dX0_init_28 : decode cX0_init 28 = .ok (.putfield 22, 3) := by decide +kernel
theorem dX0_init_31 : decode cX0_init 31 = .ok (.return_, 1) := by decide +kernel
theorem dX0_find_0 : decode cX0_find 0 = .ok (.iconst 0, 1) := by decide +kernel
theorem dX0_find_1 : decode cX0_find 1 = .ok (.istore 4, 2) := by decide +kernel
theorem dX0_find_3 : decode cX0_find 3 = .ok (.aload_n 0, 1) := by decide +kernel
theorem dX0_find_4 : decode cX0_find 4 = .ok (.aload_n 1, 1) := by decide +kernel
theorem dX0_find_5 : decode cX0_find 5 = .ok (.invokevirtual 25, 3) := by decide +kernel
theorem dX0_find_8 : decode cX0_find 8 = .ok (.iconst 0, 1) := by decide +kernel
theorem dX0_find_9 : decode cX0_find 9 = .ok (.istore 5, 2) := by decide +kernel
theorem dX0_find_11 : decode cX0_find 11 = .ok (.iload 5, 2) := by decide +kernel
theorem dX0_find_13 : decode cX0_find 13 = .ok (.aload_n 1, 1) := by decide +kernel
theorem dX0_find_14 : decode cX0_find 14 = .ok (.invokevirtual 29, 3) := by decide +kernel
theorem dX0_find_17 : decode cX0_find 17 = .ok (.if_icmp .ge 47, 3) := by decide +kernel
theorem dX0_find_20 : decode cX0_find 20 = .ok (.aload_n 1, 1) := by decide +kernel
theorem dX0_find_21 : decode cX0_find 21 = .ok (.aload_n 2, 1) := by decide +kernel
theorem dX0_find_22 : decode cX0_find 22 = .ok (.iload 5, 2) := by decide +kernel
theorem dX0_find_24 : decode cX0_find 24 = .ok (.invokestatic 35, 3) := by decide +kernel
theorem dX0_find_27 : decode cX0_find 27 = .ok (.ifCond .eq 31, 3) := by decide +kernel
theorem dX0_find_30 : decode cX0_find 30 = .ok (.iload 4, 2) := by decide +kernel
theorem dX0_find_32 : decode cX0_find 32 = .ok (.iconst 1, 1) := by decide +kernel
theorem dX0_find_33 : decode cX0_find 33 = .ok (.iload 5, 2) := by decide +kernel
theorem dX0_find_35 : decode cX0_find 35 = .ok (.ishl, 1) := by decide +kernel
theorem dX0_find_36 : decode cX0_find 36 = .ok (.ior, 1) := by decide +kernel
theorem dX0_find_37 : decode cX0_find 37 = .ok (.istore 4, 2) := by decide +kernel
theorem dX0_find_39 : decode cX0_find 39 = .ok (.aload_n 0, 1) := by decide +kernel
theorem dX0_find_40 : decode cX0_find 40 = .ok (.getfield 12, 3) := by decide +kernel
theorem dX0_find_43 : decode cX0_find 43 = .ok (.aload_n 1, 1) := by decide +kernel
theorem dX0_find_44 : decode cX0_find 44 = .ok (.aload_n 2, 1) := by decide +kernel
theorem dX0_find_45 : decode cX0_find 45 = .ok (.aload_n 3, 1) := by decide +kernel
theorem dX0_find_46 : decode cX0_find 46 = .ok (.iload 5, 2) := by decide +kernel
theorem dX0_find_48 : decode cX0_find 48 = .ok (.invokevirtual 39, 3) := by decide +kernel
theorem dX0_find_51 : decode cX0_find 51 = .ok (.aload_n 0, 1) := by decide +kernel
theorem dX0_find_52 : decode cX0_find 52 = .ok (.aload_n 1, 1) := by decide +kernel
theorem dX0_find_53 : decode cX0_find 53 = .ok (.iload 5, 2) := by decide +kernel
theorem dX0_find_55 : decode cX0_find 55 = .ok (.invokevirtual 43, 3) := by decide +kernel
theorem dX0_find_58 : decode cX0_find 58 = .ok (.iinc 5 1, 3) := by decide +kernel
theorem dX0_find_61 : decode cX0_find 61 = .ok (.goto (-50), 3) := by decide +kernel
theorem dX0_find_64 : decode cX0_find 64 = .ok (.aload_n 0, 1) := by decide +kernel
theorem dX0_find_65 : decode cX0_find 65 = .ok (.iload 4, 2) := by decide +kernel
theorem dX0_find_67 : decode cX0_find 67 = .ok (.invokevirtual 47, 3) := by decide +kernel
theorem dX0_find_70 : decode cX0_find 70 = .ok (.ireturn, 1) := by decide +kernel
theorem dX0_listSuspects_0 : decode cX0_listSuspects 0 = .ok (.aload_n 1, 1) := by decide +kernel
theorem dX0_listSuspects_1 : decode cX0_listSuspects 1 = .ok (.getfield 51, 3) := by decide +kernel
theorem dX0_listSuspects_4 : decode cX0_listSuspects 4 = .ok (.iconst 1, 1) := by decide +kernel
theorem dX0_listSuspects_5 : decode cX0_listSuspects 5 = .ok (.iaload, 1) := by decide +kernel
theorem dX0_listSuspects_6 : decode cX0_listSuspects 6 = .ok (.aload_n 1, 1) := by decide +kernel
theorem dX0_listSuspects_7 : decode cX0_listSuspects 7 = .ok (.invokevirtual 54, 3) := by decide +kernel
theorem dX0_listSuspects_10 : decode cX0_listSuspects 10 = .ok (.ior, 1) := by decide +kernel
theorem dX0_listSuspects_11 : decode cX0_listSuspects 11 = .ok (.istore_n 2, 1) := by decide +kernel
theorem dX0_listSuspects_12 : decode cX0_listSuspects 12 = .ok (.aload_n 0, 1) := by decide +kernel
theorem dX0_listSuspects_13 : decode cX0_listSuspects 13 = .ok (.iconst 0, 1) := by decide +kernel
theorem dX0_listSuspects_14 : decode cX0_listSuspects 14 = .ok (.putfield 57, 3) := by decide +kernel
theorem dX0_listSuspects_17 : decode cX0_listSuspects 17 = .ok (.iconst 0, 1) := by decide +kernel
theorem dX0_listSuspects_18 : decode cX0_listSuspects 18 = .ok (.istore_n 3, 1) := by decide +kernel
theorem dX0_listSuspects_19 : decode cX0_listSuspects 19 = .ok (.iload_n 3, 1) := by decide +kernel
theorem dX0_listSuspects_20 : decode cX0_listSuspects 20 = .ok (.bipush 12, 2) := by decide +kernel
theorem dX0_listSuspects_22 : decode cX0_listSuspects 22 = .ok (.if_icmp .ge 47, 3) := by decide +kernel
theorem dX0_listSuspects_25 : decode cX0_listSuspects 25 = .ok (.iload_n 2, 1) := by decide +kernel
theorem dX0_listSuspects_26 : decode cX0_listSuspects 26 = .ok (.iload_n 3, 1) := by decide +kernel
theorem dX0_listSuspects_27 : decode cX0_listSuspects 27 = .ok (.invokestatic 61, 3) := by decide +kernel
theorem dX0_listSuspects_30 : decode cX0_listSuspects 30 = .ok (.ifCond .eq 33, 3) := by decide +kernel
theorem dX0_listSuspects_33 : decode cX0_listSuspects 33 = .ok (.aload_n 0, 1) := by decide +kernel
theorem dX0_listSuspects_34 : decode cX0_listSuspects 34 = .ok (.getfield 18, 3) := by decide +kernel
theorem dX0_listSuspects_37 : decode cX0_listSuspects 37 = .ok (.aload_n 0, 1) := by decide +kernel
theorem dX0_listSuspects_38 : decode cX0_listSuspects 38 = .ok (.getfield 57, 3) := by decide +kernel
theorem dX0_listSuspects_41 : decode cX0_listSuspects 41 = .ok (.iload_n 3, 1) := by decide +kernel
theorem dX0_listSuspects_42 : decode cX0_listSuspects 42 = .ok (.iastore, 1) := by decide +kernel
theorem dX0_listSuspects_43 : decode cX0_listSuspects 43 = .ok (.aload_n 0, 1) := by decide +kernel
theorem dX0_listSuspects_44 : decode cX0_listSuspects 44 = .ok (.getfield 22, 3) := by decide +kernel
theorem dX0_listSuspects_47 : decode cX0_listSuspects 47 = .ok (.aload_n 0, 1) := by decide +kernel
theorem dX0_listSuspects_48 : decode cX0_listSuspects 48 = .ok (.getfield 57, 3) := by decide +kernel
theorem dX0_listSuspects_51 : decode cX0_listSuspects 51 = .ok (.iconst 0, 1) := by decide +kernel
theorem dX0_listSuspects_52 : decode cX0_listSuspects 52 = .ok (.iastore, 1) := by decide +kernel
theorem dX0_listSuspects_53 : decode cX0_listSuspects 53 = .ok (.aload_n 0, 1) := by decide +kernel
theorem dX0_listSuspects_54 : decode cX0_listSuspects 54 = .ok (.dup, 1) := by decide +kernel
theorem dX0_listSuspects_55 : decode cX0_listSuspects 55 = .ok (.getfield 57, 3) := by decide +kernel
theorem dX0_listSuspects_58 : decode cX0_listSuspects 58 = .ok (.iconst 1, 1) := by decide +kernel
theorem dX0_listSuspects_59 : decode cX0_listSuspects 59 = .ok (.iadd, 1) := by decide +kernel
theorem dX0_listSuspects_60 : decode cX0_listSuspects 60 = .ok (.putfield 57, 3) := by decide +kernel
theorem dX0_listSuspects_63 : decode cX0_listSuspects 63 = .ok (.iinc 3 1, 3) := by decide +kernel
theorem dX0_listSuspects_66 : decode cX0_listSuspects 66 = .ok (.goto (-47), 3) := by decide +kernel
theorem dX0_listSuspects_69 : decode cX0_listSuspects 69 = .ok (.return_, 1) := by decide +kernel
theorem dX0_noteHindered_0 : decode cX0_noteHindered 0 = .ok (.iconst 0, 1) := by decide +kernel
theorem dX0_noteHindered_1 : decode cX0_noteHindered 1 = .ok (.istore_n 3, 1) := by decide +kernel
theorem dX0_noteHindered_2 : decode cX0_noteHindered 2 = .ok (.iload_n 3, 1) := by decide +kernel
theorem dX0_noteHindered_3 : decode cX0_noteHindered 3 = .ok (.aload_n 0, 1) := by decide +kernel
theorem dX0_noteHindered_4 : decode cX0_noteHindered 4 = .ok (.getfield 57, 3) := by decide +kernel
theorem dX0_noteHindered_7 : decode cX0_noteHindered 7 = .ok (.if_icmp .ge 83, 3) := by decide +kernel
theorem dX0_noteHindered_10 : decode cX0_noteHindered 10 = .ok (.aload_n 0, 1) := by decide +kernel
theorem dX0_noteHindered_11 : decode cX0_noteHindered 11 = .ok (.getfield 18, 3) := by decide +kernel
theorem dX0_noteHindered_14 : decode cX0_noteHindered 14 = .ok (.iload_n 3, 1) := by decide +kernel
theorem dX0_noteHindered_15 : decode cX0_noteHindered 15 = .ok (.iaload, 1) := by decide +kernel
theorem dX0_noteHindered_16 : decode cX0_noteHindered 16 = .ok (.istore 4, 2) := by decide +kernel
theorem dX0_noteHindered_18 : decode cX0_noteHindered 18 = .ok (.iload 4, 2) := by decide +kernel
theorem dX0_noteHindered_20 : decode cX0_noteHindered 20 = .ok (.aload_n 1, 1) := by decide +kernel
theorem dX0_noteHindered_21 : decode cX0_noteHindered 21 = .ok (.getfield 65, 3) := by decide +kernel
theorem dX0_noteHindered_24 : decode cX0_noteHindered 24 = .ok (.if_icmp .ne 21, 3) := by decide +kernel
theorem dX0_noteHindered_27 : decode cX0_noteHindered 27 = .ok (.aload_n 0, 1) := by decide +kernel
theorem dX0_noteHindered_28 : decode cX0_noteHindered 28 = .ok (.getfield 12, 3) := by decide +kernel
theorem dX0_noteHindered_31 : decode cX0_noteHindered 31 = .ok (.getfield 68, 3) := by decide +kernel
theorem dX0_noteHindered_34 : decode cX0_noteHindered 34 = .ok (.aload_n 0, 1) := by decide +kernel
theorem dX0_noteHindered_35 : decode cX0_noteHindered 35 = .ok (.getfield 12, 3) := by decide +kernel
theorem dX0_noteHindered_38 : decode cX0_noteHindered 38 = .ok (.getfield 71, 3) := by decide +kernel
theorem dX0_noteHindered_41 : decode cX0_noteHindered 41 = .ok (.iand, 1) := by decide +kernel
theorem dX0_noteHindered_42 : decode cX0_noteHindered 42 = .ok (.goto 18, 3) := by decide +kernel
theorem dX0_noteHindered_45 : decode cX0_noteHindered 45 = .ok (.aload_n 0, 1) := by decide +kernel
theorem dX0_noteHindered_46 : decode cX0_noteHindered 46 = .ok (.getfield 12, 3) := by decide +kernel
theorem dX0_noteHindered_49 : decode cX0_noteHindered 49 = .ok (.getfield 68, 3) := by decide +kernel
theorem dX0_noteHindered_52 : decode cX0_noteHindered 52 = .ok (.aload_n 0, 1) := by decide +kernel
theorem dX0_noteHindered_53 : decode cX0_noteHindered 53 = .ok (.getfield 12, 3) := by decide +kernel
theorem dX0_noteHindered_56 : decode cX0_noteHindered 56 = .ok (.getfield 71, 3) := by decide +kernel
theorem dX0_noteHindered_59 : decode cX0_noteHindered 59 = .ok (.ior, 1) := by decide +kernel
theorem dX0_noteHindered_60 : decode cX0_noteHindered 60 = .ok (.istore 5, 2) := by decide +kernel
theorem dX0_noteHindered_62 : decode cX0_noteHindered 62 = .ok (.iload 5, 2) := by decide +kernel
theorem dX0_noteHindered_64 : decode cX0_noteHindered 64 = .ok (.iload 4, 2) := by decide +kernel
theorem dX0_noteHindered_66 : decode cX0_noteHindered 66 = .ok (.invokestatic 61, 3) := by decide +kernel
theorem dX0_noteHindered_69 : decode cX0_noteHindered 69 = .ok (.ifCond .ne 15, 3) := by decide +kernel
theorem dX0_noteHindered_72 : decode cX0_noteHindered 72 = .ok (.aload_n 0, 1) := by decide +kernel
theorem dX0_noteHindered_73 : decode cX0_noteHindered 73 = .ok (.getfield 22, 3) := by decide +kernel
theorem dX0_noteHindered_76 : decode cX0_noteHindered 76 = .ok (.iload_n 3, 1) := by decide +kernel
theorem dX0_noteHindered_77 : decode cX0_noteHindered 77 = .ok (.dup2, 1) := by decide +kernel
theorem dX0_noteHindered_78 : decode cX0_noteHindered 78 = .ok (.iaload, 1) := by decide +kernel
theorem dX0_noteHindered_79 : decode cX0_noteHindered 79 = .ok (.iconst 1, 1) := by decide +kernel
theorem dX0_noteHindered_80 : decode cX0_noteHindered 80 = .ok (.iload_n 2, 1) := by decide +kernel
theorem dX0_noteHindered_81 : decode cX0_noteHindered 81 = .ok (.ishl, 1) := by decide +kernel
theorem dX0_noteHindered_82 : decode cX0_noteHindered 82 = .ok (.ior, 1) := by decide +kernel
theorem dX0_noteHindered_83 : decode cX0_noteHindered 83 = .ok (.iastore, 1) := by decide +kernel
theorem dX0_noteHindered_84 : decode cX0_noteHindered 84 = .ok (.iinc 3 1, 3) := by decide +kernel
theorem dX0_noteHindered_87 : decode cX0_noteHindered 87 = .ok (.goto (-85), 3) := by decide +kernel
theorem dX0_noteHindered_90 : decode cX0_noteHindered 90 = .ok (.return_, 1) := by decide +kernel
theorem dX0_leastSet_0 : decode cX0_leastSet 0 = .ok (.iconst 1, 1) := by decide +kernel
theorem dX0_leastSet_1 : decode cX0_leastSet 1 = .ok (.aload_n 0, 1) := by decide +kernel
theorem dX0_leastSet_2 : decode cX0_leastSet 2 = .ok (.getfield 57, 3) := by decide +kernel
theorem dX0_leastSet_5 : decode cX0_leastSet 5 = .ok (.ishl, 1) := by decide +kernel
theorem dX0_leastSet_6 : decode cX0_leastSet 6 = .ok (.iconst 1, 1) := by decide +kernel
theorem dX0_leastSet_7 : decode cX0_leastSet 7 = .ok (.isub, 1) := by decide +kernel
theorem dX0_leastSet_8 : decode cX0_leastSet 8 = .ok (.istore_n 2, 1) := by decide +kernel
theorem dX0_leastSet_9 : decode cX0_leastSet 9 = .ok (.aload_n 0, 1) := by decide +kernel
theorem dX0_leastSet_10 : decode cX0_leastSet 10 = .ok (.iload_n 2, 1) := by decide +kernel
theorem dX0_leastSet_11 : decode cX0_leastSet 11 = .ok (.invokevirtual 74, 3) := by decide +kernel
theorem dX0_leastSet_14 : decode cX0_leastSet 14 = .ok (.iload_n 1, 1) := by decide +kernel
theorem dX0_leastSet_15 : decode cX0_leastSet 15 = .ok (.if_icmp .eq 5, 3) := by decide +kernel
theorem dX0_leastSet_18 : decode cX0_leastSet 18 = .ok (.iconst 0, 1) := by decide +kernel
theorem dX0_leastSet_19 : decode cX0_leastSet 19 = .ok (.ireturn, 1) := by decide +kernel
theorem dX0_leastSet_20 : decode cX0_leastSet 20 = .ok (.iload_n 2, 1) := by decide +kernel
theorem dX0_leastSet_21 : decode cX0_leastSet 21 = .ok (.iconst 1, 1) := by decide +kernel
theorem dX0_leastSet_22 : decode cX0_leastSet 22 = .ok (.isub, 1) := by decide +kernel
theorem dX0_leastSet_23 : decode cX0_leastSet 23 = .ok (.istore_n 3, 1) := by decide +kernel
theorem dX0_leastSet_24 : decode cX0_leastSet 24 = .ok (.iload_n 3, 1) := by decide +kernel
theorem dX0_leastSet_25 : decode cX0_leastSet 25 = .ok (.ifCond .lt 31, 3) := by decide +kernel
theorem dX0_leastSet_28 : decode cX0_leastSet 28 = .ok (.iload_n 3, 1) := by decide +kernel
theorem dX0_leastSet_29 : decode cX0_leastSet 29 = .ok (.invokestatic 77, 3) := by decide +kernel
theorem dX0_leastSet_32 : decode cX0_leastSet 32 = .ok (.iload_n 2, 1) := by decide +kernel
theorem dX0_leastSet_33 : decode cX0_leastSet 33 = .ok (.invokestatic 77, 3) := by decide +kernel
theorem dX0_leastSet_36 : decode cX0_leastSet 36 = .ok (.if_icmp .ge 14, 3) := by decide +kernel
theorem dX0_leastSet_39 : decode cX0_leastSet 39 = .ok (.aload_n 0, 1) := by decide +kernel
theorem dX0_leastSet_40 : decode cX0_leastSet 40 = .ok (.iload_n 3, 1) := by decide +kernel
theorem dX0_leastSet_41 : decode cX0_leastSet 41 = .ok (.invokevirtual 74, 3) := by decide +kernel
theorem dX0_leastSet_44 : decode cX0_leastSet 44 = .ok (.iload_n 1, 1) := by decide +kernel
theorem dX0_leastSet_45 : decode cX0_leastSet 45 = .ok (.if_icmp .ne 5, 3) := by decide +kernel
theorem dX0_leastSet_48 : decode cX0_leastSet 48 = .ok (.iload_n 3, 1) := by decide +kernel
theorem dX0_leastSet_49 : decode cX0_leastSet 49 = .ok (.istore_n 2, 1) := by decide +kernel
theorem dX0_leastSet_50 : decode cX0_leastSet 50 = .ok (.iinc 3 (-1), 3) := by decide +kernel
theorem dX0_leastSet_53 : decode cX0_leastSet 53 = .ok (.goto (-29), 3) := by decide +kernel
theorem dX0_leastSet_56 : decode cX0_leastSet 56 = .ok (.aload_n 0, 1) := by decide +kernel
theorem dX0_leastSet_57 : decode cX0_leastSet 57 = .ok (.iload_n 2, 1) := by decide +kernel
theorem dX0_leastSet_58 : decode cX0_leastSet 58 = .ok (.invokevirtual 82, 3) := by decide +kernel
theorem dX0_leastSet_61 : decode cX0_leastSet 61 = .ok (.ireturn, 1) := by decide +kernel
theorem dX0_hinderedBy_0 : decode cX0_hinderedBy 0 = .ok (.iconst 0, 1) := by decide +kernel
theorem dX0_hinderedBy_1 : decode cX0_hinderedBy 1 = .ok (.istore_n 2, 1) := by decide +kernel
theorem dX0_hinderedBy_2 : decode cX0_hinderedBy 2 = .ok (.iconst 0, 1) := by decide +kernel
theorem dX0_hinderedBy_3 : decode cX0_hinderedBy 3 = .ok (.istore_n 3, 1) := by decide +kernel
theorem dX0_hinderedBy_4 : decode cX0_hinderedBy 4 = .ok (.iload_n 3, 1) := by decide +kernel
theorem dX0_hinderedBy_5 : decode cX0_hinderedBy 5 = .ok (.aload_n 0, 1) := by decide +kernel
theorem dX0_hinderedBy_6 : decode cX0_hinderedBy 6 = .ok (.getfield 57, 3) := by decide +kernel
theorem dX0_hinderedBy_9 : decode cX0_hinderedBy 9 = .ok (.if_icmp .ge 33, 3) := by decide +kernel
theorem dX0_hinderedBy_12 : decode cX0_hinderedBy 12 = .ok (.iload_n 1, 1) := by decide +kernel
theorem dX0_hinderedBy_13 : decode cX0_hinderedBy 13 = .ok (.aload_n 0, 1) := by decide +kernel
theorem dX0_hinderedBy_14 : decode cX0_hinderedBy 14 = .ok (.getfield 57, 3) := by decide +kernel
theorem dX0_hinderedBy_17 : decode cX0_hinderedBy 17 = .ok (.iconst 1, 1) := by decide +kernel
theorem dX0_hinderedBy_18 : decode cX0_hinderedBy 18 = .ok (.isub, 1) := by decide +kernel
theorem dX0_hinderedBy_19 : decode cX0_hinderedBy 19 = .ok (.iload_n 3, 1) := by decide +kernel
theorem dX0_hinderedBy_20 : decode cX0_hinderedBy 20 = .ok (.isub, 1) := by decide +kernel
theorem dX0_hinderedBy_21 : decode cX0_hinderedBy 21 = .ok (.invokestatic 61, 3) := by decide +kernel
theorem dX0_hinderedBy_24 : decode cX0_hinderedBy 24 = .ok (.ifCond .eq 12, 3) := by decide +kernel
theorem dX0_hinderedBy_27 : decode cX0_hinderedBy 27 = .ok (.iload_n 2, 1) := by decide +kernel
theorem dX0_hinderedBy_28 : decode cX0_hinderedBy 28 = .ok (.aload_n 0, 1) := by decide +kernel
theorem dX0_hinderedBy_29 : decode cX0_hinderedBy 29 = .ok (.getfield 22, 3) := by decide +kernel
theorem dX0_hinderedBy_32 : decode cX0_hinderedBy 32 = .ok (.iload_n 3, 1) := by decide +kernel
theorem dX0_hinderedBy_33 : decode cX0_hinderedBy 33 = .ok (.iaload, 1) := by decide +kernel
theorem dX0_hinderedBy_34 : decode cX0_hinderedBy 34 = .ok (.ior, 1) := by decide +kernel
theorem dX0_hinderedBy_35 : decode cX0_hinderedBy 35 = .ok (.istore_n 2, 1) := by decide +kernel
theorem dX0_hinderedBy_36 : decode cX0_hinderedBy 36 = .ok (.iinc 3 1, 3) := by decide +kernel
theorem dX0_hinderedBy_39 : decode cX0_hinderedBy 39 = .ok (.goto (-35), 3) := by decide +kernel
theorem dX0_hinderedBy_42 : decode cX0_hinderedBy 42 = .ok (.iload_n 2, 1) := by decide +kernel
theorem dX0_hinderedBy_43 : decode cX0_hinderedBy 43 = .ok (.ireturn, 1) := by decide +kernel
theorem dX0_personsOf_0 : decode cX0_personsOf 0 = .ok (.iconst 0, 1) := by decide +kernel
theorem dX0_personsOf_1 : decode cX0_personsOf 1 = .ok (.istore_n 2, 1) := by decide +kernel
theorem dX0_personsOf_2 : decode cX0_personsOf 2 = .ok (.iconst 0, 1) := by decide +kernel
theorem dX0_personsOf_3 : decode cX0_personsOf 3 = .ok (.istore_n 3, 1) := by decide +kernel
theorem dX0_personsOf_4 : decode cX0_personsOf 4 = .ok (.iload_n 3, 1) := by decide +kernel
theorem dX0_personsOf_5 : decode cX0_personsOf 5 = .ok (.aload_n 0, 1) := by decide +kernel
theorem dX0_personsOf_6 : decode cX0_personsOf 6 = .ok (.getfield 57, 3) := by decide +kernel
theorem dX0_personsOf_9 : decode cX0_personsOf 9 = .ok (.if_icmp .ge 35, 3) := by decide +kernel
theorem dX0_personsOf_12 : decode cX0_personsOf 12 = .ok (.iload_n 1, 1) := by decide +kernel
theorem dX0_personsOf_13 : decode cX0_personsOf 13 = .ok (.aload_n 0, 1) := by decide +kernel
theorem dX0_personsOf_14 : decode cX0_personsOf 14 = .ok (.getfield 57, 3) := by decide +kernel
theorem dX0_personsOf_17 : decode cX0_personsOf 17 = .ok (.iconst 1, 1) := by decide +kernel
theorem dX0_personsOf_18 : decode cX0_personsOf 18 = .ok (.isub, 1) := by decide +kernel
theorem dX0_personsOf_19 : decode cX0_personsOf 19 = .ok (.iload_n 3, 1) := by decide +kernel
theorem dX0_personsOf_20 : decode cX0_personsOf 20 = .ok (.isub, 1) := by decide +kernel
theorem dX0_personsOf_21 : decode cX0_personsOf 21 = .ok (.invokestatic 61, 3) := by decide +kernel
theorem dX0_personsOf_24 : decode cX0_personsOf 24 = .ok (.ifCond .eq 14, 3) := by decide +kernel
theorem dX0_personsOf_27 : decode cX0_personsOf 27 = .ok (.iload_n 2, 1) := by decide +kernel
theorem dX0_personsOf_28 : decode cX0_personsOf 28 = .ok (.iconst 1, 1) := by decide +kernel
theorem dX0_personsOf_29 : decode cX0_personsOf 29 = .ok (.aload_n 0, 1) := by decide +kernel
theorem dX0_personsOf_30 : decode cX0_personsOf 30 = .ok (.getfield 18, 3) := by decide +kernel
theorem dX0_personsOf_33 : decode cX0_personsOf 33 = .ok (.iload_n 3, 1) := by decide +kernel
theorem dX0_personsOf_34 : decode cX0_personsOf 34 = .ok (.iaload, 1) := by decide +kernel
theorem dX0_personsOf_35 : decode cX0_personsOf 35 = .ok (.ishl, 1) := by decide +kernel
theorem dX0_personsOf_36 : decode cX0_personsOf 36 = .ok (.ior, 1) := by decide +kernel
theorem dX0_personsOf_37 : decode cX0_personsOf 37 = .ok (.istore_n 2, 1) := by decide +kernel
theorem dX0_personsOf_38 : decode cX0_personsOf 38 = .ok (.iinc 3 1, 3) := by decide +kernel
theorem dX0_personsOf_41 : decode cX0_personsOf 41 = .ok (.goto (-37), 3) := by decide +kernel
theorem dX0_personsOf_44 : decode cX0_personsOf 44 = .ok (.iload_n 2, 1) := by decide +kernel
theorem dX0_personsOf_45 : decode cX0_personsOf 45 = .ok (.ireturn, 1) := by decide +kernel
theorem dX1_init_0 : decode cX1_init 0 = .ok (.aload_n 0, 1) := by decide +kernel
theorem dX1_init_1 : decode cX1_init 1 = .ok (.invokespecial 3, 3) := by decide +kernel
theorem dX1_init_4 : decode cX1_init 4 = .ok (.aload_n 0, 1) := by decide +kernel
theorem dX1_init_5 : decode cX1_init 5 = .ok (.bipush 8, 2) := by decide +kernel
theorem dX1_init_7 : decode cX1_init 7 = .ok (.newarray .int, 2) := by decide +kernel
theorem dX1_init_9 : decode cX1_init 9 = .ok (.putfield 9, 3) := by decide +kernel
theorem dX1_init_12 : decode cX1_init 12 = .ok (.aload_n 0, 1) := by decide +kernel
theorem dX1_init_13 : decode cX1_init 13 = .ok (.bipush 8, 2) := by decide +kernel
theorem dX1_init_15 : decode cX1_init 15 = .ok (.newarray .int, 2) := by decide +kernel
theorem dX1_init_17 : decode cX1_init 17 = .ok (.putfield 15, 3) := by decide +kernel
theorem dX1_init_20 : decode cX1_init 20 = .ok (.aload_n 0, 1) := by decide +kernel
theorem dX1_init_21 : decode cX1_init 21 = .ok (.bipush 8, 2) := by decide +kernel
theorem dX1_init_23 : decode cX1_init 23 = .ok (.newarray .int, 2) := by decide +kernel
theorem dX1_init_25 : decode cX1_init 25 = .ok (.putfield 18, 3) := by decide +kernel
theorem dX1_init_28 : decode cX1_init 28 = .ok (.aload_n 0, 1) := by decide +kernel
theorem dX1_init_29 : decode cX1_init 29 = .ok (.iconst 4, 1) := by decide +kernel
theorem dX1_init_30 : decode cX1_init 30 = .ok (.newarray .int, 2) := by decide +kernel
theorem dX1_init_32 : decode cX1_init 32 = .ok (.putfield 21, 3) := by decide +kernel
theorem dX1_init_35 : decode cX1_init 35 = .ok (.return_, 1) := by decide +kernel
theorem dX1_clear_0 : decode cX1_clear 0 = .ok (.aload_n 0, 1) := by decide +kernel
theorem dX1_clear_1 : decode cX1_clear 1 = .ok (.iconst 0, 1) := by decide +kernel
theorem dX1_clear_2 : decode cX1_clear 2 = .ok (.putfield 24, 3) := by decide +kernel
theorem dX1_clear_5 : decode cX1_clear 5 = .ok (.aload_n 0, 1) := by decide +kernel
theorem dX1_clear_6 : decode cX1_clear 6 = .ok (.getfield 21, 3) := by decide +kernel
theorem dX1_clear_9 : decode cX1_clear 9 = .ok (.iconst 0, 1) := by decide +kernel
theorem dX1_clear_10 : decode cX1_clear 10 = .ok (.invokestatic 28, 3) := by decide +kernel
theorem dX1_clear_13 : decode cX1_clear 13 = .ok (.return_, 1) := by decide +kernel
theorem dX1_put_0 : decode cX1_put 0 = .ok (.aload_n 0, 1) := by decide +kernel
theorem dX1_put_1 : decode cX1_put 1 = .ok (.getfield 21, 3) := by decide +kernel
theorem dX1_put_4 : decode cX1_put 4 = .ok (.aload_n 1, 1) := by decide +kernel
theorem dX1_put_5 : decode cX1_put 5 = .ok (.getfield 34, 3) := by decide +kernel
theorem dX1_put_8 : decode cX1_put 8 = .ok (.iconst 0, 1) := by decide +kernel
theorem dX1_put_9 : decode cX1_put 9 = .ok (.iastore, 1) := by decide +kernel
theorem dX1_put_10 : decode cX1_put 10 = .ok (.aload_n 0, 1) := by decide +kernel
theorem dX1_put_11 : decode cX1_put 11 = .ok (.aload_n 1, 1) := by decide +kernel
theorem dX1_put_12 : decode cX1_put 12 = .ok (.aload_n 2, 1) := by decide +kernel
theorem dX1_put_13 : decode cX1_put 13 = .ok (.getfield 39, 3) := by decide +kernel
theorem dX1_put_16 : decode cX1_put 16 = .ok (.aload_n 3, 1) := by decide +kernel
theorem dX1_put_17 : decode cX1_put 17 = .ok (.getfield 44, 3) := by decide +kernel
theorem dX1_put_20 : decode cX1_put 20 = .ok (.iaload, 1) := by decide +kernel
theorem dX1_put_21 : decode cX1_put 21 = .ok (.aload_n 3, 1) := by decide +kernel
theorem dX1_put_22 : decode cX1_put 22 = .ok (.getfield 49, 3) := by decide +kernel
theorem dX1_put_25 : decode cX1_put 25 = .ok (.invokevirtual 52, 3) := by decide +kernel
theorem dX1_put_28 : decode cX1_put 28 = .ok (.aload_n 3, 1) := by decide +kernel
theorem dX1_put_29 : decode cX1_put 29 = .ok (.getfield 56, 3) := by decide +kernel
theorem dX1_put_32 : decode cX1_put 32 = .ok (.iconst (-1), 1) := by decide +kernel
theorem dX1_put_33 : decode cX1_put 33 = .ok (.if_icmp .eq 21, 3) := by decide +kernel
theorem dX1_put_36 : decode cX1_put 36 = .ok (.aload_n 0, 1) := by decide +kernel
theorem dX1_put_37 : decode cX1_put 37 = .ok (.aload_n 1, 1) := by decide +kernel
theorem dX1_put_38 : decode cX1_put 38 = .ok (.aload_n 2, 1) := by decide +kernel
theorem dX1_put_39 : decode cX1_put 39 = .ok (.getfield 39, 3) := by decide +kernel
theorem dX1_put_42 : decode cX1_put 42 = .ok (.aload_n 3, 1) := by decide +kernel
theorem dX1_put_43 : decode cX1_put 43 = .ok (.getfield 56, 3) := by decide +kernel
theorem dX1_put_46 : decode cX1_put 46 = .ok (.iaload, 1) := by decide +kernel
theorem dX1_put_47 : decode cX1_put 47 = .ok (.aload_n 3, 1) := by decide +kernel
theorem dX1_put_48 : decode cX1_put 48 = .ok (.getfield 59, 3) := by decide +kernel
theorem dX1_put_51 : decode cX1_put 51 = .ok (.invokevirtual 52, 3) := by decide +kernel
theorem dX1_put_54 : decode cX1_put 54 = .ok (.return_, 1) := by decide +kernel
theorem dX1_add_0 : decode cX1_add 0 = .ok (.aload_n 0, 1) := by decide +kernel
theorem dX1_add_1 : decode cX1_add 1 = .ok (.getfield 21, 3) := by decide +kernel
theorem dX1_add_4 : decode cX1_add 4 = .ok (.aload_n 1, 1) := by decide +kernel
theorem dX1_add_5 : decode cX1_add 5 = .ok (.getfield 34, 3) := by decide +kernel
theorem dX1_add_8 : decode cX1_add 8 = .ok (.aload_n 0, 1) := by decide +kernel
theorem dX1_add_9 : decode cX1_add 9 = .ok (.getfield 21, 3) := by decide +kernel
theorem dX1_add_12 : decode cX1_add 12 = .ok (.aload_n 1, 1) := by decide +kernel
theorem dX1_add_13 : decode cX1_add 13 = .ok (.getfield 34, 3) := by decide +kernel
theorem dX1_add_16 : decode cX1_add 16 = .ok (.iaload, 1) := by decide +kernel
theorem dX1_add_17 : decode cX1_add 17 = .ok (.iload_n 2, 1) := by decide +kernel
theorem dX1_add_18 : decode cX1_add 18 = .ok (.aload_n 1, 1) := by decide +kernel
theorem dX1_add_19 : decode cX1_add 19 = .ok (.getfield 62, 3) := by decide +kernel
theorem dX1_add_22 : decode cX1_add 22 = .ok (.iadd, 1) := by decide +kernel
theorem dX1_add_23 : decode cX1_add 23 = .ok (.invokestatic 65, 3) := by decide +kernel
theorem dX1_add_26 : decode cX1_add 26 = .ok (.iastore, 1) := by decide +kernel
theorem dX1_add_27 : decode cX1_add 27 = .ok (.aload_n 0, 1) := by decide +kernel
theorem dX1_add_28 : decode cX1_add 28 = .ok (.getfield 24, 3) := by decide +kernel
theorem dX1_add_31 : decode cX1_add 31 = .ok (.bipush 8, 2) := by decide +kernel
theorem dX1_add_33 : decode cX1_add 33 = .ok (.if_icmp .ge 48, 3) := by decide +kernel
theorem dX1_add_36 : decode cX1_add 36 = .ok (.aload_n 0, 1) := by decide +kernel
theorem dX1_add_37 : decode cX1_add 37 = .ok (.getfield 9, 3) := by decide +kernel
theorem dX1_add_40 : decode cX1_add 40 = .ok (.aload_n 0, 1) := by decide +kernel
theorem dX1_add_41 : decode cX1_add 41 = .ok (.getfield 24, 3) := by decide +kernel
theorem dX1_add_44 : decode cX1_add 44 = .ok (.iload_n 2, 1) := by decide +kernel
theorem dX1_add_45 : decode cX1_add 45 = .ok (.iastore, 1) := by decide +kernel
theorem dX1_add_46 : decode cX1_add 46 = .ok (.aload_n 0, 1) := by decide +kernel
theorem dX1_add_47 : decode cX1_add 47 = .ok (.getfield 15, 3) := by decide +kernel
theorem dX1_add_50 : decode cX1_add 50 = .ok (.aload_n 0, 1) := by decide +kernel
theorem dX1_add_51 : decode cX1_add 51 = .ok (.getfield 24, 3) := by decide +kernel
theorem dX1_add_54 : decode cX1_add 54 = .ok (.iload_n 2, 1) := by decide +kernel
theorem dX1_add_55 : decode cX1_add 55 = .ok (.aload_n 1, 1) := by decide +kernel
theorem dX1_add_56 : decode cX1_add 56 = .ok (.getfield 62, 3) := by decide +kernel
theorem dX1_add_59 : decode cX1_add 59 = .ok (.iadd, 1) := by decide +kernel
theorem dX1_add_60 : decode cX1_add 60 = .ok (.iastore, 1) := by decide +kernel
theorem dX1_add_61 : decode cX1_add 61 = .ok (.aload_n 0, 1) := by decide +kernel
theorem dX1_add_62 : decode cX1_add 62 = .ok (.getfield 18, 3) := by decide +kernel
theorem dX1_add_65 : decode cX1_add 65 = .ok (.aload_n 0, 1) := by decide +kernel
theorem dX1_add_66 : decode cX1_add 66 = .ok (.getfield 24, 3) := by decide +kernel
theorem dX1_add_69 : decode cX1_add 69 = .ok (.iload_n 3, 1) := by decide +kernel
theorem dX1_add_70 : decode cX1_add 70 = .ok (.iastore, 1) := by decide +kernel
theorem dX1_add_71 : decode cX1_add 71 = .ok (.aload_n 0, 1) := by decide +kernel
theorem dX1_add_72 : decode cX1_add 72 = .ok (.dup, 1) := by decide +kernel
theorem dX1_add_73 : decode cX1_add 73 = .ok (.getfield 24, 3) := by decide +kernel
theorem dX1_add_76 : decode cX1_add 76 = .ok (.iconst 1, 1) := by decide +kernel
theorem dX1_add_77 : decode cX1_add 77 = .ok (.iadd, 1) := by decide +kernel
theorem dX1_add_78 : decode cX1_add 78 = .ok (.putfield 24, 3) := by decide +kernel
theorem dX1_add_81 : decode cX1_add 81 = .ok (.return_, 1) := by decide +kernel
theorem dX1_engaged_0 : decode cX1_engaged 0 = .ok (.iconst 0, 1) := by decide +kernel
theorem dX1_engaged_1 : decode cX1_engaged 1 = .ok (.istore_n 3, 1) := by decide +kernel
theorem dX1_engaged_2 : decode cX1_engaged 2 = .ok (.iconst 0, 1) := by decide +kernel
theorem dX1_engaged_3 : decode cX1_engaged 3 = .ok (.istore 4, 2) := by decide +kernel
theorem dX1_engaged_5 : decode cX1_engaged 5 = .ok (.iload 4, 2) := by decide +kernel
theorem dX1_engaged_7 : decode cX1_engaged 7 = .ok (.aload_n 0, 1) := by decide +kernel
theorem dX1_engaged_8 : decode cX1_engaged 8 = .ok (.getfield 24, 3) := by decide +kernel
theorem dX1_engaged_11 : decode cX1_engaged 11 = .ok (.if_icmp .ge 41, 3) := by decide +kernel
theorem dX1_engaged_14 : decode cX1_engaged 14 = .ok (.aload_n 0, 1) := by decide +kernel
theorem dX1_engaged_15 : decode cX1_engaged 15 = .ok (.getfield 9, 3) := by decide +kernel
theorem dX1_engaged_18 : decode cX1_engaged 18 = .ok (.iload 4, 2) := by decide +kernel
theorem dX1_engaged_20 : decode cX1_engaged 20 = .ok (.iaload, 1) := by decide +kernel
theorem dX1_engaged_21 : decode cX1_engaged 21 = .ok (.iload_n 2, 1) := by decide +kernel
theorem dX1_engaged_22 : decode cX1_engaged 22 = .ok (.if_icmp .ge 24, 3) := by decide +kernel
theorem dX1_engaged_25 : decode cX1_engaged 25 = .ok (.iload_n 1, 1) := by decide +kernel
theorem dX1_engaged_26 : decode cX1_engaged 26 = .ok (.aload_n 0, 1) := by decide +kernel
theorem dX1_engaged_27 : decode cX1_engaged 27 = .ok (.getfield 15, 3) := by decide +kernel
theorem dX1_engaged_30 : decode cX1_engaged 30 = .ok (.iload 4, 2) := by decide +kernel
theorem dX1_engaged_32 : decode cX1_engaged 32 = .ok (.iaload, 1) := by decide +kernel
theorem dX1_engaged_33 : decode cX1_engaged 33 = .ok (.if_icmp .ge 13, 3) := by decide +kernel
theorem dX1_engaged_36 : decode cX1_engaged 36 = .ok (.iload_n 3, 1) := by decide +kernel
theorem dX1_engaged_37 : decode cX1_engaged 37 = .ok (.aload_n 0, 1) := by decide +kernel
theorem dX1_engaged_38 : decode cX1_engaged 38 = .ok (.getfield 18, 3) := by decide +kernel
theorem dX1_engaged_41 : decode cX1_engaged 41 = .ok (.iload 4, 2) := by decide +kernel
theorem dX1_engaged_43 : decode cX1_engaged 43 = .ok (.iaload, 1) := by decide +kernel
theorem dX1_engaged_44 : decode cX1_engaged 44 = .ok (.ior, 1) := by decide +kernel
theorem dX1_engaged_45 : decode cX1_engaged 45 = .ok (.istore_n 3, 1) := by decide +kernel
theorem dX1_engaged_46 : decode cX1_engaged 46 = .ok (.iinc 4 1, 3) := by decide +kernel
theorem dX1_engaged_49 : decode cX1_engaged 49 = .ok (.goto (-44), 3) := by decide +kernel
theorem dX1_engaged_52 : decode cX1_engaged 52 = .ok (.iload_n 3, 1) := by decide +kernel
theorem dX1_engaged_53 : decode cX1_engaged 53 = .ok (.ireturn, 1) := by decide +kernel
theorem dX2_init_0 : decode cX2_init 0 = .ok (.aload_n 0, 1) := by decide +kernel
theorem dX2_init_1 : decode cX2_init 1 = .ok (.invokespecial 3, 3) := by decide +kernel
theorem dX2_init_4 : decode cX2_init 4 = .ok (.aload_n 0, 1) := by decide +kernel
theorem dX2_init_5 : decode cX2_init 5 = .ok (.bipush 12, 2) := by decide +kernel
theorem dX2_init_7 : decode cX2_init 7 = .ok (.newarray .int, 2) := by decide +kernel
theorem dX2_init_9 : decode cX2_init 9 = .ok (.putfield 9, 3) := by decide +kernel
theorem dX2_init_12 : decode cX2_init 12 = .ok (.aload_n 0, 1) := by decide +kernel
theorem dX2_init_13 : decode cX2_init 13 = .ok (.bipush 12, 2) := by decide +kernel
theorem dX2_init_15 : decode cX2_init 15 = .ok (.newarray .int, 2) := by decide +kernel
theorem dX2_init_17 : decode cX2_init 17 = .ok (.putfield 15, 3) := by decide +kernel
theorem dX2_init_20 : decode cX2_init 20 = .ok (.return_, 1) := by decide +kernel
theorem dX2_begin_0 : decode cX2_begin 0 = .ok (.aload_n 0, 1) := by decide +kernel
theorem dX2_begin_1 : decode cX2_begin 1 = .ok (.iload_n 1, 1) := by decide +kernel
theorem dX2_begin_2 : decode cX2_begin 2 = .ok (.bipush 12, 2) := by decide +kernel
theorem dX2_begin_4 : decode cX2_begin 4 = .ok (.invokestatic 18, 3) := by decide +kernel
theorem dX2_begin_7 : decode cX2_begin 7 = .ok (.putfield 24, 3) := by decide +kernel
theorem dX2_begin_10 : decode cX2_begin 10 = .ok (.aload_n 0, 1) := by decide +kernel
theorem dX2_begin_11 : decode cX2_begin 11 = .ok (.iconst 0, 1) := by decide +kernel
theorem dX2_begin_12 : decode cX2_begin 12 = .ok (.putfield 28, 3) := by decide +kernel
theorem dX2_begin_15 : decode cX2_begin 15 = .ok (.return_, 1) := by decide +kernel
theorem dX2_isBetter_0 : decode cX2_isBetter 0 = .ok (.aload_n 0, 1) := by decide +kernel
theorem dX2_isBetter_1 : decode cX2_isBetter 1 = .ok (.getfield 28, 3) := by decide +kernel
theorem dX2_isBetter_4 : decode cX2_isBetter 4 = .ok (.ifCond .ne 5, 3) := by decide +kernel
theorem dX2_isBetter_7 : decode cX2_isBetter 7 = .ok (.iconst 1, 1) := by decide +kernel
theorem dX2_isBetter_8 : decode cX2_isBetter 8 = .ok (.ireturn, 1) := by decide +kernel
theorem dX2_isBetter_9 : decode cX2_isBetter 9 = .ok (.aload_n 1, 1) := by decide +kernel
theorem dX2_isBetter_10 : decode cX2_isBetter 10 = .ok (.iconst 0, 1) := by decide +kernel
theorem dX2_isBetter_11 : decode cX2_isBetter 11 = .ok (.aload_n 0, 1) := by decide +kernel
theorem dX2_isBetter_12 : decode cX2_isBetter 12 = .ok (.getfield 15, 3) := by decide +kernel
theorem dX2_isBetter_15 : decode cX2_isBetter 15 = .ok (.iconst 0, 1) := by decide +kernel
theorem dX2_isBetter_16 : decode cX2_isBetter 16 = .ok (.aload_n 0, 1) := by decide +kernel
theorem dX2_isBetter_17 : decode cX2_isBetter 17 = .ok (.getfield 24, 3) := by decide +kernel
theorem dX2_isBetter_20 : decode cX2_isBetter 20 = .ok (.invokestatic 32, 3) := by decide +kernel
theorem dX2_isBetter_23 : decode cX2_isBetter 23 = .ok (.iconst 0, 1) := by decide +kernel
theorem dX2_isBetter_24 : decode cX2_isBetter 24 = .ok (.istore_n 2, 1) := by decide +kernel
theorem dX2_isBetter_25 : decode cX2_isBetter 25 = .ok (.iload_n 2, 1) := by decide +kernel
theorem dX2_isBetter_26 : decode cX2_isBetter 26 = .ok (.aload_n 0, 1) := by decide +kernel
theorem dX2_isBetter_27 : decode cX2_isBetter 27 = .ok (.getfield 24, 3) := by decide +kernel
theorem dX2_isBetter_30 : decode cX2_isBetter 30 = .ok (.if_icmp .ge 54, 3) := by decide +kernel
theorem dX2_isBetter_33 : decode cX2_isBetter 33 = .ok (.aload_n 0, 1) := by decide +kernel
theorem dX2_isBetter_34 : decode cX2_isBetter 34 = .ok (.aload_n 0, 1) := by decide +kernel
theorem dX2_isBetter_35 : decode cX2_isBetter 35 = .ok (.getfield 15, 3) := by decide +kernel
theorem dX2_isBetter_38 : decode cX2_isBetter 38 = .ok (.iload_n 2, 1) := by decide +kernel
theorem dX2_isBetter_39 : decode cX2_isBetter 39 = .ok (.invokevirtual 38, 3) := by decide +kernel
theorem dX2_isBetter_42 : decode cX2_isBetter 42 = .ok (.aload_n 0, 1) := by decide +kernel
theorem dX2_isBetter_43 : decode cX2_isBetter 43 = .ok (.getfield 15, 3) := by decide +kernel
theorem dX2_isBetter_46 : decode cX2_isBetter 46 = .ok (.iload_n 2, 1) := by decide +kernel
theorem dX2_isBetter_47 : decode cX2_isBetter 47 = .ok (.iaload, 1) := by decide +kernel
theorem dX2_isBetter_48 : decode cX2_isBetter 48 = .ok (.aload_n 0, 1) := by decide +kernel
theorem dX2_isBetter_49 : decode cX2_isBetter 49 = .ok (.getfield 9, 3) := by decide +kernel
theorem dX2_isBetter_52 : decode cX2_isBetter 52 = .ok (.iload_n 2, 1) := by decide +kernel
theorem dX2_isBetter_53 : decode cX2_isBetter 53 = .ok (.iaload, 1) := by decide +kernel
theorem dX2_isBetter_54 : decode cX2_isBetter 54 = .ok (.if_icmp .eq 24, 3) := by decide +kernel
theorem dX2_isBetter_57 : decode cX2_isBetter 57 = .ok (.aload_n 0, 1) := by decide +kernel
theorem dX2_isBetter_58 : decode cX2_isBetter 58 = .ok (.getfield 15, 3) := by decide +kernel
theorem dX2_isBetter_61 : decode cX2_isBetter 61 = .ok (.iload_n 2, 1) := by decide +kernel
theorem dX2_isBetter_62 : decode cX2_isBetter 62 = .ok (.iaload, 1) := by decide +kernel
theorem dX2_isBetter_63 : decode cX2_isBetter 63 = .ok (.aload_n 0, 1) := by decide +kernel
theorem dX2_isBetter_64 : decode cX2_isBetter 64 = .ok (.getfield 9, 3) := by decide +kernel
theorem dX2_isBetter_67 : decode cX2_isBetter 67 = .ok (.iload_n 2, 1) := by decide +kernel
theorem dX2_isBetter_68 : decode cX2_isBetter 68 = .ok (.iaload, 1) := by decide +kernel
theorem dX2_isBetter_69 : decode cX2_isBetter 69 = .ok (.if_icmp .ge 7, 3) := by decide +kernel
theorem dX2_isBetter_72 : decode cX2_isBetter 72 = .ok (.iconst 1, 1) := by decide +kernel
theorem dX2_isBetter_73 : decode cX2_isBetter 73 = .ok (.goto 4, 3) := by decide +kernel
theorem dX2_isBetter_76 : decode cX2_isBetter 76 = .ok (.iconst 0, 1) := by decide +kernel
theorem dX2_isBetter_77 : decode cX2_isBetter 77 = .ok (.ireturn, 1) := by decide +kernel
theorem dX2_isBetter_78 : decode cX2_isBetter 78 = .ok (.iinc 2 1, 3) := by decide +kernel
theorem dX2_isBetter_81 : decode cX2_isBetter 81 = .ok (.goto (-56), 3) := by decide +kernel
theorem dX2_isBetter_84 : decode cX2_isBetter 84 = .ok (.iconst 0, 1) := by decide +kernel
theorem dX2_isBetter_85 : decode cX2_isBetter 85 = .ok (.ireturn, 1) := by decide +kernel
theorem dX2_keep_0 : decode cX2_keep 0 = .ok (.aload_n 0, 1) := by decide +kernel
theorem dX2_keep_1 : decode cX2_keep 1 = .ok (.iconst 1, 1) := by decide +kernel
theorem dX2_keep_2 : decode cX2_keep 2 = .ok (.putfield 28, 3) := by decide +kernel
theorem dX2_keep_5 : decode cX2_keep 5 = .ok (.aload_n 1, 1) := by decide +kernel
theorem dX2_keep_6 : decode cX2_keep 6 = .ok (.iconst 0, 1) := by decide +kernel
theorem dX2_keep_7 : decode cX2_keep 7 = .ok (.aload_n 0, 1) := by decide +kernel
theorem dX2_keep_8 : decode cX2_keep 8 = .ok (.getfield 9, 3) := by decide +kernel
theorem dX2_keep_11 : decode cX2_keep 11 = .ok (.iconst 0, 1) := by decide +kernel
theorem dX2_keep_12 : decode cX2_keep 12 = .ok (.aload_n 0, 1) := by decide +kernel
theorem dX2_keep_13 : decode cX2_keep 13 = .ok (.getfield 24, 3) := by decide +kernel
theorem dX2_keep_16 : decode cX2_keep 16 = .ok (.invokestatic 32, 3) := by decide +kernel
theorem dX2_keep_19 : decode cX2_keep 19 = .ok (.iconst 0, 1) := by decide +kernel
theorem dX2_keep_20 : decode cX2_keep 20 = .ok (.istore_n 2, 1) := by decide +kernel
theorem dX2_keep_21 : decode cX2_keep 21 = .ok (.iload_n 2, 1) := by decide +kernel
theorem dX2_keep_22 : decode cX2_keep 22 = .ok (.aload_n 0, 1) := by decide +kernel
theorem dX2_keep_23 : decode cX2_keep 23 = .ok (.getfield 24, 3) := by decide +kernel
theorem dX2_keep_26 : decode cX2_keep 26 = .ok (.if_icmp .ge 18, 3) := by decide +kernel
theorem dX2_keep_29 : decode cX2_keep 29 = .ok (.aload_n 0, 1) := by decide +kernel
theorem dX2_keep_30 : decode cX2_keep 30 = .ok (.aload_n 0, 1) := by decide +kernel
theorem dX2_keep_31 : decode cX2_keep 31 = .ok (.getfield 9, 3) := by decide +kernel
theorem dX2_keep_34 : decode cX2_keep 34 = .ok (.iload_n 2, 1) := by decide +kernel
theorem dX2_keep_35 : decode cX2_keep 35 = .ok (.invokevirtual 38, 3) := by decide +kernel
theorem dX2_keep_38 : decode cX2_keep 38 = .ok (.iinc 2 1, 3) := by decide +kernel
theorem dX2_keep_41 : decode cX2_keep 41 = .ok (.goto (-20), 3) := by decide +kernel
theorem dX2_keep_44 : decode cX2_keep 44 = .ok (.return_, 1) := by decide +kernel
theorem dX2_bringGreatest_0 : decode cX2_bringGreatest 0 = .ok (.iload_n 2, 1) := by decide +kernel
theorem dX2_bringGreatest_1 : decode cX2_bringGreatest 1 = .ok (.istore_n 3, 1) := by decide +kernel
theorem dX2_bringGreatest_2 : decode cX2_bringGreatest 2 = .ok (.iload_n 2, 1) := by decide +kernel
theorem dX2_bringGreatest_3 : decode cX2_bringGreatest 3 = .ok (.iconst 1, 1) := by decide +kernel
theorem dX2_bringGreatest_4 : decode cX2_bringGreatest 4 = .ok (.iadd, 1) := by decide +kernel
theorem dX2_bringGreatest_5 : decode cX2_bringGreatest 5 = .ok (.istore 4, 2) := by decide +kernel
theorem dX2_bringGreatest_7 : decode cX2_bringGreatest 7 = .ok (.iload 4, 2) := by decide +kernel
theorem dX2_bringGreatest_9 : decode cX2_bringGreatest 9 = .ok (.aload_n 0, 1) := by decide +kernel
theorem dX2_bringGreatest_10 : decode cX2_bringGreatest 10 = .ok (.getfield 24, 3) := by decide +kernel
theorem dX2_bringGreatest_13 : decode cX2_bringGreatest 13 = .ok (.if_icmp .ge 22, 3) := by decide +kernel
theorem dX2_bringGreatest_16 : decode cX2_bringGreatest 16 = .ok (.aload_n 1, 1) := by decide +kernel
theorem dX2_bringGreatest_17 : decode cX2_bringGreatest 17 = .ok (.iload 4, 2) := by decide +kernel
theorem dX2_bringGreatest_19 : decode cX2_bringGreatest 19 = .ok (.iaload, 1) := by decide +kernel
theorem dX2_bringGreatest_20 : decode cX2_bringGreatest 20 = .ok (.aload_n 1, 1) := by decide +kernel
theorem dX2_bringGreatest_21 : decode cX2_bringGreatest 21 = .ok (.iload_n 3, 1) := by decide +kernel
theorem dX2_bringGreatest_22 : decode cX2_bringGreatest 22 = .ok (.iaload, 1) := by decide +kernel
theorem dX2_bringGreatest_23 : decode cX2_bringGreatest 23 = .ok (.if_icmp .le 6, 3) := by decide +kernel
theorem dX2_bringGreatest_26 : decode cX2_bringGreatest 26 = .ok (.iload 4, 2) := by decide +kernel
theorem dX2_bringGreatest_28 : decode cX2_bringGreatest 28 = .ok (.istore_n 3, 1) := by decide +kernel
theorem dX2_bringGreatest_29 : decode cX2_bringGreatest 29 = .ok (.iinc 4 1, 3) := by decide +kernel
theorem dX2_bringGreatest_32 : decode cX2_bringGreatest 32 = .ok (.goto (-25), 3) := by decide +kernel
theorem dX2_bringGreatest_35 : decode cX2_bringGreatest 35 = .ok (.aload_n 1, 1) := by decide +kernel
theorem dX2_bringGreatest_36 : decode cX2_bringGreatest 36 = .ok (.iload_n 3, 1) := by decide +kernel
theorem dX2_bringGreatest_37 : decode cX2_bringGreatest 37 = .ok (.iaload, 1) := by decide +kernel
theorem dX2_bringGreatest_38 : decode cX2_bringGreatest 38 = .ok (.istore 4, 2) := by decide +kernel
theorem dX2_bringGreatest_40 : decode cX2_bringGreatest 40 = .ok (.aload_n 1, 1) := by decide +kernel
theorem dX2_bringGreatest_41 : decode cX2_bringGreatest 41 = .ok (.iload_n 3, 1) := by decide +kernel
theorem dX2_bringGreatest_42 : decode cX2_bringGreatest 42 = .ok (.aload_n 1, 1) := by decide +kernel
theorem dX2_bringGreatest_43 : decode cX2_bringGreatest 43 = .ok (.iload_n 2, 1) := by decide +kernel
theorem dX2_bringGreatest_44 : decode cX2_bringGreatest 44 = .ok (.iaload, 1) := by decide +kernel
theorem dX2_bringGreatest_45 : decode cX2_bringGreatest 45 = .ok (.iastore, 1) := by decide +kernel
theorem dX2_bringGreatest_46 : decode cX2_bringGreatest 46 = .ok (.aload_n 1, 1) := by decide +kernel
theorem dX2_bringGreatest_47 : decode cX2_bringGreatest 47 = .ok (.iload_n 2, 1) := by decide +kernel
theorem dX2_bringGreatest_48 : decode cX2_bringGreatest 48 = .ok (.iload 4, 2) := by decide +kernel
theorem dX2_bringGreatest_50 : decode cX2_bringGreatest 50 = .ok (.iastore, 1) := by decide +kernel
theorem dX2_bringGreatest_51 : decode cX2_bringGreatest 51 = .ok (.return_, 1) := by decide +kernel
theorem dX2_greatest_0 : decode cX2_greatest 0 = .ok (.aload_n 0, 1) := by decide +kernel
theorem dX2_greatest_1 : decode cX2_greatest 1 = .ok (.getfield 24, 3) := by decide +kernel
theorem dX2_greatest_4 : decode cX2_greatest 4 = .ok (.ifCond .ne 7, 3) := by decide +kernel
theorem dX2_greatest_7 : decode cX2_greatest 7 = .ok (.iconst 0, 1) := by decide +kernel
theorem dX2_greatest_8 : decode cX2_greatest 8 = .ok (.goto 9, 3) := by decide +kernel
theorem dX2_greatest_11 : decode cX2_greatest 11 = .ok (.aload_n 0, 1) := by decide +kernel
theorem dX2_greatest_12 : decode cX2_greatest 12 = .ok (.getfield 9, 3) := by decide +kernel
theorem dX2_greatest_15 : decode cX2_greatest 15 = .ok (.iconst 0, 1) := by decide +kernel
theorem dX2_greatest_16 : decode cX2_greatest 16 = .ok (.iaload, 1) := by decide +kernel
theorem dX2_greatest_17 : decode cX2_greatest 17 = .ok (.ireturn, 1) := by decide +kernel
theorem dX3_init_0 : decode cX3_init 0 = .ok (.aload_n 0, 1) := by decide +kernel
theorem dX3_init_1 : decode cX3_init 1 = .ok (.invokespecial 1, 3) := by decide +kernel
theorem dX3_init_4 : decode cX3_init 4 = .ok (.aload_n 0, 1) := by decide +kernel
theorem dX3_init_5 : decode cX3_init 5 = .ok (.iload_n 1, 1) := by decide +kernel
theorem dX3_init_6 : decode cX3_init 6 = .ok (.putfield 7, 3) := by decide +kernel
theorem dX3_init_9 : decode cX3_init 9 = .ok (.aload_n 0, 1) := by decide +kernel
theorem dX3_init_10 : decode cX3_init 10 = .ok (.iload_n 2, 1) := by decide +kernel
theorem dX3_init_11 : decode cX3_init 11 = .ok (.putfield 13, 3) := by decide +kernel
theorem dX3_init_14 : decode cX3_init 14 = .ok (.aload_n 0, 1) := by decide +kernel
theorem dX3_init_15 : decode cX3_init 15 = .ok (.iload_n 3, 1) := by decide +kernel
theorem dX3_init_16 : decode cX3_init 16 = .ok (.putfield 16, 3) := by decide +kernel
theorem dX3_init_19 : decode cX3_init 19 = .ok (.aload_n 0, 1) := by decide +kernel
theorem dX3_init_20 : decode cX3_init 20 = .ok (.iload 4, 2) := by decide +kernel
theorem dX3_init_22 : decode cX3_init 22 = .ok (.putfield 19, 3) := by decide +kernel
theorem dX3_init_25 : decode cX3_init 25 = .ok (.aload_n 0, 1) := by decide +kernel
theorem dX3_init_26 : decode cX3_init 26 = .ok (.aload 5, 2) := by decide +kernel
theorem dX3_init_28 : decode cX3_init 28 = .ok (.putfield 23, 3) := by decide +kernel
theorem dX3_init_31 : decode cX3_init 31 = .ok (.return_, 1) := by decide +kernel
theorem dX4_init_0 : decode cX4_init 0 = .ok (.aload_n 0, 1) := by decide +kernel
theorem dX4_init_1 : decode cX4_init 1 = .ok (.invokespecial 3, 3) := by decide +kernel
theorem dX4_init_4 : decode cX4_init 4 = .ok (.aload_n 0, 1) := by decide +kernel
theorem dX4_init_5 : decode cX4_init 5 = .ok (.iload_n 1, 1) := by decide +kernel
theorem dX4_init_6 : decode cX4_init 6 = .ok (.putfield 9, 3) := by decide +kernel
theorem dX4_init_9 : decode cX4_init 9 = .ok (.return_, 1) := by decide +kernel
theorem dX4_offsetAt_0 : decode cX4_offsetAt 0 = .ok (.aload_n 0, 1) := by decide +kernel
theorem dX4_offsetAt_1 : decode cX4_offsetAt 1 = .ok (.getfield 9, 3) := by decide +kernel
theorem dX4_offsetAt_4 : decode cX4_offsetAt 4 = .ok (.istore_n 3, 1) := by decide +kernel
theorem dX4_offsetAt_5 : decode cX4_offsetAt 5 = .ok (.iconst (-1), 1) := by decide +kernel
theorem dX4_offsetAt_6 : decode cX4_offsetAt 6 = .ok (.istore 4, 2) := by decide +kernel
theorem dX4_offsetAt_8 : decode cX4_offsetAt 8 = .ok (.aload_n 0, 1) := by decide +kernel
theorem dX4_offsetAt_9 : decode cX4_offsetAt 9 = .ok (.getfield 15, 3) := by decide +kernel
theorem dX4_offsetAt_12 : decode cX4_offsetAt 12 = .ok (.astore 5, 2) := by decide +kernel
theorem dX4_offsetAt_14 : decode cX4_offsetAt 14 = .ok (.aload 5, 2) := by decide +kernel
theorem dX4_offsetAt_16 : decode cX4_offsetAt 16 = .ok (.ifnull 54, 3) := by decide +kernel
theorem dX4_offsetAt_19 : decode cX4_offsetAt 19 = .ok (.aload 5, 2) := by decide +kernel
theorem dX4_offsetAt_21 : decode cX4_offsetAt 21 = .ok (.getfield 19, 3) := by decide +kernel
theorem dX4_offsetAt_24 : decode cX4_offsetAt 24 = .ok (.iload_n 2, 1) := by decide +kernel
theorem dX4_offsetAt_25 : decode cX4_offsetAt 25 = .ok (.if_icmp .ge 35, 3) := by decide +kernel
theorem dX4_offsetAt_28 : decode cX4_offsetAt 28 = .ok (.aload 5, 2) := by decide +kernel
theorem dX4_offsetAt_30 : decode cX4_offsetAt 30 = .ok (.getfield 24, 3) := by decide +kernel
theorem dX4_offsetAt_33 : decode cX4_offsetAt 33 = .ok (.iload_n 1, 1) := by decide +kernel
theorem dX4_offsetAt_34 : decode cX4_offsetAt 34 = .ok (.if_icmp .gt 26, 3) := by decide +kernel
theorem dX4_offsetAt_37 : decode cX4_offsetAt 37 = .ok (.aload 5, 2) := by decide +kernel
theorem dX4_offsetAt_39 : decode cX4_offsetAt 39 = .ok (.getfield 24, 3) := by decide +kernel
theorem dX4_offsetAt_42 : decode cX4_offsetAt 42 = .ok (.iload 4, 2) := by decide +kernel
theorem dX4_offsetAt_44 : decode cX4_offsetAt 44 = .ok (.if_icmp .le 16, 3) := by decide +kernel
theorem dX4_offsetAt_47 : decode cX4_offsetAt 47 = .ok (.aload 5, 2) := by decide +kernel
theorem dX4_offsetAt_49 : decode cX4_offsetAt 49 = .ok (.getfield 24, 3) := by decide +kernel
theorem dX4_offsetAt_52 : decode cX4_offsetAt 52 = .ok (.istore 4, 2) := by decide +kernel
theorem dX4_offsetAt_54 : decode cX4_offsetAt 54 = .ok (.aload 5, 2) := by decide +kernel
theorem dX4_offsetAt_56 : decode cX4_offsetAt 56 = .ok (.getfield 27, 3) := by decide +kernel
theorem dX4_offsetAt_59 : decode cX4_offsetAt 59 = .ok (.istore_n 3, 1) := by decide +kernel
theorem dX4_offsetAt_60 : decode cX4_offsetAt 60 = .ok (.aload 5, 2) := by decide +kernel
theorem dX4_offsetAt_62 : decode cX4_offsetAt 62 = .ok (.getfield 30, 3) := by decide +kernel
theorem dX4_offsetAt_65 : decode cX4_offsetAt 65 = .ok (.astore 5, 2) := by decide +kernel
theorem dX4_offsetAt_67 : decode cX4_offsetAt 67 = .ok (.goto (-53), 3) := by decide +kernel
theorem dX4_offsetAt_70 : decode cX4_offsetAt 70 = .ok (.iload_n 3, 1) := by decide +kernel
theorem dX4_offsetAt_71 : decode cX4_offsetAt 71 = .ok (.ireturn, 1) := by decide +kernel
theorem dX4_celebrates_0 : decode cX4_celebrates 0 = .ok (.aload_n 0, 1) := by decide +kernel
theorem dX4_celebrates_1 : decode cX4_celebrates 1 = .ok (.getfield 33, 3) := by decide +kernel
theorem dX4_celebrates_4 : decode cX4_celebrates 4 = .ok (.astore_n 3, 1) := by decide +kernel
theorem dX4_celebrates_5 : decode cX4_celebrates 5 = .ok (.aload_n 3, 1) := by decide +kernel
theorem dX4_celebrates_6 : decode cX4_celebrates 6 = .ok (.ifnull 29, 3) := by decide +kernel
theorem dX4_celebrates_9 : decode cX4_celebrates 9 = .ok (.aload_n 3, 1) := by decide +kernel
theorem dX4_celebrates_10 : decode cX4_celebrates 10 = .ok (.getfield 19, 3) := by decide +kernel
theorem dX4_celebrates_13 : decode cX4_celebrates 13 = .ok (.iload_n 2, 1) := by decide +kernel
theorem dX4_celebrates_14 : decode cX4_celebrates 14 = .ok (.if_icmp .ge 13, 3) := by decide +kernel
theorem dX4_celebrates_17 : decode cX4_celebrates 17 = .ok (.aload_n 3, 1) := by decide +kernel
theorem dX4_celebrates_18 : decode cX4_celebrates 18 = .ok (.getfield 24, 3) := by decide +kernel
theorem dX4_celebrates_21 : decode cX4_celebrates 21 = .ok (.iload_n 1, 1) := by decide +kernel
theorem dX4_celebrates_22 : decode cX4_celebrates 22 = .ok (.if_icmp .ne 5, 3) := by decide +kernel
theorem dX4_celebrates_25 : decode cX4_celebrates 25 = .ok (.iconst 1, 1) := by decide +kernel
theorem dX4_celebrates_26 : decode cX4_celebrates 26 = .ok (.ireturn, 1) := by decide +kernel
theorem dX4_celebrates_27 : decode cX4_celebrates 27 = .ok (.aload_n 3, 1) := by decide +kernel
theorem dX4_celebrates_28 : decode cX4_celebrates 28 = .ok (.getfield 30, 3) := by decide +kernel
theorem dX4_celebrates_31 : decode cX4_celebrates 31 = .ok (.astore_n 3, 1) := by decide +kernel
theorem dX4_celebrates_32 : decode cX4_celebrates 32 = .ok (.goto (-27), 3) := by decide +kernel
theorem dX4_celebrates_35 : decode cX4_celebrates 35 = .ok (.iconst 0, 1) := by decide +kernel
theorem dX4_celebrates_36 : decode cX4_celebrates 36 = .ok (.ireturn, 1) := by decide +kernel
theorem dX5_init_0 : decode cX5_init 0 = .ok (.aload_n 0, 1) := by decide +kernel
theorem dX5_init_1 : decode cX5_init 1 = .ok (.invokespecial 3, 3) := by decide +kernel
theorem dX5_init_4 : decode cX5_init 4 = .ok (.aload_n 0, 1) := by decide +kernel
theorem dX5_init_5 : decode cX5_init 5 = .ok (.new 9, 3) := by decide +kernel
theorem dX5_init_8 : decode cX5_init 8 = .ok (.dup, 1) := by decide +kernel
theorem dX5_init_9 : decode cX5_init 9 = .ok (.invokespecial 11, 3) := by decide +kernel
theorem dX5_init_12 : decode cX5_init 12 = .ok (.putfield 12, 3) := by decide +kernel
theorem dX5_init_15 : decode cX5_init 15 = .ok (.aload_n 0, 1) := by decide +kernel
theorem dX5_init_16 : decode cX5_init 16 = .ok (.new 18, 3) := by decide +kernel
theorem dX5_init_19 : decode cX5_init 19 = .ok (.dup, 1) := by decide +kernel
theorem dX5_init_20 : decode cX5_init 20 = .ok (.invokespecial 20, 3) := by decide +kernel
theorem dX5_init_23 : decode cX5_init 23 = .ok (.putfield 21, 3) := by decide +kernel
theorem dX5_init_26 : decode cX5_init 26 = .ok (.aload_n 0, 1) := by decide +kernel
theorem dX5_init_27 : decode cX5_init 27 = .ok (.iconst 4, 1) := by decide +kernel
theorem dX5_init_28 : decode cX5_init 28 = .ok (.anewarray 25, 3) := by decide +kernel
theorem dX5_init_31 : decode cX5_init 31 = .ok (.putfield 27, 3) := by decide +kernel
theorem dX5_init_34 : decode cX5_init 34 = .ok (.aload_n 0, 1) := by decide +kernel
theorem dX5_init_35 : decode cX5_init 35 = .ok (.iconst 4, 1) := by decide +kernel
theorem dX5_init_36 : decode cX5_init 36 = .ok (.anewarray 31, 3) := by decide +kernel
theorem dX5_init_39 : decode cX5_init 39 = .ok (.putfield 33, 3) := by decide +kernel
theorem dX5_init_42 : decode cX5_init 42 = .ok (.aload_n 0, 1) := by decide +kernel
theorem dX5_init_43 : decode cX5_init 43 = .ok (.iconst 4, 1) := by decide +kernel
theorem dX5_init_44 : decode cX5_init 44 = .ok (.anewarray 37, 3) := by decide +kernel
theorem dX5_init_47 : decode cX5_init 47 = .ok (.putfield 39, 3) := by decide +kernel
theorem dX5_init_50 : decode cX5_init 50 = .ok (.aload_n 0, 1) := by decide +kernel
theorem dX5_init_51 : decode cX5_init 51 = .ok (.iconst 4, 1) := by decide +kernel
theorem dX5_init_52 : decode cX5_init 52 = .ok (.newarray .int, 2) := by decide +kernel
theorem dX5_init_54 : decode cX5_init 54 = .ok (.putfield 43, 3) := by decide +kernel
theorem dX5_init_57 : decode cX5_init 57 = .ok (.aload_n 0, 1) := by decide +kernel
theorem dX5_init_58 : decode cX5_init 58 = .ok (.iconst 4, 1) := by decide +kernel
theorem dX5_init_59 : decode cX5_init 59 = .ok (.newarray .int, 2) := by decide +kernel
theorem dX5_init_61 : decode cX5_init 61 = .ok (.putfield 47, 3) := by decide +kernel
theorem dX5_init_64 : decode cX5_init 64 = .ok (.aload_n 0, 1) := by decide +kernel
theorem dX5_init_65 : decode cX5_init 65 = .ok (.iconst 4, 1) := by decide +kernel
theorem dX5_init_66 : decode cX5_init 66 = .ok (.newarray .int, 2) := by decide +kernel
theorem dX5_init_68 : decode cX5_init 68 = .ok (.putfield 50, 3) := by decide +kernel
theorem dX5_init_71 : decode cX5_init 71 = .ok (.aload_n 0, 1) := by decide +kernel
theorem dX5_init_72 : decode cX5_init 72 = .ok (.bipush 12, 2) := by decide +kernel
theorem dX5_init_74 : decode cX5_init 74 = .ok (.newarray .int, 2) := by decide +kernel
theorem dX5_init_76 : decode cX5_init 76 = .ok (.putfield 53, 3) := by decide +kernel
theorem dX5_init_79 : decode cX5_init 79 = .ok (.iconst 0, 1) := by decide +kernel
theorem dX5_init_80 : decode cX5_init 80 = .ok (.istore_n 1, 1) := by decide +kernel
theorem dX5_init_81 : decode cX5_init 81 = .ok (.iload_n 1, 1) := by decide +kernel
theorem dX5_init_82 : decode cX5_init 82 = .ok (.iconst 4, 1) := by decide +kernel
theorem dX5_init_83 : decode cX5_init 83 = .ok (.if_icmp .ge 22, 3) := by decide +kernel
theorem dX5_init_86 : decode cX5_init 86 = .ok (.aload_n 0, 1) := by decide +kernel
theorem dX5_init_87 : decode cX5_init 87 = .ok (.getfield 39, 3) := by decide +kernel
theorem dX5_init_90 : decode cX5_init 90 = .ok (.iload_n 1, 1) := by decide +kernel
theorem dX5_init_91 : decode cX5_init 91 = .ok (.new 37, 3) := by decide +kernel
theorem dX5_init_94 : decode cX5_init 94 = .ok (.dup, 1) := by decide +kernel
theorem dX5_init_95 : decode cX5_init 95 = .ok (.invokespecial 56, 3) := by decide +kernel
theorem dX5_init_98 : decode cX5_init 98 = .ok (.aastore, 1) := by decide +kernel
theorem dX5_init_99 : decode cX5_init 99 = .ok (.iinc 1 1, 3) := by decide +kernel
theorem dX5_init_102 : decode cX5_init 102 = .ok (.goto (-21), 3) := by decide +kernel
theorem dX5_init_105 : decode cX5_init 105 = .ok (.return_, 1) := by decide +kernel
theorem dX5_begin_0 : decode cX5_begin 0 = .ok (.aload_n 0, 1) := by decide +kernel
theorem dX5_begin_1 : decode cX5_begin 1 = .ok (.iload_n 1, 1) := by decide +kernel
theorem dX5_begin_2 : decode cX5_begin 2 = .ok (.bipush 12, 2) := by decide +kernel
theorem dX5_begin_4 : decode cX5_begin 4 = .ok (.invokestatic 57, 3) := by decide +kernel
theorem dX5_begin_7 : decode cX5_begin 7 = .ok (.putfield 63, 3) := by decide +kernel
theorem dX5_begin_10 : decode cX5_begin 10 = .ok (.aload_n 0, 1) := by decide +kernel
theorem dX5_begin_11 : decode cX5_begin 11 = .ok (.iconst 0, 1) := by decide +kernel
theorem dX5_begin_12 : decode cX5_begin 12 = .ok (.putfield 67, 3) := by decide +kernel
theorem dX5_begin_15 : decode cX5_begin 15 = .ok (.aload_n 0, 1) := by decide +kernel
theorem dX5_begin_16 : decode cX5_begin 16 = .ok (.getfield 21, 3) := by decide +kernel
theorem dX5_begin_19 : decode cX5_begin 19 = .ok (.invokevirtual 70, 3) := by decide +kernel
theorem dX5_begin_22 : decode cX5_begin 22 = .ok (.aload_n 0, 1) := by decide +kernel
theorem dX5_begin_23 : decode cX5_begin 23 = .ok (.getfield 12, 3) := by decide +kernel
theorem dX5_begin_26 : decode cX5_begin 26 = .ok (.aload_n 0, 1) := by decide +kernel
theorem dX5_begin_27 : decode cX5_begin 27 = .ok (.getfield 63, 3) := by decide +kernel
theorem dX5_begin_30 : decode cX5_begin 30 = .ok (.invokevirtual 73, 3) := by decide +kernel
theorem dX5_begin_33 : decode cX5_begin 33 = .ok (.aload_n 0, 1) := by decide +kernel
theorem dX5_begin_34 : decode cX5_begin 34 = .ok (.getfield 53, 3) := by decide +kernel
theorem dX5_begin_37 : decode cX5_begin 37 = .ok (.iconst 0, 1) := by decide +kernel
theorem dX5_begin_38 : decode cX5_begin 38 = .ok (.invokestatic 77, 3) := by decide +kernel
theorem dX5_begin_41 : decode cX5_begin 41 = .ok (.return_, 1) := by decide +kernel
theorem dX5_add_0 : decode cX5_add 0 = .ok (.aload_n 0, 1) := by decide +kernel
theorem dX5_add_1 : decode cX5_add 1 = .ok (.getfield 67, 3) := by decide +kernel
theorem dX5_add_4 : decode cX5_add 4 = .ok (.iconst 4, 1) := by decide +kernel
theorem dX5_add_5 : decode cX5_add 5 = .ok (.if_icmp .ge 43, 3) := by decide +kernel
theorem dX5_add_8 : decode cX5_add 8 = .ok (.aload_n 0, 1) := by decide +kernel
theorem dX5_add_9 : decode cX5_add 9 = .ok (.getfield 27, 3) := by decide +kernel
theorem dX5_add_12 : decode cX5_add 12 = .ok (.aload_n 0, 1) := by decide +kernel
theorem dX5_add_13 : decode cX5_add 13 = .ok (.getfield 67, 3) := by decide +kernel
theorem dX5_add_16 : decode cX5_add 16 = .ok (.aload_n 1, 1) := by decide +kernel
theorem dX5_add_17 : decode cX5_add 17 = .ok (.aastore, 1) := by decide +kernel
theorem dX5_add_18 : decode cX5_add 18 = .ok (.aload_n 0, 1) := by decide +kernel
theorem dX5_add_19 : decode cX5_add 19 = .ok (.getfield 33, 3) := by decide +kernel
theorem dX5_add_22 : decode cX5_add 22 = .ok (.aload_n 0, 1) := by decide +kernel
theorem dX5_add_23 : decode cX5_add 23 = .ok (.getfield 67, 3) := by decide +kernel
theorem dX5_add_26 : decode cX5_add 26 = .ok (.aload_n 2, 1) := by decide +kernel
theorem dX5_add_27 : decode cX5_add 27 = .ok (.aastore, 1) := by decide +kernel
theorem dX5_add_28 : decode cX5_add 28 = .ok (.aload_n 0, 1) := by decide +kernel
theorem dX5_add_29 : decode cX5_add 29 = .ok (.getfield 43, 3) := by decide +kernel
theorem dX5_add_32 : decode cX5_add 32 = .ok (.aload_n 0, 1) := by decide +kernel
theorem dX5_add_33 : decode cX5_add 33 = .ok (.getfield 67, 3) := by decide +kernel
theorem dX5_add_36 : decode cX5_add 36 = .ok (.iload_n 3, 1) := by decide +kernel
theorem dX5_add_37 : decode cX5_add 37 = .ok (.iastore, 1) := by decide +kernel
theorem dX5_add_38 : decode cX5_add 38 = .ok (.aload_n 0, 1) := by decide +kernel
theorem dX5_add_39 : decode cX5_add 39 = .ok (.dup, 1) := by decide +kernel
theorem dX5_add_40 : decode cX5_add 40 = .ok (.getfield 67, 3) := by decide +kernel
theorem dX5_add_43 : decode cX5_add 43 = .ok (.iconst 1, 1) := by decide +kernel
theorem dX5_add_44 : decode cX5_add 44 = .ok (.iadd, 1) := by decide +kernel
theorem dX5_add_45 : decode cX5_add 45 = .ok (.putfield 67, 3) := by decide +kernel
theorem dX5_add_48 : decode cX5_add 48 = .ok (.return_, 1) := by decide +kernel
theorem dX5_findBest_0 : decode cX5_findBest 0 = .ok (.iconst 0, 1) := by decide +kernel
theorem dX5_findBest_1 : decode cX5_findBest 1 = .ok (.istore_n 1, 1) := by decide +kernel
theorem dX5_findBest_2 : decode cX5_findBest 2 = .ok (.iload_n 1, 1) := by decide +kernel
theorem dX5_findBest_3 : decode cX5_findBest 3 = .ok (.aload_n 0, 1) := by decide +kernel
theorem dX5_findBest_4 : decode cX5_findBest 4 = .ok (.getfield 67, 3) := by decide +kernel
theorem dX5_findBest_7 : decode cX5_findBest 7 = .ok (.if_icmp .gt 27, 3) := by decide +kernel
theorem dX5_findBest_10 : decode cX5_findBest 10 = .ok (.aload_n 0, 1) := by decide +kernel
theorem dX5_findBest_11 : decode cX5_findBest 11 = .ok (.iconst 0, 1) := by decide +kernel
theorem dX5_findBest_12 : decode cX5_findBest 12 = .ok (.iload_n 1, 1) := by decide +kernel
theorem dX5_findBest_13 : decode cX5_findBest 13 = .ok (.invokevirtual 83, 3) := by decide +kernel
theorem dX5_findBest_16 : decode cX5_findBest 16 = .ok (.aload_n 0, 1) := by decide +kernel
theorem dX5_findBest_17 : decode cX5_findBest 17 = .ok (.getfield 12, 3) := by decide +kernel
theorem dX5_findBest_20 : decode cX5_findBest 20 = .ok (.getfield 87, 3) := by decide +kernel
theorem dX5_findBest_23 : decode cX5_findBest 23 = .ok (.ifCond .eq 5, 3) := by decide +kernel
theorem dX5_findBest_26 : decode cX5_findBest 26 = .ok (.iload_n 1, 1) := by decide +kernel
theorem dX5_findBest_27 : decode cX5_findBest 27 = .ok (.ireturn, 1) := by decide +kernel
theorem dX5_findBest_28 : decode cX5_findBest 28 = .ok (.iinc 1 1, 3) := by decide +kernel
theorem dX5_findBest_31 : decode cX5_findBest 31 = .ok (.goto (-29), 3) := by decide +kernel
theorem dX5_findBest_34 : decode cX5_findBest 34 = .ok (.iconst (-1), 1) := by decide +kernel
theorem dX5_findBest_35 : decode cX5_findBest 35 = .ok (.ireturn, 1) := by decide +kernel
theorem dX5_settle_0 : decode cX5_settle 0 = .ok (.iconst 0, 1) := by decide +kernel
theorem dX5_settle_1 : decode cX5_settle 1 = .ok (.istore_n 2, 1) := by decide +kernel
theorem dX5_settle_2 : decode cX5_settle 2 = .ok (.iload_n 2, 1) := by decide +kernel
theorem dX5_settle_3 : decode cX5_settle 3 = .ok (.aload_n 0, 1) := by decide +kernel
theorem dX5_settle_4 : decode cX5_settle 4 = .ok (.getfield 67, 3) := by decide +kernel
theorem dX5_settle_7 : decode cX5_settle 7 = .ok (.if_icmp .ge 26, 3) := by decide +kernel
theorem dX5_settle_10 : decode cX5_settle 10 = .ok (.aload_n 0, 1) := by decide +kernel
theorem dX5_settle_11 : decode cX5_settle 11 = .ok (.getfield 27, 3) := by decide +kernel
theorem dX5_settle_14 : decode cX5_settle 14 = .ok (.iload_n 2, 1) := by decide +kernel
theorem dX5_settle_15 : decode cX5_settle 15 = .ok (.aaload, 1) := by decide +kernel
theorem dX5_settle_16 : decode cX5_settle 16 = .ok (.getfield 91, 3) := by decide +kernel
theorem dX5_settle_19 : decode cX5_settle 19 = .ok (.iload_n 1, 1) := by decide +kernel
theorem dX5_settle_20 : decode cX5_settle 20 = .ok (.aload_n 0, 1) := by decide +kernel
theorem dX5_settle_21 : decode cX5_settle 21 = .ok (.getfield 50, 3) := by decide +kernel
theorem dX5_settle_24 : decode cX5_settle 24 = .ok (.iload_n 2, 1) := by decide +kernel
theorem dX5_settle_25 : decode cX5_settle 25 = .ok (.iaload, 1) := by decide +kernel
theorem dX5_settle_26 : decode cX5_settle 26 = .ok (.iastore, 1) := by decide +kernel
theorem dX5_settle_27 : decode cX5_settle 27 = .ok (.iinc 2 1, 3) := by decide +kernel
theorem dX5_settle_30 : decode cX5_settle 30 = .ok (.goto (-28), 3) := by decide +kernel
theorem dX5_settle_33 : decode cX5_settle 33 = .ok (.return_, 1) := by decide +kernel
theorem dX5_search_0 : decode cX5_search 0 = .ok (.aload_n 0, 1) := by decide +kernel
theorem dX5_search_1 : decode cX5_search 1 = .ok (.getfield 12, 3) := by decide +kernel
theorem dX5_search_4 : decode cX5_search 4 = .ok (.aload_n 0, 1) := by decide +kernel
theorem dX5_search_5 : decode cX5_search 5 = .ok (.getfield 53, 3) := by decide +kernel
theorem dX5_search_8 : decode cX5_search 8 = .ok (.invokevirtual 94, 3) := by decide +kernel
theorem dX5_search_11 : decode cX5_search 11 = .ok (.ifCond .ne 4, 3) := by decide +kernel
theorem dX5_search_14 : decode cX5_search 14 = .ok (.return_, 1) := by decide +kernel
theorem dX5_search_15 : decode cX5_search 15 = .ok (.iload_n 1, 1) := by decide +kernel
theorem dX5_search_16 : decode cX5_search 16 = .ok (.aload_n 0, 1) := by decide +kernel
theorem dX5_search_17 : decode cX5_search 17 = .ok (.getfield 67, 3) := by decide +kernel
theorem dX5_search_20 : decode cX5_search 20 = .ok (.if_icmp .lt 32, 3) := by decide +kernel
theorem dX5_search_23 : decode cX5_search 23 = .ok (.aload_n 0, 1) := by decide +kernel
theorem dX5_search_24 : decode cX5_search 24 = .ok (.getfield 12, 3) := by decide +kernel
theorem dX5_search_27 : decode cX5_search 27 = .ok (.aload_n 0, 1) := by decide +kernel
theorem dX5_search_28 : decode cX5_search 28 = .ok (.getfield 53, 3) := by decide +kernel
theorem dX5_search_31 : decode cX5_search 31 = .ok (.invokevirtual 98, 3) := by decide +kernel
theorem dX5_search_34 : decode cX5_search 34 = .ok (.aload_n 0, 1) := by decide +kernel
theorem dX5_search_35 : decode cX5_search 35 = .ok (.getfield 47, 3) := by decide +kernel
theorem dX5_search_38 : decode cX5_search 38 = .ok (.iconst 0, 1) := by decide +kernel
theorem dX5_search_39 : decode cX5_search 39 = .ok (.aload_n 0, 1) := by decide +kernel
theorem dX5_search_40 : decode cX5_search 40 = .ok (.getfield 50, 3) := by decide +kernel
theorem dX5_search_43 : decode cX5_search 43 = .ok (.iconst 0, 1) := by decide +kernel
theorem dX5_search_44 : decode cX5_search 44 = .ok (.aload_n 0, 1) := by decide +kernel
theorem dX5_search_45 : decode cX5_search 45 = .ok (.getfield 67, 3) := by decide +kernel
theorem dX5_search_48 : decode cX5_search 48 = .ok (.invokestatic 102, 3) := by decide +kernel
theorem dX5_search_51 : decode cX5_search 51 = .ok (.return_, 1) := by decide +kernel
theorem dX5_search_52 : decode cX5_search 52 = .ok (.iconst 0, 1) := by decide +kernel
theorem dX5_search_53 : decode cX5_search 53 = .ok (.istore_n 3, 1) := by decide +kernel
theorem dX5_search_54 : decode cX5_search 54 = .ok (.iload_n 3, 1) := by decide +kernel
theorem dX5_search_55 : decode cX5_search 55 = .ok (.aload_n 0, 1) := by decide +kernel
theorem dX5_search_56 : decode cX5_search 56 = .ok (.getfield 27, 3) := by decide +kernel
theorem dX5_search_59 : decode cX5_search 59 = .ok (.iload_n 1, 1) := by decide +kernel
theorem dX5_search_60 : decode cX5_search 60 = .ok (.aaload, 1) := by decide +kernel
theorem dX5_search_61 : decode cX5_search 61 = .ok (.invokevirtual 108, 3) := by decide +kernel
theorem dX5_search_64 : decode cX5_search 64 = .ok (.if_icmp .ge 87, 3) := by decide +kernel
theorem dX5_search_67 : decode cX5_search 67 = .ok (.iload_n 3, 1) := by decide +kernel
theorem dX5_search_68 : decode cX5_search 68 = .ok (.aload_n 0, 1) := by decide +kernel
theorem dX5_search_69 : decode cX5_search 69 = .ok (.getfield 43, 3) := by decide +kernel
theorem dX5_search_72 : decode cX5_search 72 = .ok (.iload_n 1, 1) := by decide +kernel
theorem dX5_search_73 : decode cX5_search 73 = .ok (.iaload, 1) := by decide +kernel
theorem dX5_search_74 : decode cX5_search 74 = .ok (.if_icmp .ne 7, 3) := by decide +kernel
theorem dX5_search_77 : decode cX5_search 77 = .ok (.iload_n 2, 1) := by decide +kernel
theorem dX5_search_78 : decode cX5_search 78 = .ok (.goto 6, 3) := by decide +kernel
theorem dX5_search_81 : decode cX5_search 81 = .ok (.iload_n 2, 1) := by decide +kernel
theorem dX5_search_82 : decode cX5_search 82 = .ok (.iconst 1, 1) := by decide +kernel
theorem dX5_search_83 : decode cX5_search 83 = .ok (.isub, 1) := by decide +kernel
theorem dX5_search_84 : decode cX5_search 84 = .ok (.istore 4, 2) := by decide +kernel
theorem dX5_search_86 : decode cX5_search 86 = .ok (.iload 4, 2) := by decide +kernel
theorem dX5_search_88 : decode cX5_search 88 = .ok (.ifCond .lt 57, 3) := by decide +kernel
theorem dX5_search_91 : decode cX5_search 91 = .ok (.iload 4, 2) := by decide +kernel
theorem dX5_search_93 : decode cX5_search 93 = .ok (.aload_n 0, 1) := by decide +kernel
theorem dX5_search_94 : decode cX5_search 94 = .ok (.getfield 67, 3) := by decide +kernel
theorem dX5_search_97 : decode cX5_search 97 = .ok (.iload_n 1, 1) := by decide +kernel
theorem dX5_search_98 : decode cX5_search 98 = .ok (.isub, 1) := by decide +kernel
theorem dX5_search_99 : decode cX5_search 99 = .ok (.if_icmp .ge 46, 3) := by decide +kernel
theorem dX5_search_102 : decode cX5_search 102 = .ok (.aload_n 0, 1) := by decide +kernel
theorem dX5_search_103 : decode cX5_search 103 = .ok (.getfield 39, 3) := by decide +kernel
theorem dX5_search_106 : decode cX5_search 106 = .ok (.iload_n 1, 1) := by decide +kernel
theorem dX5_search_107 : decode cX5_search 107 = .ok (.aaload, 1) := by decide +kernel
theorem dX5_search_108 : decode cX5_search 108 = .ok (.aload_n 0, 1) := by decide +kernel
theorem dX5_search_109 : decode cX5_search 109 = .ok (.getfield 27, 3) := by decide +kernel
theorem dX5_search_112 : decode cX5_search 112 = .ok (.iload_n 1, 1) := by decide +kernel
theorem dX5_search_113 : decode cX5_search 113 = .ok (.aaload, 1) := by decide +kernel
theorem dX5_search_114 : decode cX5_search 114 = .ok (.aload_n 0, 1) := by decide +kernel
theorem dX5_search_115 : decode cX5_search 115 = .ok (.getfield 33, 3) := by decide +kernel
theorem dX5_search_118 : decode cX5_search 118 = .ok (.iload_n 1, 1) := by decide +kernel
theorem dX5_search_119 : decode cX5_search 119 = .ok (.aaload, 1) := by decide +kernel
theorem dX5_search_120 : decode cX5_search 120 = .ok (.aload_n 0, 1) := by decide +kernel
theorem dX5_search_121 : decode cX5_search 121 = .ok (.getfield 21, 3) := by decide +kernel
theorem dX5_search_124 : decode cX5_search 124 = .ok (.iload_n 3, 1) := by decide +kernel
theorem dX5_search_125 : decode cX5_search 125 = .ok (.invokevirtual 112, 3) := by decide +kernel
theorem dX5_search_128 : decode cX5_search 128 = .ok (.ifCond .eq 17, 3) := by decide +kernel
theorem dX5_search_131 : decode cX5_search 131 = .ok (.aload_n 0, 1) := by decide +kernel
theorem dX5_search_132 : decode cX5_search 132 = .ok (.getfield 47, 3) := by decide +kernel
theorem dX5_search_135 : decode cX5_search 135 = .ok (.iload_n 1, 1) := by decide +kernel
theorem dX5_search_136 : decode cX5_search 136 = .ok (.iload_n 3, 1) := by decide +kernel
theorem dX5_search_137 : decode cX5_search 137 = .ok (.iastore, 1) := by decide +kernel
theorem dX5_search_138 : decode cX5_search 138 = .ok (.aload_n 0, 1) := by decide +kernel
theorem dX5_search_139 : decode cX5_search 139 = .ok (.iload_n 1, 1) := by decide +kernel
theorem dX5_search_140 : decode cX5_search 140 = .ok (.iload 4, 2) := by decide +kernel
theorem dX5_search_142 : decode cX5_search 142 = .ok (.invokevirtual 116, 3) := by decide +kernel
theorem dX5_search_145 : decode cX5_search 145 = .ok (.iinc 3 1, 3) := by decide +kernel
theorem dX5_search_148 : decode cX5_search 148 = .ok (.goto (-94), 3) := by decide +kernel
theorem dX5_search_151 : decode cX5_search 151 = .ok (.return_, 1) := by decide +kernel
theorem dX5_searchBehind_0 : decode cX5_searchBehind 0 = .ok (.aload_n 0, 1) := by decide +kernel
theorem dX5_searchBehind_1 : decode cX5_searchBehind 1 = .ok (.getfield 21, 3) := by decide +kernel
theorem dX5_searchBehind_4 : decode cX5_searchBehind 4 = .ok (.getfield 119, 3) := by decide +kernel
theorem dX5_searchBehind_7 : decode cX5_searchBehind 7 = .ok (.istore_n 3, 1) := by decide +kernel
theorem dX5_searchBehind_8 : decode cX5_searchBehind 8 = .ok (.aload_n 0, 1) := by decide +kernel
theorem dX5_searchBehind_9 : decode cX5_searchBehind 9 = .ok (.getfield 21, 3) := by decide +kernel
theorem dX5_searchBehind_12 : decode cX5_searchBehind 12 = .ok (.aload_n 0, 1) := by decide +kernel
theorem dX5_searchBehind_13 : decode cX5_searchBehind 13 = .ok (.getfield 27, 3) := by decide +kernel
theorem dX5_searchBehind_16 : decode cX5_searchBehind 16 = .ok (.iload_n 1, 1) := by decide +kernel
theorem dX5_searchBehind_17 : decode cX5_searchBehind 17 = .ok (.aaload, 1) := by decide +kernel
theorem dX5_searchBehind_18 : decode cX5_searchBehind 18 = .ok (.aload_n 0, 1) := by decide +kernel
theorem dX5_searchBehind_19 : decode cX5_searchBehind 19 = .ok (.getfield 33, 3) := by decide +kernel
theorem dX5_searchBehind_22 : decode cX5_searchBehind 22 = .ok (.iload_n 1, 1) := by decide +kernel
theorem dX5_searchBehind_23 : decode cX5_searchBehind 23 = .ok (.aaload, 1) := by decide +kernel
theorem dX5_searchBehind_24 : decode cX5_searchBehind 24 = .ok (.aload_n 0, 1) := by decide +kernel
theorem dX5_searchBehind_25 : decode cX5_searchBehind 25 = .ok (.getfield 39, 3) := by decide +kernel
theorem dX5_searchBehind_28 : decode cX5_searchBehind 28 = .ok (.iload_n 1, 1) := by decide +kernel
theorem dX5_searchBehind_29 : decode cX5_searchBehind 29 = .ok (.aaload, 1) := by decide +kernel
theorem dX5_searchBehind_30 : decode cX5_searchBehind 30 = .ok (.invokevirtual 120, 3) := by decide +kernel
theorem dX5_searchBehind_33 : decode cX5_searchBehind 33 = .ok (.aload_n 0, 1) := by decide +kernel
theorem dX5_searchBehind_34 : decode cX5_searchBehind 34 = .ok (.iload_n 1, 1) := by decide +kernel
theorem dX5_searchBehind_35 : decode cX5_searchBehind 35 = .ok (.iconst 1, 1) := by decide +kernel
theorem dX5_searchBehind_36 : decode cX5_searchBehind 36 = .ok (.invokevirtual 124, 3) := by decide +kernel
theorem dX5_searchBehind_39 : decode cX5_searchBehind 39 = .ok (.aload_n 0, 1) := by decide +kernel
theorem dX5_searchBehind_40 : decode cX5_searchBehind 40 = .ok (.iload_n 1, 1) := by decide +kernel
theorem dX5_searchBehind_41 : decode cX5_searchBehind 41 = .ok (.iconst 1, 1) := by decide +kernel
theorem dX5_searchBehind_42 : decode cX5_searchBehind 42 = .ok (.iadd, 1) := by decide +kernel
theorem dX5_searchBehind_43 : decode cX5_searchBehind 43 = .ok (.iload_n 2, 1) := by decide +kernel
theorem dX5_searchBehind_44 : decode cX5_searchBehind 44 = .ok (.invokevirtual 83, 3) := by decide +kernel
theorem dX5_searchBehind_47 : decode cX5_searchBehind 47 = .ok (.aload_n 0, 1) := by decide +kernel
theorem dX5_searchBehind_48 : decode cX5_searchBehind 48 = .ok (.iload_n 1, 1) := by decide +kernel
theorem dX5_searchBehind_49 : decode cX5_searchBehind 49 = .ok (.iconst (-1), 1) := by decide +kernel
theorem dX5_searchBehind_50 : decode cX5_searchBehind 50 = .ok (.invokevirtual 124, 3) := by decide +kernel
theorem dX5_searchBehind_53 : decode cX5_searchBehind 53 = .ok (.aload_n 0, 1) := by decide +kernel
theorem dX5_searchBehind_54 : decode cX5_searchBehind 54 = .ok (.getfield 21, 3) := by decide +kernel
theorem dX5_searchBehind_57 : decode cX5_searchBehind 57 = .ok (.iload_n 3, 1) := by decide +kernel
theorem dX5_searchBehind_58 : decode cX5_searchBehind 58 = .ok (.putfield 119, 3) := by decide +kernel
theorem dX5_searchBehind_61 : decode cX5_searchBehind 61 = .ok (.return_, 1) := by decide +kernel
theorem dX5_charge_0 : decode cX5_charge 0 = .ok (.iconst 0, 1) := by decide +kernel
theorem dX5_charge_1 : decode cX5_charge 1 = .ok (.istore_n 3, 1) := by decide +kernel
theorem dX5_charge_2 : decode cX5_charge 2 = .ok (.iload_n 3, 1) := by decide +kernel
theorem dX5_charge_3 : decode cX5_charge 3 = .ok (.aload_n 0, 1) := by decide +kernel
theorem dX5_charge_4 : decode cX5_charge 4 = .ok (.getfield 63, 3) := by decide +kernel
theorem dX5_charge_7 : decode cX5_charge 7 = .ok (.if_icmp .ge 36, 3) := by decide +kernel
theorem dX5_charge_10 : decode cX5_charge 10 = .ok (.aload_n 0, 1) := by decide +kernel
theorem dX5_charge_11 : decode cX5_charge 11 = .ok (.getfield 53, 3) := by decide +kernel
theorem dX5_charge_14 : decode cX5_charge 14 = .ok (.iload_n 3, 1) := by decide +kernel
theorem dX5_charge_15 : decode cX5_charge 15 = .ok (.dup2, 1) := by decide +kernel
theorem dX5_charge_16 : decode cX5_charge 16 = .ok (.iaload, 1) := by decide +kernel
theorem dX5_charge_17 : decode cX5_charge 17 = .ok (.iload_n 2, 1) := by decide +kernel
theorem dX5_charge_18 : decode cX5_charge 18 = .ok (.aload_n 0, 1) := by decide +kernel
theorem dX5_charge_19 : decode cX5_charge 19 = .ok (.getfield 39, 3) := by decide +kernel
theorem dX5_charge_22 : decode cX5_charge 22 = .ok (.iload_n 1, 1) := by decide +kernel
theorem dX5_charge_23 : decode cX5_charge 23 = .ok (.aaload, 1) := by decide +kernel
theorem dX5_charge_24 : decode cX5_charge 24 = .ok (.aload_n 0, 1) := by decide +kernel
theorem dX5_charge_25 : decode cX5_charge 25 = .ok (.getfield 33, 3) := by decide +kernel
theorem dX5_charge_28 : decode cX5_charge 28 = .ok (.iload_n 1, 1) := by decide +kernel
theorem dX5_charge_29 : decode cX5_charge 29 = .ok (.aaload, 1) := by decide +kernel
theorem dX5_charge_30 : decode cX5_charge 30 = .ok (.iload_n 3, 1) := by decide +kernel
theorem dX5_charge_31 : decode cX5_charge 31 = .ok (.invokevirtual 127, 3) := by decide +kernel
theorem dX5_charge_34 : decode cX5_charge 34 = .ok (.imul, 1) := by decide +kernel
theorem dX5_charge_35 : decode cX5_charge 35 = .ok (.iadd, 1) := by decide +kernel
theorem dX5_charge_36 : decode cX5_charge 36 = .ok (.iastore, 1) := by decide +kernel
theorem dX5_charge_37 : decode cX5_charge 37 = .ok (.iinc 3 1, 3) := by decide +kernel
theorem dX5_charge_40 : decode cX5_charge 40 = .ok (.goto (-38), 3) := by decide +kernel
theorem dX5_charge_43 : decode cX5_charge 43 = .ok (.return_, 1) := by decide +kernel
theorem dX6_init_0 : decode cX6_init 0 = .ok (.aload_n 0, 1) := by decide +kernel
theorem dX6_init_1 : decode cX6_init 1 = .ok (.invokespecial 3, 3) := by decide +kernel
theorem dX6_init_4 : decode cX6_init 4 = .ok (.aload_n 0, 1) := by decide +kernel
theorem dX6_init_5 : decode cX6_init 5 = .ok (.aload_n 1, 1) := by decide +kernel
theorem dX6_init_6 : decode cX6_init 6 = .ok (.putfield 9, 3) := by decide +kernel
theorem dX6_init_9 : decode cX6_init 9 = .ok (.aload_n 0, 1) := by decide +kernel
theorem dX6_init_10 : decode cX6_init 10 = .ok (.iload_n 2, 1) := by decide +kernel
theorem dX6_init_11 : decode cX6_init 11 = .ok (.putfield 15, 3) := by decide +kernel
theorem dX6_init_14 : decode cX6_init 14 = .ok (.aload_n 0, 1) := by decide +kernel
theorem dX6_init_15 : decode cX6_init 15 = .ok (.bipush 48, 2) := by decide +kernel
theorem dX6_init_17 : decode cX6_init 17 = .ok (.newarray .byte, 2) := by decide +kernel
theorem dX6_init_19 : decode cX6_init 19 = .ok (.putfield 19, 3) := by decide +kernel
theorem dX6_init_22 : decode cX6_init 22 = .ok (.return_, 1) := by decide +kernel
theorem dX6_clearCells_0 : decode cX6_clearCells 0 = .ok (.aload_n 0, 1) := by decide +kernel
theorem dX6_clearCells_1 : decode cX6_clearCells 1 = .ok (.iload_n 1, 1) := by decide +kernel
theorem dX6_clearCells_2 : decode cX6_clearCells 2 = .ok (.putfield 23, 3) := by decide +kernel
theorem dX6_clearCells_5 : decode cX6_clearCells 5 = .ok (.aload_n 0, 1) := by decide +kernel
theorem dX6_clearCells_6 : decode cX6_clearCells 6 = .ok (.getfield 19, 3) := by decide +kernel
theorem dX6_clearCells_9 : decode cX6_clearCells 9 = .ok (.iconst 0, 1) := by decide +kernel
theorem dX6_clearCells_10 : decode cX6_clearCells 10 = .ok (.invokestatic 26, 3) := by decide +kernel
theorem dX6_clearCells_13 : decode cX6_clearCells 13 = .ok (.return_, 1) := by decide +kernel
theorem dX6_cellAt_0 : decode cX6_cellAt 0 = .ok (.aload_n 0, 1) := by decide +kernel
theorem dX6_cellAt_1 : decode cX6_cellAt 1 = .ok (.getfield 23, 3) := by decide +kernel
theorem dX6_cellAt_4 : decode cX6_cellAt 4 = .ok (.ifCond .ne 5, 3) := by decide +kernel
theorem dX6_cellAt_7 : decode cX6_cellAt 7 = .ok (.iconst 0, 1) := by decide +kernel
theorem dX6_cellAt_8 : decode cX6_cellAt 8 = .ok (.ireturn, 1) := by decide +kernel
theorem dX6_cellAt_9 : decode cX6_cellAt 9 = .ok (.aload_n 0, 1) := by decide +kernel
theorem dX6_cellAt_10 : decode cX6_cellAt 10 = .ok (.getfield 19, 3) := by decide +kernel
theorem dX6_cellAt_13 : decode cX6_cellAt 13 = .ok (.iload_n 1, 1) := by decide +kernel
theorem dX6_cellAt_14 : decode cX6_cellAt 14 = .ok (.bipush 48, 2) := by decide +kernel
theorem dX6_cellAt_16 : decode cX6_cellAt 16 = .ok (.invokestatic 32, 3) := by decide +kernel
theorem dX6_cellAt_19 : decode cX6_cellAt 19 = .ok (.aload_n 0, 1) := by decide +kernel
theorem dX6_cellAt_20 : decode cX6_cellAt 20 = .ok (.getfield 23, 3) := by decide +kernel
theorem dX6_cellAt_23 : decode cX6_cellAt 23 = .ok (.iconst 1, 1) := by decide +kernel
theorem dX6_cellAt_24 : decode cX6_cellAt 24 = .ok (.isub, 1) := by decide +kernel
theorem dX6_cellAt_25 : decode cX6_cellAt 25 = .ok (.invokestatic 38, 3) := by decide +kernel
theorem dX6_cellAt_28 : decode cX6_cellAt 28 = .ok (.baload, 1) := by decide +kernel
theorem dX6_cellAt_29 : decode cX6_cellAt 29 = .ok (.ireturn, 1) := by decide +kernel
theorem dX6_spanAt_0 : decode cX6_spanAt 0 = .ok (.aload_n 0, 1) := by decide +kernel
theorem dX6_spanAt_1 : decode cX6_spanAt 1 = .ok (.getfield 41, 3) := by decide +kernel
theorem dX6_spanAt_4 : decode cX6_spanAt 4 = .ok (.astore_n 3, 1) := by decide +kernel
theorem dX6_spanAt_5 : decode cX6_spanAt 5 = .ok (.aload_n 3, 1) := by decide +kernel
theorem dX6_spanAt_6 : decode cX6_spanAt 6 = .ok (.ifnull 37, 3) := by decide +kernel
theorem dX6_spanAt_9 : decode cX6_spanAt 9 = .ok (.aload_n 3, 1) := by decide +kernel
theorem dX6_spanAt_10 : decode cX6_spanAt 10 = .ok (.getfield 45, 3) := by decide +kernel
theorem dX6_spanAt_13 : decode cX6_spanAt 13 = .ok (.iload_n 2, 1) := by decide +kernel
theorem dX6_spanAt_14 : decode cX6_spanAt 14 = .ok (.if_icmp .ge 21, 3) := by decide +kernel
theorem dX6_spanAt_17 : decode cX6_spanAt 17 = .ok (.aload_n 3, 1) := by decide +kernel
theorem dX6_spanAt_18 : decode cX6_spanAt 18 = .ok (.getfield 50, 3) := by decide +kernel
theorem dX6_spanAt_21 : decode cX6_spanAt 21 = .ok (.iload_n 1, 1) := by decide +kernel
theorem dX6_spanAt_22 : decode cX6_spanAt 22 = .ok (.if_icmp .gt 13, 3) := by decide +kernel
theorem dX6_spanAt_25 : decode cX6_spanAt 25 = .ok (.iload_n 1, 1) := by decide +kernel
theorem dX6_spanAt_26 : decode cX6_spanAt 26 = .ok (.aload_n 3, 1) := by decide +kernel
theorem dX6_spanAt_27 : decode cX6_spanAt 27 = .ok (.getfield 53, 3) := by decide +kernel
theorem dX6_spanAt_30 : decode cX6_spanAt 30 = .ok (.if_icmp .ge 5, 3) := by decide +kernel
theorem dX6_spanAt_33 : decode cX6_spanAt 33 = .ok (.aload_n 3, 1) := by decide +kernel
theorem dX6_spanAt_34 : decode cX6_spanAt 34 = .ok (.areturn, 1) := by decide +kernel
theorem dX6_spanAt_35 : decode cX6_spanAt 35 = .ok (.aload_n 3, 1) := by decide +kernel
theorem dX6_spanAt_36 : decode cX6_spanAt 36 = .ok (.getfield 56, 3) := by decide +kernel
theorem dX6_spanAt_39 : decode cX6_spanAt 39 = .ok (.astore_n 3, 1) := by decide +kernel
theorem dX6_spanAt_40 : decode cX6_spanAt 40 = .ok (.goto (-35), 3) := by decide +kernel
theorem dX6_spanAt_43 : decode cX6_spanAt 43 = .ok (.aconst_null, 1) := by decide +kernel
theorem dX6_spanAt_44 : decode cX6_spanAt 44 = .ok (.areturn, 1) := by decide +kernel
theorem dX6_hindrance_0 : decode cX6_hindrance 0 = .ok (.iconst 0, 1) := by decide +kernel
theorem dX6_hindrance_1 : decode cX6_hindrance 1 = .ok (.istore 4, 2) := by decide +kernel
theorem dX6_hindrance_3 : decode cX6_hindrance 3 = .ok (.iload 4, 2) := by decide +kernel
theorem dX6_hindrance_5 : decode cX6_hindrance 5 = .ok (.iload_n 2, 1) := by decide +kernel
theorem dX6_hindrance_6 : decode cX6_hindrance 6 = .ok (.if_icmp .ge 28, 3) := by decide +kernel
theorem dX6_hindrance_9 : decode cX6_hindrance 9 = .ok (.aload_n 0, 1) := by decide +kernel
theorem dX6_hindrance_10 : decode cX6_hindrance 10 = .ok (.iload_n 1, 1) := by decide +kernel
theorem dX6_hindrance_11 : decode cX6_hindrance 11 = .ok (.iload 4, 2) := by decide +kernel
theorem dX6_hindrance_13 : decode cX6_hindrance 13 = .ok (.iadd, 1) := by decide +kernel
theorem dX6_hindrance_14 : decode cX6_hindrance 14 = .ok (.iload_n 3, 1) := by decide +kernel
theorem dX6_hindrance_15 : decode cX6_hindrance 15 = .ok (.invokevirtual 59, 3) := by decide +kernel
theorem dX6_hindrance_18 : decode cX6_hindrance 18 = .ok (.istore 5, 2) := by decide +kernel
theorem dX6_hindrance_20 : decode cX6_hindrance 20 = .ok (.iload 5, 2) := by decide +kernel
theorem dX6_hindrance_22 : decode cX6_hindrance 22 = .ok (.ifCond .eq 6, 3) := by decide +kernel
theorem dX6_hindrance_25 : decode cX6_hindrance 25 = .ok (.iload 5, 2) := by decide +kernel
theorem dX6_hindrance_27 : decode cX6_hindrance 27 = .ok (.ireturn, 1) := by decide +kernel
theorem dX6_hindrance_28 : decode cX6_hindrance 28 = .ok (.iinc 4 1, 3) := by decide +kernel
theorem dX6_hindrance_31 : decode cX6_hindrance 31 = .ok (.goto (-28), 3) := by decide +kernel
theorem dX6_hindrance_34 : decode cX6_hindrance 34 = .ok (.iconst 0, 1) := by decide +kernel
theorem dX6_hindrance_35 : decode cX6_hindrance 35 = .ok (.ireturn, 1) := by decide +kernel
theorem dX6_hindranceAt_0 : decode cX6_hindranceAt 0 = .ok (.iload_n 1, 1) := by decide +kernel
theorem dX6_hindranceAt_1 : decode cX6_hindranceAt 1 = .ok (.aload_n 0, 1) := by decide +kernel
theorem dX6_hindranceAt_2 : decode cX6_hindranceAt 2 = .ok (.getfield 9, 3) := by decide +kernel
theorem dX6_hindranceAt_5 : decode cX6_hindranceAt 5 = .ok (.iload_n 1, 1) := by decide +kernel
theorem dX6_hindranceAt_6 : decode cX6_hindranceAt 6 = .ok (.iload_n 2, 1) := by decide +kernel
theorem dX6_hindranceAt_7 : decode cX6_hindranceAt 7 = .ok (.invokevirtual 62, 3) := by decide +kernel
theorem dX6_hindranceAt_10 : decode cX6_hindranceAt 10 = .ok (.iadd, 1) := by decide +kernel
theorem dX6_hindranceAt_11 : decode cX6_hindranceAt 11 = .ok (.istore_n 3, 1) := by decide +kernel
theorem dX6_hindranceAt_12 : decode cX6_hindranceAt 12 = .ok (.iload_n 3, 1) := by decide +kernel
theorem dX6_hindranceAt_13 : decode cX6_hindranceAt 13 = .ok (.bipush 48, 2) := by decide +kernel
theorem dX6_hindranceAt_15 : decode cX6_hindranceAt 15 = .ok (.invokestatic 67, 3) := by decide +kernel
theorem dX6_hindranceAt_18 : decode cX6_hindranceAt 18 = .ok (.istore 4, 2) := by decide +kernel
theorem dX6_hindranceAt_20 : decode cX6_hindranceAt 20 = .ok (.aload_n 0, 1) := by decide +kernel
theorem dX6_hindranceAt_21 : decode cX6_hindranceAt 21 = .ok (.iload_n 3, 1) := by decide +kernel
theorem dX6_hindranceAt_22 : decode cX6_hindranceAt 22 = .ok (.invokevirtual 70, 3) := by decide +kernel
theorem dX6_hindranceAt_25 : decode cX6_hindranceAt 25 = .ok (.iconst (-1), 1) := by decide +kernel
theorem dX6_hindranceAt_26 : decode cX6_hindranceAt 26 = .ok (.if_icmp .ne 5, 3) := by decide +kernel
theorem dX6_hindranceAt_29 : decode cX6_hindranceAt 29 = .ok (.iconst 1, 1) := by decide +kernel
theorem dX6_hindranceAt_30 : decode cX6_hindranceAt 30 = .ok (.ireturn, 1) := by decide +kernel
theorem dX6_hindranceAt_31 : decode cX6_hindranceAt 31 = .ok (.aload_n 0, 1) := by decide +kernel
theorem dX6_hindranceAt_32 : decode cX6_hindranceAt 32 = .ok (.getfield 15, 3) := by decide +kernel
theorem dX6_hindranceAt_35 : decode cX6_hindranceAt 35 = .ok (.iload 4, 2) := by decide +kernel
theorem dX6_hindranceAt_37 : decode cX6_hindranceAt 37 = .ok (.bipush 7, 2) := by decide +kernel
theorem dX6_hindranceAt_39 : decode cX6_hindranceAt 39 = .ok (.invokestatic 32, 3) := by decide +kernel
theorem dX6_hindranceAt_42 : decode cX6_hindranceAt 42 = .ok (.invokestatic 74, 3) := by decide +kernel
theorem dX6_hindranceAt_45 : decode cX6_hindranceAt 45 = .ok (.ifCond .eq 5, 3) := by decide +kernel
theorem dX6_hindranceAt_48 : decode cX6_hindranceAt 48 = .ok (.iconst 2, 1) := by decide +kernel
theorem dX6_hindranceAt_49 : decode cX6_hindranceAt 49 = .ok (.ireturn, 1) := by decide +kernel
theorem dX6_hindranceAt_50 : decode cX6_hindranceAt 50 = .ok (.aload_n 0, 1) := by decide +kernel
theorem dX6_hindranceAt_51 : decode cX6_hindranceAt 51 = .ok (.getfield 9, 3) := by decide +kernel
theorem dX6_hindranceAt_54 : decode cX6_hindranceAt 54 = .ok (.iload 4, 2) := by decide +kernel
theorem dX6_hindranceAt_56 : decode cX6_hindranceAt 56 = .ok (.iload_n 2, 1) := by decide +kernel
theorem dX6_hindranceAt_57 : decode cX6_hindranceAt 57 = .ok (.invokevirtual 78, 3) := by decide +kernel
theorem dX6_hindranceAt_60 : decode cX6_hindranceAt 60 = .ok (.ifCond .eq 5, 3) := by decide +kernel
theorem dX6_hindranceAt_63 : decode cX6_hindranceAt 63 = .ok (.iconst 3, 1) := by decide +kernel
theorem dX6_hindranceAt_64 : decode cX6_hindranceAt 64 = .ok (.ireturn, 1) := by decide +kernel
theorem dX6_hindranceAt_65 : decode cX6_hindranceAt 65 = .ok (.aload_n 0, 1) := by decide +kernel
theorem dX6_hindranceAt_66 : decode cX6_hindranceAt 66 = .ok (.iload_n 1, 1) := by decide +kernel
theorem dX6_hindranceAt_67 : decode cX6_hindranceAt 67 = .ok (.iload_n 2, 1) := by decide +kernel
theorem dX6_hindranceAt_68 : decode cX6_hindranceAt 68 = .ok (.invokevirtual 81, 3) := by decide +kernel
theorem dX6_hindranceAt_71 : decode cX6_hindranceAt 71 = .ok (.ifnull 7, 3) := by decide +kernel
theorem dX6_hindranceAt_74 : decode cX6_hindranceAt 74 = .ok (.iconst 4, 1) := by decide +kernel
theorem dX6_hindranceAt_75 : decode cX6_hindranceAt 75 = .ok (.goto 4, 3) := by decide +kernel
theorem dX6_hindranceAt_78 : decode cX6_hindranceAt 78 = .ok (.iconst 0, 1) := by decide +kernel
theorem dX6_hindranceAt_79 : decode cX6_hindranceAt 79 = .ok (.ireturn, 1) := by decide +kernel
theorem dX6_price_0 : decode cX6_price 0 = .ok (.iconst 0, 1) := by decide +kernel
theorem dX6_price_1 : decode cX6_price 1 = .ok (.istore 4, 2) := by decide +kernel
theorem dX6_price_3 : decode cX6_price 3 = .ok (.iconst 0, 1) := by decide +kernel
theorem dX6_price_4 : decode cX6_price 4 = .ok (.istore 5, 2) := by decide +kernel
theorem dX6_price_6 : decode cX6_price 6 = .ok (.iload 5, 2) := by decide +kernel
theorem dX6_price_8 : decode cX6_price 8 = .ok (.iload_n 2, 1) := by decide +kernel
theorem dX6_price_9 : decode cX6_price 9 = .ok (.if_icmp .ge 39, 3) := by decide +kernel
theorem dX6_price_12 : decode cX6_price 12 = .ok (.iload 4, 2) := by decide +kernel
theorem dX6_price_14 : decode cX6_price 14 = .ok (.iconst 0, 1) := by decide +kernel
theorem dX6_price_15 : decode cX6_price 15 = .ok (.aload_n 0, 1) := by decide +kernel
theorem dX6_price_16 : decode cX6_price 16 = .ok (.iload_n 1, 1) := by decide +kernel
theorem dX6_price_17 : decode cX6_price 17 = .ok (.iload 5, 2) := by decide +kernel
theorem dX6_price_19 : decode cX6_price 19 = .ok (.iadd, 1) := by decide +kernel
theorem dX6_price_20 : decode cX6_price 20 = .ok (.aload_n 0, 1) := by decide +kernel
theorem dX6_price_21 : decode cX6_price 21 = .ok (.getfield 9, 3) := by decide +kernel
theorem dX6_price_24 : decode cX6_price 24 = .ok (.iload_n 1, 1) := by decide +kernel
theorem dX6_price_25 : decode cX6_price 25 = .ok (.iload 5, 2) := by decide +kernel
theorem dX6_price_27 : decode cX6_price 27 = .ok (.iadd, 1) := by decide +kernel
theorem dX6_price_28 : decode cX6_price 28 = .ok (.iload_n 3, 1) := by decide +kernel
theorem dX6_price_29 : decode cX6_price 29 = .ok (.invokevirtual 62, 3) := by decide +kernel
theorem dX6_price_32 : decode cX6_price 32 = .ok (.iadd, 1) := by decide +kernel
theorem dX6_price_33 : decode cX6_price 33 = .ok (.invokevirtual 70, 3) := by decide +kernel
theorem dX6_price_36 : decode cX6_price 36 = .ok (.invokestatic 85, 3) := by decide +kernel
theorem dX6_price_39 : decode cX6_price 39 = .ok (.iadd, 1) := by decide +kernel
theorem dX6_price_40 : decode cX6_price 40 = .ok (.istore 4, 2) := by decide +kernel
theorem dX6_price_42 : decode cX6_price 42 = .ok (.iinc 5 1, 3) := by decide +kernel
theorem dX6_price_45 : decode cX6_price 45 = .ok (.goto (-39), 3) := by decide +kernel
theorem dX6_price_48 : decode cX6_price 48 = .ok (.iload 4, 2) := by decide +kernel
theorem dX6_price_50 : decode cX6_price 50 = .ok (.ireturn, 1) := by decide +kernel
theorem dX7_init_0 : decode cX7_init 0 = .ok (.aload_n 0, 1) := by decide +kernel
theorem dX7_init_1 : decode cX7_init 1 = .ok (.invokespecial 3, 3) := by decide +kernel
theorem dX7_init_4 : decode cX7_init 4 = .ok (.aload_n 0, 1) := by decide +kernel
theorem dX7_init_5 : decode cX7_init 5 = .ok (.new 9, 3) := by decide +kernel
theorem dX7_init_8 : decode cX7_init 8 = .ok (.dup, 1) := by decide +kernel
theorem dX7_init_9 : decode cX7_init 9 = .ok (.invokespecial 11, 3) := by decide +kernel
theorem dX7_init_12 : decode cX7_init 12 = .ok (.putfield 12, 3) := by decide +kernel
theorem dX7_init_15 : decode cX7_init 15 = .ok (.aload_n 0, 1) := by decide +kernel
theorem dX7_init_16 : decode cX7_init 16 = .ok (.new 18, 3) := by decide +kernel
theorem dX7_init_19 : decode cX7_init 19 = .ok (.dup, 1) := by decide +kernel
theorem dX7_init_20 : decode cX7_init 20 = .ok (.invokespecial 20, 3) := by decide +kernel
theorem dX7_init_23 : decode cX7_init 23 = .ok (.putfield 21, 3) := by decide +kernel
theorem dX7_init_26 : decode cX7_init 26 = .ok (.aload_n 0, 1) := by decide +kernel
theorem dX7_init_27 : decode cX7_init 27 = .ok (.bipush 6, 2) := by decide +kernel
theorem dX7_init_29 : decode cX7_init 29 = .ok (.newarray .int, 2) := by decide +kernel
theorem dX7_init_31 : decode cX7_init 31 = .ok (.putfield 25, 3) := by decide +kernel
theorem dX7_init_34 : decode cX7_init 34 = .ok (.aload_n 0, 1) := by decide +kernel
theorem dX7_init_35 : decode cX7_init 35 = .ok (.bipush 6, 2) := by decide +kernel
theorem dX7_init_37 : decode cX7_init 37 = .ok (.newarray .int, 2) := by decide +kernel
theorem dX7_init_39 : decode cX7_init 39 = .ok (.putfield 29, 3) := by decide +kernel
theorem dX7_init_42 : decode cX7_init 42 = .ok (.aload_n 0, 1) := by decide +kernel
theorem dX7_init_43 : decode cX7_init 43 = .ok (.bipush 6, 2) := by decide +kernel
theorem dX7_init_45 : decode cX7_init 45 = .ok (.newarray .int, 2) := by decide +kernel
theorem dX7_init_47 : decode cX7_init 47 = .ok (.putfield 32, 3) := by decide +kernel
theorem dX7_init_50 : decode cX7_init 50 = .ok (.aload_n 0, 1) := by decide +kernel
theorem dX7_init_51 : decode cX7_init 51 = .ok (.sipush 1080, 3) := by decide +kernel
theorem dX7_init_54 : decode cX7_init 54 = .ok (.newarray .int, 2) := by decide +kernel
theorem dX7_init_56 : decode cX7_init 56 = .ok (.putfield 35, 3) := by decide +kernel
theorem dX7_init_59 : decode cX7_init 59 = .ok (.aload_n 0, 1) := by decide +kernel
theorem dX7_init_60 : decode cX7_init 60 = .ok (.bipush 84, 2) := by decide +kernel
theorem dX7_init_62 : decode cX7_init 62 = .ok (.newarray .int, 2) := by decide +kernel
theorem dX7_init_64 : decode cX7_init 64 = .ok (.putfield 38, 3) := by decide +kernel
theorem dX7_init_67 : decode cX7_init 67 = .ok (.aload_n 0, 1) := by decide +kernel
theorem dX7_init_68 : decode cX7_init 68 = .ok (.bipush 12, 2) := by decide +kernel
theorem dX7_init_70 : decode cX7_init 70 = .ok (.newarray .int, 2) := by decide +kernel
theorem dX7_init_72 : decode cX7_init 72 = .ok (.putfield 41, 3) := by decide +kernel
theorem dX7_init_75 : decode cX7_init 75 = .ok (.aload_n 0, 1) := by decide +kernel
theorem dX7_init_76 : decode cX7_init 76 = .ok (.bipush 12, 2) := by decide +kernel
theorem dX7_init_78 : decode cX7_init 78 = .ok (.newarray .int, 2) := by decide +kernel
theorem dX7_init_80 : decode cX7_init 80 = .ok (.putfield 44, 3) := by decide +kernel
theorem dX7_init_83 : decode cX7_init 83 = .ok (.return_, 1) := by decide +kernel
theorem dX7_begin_0 : decode cX7_begin 0 = .ok (.aload_n 0, 1) := by decide +kernel
theorem dX7_begin_1 : decode cX7_begin 1 = .ok (.iload_n 1, 1) := by decide +kernel
theorem dX7_begin_2 : decode cX7_begin 2 = .ok (.bipush 6, 2) := by decide +kernel
theorem dX7_begin_4 : decode cX7_begin 4 = .ok (.invokestatic 47, 3) := by decide +kernel
theorem dX7_begin_7 : decode cX7_begin 7 = .ok (.putfield 53, 3) := by decide +kernel
theorem dX7_begin_10 : decode cX7_begin 10 = .ok (.aload_n 0, 1) := by decide +kernel
theorem dX7_begin_11 : decode cX7_begin 11 = .ok (.iload_n 2, 1) := by decide +kernel
theorem dX7_begin_12 : decode cX7_begin 12 = .ok (.bipush 12, 2) := by decide +kernel
theorem dX7_begin_14 : decode cX7_begin 14 = .ok (.invokestatic 47, 3) := by decide +kernel
theorem dX7_begin_17 : decode cX7_begin 17 = .ok (.putfield 57, 3) := by decide +kernel
theorem dX7_begin_20 : decode cX7_begin 20 = .ok (.aload_n 0, 1) := by decide +kernel
theorem dX7_begin_21 : decode cX7_begin 21 = .ok (.getfield 12, 3) := by decide +kernel
theorem dX7_begin_24 : decode cX7_begin 24 = .ok (.aload_n 0, 1) := by decide +kernel
theorem dX7_begin_25 : decode cX7_begin 25 = .ok (.getfield 57, 3) := by decide +kernel
theorem dX7_begin_28 : decode cX7_begin 28 = .ok (.invokevirtual 60, 3) := by decide +kernel
theorem dX7_begin_31 : decode cX7_begin 31 = .ok (.aload_n 0, 1) := by decide +kernel
theorem dX7_begin_32 : decode cX7_begin 32 = .ok (.getfield 41, 3) := by decide +kernel
theorem dX7_begin_35 : decode cX7_begin 35 = .ok (.iconst 0, 1) := by decide +kernel
theorem dX7_begin_36 : decode cX7_begin 36 = .ok (.invokestatic 64, 3) := by decide +kernel
theorem dX7_begin_39 : decode cX7_begin 39 = .ok (.return_, 1) := by decide +kernel
theorem dX7_priceAt_0 : decode cX7_priceAt 0 = .ok (.iload_n 0, 1) := by decide +kernel
theorem dX7_priceAt_1 : decode cX7_priceAt 1 = .ok (.bipush 15, 2) := by decide +kernel
theorem dX7_priceAt_3 : decode cX7_priceAt 3 = .ok (.imul, 1) := by decide +kernel
theorem dX7_priceAt_4 : decode cX7_priceAt 4 = .ok (.iload_n 1, 1) := by decide +kernel
theorem dX7_priceAt_5 : decode cX7_priceAt 5 = .ok (.iadd, 1) := by decide +kernel
theorem dX7_priceAt_6 : decode cX7_priceAt 6 = .ok (.bipush 12, 2) := by decide +kernel
theorem dX7_priceAt_8 : decode cX7_priceAt 8 = .ok (.imul, 1) := by decide +kernel
theorem dX7_priceAt_9 : decode cX7_priceAt 9 = .ok (.ireturn, 1) := by decide +kernel
theorem dX7_rate_0 : decode cX7_rate 0 = .ok (.aload_n 0, 1) := by decide +kernel
theorem dX7_rate_1 : decode cX7_rate 1 = .ok (.getfield 32, 3) := by decide +kernel
theorem dX7_rate_4 : decode cX7_rate 4 = .ok (.iload_n 1, 1) := by decide +kernel
theorem dX7_rate_5 : decode cX7_rate 5 = .ok (.iconst 0, 1) := by decide +kernel
theorem dX7_rate_6 : decode cX7_rate 6 = .ok (.iastore, 1) := by decide +kernel
theorem dX7_rate_7 : decode cX7_rate 7 = .ok (.iconst 0, 1) := by decide +kernel
theorem dX7_rate_8 : decode cX7_rate 8 = .ok (.istore 5, 2) := by decide +kernel
theorem dX7_rate_10 : decode cX7_rate 10 = .ok (.iload 5, 2) := by decide +kernel
theorem dX7_rate_12 : decode cX7_rate 12 = .ok (.aload_n 2, 1) := by decide +kernel
theorem dX7_rate_13 : decode cX7_rate 13 = .ok (.invokevirtual 70, 3) := by decide +kernel
theorem dX7_rate_16 : decode cX7_rate 16 = .ok (.if_icmp .ge 80, 3) := by decide +kernel
theorem dX7_rate_19 : decode cX7_rate 19 = .ok (.aload_n 0, 1) := by decide +kernel
theorem dX7_rate_20 : decode cX7_rate 20 = .ok (.getfield 21, 3) := by decide +kernel
theorem dX7_rate_23 : decode cX7_rate 23 = .ok (.aload_n 2, 1) := by decide +kernel
theorem dX7_rate_24 : decode cX7_rate 24 = .ok (.aload_n 3, 1) := by decide +kernel
theorem dX7_rate_25 : decode cX7_rate 25 = .ok (.aload 4, 2) := by decide +kernel
theorem dX7_rate_27 : decode cX7_rate 27 = .ok (.iload 5, 2) := by decide +kernel
theorem dX7_rate_29 : decode cX7_rate 29 = .ok (.invokevirtual 76, 3) := by decide +kernel
theorem dX7_rate_32 : decode cX7_rate 32 = .ok (.ifCond .eq 58, 3) := by decide +kernel
theorem dX7_rate_35 : decode cX7_rate 35 = .ok (.aload_n 0, 1) := by decide +kernel
theorem dX7_rate_36 : decode cX7_rate 36 = .ok (.getfield 32, 3) := by decide +kernel
theorem dX7_rate_39 : decode cX7_rate 39 = .ok (.iload_n 1, 1) := by decide +kernel
theorem dX7_rate_40 : decode cX7_rate 40 = .ok (.dup2, 1) := by decide +kernel
theorem dX7_rate_41 : decode cX7_rate 41 = .ok (.iaload, 1) := by decide +kernel
theorem dX7_rate_42 : decode cX7_rate 42 = .ok (.iconst 1, 1) := by decide +kernel
theorem dX7_rate_43 : decode cX7_rate 43 = .ok (.iload 5, 2) := by decide +kernel
theorem dX7_rate_45 : decode cX7_rate 45 = .ok (.ishl, 1) := by decide +kernel
theorem dX7_rate_46 : decode cX7_rate 46 = .ok (.ior, 1) := by decide +kernel
theorem dX7_rate_47 : decode cX7_rate 47 = .ok (.iastore, 1) := by decide +kernel
theorem dX7_rate_48 : decode cX7_rate 48 = .ok (.iconst 0, 1) := by decide +kernel
theorem dX7_rate_49 : decode cX7_rate 49 = .ok (.istore 6, 2) := by decide +kernel
theorem dX7_rate_51 : decode cX7_rate 51 = .ok (.iload 6, 2) := by decide +kernel
theorem dX7_rate_53 : decode cX7_rate 53 = .ok (.aload_n 0, 1) := by decide +kernel
theorem dX7_rate_54 : decode cX7_rate 54 = .ok (.getfield 57, 3) := by decide +kernel
theorem dX7_rate_57 : decode cX7_rate 57 = .ok (.if_icmp .ge 33, 3) := by decide +kernel
theorem dX7_rate_60 : decode cX7_rate 60 = .ok (.aload_n 0, 1) := by decide +kernel
theorem dX7_rate_61 : decode cX7_rate 61 = .ok (.getfield 35, 3) := by decide +kernel
theorem dX7_rate_64 : decode cX7_rate 64 = .ok (.iload_n 1, 1) := by decide +kernel
theorem dX7_rate_65 : decode cX7_rate 65 = .ok (.iload 5, 2) := by decide +kernel
theorem dX7_rate_67 : decode cX7_rate 67 = .ok (.invokestatic 80, 3) := by decide +kernel
theorem dX7_rate_70 : decode cX7_rate 70 = .ok (.iload 6, 2) := by decide +kernel
theorem dX7_rate_72 : decode cX7_rate 72 = .ok (.iadd, 1) := by decide +kernel
theorem dX7_rate_73 : decode cX7_rate 73 = .ok (.aload_n 0, 1) := by decide +kernel
theorem dX7_rate_74 : decode cX7_rate 74 = .ok (.getfield 21, 3) := by decide +kernel
theorem dX7_rate_77 : decode cX7_rate 77 = .ok (.aload_n 3, 1) := by decide +kernel
theorem dX7_rate_78 : decode cX7_rate 78 = .ok (.iload 6, 2) := by decide +kernel
theorem dX7_rate_80 : decode cX7_rate 80 = .ok (.invokevirtual 83, 3) := by decide +kernel
theorem dX7_rate_83 : decode cX7_rate 83 = .ok (.iastore, 1) := by decide +kernel
theorem dX7_rate_84 : decode cX7_rate 84 = .ok (.iinc 6 1, 3) := by decide +kernel
theorem dX7_rate_87 : decode cX7_rate 87 = .ok (.goto (-36), 3) := by decide +kernel
theorem dX7_rate_90 : decode cX7_rate 90 = .ok (.iinc 5 1, 3) := by decide +kernel
theorem dX7_rate_93 : decode cX7_rate 93 = .ok (.goto (-83), 3) := by decide +kernel
theorem dX7_rate_96 : decode cX7_rate 96 = .ok (.aload_n 0, 1) := by decide +kernel
theorem dX7_rate_97 : decode cX7_rate 97 = .ok (.getfield 32, 3) := by decide +kernel
theorem dX7_rate_100 : decode cX7_rate 100 = .ok (.iload_n 1, 1) := by decide +kernel
theorem dX7_rate_101 : decode cX7_rate 101 = .ok (.iaload, 1) := by decide +kernel
theorem dX7_rate_102 : decode cX7_rate 102 = .ok (.ifCond .eq 7, 3) := by decide +kernel
theorem dX7_rate_105 : decode cX7_rate 105 = .ok (.iconst 1, 1) := by decide +kernel
theorem dX7_rate_106 : decode cX7_rate 106 = .ok (.goto 4, 3) := by decide +kernel
theorem dX7_rate_109 : decode cX7_rate 109 = .ok (.iconst 0, 1) := by decide +kernel
theorem dX7_rate_110 : decode cX7_rate 110 = .ok (.ireturn, 1) := by decide +kernel
theorem dX7_findBest_0 : decode cX7_findBest 0 = .ok (.aload_n 0, 1) := by decide +kernel
theorem dX7_findBest_1 : decode cX7_findBest 1 = .ok (.getfield 38, 3) := by decide +kernel
theorem dX7_findBest_4 : decode cX7_findBest 4 = .ok (.iconst 0, 1) := by decide +kernel
theorem dX7_findBest_5 : decode cX7_findBest 5 = .ok (.invokestatic 64, 3) := by decide +kernel
theorem dX7_findBest_8 : decode cX7_findBest 8 = .ok (.aload_n 0, 1) := by decide +kernel
theorem dX7_findBest_9 : decode cX7_findBest 9 = .ok (.getfield 53, 3) := by decide +kernel
theorem dX7_findBest_12 : decode cX7_findBest 12 = .ok (.iconst 1, 1) := by decide +kernel
theorem dX7_findBest_13 : decode cX7_findBest 13 = .ok (.isub, 1) := by decide +kernel
theorem dX7_findBest_14 : decode cX7_findBest 14 = .ok (.istore_n 1, 1) := by decide +kernel
theorem dX7_findBest_15 : decode cX7_findBest 15 = .ok (.iload_n 1, 1) := by decide +kernel
theorem dX7_findBest_16 : decode cX7_findBest 16 = .ok (.ifCond .lt 56, 3) := by decide +kernel
theorem dX7_findBest_19 : decode cX7_findBest 19 = .ok (.iconst 0, 1) := by decide +kernel
theorem dX7_findBest_20 : decode cX7_findBest 20 = .ok (.istore_n 2, 1) := by decide +kernel
theorem dX7_findBest_21 : decode cX7_findBest 21 = .ok (.iload_n 2, 1) := by decide +kernel
theorem dX7_findBest_22 : decode cX7_findBest 22 = .ok (.aload_n 0, 1) := by decide +kernel
theorem dX7_findBest_23 : decode cX7_findBest 23 = .ok (.getfield 57, 3) := by decide +kernel
theorem dX7_findBest_26 : decode cX7_findBest 26 = .ok (.if_icmp .ge 40, 3) := by decide +kernel
theorem dX7_findBest_29 : decode cX7_findBest 29 = .ok (.aload_n 0, 1) := by decide +kernel
theorem dX7_findBest_30 : decode cX7_findBest 30 = .ok (.getfield 38, 3) := by decide +kernel
theorem dX7_findBest_33 : decode cX7_findBest 33 = .ok (.iload_n 1, 1) := by decide +kernel
theorem dX7_findBest_34 : decode cX7_findBest 34 = .ok (.bipush 12, 2) := by decide +kernel
theorem dX7_findBest_36 : decode cX7_findBest 36 = .ok (.imul, 1) := by decide +kernel
theorem dX7_findBest_37 : decode cX7_findBest 37 = .ok (.iload_n 2, 1) := by decide +kernel
theorem dX7_findBest_38 : decode cX7_findBest 38 = .ok (.iadd, 1) := by decide +kernel
theorem dX7_findBest_39 : decode cX7_findBest 39 = .ok (.aload_n 0, 1) := by decide +kernel
theorem dX7_findBest_40 : decode cX7_findBest 40 = .ok (.getfield 38, 3) := by decide +kernel
theorem dX7_findBest_43 : decode cX7_findBest 43 = .ok (.iload_n 1, 1) := by decide +kernel
theorem dX7_findBest_44 : decode cX7_findBest 44 = .ok (.iconst 1, 1) := by decide +kernel
theorem dX7_findBest_45 : decode cX7_findBest 45 = .ok (.iadd, 1) := by decide +kernel
theorem dX7_findBest_46 : decode cX7_findBest 46 = .ok (.bipush 12, 2) := by decide +kernel
theorem dX7_findBest_48 : decode cX7_findBest 48 = .ok (.imul, 1) := by decide +kernel
theorem dX7_findBest_49 : decode cX7_findBest 49 = .ok (.iload_n 2, 1) := by decide +kernel
theorem dX7_findBest_50 : decode cX7_findBest 50 = .ok (.iadd, 1) := by decide +kernel
theorem dX7_findBest_51 : decode cX7_findBest 51 = .ok (.iaload, 1) := by decide +kernel
theorem dX7_findBest_52 : decode cX7_findBest 52 = .ok (.aload_n 0, 1) := by decide +kernel
theorem dX7_findBest_53 : decode cX7_findBest 53 = .ok (.iload_n 1, 1) := by decide +kernel
theorem dX7_findBest_54 : decode cX7_findBest 54 = .ok (.iload_n 2, 1) := by decide +kernel
theorem dX7_findBest_55 : decode cX7_findBest 55 = .ok (.invokevirtual 87, 3) := by decide +kernel
theorem dX7_findBest_58 : decode cX7_findBest 58 = .ok (.iadd, 1) := by decide +kernel
theorem dX7_findBest_59 : decode cX7_findBest 59 = .ok (.iastore, 1) := by decide +kernel
theorem dX7_findBest_60 : decode cX7_findBest 60 = .ok (.iinc 2 1, 3) := by decide +kernel
theorem dX7_findBest_63 : decode cX7_findBest 63 = .ok (.goto (-42), 3) := by decide +kernel
theorem dX7_findBest_66 : decode cX7_findBest 66 = .ok (.iinc 1 (-1), 3) := by decide +kernel
theorem dX7_findBest_69 : decode cX7_findBest 69 = .ok (.goto (-54), 3) := by decide +kernel
theorem dX7_findBest_72 : decode cX7_findBest 72 = .ok (.aload_n 0, 1) := by decide +kernel
theorem dX7_findBest_73 : decode cX7_findBest 73 = .ok (.iconst 0, 1) := by decide +kernel
theorem dX7_findBest_74 : decode cX7_findBest 74 = .ok (.invokevirtual 90, 3) := by decide +kernel
theorem dX7_findBest_77 : decode cX7_findBest 77 = .ok (.return_, 1) := by decide +kernel
theorem dX7_leastAt_0 : decode cX7_leastAt 0 = .ok (.iconst (-1), 1) := by decide +kernel
theorem dX7_leastAt_1 : decode cX7_leastAt 1 = .ok (.istore_n 3, 1) := by decide +kernel
theorem dX7_leastAt_2 : decode cX7_leastAt 2 = .ok (.iconst 0, 1) := by decide +kernel
theorem dX7_leastAt_3 : decode cX7_leastAt 3 = .ok (.istore 4, 2) := by decide +kernel
theorem dX7_leastAt_5 : decode cX7_leastAt 5 = .ok (.iload 4, 2) := by decide +kernel
theorem dX7_leastAt_7 : decode cX7_leastAt 7 = .ok (.bipush 15, 2) := by decide +kernel
theorem dX7_leastAt_9 : decode cX7_leastAt 9 = .ok (.if_icmp .ge 55, 3) := by decide +kernel
theorem dX7_leastAt_12 : decode cX7_leastAt 12 = .ok (.aload_n 0, 1) := by decide +kernel
theorem dX7_leastAt_13 : decode cX7_leastAt 13 = .ok (.getfield 32, 3) := by decide +kernel
theorem dX7_leastAt_16 : decode cX7_leastAt 16 = .ok (.iload_n 1, 1) := by decide +kernel
theorem dX7_leastAt_17 : decode cX7_leastAt 17 = .ok (.iaload, 1) := by decide +kernel
theorem dX7_leastAt_18 : decode cX7_leastAt 18 = .ok (.iload 4, 2) := by decide +kernel
theorem dX7_leastAt_20 : decode cX7_leastAt 20 = .ok (.invokestatic 93, 3) := by decide +kernel
theorem dX7_leastAt_23 : decode cX7_leastAt 23 = .ok (.ifCond .eq 35, 3) := by decide +kernel
theorem dX7_leastAt_26 : decode cX7_leastAt 26 = .ok (.aload_n 0, 1) := by decide +kernel
theorem dX7_leastAt_27 : decode cX7_leastAt 27 = .ok (.getfield 35, 3) := by decide +kernel
theorem dX7_leastAt_30 : decode cX7_leastAt 30 = .ok (.iload_n 1, 1) := by decide +kernel
theorem dX7_leastAt_31 : decode cX7_leastAt 31 = .ok (.iload 4, 2) := by decide +kernel
theorem dX7_leastAt_33 : decode cX7_leastAt 33 = .ok (.invokestatic 80, 3) := by decide +kernel
theorem dX7_leastAt_36 : decode cX7_leastAt 36 = .ok (.iload_n 2, 1) := by decide +kernel
theorem dX7_leastAt_37 : decode cX7_leastAt 37 = .ok (.iadd, 1) := by decide +kernel
theorem dX7_leastAt_38 : decode cX7_leastAt 38 = .ok (.iaload, 1) := by decide +kernel
theorem dX7_leastAt_39 : decode cX7_leastAt 39 = .ok (.istore 5, 2) := by decide +kernel
theorem dX7_leastAt_41 : decode cX7_leastAt 41 = .ok (.iload_n 3, 1) := by decide +kernel
theorem dX7_leastAt_42 : decode cX7_leastAt 42 = .ok (.iconst (-1), 1) := by decide +kernel
theorem dX7_leastAt_43 : decode cX7_leastAt 43 = .ok (.if_icmp .ne 8, 3) := by decide +kernel
theorem dX7_leastAt_46 : decode cX7_leastAt 46 = .ok (.iload 5, 2) := by decide +kernel
theorem dX7_leastAt_48 : decode cX7_leastAt 48 = .ok (.goto 9, 3) := by decide +kernel
theorem dX7_leastAt_51 : decode cX7_leastAt 51 = .ok (.iload_n 3, 1) := by decide +kernel
theorem dX7_leastAt_52 : decode cX7_leastAt 52 = .ok (.iload 5, 2) := by decide +kernel
theorem dX7_leastAt_54 : decode cX7_leastAt 54 = .ok (.invokestatic 47, 3) := by decide +kernel
theorem dX7_leastAt_57 : decode cX7_leastAt 57 = .ok (.istore_n 3, 1) := by decide +kernel
theorem dX7_leastAt_58 : decode cX7_leastAt 58 = .ok (.iinc 4 1, 3) := by decide +kernel
theorem dX7_leastAt_61 : decode cX7_leastAt 61 = .ok (.goto (-56), 3) := by decide +kernel
theorem dX7_leastAt_64 : decode cX7_leastAt 64 = .ok (.iload_n 3, 1) := by decide +kernel
theorem dX7_leastAt_65 : decode cX7_leastAt 65 = .ok (.ireturn, 1) := by decide +kernel
theorem dX7_search_0 : decode cX7_search 0 = .ok (.iconst 0, 1) := by decide +kernel
theorem dX7_search_1 : decode cX7_search 1 = .ok (.istore_n 2, 1) := by decide +kernel
theorem dX7_search_2 : decode cX7_search 2 = .ok (.iload_n 2, 1) := by decide +kernel
theorem dX7_search_3 : decode cX7_search 3 = .ok (.aload_n 0, 1) := by decide +kernel
theorem dX7_search_4 : decode cX7_search 4 = .ok (.getfield 57, 3) := by decide +kernel
theorem dX7_search_7 : decode cX7_search 7 = .ok (.if_icmp .ge 33, 3) := by decide +kernel
theorem dX7_search_10 : decode cX7_search 10 = .ok (.aload_n 0, 1) := by decide +kernel
theorem dX7_search_11 : decode cX7_search 11 = .ok (.getfield 44, 3) := by decide +kernel
theorem dX7_search_14 : decode cX7_search 14 = .ok (.iload_n 2, 1) := by decide +kernel
theorem dX7_search_15 : decode cX7_search 15 = .ok (.aload_n 0, 1) := by decide +kernel
theorem dX7_search_16 : decode cX7_search 16 = .ok (.getfield 41, 3) := by decide +kernel
theorem dX7_search_19 : decode cX7_search 19 = .ok (.iload_n 2, 1) := by decide +kernel
theorem dX7_search_20 : decode cX7_search 20 = .ok (.iaload, 1) := by decide +kernel
theorem dX7_search_21 : decode cX7_search 21 = .ok (.aload_n 0, 1) := by decide +kernel
theorem dX7_search_22 : decode cX7_search 22 = .ok (.getfield 38, 3) := by decide +kernel
theorem dX7_search_25 : decode cX7_search 25 = .ok (.iload_n 1, 1) := by decide +kernel
theorem dX7_search_26 : decode cX7_search 26 = .ok (.bipush 12, 2) := by decide +kernel
theorem dX7_search_28 : decode cX7_search 28 = .ok (.imul, 1) := by decide +kernel
theorem dX7_search_29 : decode cX7_search 29 = .ok (.iload_n 2, 1) := by decide +kernel
theorem dX7_search_30 : decode cX7_search 30 = .ok (.iadd, 1) := by decide +kernel
theorem dX7_search_31 : decode cX7_search 31 = .ok (.iaload, 1) := by decide +kernel
theorem dX7_search_32 : decode cX7_search 32 = .ok (.iadd, 1) := by decide +kernel
theorem dX7_search_33 : decode cX7_search 33 = .ok (.iastore, 1) := by decide +kernel
theorem dX7_search_34 : decode cX7_search 34 = .ok (.iinc 2 1, 3) := by decide +kernel
theorem dX7_search_37 : decode cX7_search 37 = .ok (.goto (-35), 3) := by decide +kernel
theorem dX7_search_40 : decode cX7_search 40 = .ok (.aload_n 0, 1) := by decide +kernel
theorem dX7_search_41 : decode cX7_search 41 = .ok (.getfield 12, 3) := by decide +kernel
theorem dX7_search_44 : decode cX7_search 44 = .ok (.aload_n 0, 1) := by decide +kernel
theorem dX7_search_45 : decode cX7_search 45 = .ok (.getfield 44, 3) := by decide +kernel
theorem dX7_search_48 : decode cX7_search 48 = .ok (.invokevirtual 97, 3) := by decide +kernel
theorem dX7_search_51 : decode cX7_search 51 = .ok (.ifCond .ne 4, 3) := by decide +kernel
theorem dX7_search_54 : decode cX7_search 54 = .ok (.return_, 1) := by decide +kernel
theorem dX7_search_55 : decode cX7_search 55 = .ok (.iload_n 1, 1) := by decide +kernel
theorem dX7_search_56 : decode cX7_search 56 = .ok (.aload_n 0, 1) := by decide +kernel
theorem dX7_search_57 : decode cX7_search 57 = .ok (.getfield 53, 3) := by decide +kernel
theorem dX7_search_60 : decode cX7_search 60 = .ok (.if_icmp .lt 32, 3) := by decide +kernel
theorem dX7_search_63 : decode cX7_search 63 = .ok (.aload_n 0, 1) := by decide +kernel
theorem dX7_search_64 : decode cX7_search 64 = .ok (.getfield 12, 3) := by decide +kernel
theorem dX7_search_67 : decode cX7_search 67 = .ok (.aload_n 0, 1) := by decide +kernel
theorem dX7_search_68 : decode cX7_search 68 = .ok (.getfield 41, 3) := by decide +kernel
theorem dX7_search_71 : decode cX7_search 71 = .ok (.invokevirtual 101, 3) := by decide +kernel
theorem dX7_search_74 : decode cX7_search 74 = .ok (.aload_n 0, 1) := by decide +kernel
theorem dX7_search_75 : decode cX7_search 75 = .ok (.getfield 29, 3) := by decide +kernel
theorem dX7_search_78 : decode cX7_search 78 = .ok (.iconst 0, 1) := by decide +kernel
theorem dX7_search_79 : decode cX7_search 79 = .ok (.aload_n 0, 1) := by decide +kernel
theorem dX7_search_80 : decode cX7_search 80 = .ok (.getfield 25, 3) := by decide +kernel
theorem dX7_search_83 : decode cX7_search 83 = .ok (.iconst 0, 1) := by decide +kernel
theorem dX7_search_84 : decode cX7_search 84 = .ok (.aload_n 0, 1) := by decide +kernel
theorem dX7_search_85 : decode cX7_search 85 = .ok (.getfield 53, 3) := by decide +kernel
theorem dX7_search_88 : decode cX7_search 88 = .ok (.invokestatic 105, 3) := by decide +kernel
theorem dX7_search_91 : decode cX7_search 91 = .ok (.return_, 1) := by decide +kernel
theorem dX7_search_92 : decode cX7_search 92 = .ok (.iconst 0, 1) := by decide +kernel
theorem dX7_search_93 : decode cX7_search 93 = .ok (.istore_n 2, 1) := by decide +kernel
theorem dX7_search_94 : decode cX7_search 94 = .ok (.iload_n 2, 1) := by decide +kernel
theorem dX7_search_95 : decode cX7_search 95 = .ok (.bipush 15, 2) := by decide +kernel
theorem dX7_search_97 : decode cX7_search 97 = .ok (.if_icmp .ge 39, 3) := by decide +kernel
theorem dX7_search_100 : decode cX7_search 100 = .ok (.aload_n 0, 1) := by decide +kernel
theorem dX7_search_101 : decode cX7_search 101 = .ok (.getfield 32, 3) := by decide +kernel
theorem dX7_search_104 : decode cX7_search 104 = .ok (.iload_n 1, 1) := by decide +kernel
theorem dX7_search_105 : decode cX7_search 105 = .ok (.iaload, 1) := by decide +kernel
theorem dX7_search_106 : decode cX7_search 106 = .ok (.iload_n 2, 1) := by decide +kernel
theorem dX7_search_107 : decode cX7_search 107 = .ok (.invokestatic 93, 3) := by decide +kernel
theorem dX7_search_110 : decode cX7_search 110 = .ok (.ifCond .eq 20, 3) := by decide +kernel
theorem dX7_search_113 : decode cX7_search 113 = .ok (.aload_n 0, 1) := by decide +kernel
theorem dX7_search_114 : decode cX7_search 114 = .ok (.getfield 29, 3) := by decide +kernel
theorem dX7_search_117 : decode cX7_search 117 = .ok (.iload_n 1, 1) := by decide +kernel
theorem dX7_search_118 : decode cX7_search 118 = .ok (.iload_n 2, 1) := by decide +kernel
theorem dX7_search_119 : decode cX7_search 119 = .ok (.iastore, 1) := by decide +kernel
theorem dX7_search_120 : decode cX7_search 120 = .ok (.aload_n 0, 1) := by decide +kernel
theorem dX7_search_121 : decode cX7_search 121 = .ok (.iload_n 1, 1) := by decide +kernel
theorem dX7_search_122 : decode cX7_search 122 = .ok (.iload_n 1, 1) := by decide +kernel
theorem dX7_search_123 : decode cX7_search 123 = .ok (.iload_n 2, 1) := by decide +kernel
theorem dX7_search_124 : decode cX7_search 124 = .ok (.invokestatic 80, 3) := by decide +kernel
theorem dX7_search_127 : decode cX7_search 127 = .ok (.invokevirtual 111, 3) := by decide +kernel
theorem dX7_search_130 : decode cX7_search 130 = .ok (.iinc 2 1, 3) := by decide +kernel
theorem dX7_search_133 : decode cX7_search 133 = .ok (.goto (-39), 3) := by decide +kernel
theorem dX7_search_136 : decode cX7_search 136 = .ok (.return_, 1) := by decide +kernel
theorem dX7_searchBehind_0 : decode cX7_searchBehind 0 = .ok (.aload_n 0, 1) := by decide +kernel
theorem dX7_searchBehind_1 : decode cX7_searchBehind 1 = .ok (.iload_n 2, 1) := by decide +kernel
theorem dX7_searchBehind_2 : decode cX7_searchBehind 2 = .ok (.iconst 1, 1) := by decide +kernel
theorem dX7_searchBehind_3 : decode cX7_searchBehind 3 = .ok (.invokevirtual 115, 3) := by decide +kernel
theorem dX7_searchBehind_6 : decode cX7_searchBehind 6 = .ok (.aload_n 0, 1) := by decide +kernel
theorem dX7_searchBehind_7 : decode cX7_searchBehind 7 = .ok (.iload_n 1, 1) := by decide +kernel
theorem dX7_searchBehind_8 : decode cX7_searchBehind 8 = .ok (.iconst 1, 1) := by decide +kernel
theorem dX7_searchBehind_9 : decode cX7_searchBehind 9 = .ok (.iadd, 1) := by decide +kernel
theorem dX7_searchBehind_10 : decode cX7_searchBehind 10 = .ok (.invokevirtual 90, 3) := by decide +kernel
theorem dX7_searchBehind_13 : decode cX7_searchBehind 13 = .ok (.aload_n 0, 1) := by decide +kernel
theorem dX7_searchBehind_14 : decode cX7_searchBehind 14 = .ok (.iload_n 2, 1) := by decide +kernel
theorem dX7_searchBehind_15 : decode cX7_searchBehind 15 = .ok (.iconst (-1), 1) := by decide +kernel
theorem dX7_searchBehind_16 : decode cX7_searchBehind 16 = .ok (.invokevirtual 115, 3) := by decide +kernel
theorem dX7_searchBehind_19 : decode cX7_searchBehind 19 = .ok (.return_, 1) := by decide +kernel
theorem dX7_charge_0 : decode cX7_charge 0 = .ok (.iconst 0, 1) := by decide +kernel
theorem dX7_charge_1 : decode cX7_charge 1 = .ok (.istore_n 3, 1) := by decide +kernel
theorem dX7_charge_2 : decode cX7_charge 2 = .ok (.iload_n 3, 1) := by decide +kernel
theorem dX7_charge_3 : decode cX7_charge 3 = .ok (.aload_n 0, 1) := by decide +kernel
theorem dX7_charge_4 : decode cX7_charge 4 = .ok (.getfield 57, 3) := by decide +kernel
theorem dX7_charge_7 : decode cX7_charge 7 = .ok (.if_icmp .ge 28, 3) := by decide +kernel
theorem dX7_charge_10 : decode cX7_charge 10 = .ok (.aload_n 0, 1) := by decide +kernel
theorem dX7_charge_11 : decode cX7_charge 11 = .ok (.getfield 41, 3) := by decide +kernel
theorem dX7_charge_14 : decode cX7_charge 14 = .ok (.iload_n 3, 1) := by decide +kernel
theorem dX7_charge_15 : decode cX7_charge 15 = .ok (.dup2, 1) := by decide +kernel
theorem dX7_charge_16 : decode cX7_charge 16 = .ok (.iaload, 1) := by decide +kernel
theorem dX7_charge_17 : decode cX7_charge 17 = .ok (.iload_n 2, 1) := by decide +kernel
theorem dX7_charge_18 : decode cX7_charge 18 = .ok (.aload_n 0, 1) := by decide +kernel
theorem dX7_charge_19 : decode cX7_charge 19 = .ok (.getfield 35, 3) := by decide +kernel
theorem dX7_charge_22 : decode cX7_charge 22 = .ok (.iload_n 1, 1) := by decide +kernel
theorem dX7_charge_23 : decode cX7_charge 23 = .ok (.iload_n 3, 1) := by decide +kernel
theorem dX7_charge_24 : decode cX7_charge 24 = .ok (.iadd, 1) := by decide +kernel
theorem dX7_charge_25 : decode cX7_charge 25 = .ok (.iaload, 1) := by decide +kernel
theorem dX7_charge_26 : decode cX7_charge 26 = .ok (.imul, 1) := by decide +kernel
theorem dX7_charge_27 : decode cX7_charge 27 = .ok (.iadd, 1) := by decide +kernel
theorem dX7_charge_28 : decode cX7_charge 28 = .ok (.iastore, 1) := by decide +kernel
theorem dX7_charge_29 : decode cX7_charge 29 = .ok (.iinc 3 1, 3) := by decide +kernel
theorem dX7_charge_32 : decode cX7_charge 32 = .ok (.goto (-30), 3) := by decide +kernel
theorem dX7_charge_35 : decode cX7_charge 35 = .ok (.return_, 1) := by decide +kernel
theorem dX8_init_0 : decode cX8_init 0 = .ok (.aload_n 0, 1) := by decide +kernel
theorem dX8_init_1 : decode cX8_init 1 = .ok (.invokespecial 3, 3) := by decide +kernel
theorem dX8_init_4 : decode cX8_init 4 = .ok (.return_, 1) := by decide +kernel
theorem dX8_seat_0 : decode cX8_seat 0 = .ok (.aload_n 0, 1) := by decide +kernel
theorem dX8_seat_1 : decode cX8_seat 1 = .ok (.aload_n 1, 1) := by decide +kernel
theorem dX8_seat_2 : decode cX8_seat 2 = .ok (.iload 4, 2) := by decide +kernel
theorem dX8_seat_4 : decode cX8_seat 4 = .ok (.invokevirtual 9, 3) := by decide +kernel
theorem dX8_seat_7 : decode cX8_seat 7 = .ok (.putfield 15, 3) := by decide +kernel
theorem dX8_seat_10 : decode cX8_seat 10 = .ok (.aload_n 0, 1) := by decide +kernel
theorem dX8_seat_11 : decode cX8_seat 11 = .ok (.aload_n 1, 1) := by decide +kernel
theorem dX8_seat_12 : decode cX8_seat 12 = .ok (.iload 4, 2) := by decide +kernel
theorem dX8_seat_14 : decode cX8_seat 14 = .ok (.invokevirtual 21, 3) := by decide +kernel
theorem dX8_seat_17 : decode cX8_seat 17 = .ok (.putfield 24, 3) := by decide +kernel
theorem dX8_seat_20 : decode cX8_seat 20 = .ok (.aload_n 0, 1) := by decide +kernel
theorem dX8_seat_21 : decode cX8_seat 21 = .ok (.aload_n 1, 1) := by decide +kernel
theorem dX8_seat_22 : decode cX8_seat 22 = .ok (.aload_n 2, 1) := by decide +kernel
theorem dX8_seat_23 : decode cX8_seat 23 = .ok (.aload_n 3, 1) := by decide +kernel
theorem dX8_seat_24 : decode cX8_seat 24 = .ok (.aload_n 0, 1) := by decide +kernel
theorem dX8_seat_25 : decode cX8_seat 25 = .ok (.getfield 15, 3) := by decide +kernel
theorem dX8_seat_28 : decode cX8_seat 28 = .ok (.invokestatic 27, 3) := by decide +kernel
theorem dX8_seat_31 : decode cX8_seat 31 = .ok (.putfield 31, 3) := by decide +kernel
theorem dX8_seat_34 : decode cX8_seat 34 = .ok (.aload_n 0, 1) := by decide +kernel
theorem dX8_seat_35 : decode cX8_seat 35 = .ok (.aload_n 0, 1) := by decide +kernel
theorem dX8_seat_36 : decode cX8_seat 36 = .ok (.getfield 24, 3) := by decide +kernel
theorem dX8_seat_39 : decode cX8_seat 39 = .ok (.iconst (-1), 1) := by decide +kernel
theorem dX8_seat_40 : decode cX8_seat 40 = .ok (.if_icmp .ne 7, 3) := by decide +kernel
theorem dX8_seat_43 : decode cX8_seat 43 = .ok (.iconst 0, 1) := by decide +kernel
theorem dX8_seat_44 : decode cX8_seat 44 = .ok (.goto 13, 3) := by decide +kernel
theorem dX8_seat_47 : decode cX8_seat 47 = .ok (.aload_n 1, 1) := by decide +kernel
theorem dX8_seat_48 : decode cX8_seat 48 = .ok (.aload_n 2, 1) := by decide +kernel
theorem dX8_seat_49 : decode cX8_seat 49 = .ok (.aload_n 3, 1) := by decide +kernel
theorem dX8_seat_50 : decode cX8_seat 50 = .ok (.aload_n 0, 1) := by decide +kernel
theorem dX8_seat_51 : decode cX8_seat 51 = .ok (.getfield 24, 3) := by decide +kernel
theorem dX8_seat_54 : decode cX8_seat 54 = .ok (.invokestatic 27, 3) := by decide +kernel
theorem dX8_seat_57 : decode cX8_seat 57 = .ok (.putfield 34, 3) := by decide +kernel
theorem dX8_seat_60 : decode cX8_seat 60 = .ok (.aload_n 0, 1) := by decide +kernel
theorem dX8_seat_61 : decode cX8_seat 61 = .ok (.getfield 31, 3) := by decide +kernel
theorem dX8_seat_64 : decode cX8_seat 64 = .ok (.aload_n 0, 1) := by decide +kernel
theorem dX8_seat_65 : decode cX8_seat 65 = .ok (.getfield 34, 3) := by decide +kernel
theorem dX8_seat_68 : decode cX8_seat 68 = .ok (.iand, 1) := by decide +kernel
theorem dX8_seat_69 : decode cX8_seat 69 = .ok (.aload_n 1, 1) := by decide +kernel
theorem dX8_seat_70 : decode cX8_seat 70 = .ok (.invokevirtual 37, 3) := by decide +kernel
theorem dX8_seat_73 : decode cX8_seat 73 = .ok (.iconst (-1), 1) := by decide +kernel
theorem dX8_seat_74 : decode cX8_seat 74 = .ok (.ixor, 1) := by decide +kernel
theorem dX8_seat_75 : decode cX8_seat 75 = .ok (.iand, 1) := by decide +kernel
theorem dX8_seat_76 : decode cX8_seat 76 = .ok (.istore 5, 2) := by decide +kernel
theorem dX8_seat_78 : decode cX8_seat 78 = .ok (.aload_n 0, 1) := by decide +kernel
theorem dX8_seat_79 : decode cX8_seat 79 = .ok (.aload_n 2, 1) := by decide +kernel
theorem dX8_seat_80 : decode cX8_seat 80 = .ok (.iload 5, 2) := by decide +kernel
theorem dX8_seat_82 : decode cX8_seat 82 = .ok (.invokevirtual 41, 3) := by decide +kernel
theorem dX8_seat_85 : decode cX8_seat 85 = .ok (.istore 6, 2) := by decide +kernel
theorem dX8_seat_87 : decode cX8_seat 87 = .ok (.aload_n 0, 1) := by decide +kernel
theorem dX8_seat_88 : decode cX8_seat 88 = .ok (.aload_n 0, 1) := by decide +kernel
theorem dX8_seat_89 : decode cX8_seat 89 = .ok (.getfield 31, 3) := by decide +kernel
theorem dX8_seat_92 : decode cX8_seat 92 = .ok (.iload 6, 2) := by decide +kernel
theorem dX8_seat_94 : decode cX8_seat 94 = .ok (.iconst (-1), 1) := by decide +kernel
theorem dX8_seat_95 : decode cX8_seat 95 = .ok (.ixor, 1) := by decide +kernel
theorem dX8_seat_96 : decode cX8_seat 96 = .ok (.iand, 1) := by decide +kernel
theorem dX8_seat_97 : decode cX8_seat 97 = .ok (.putfield 45, 3) := by decide +kernel
theorem dX8_seat_100 : decode cX8_seat 100 = .ok (.aload_n 0, 1) := by decide +kernel
theorem dX8_seat_101 : decode cX8_seat 101 = .ok (.aload_n 0, 1) := by decide +kernel
theorem dX8_seat_102 : decode cX8_seat 102 = .ok (.getfield 34, 3) := by decide +kernel
theorem dX8_seat_105 : decode cX8_seat 105 = .ok (.iload 5, 2) := by decide +kernel
theorem dX8_seat_107 : decode cX8_seat 107 = .ok (.iload 6, 2) := by decide +kernel
theorem dX8_seat_109 : decode cX8_seat 109 = .ok (.iconst (-1), 1) := by decide +kernel
theorem dX8_seat_110 : decode cX8_seat 110 = .ok (.ixor, 1) := by decide +kernel
theorem dX8_seat_111 : decode cX8_seat 111 = .ok (.iand, 1) := by decide +kernel
theorem dX8_seat_112 : decode cX8_seat 112 = .ok (.iconst (-1), 1) := by decide +kernel
theorem dX8_seat_113 : decode cX8_seat 113 = .ok (.ixor, 1) := by decide +kernel
theorem dX8_seat_114 : decode cX8_seat 114 = .ok (.iand, 1) := by decide +kernel
theorem dX8_seat_115 : decode cX8_seat 115 = .ok (.putfield 48, 3) := by decide +kernel
theorem dX8_seat_118 : decode cX8_seat 118 = .ok (.return_, 1) := by decide +kernel
theorem dX8_freeAt_0 : decode cX8_freeAt 0 = .ok (.aload_n 1, 1) := by decide +kernel
theorem dX8_freeAt_1 : decode cX8_freeAt 1 = .ok (.getfield 51, 3) := by decide +kernel
theorem dX8_freeAt_4 : decode cX8_freeAt 4 = .ok (.iload_n 3, 1) := by decide +kernel
theorem dX8_freeAt_5 : decode cX8_freeAt 5 = .ok (.iaload, 1) := by decide +kernel
theorem dX8_freeAt_6 : decode cX8_freeAt 6 = .ok (.istore 4, 2) := by decide +kernel
theorem dX8_freeAt_8 : decode cX8_freeAt 8 = .ok (.aload_n 1, 1) := by decide +kernel
theorem dX8_freeAt_9 : decode cX8_freeAt 9 = .ok (.getfield 57, 3) := by decide +kernel
theorem dX8_freeAt_12 : decode cX8_freeAt 12 = .ok (.iload_n 3, 1) := by decide +kernel
theorem dX8_freeAt_13 : decode cX8_freeAt 13 = .ok (.iaload, 1) := by decide +kernel
theorem dX8_freeAt_14 : decode cX8_freeAt 14 = .ok (.aload_n 2, 1) := by decide +kernel
theorem dX8_freeAt_15 : decode cX8_freeAt 15 = .ok (.iload 4, 2) := by decide +kernel
theorem dX8_freeAt_17 : decode cX8_freeAt 17 = .ok (.iload 4, 2) := by decide +kernel
theorem dX8_freeAt_19 : decode cX8_freeAt 19 = .ok (.aload_n 0, 1) := by decide +kernel
theorem dX8_freeAt_20 : decode cX8_freeAt 20 = .ok (.getfield 60, 3) := by decide +kernel
theorem dX8_freeAt_23 : decode cX8_freeAt 23 = .ok (.iadd, 1) := by decide +kernel
theorem dX8_freeAt_24 : decode cX8_freeAt 24 = .ok (.invokevirtual 63, 3) := by decide +kernel
theorem dX8_freeAt_27 : decode cX8_freeAt 27 = .ok (.iconst (-1), 1) := by decide +kernel
theorem dX8_freeAt_28 : decode cX8_freeAt 28 = .ok (.ixor, 1) := by decide +kernel
theorem dX8_freeAt_29 : decode cX8_freeAt 29 = .ok (.iand, 1) := by decide +kernel
theorem dX8_freeAt_30 : decode cX8_freeAt 30 = .ok (.ireturn, 1) := by decide +kernel
theorem dX8_preferSecond_0 : decode cX8_preferSecond 0 = .ok (.iconst 0, 1) := by decide +kernel
theorem dX8_preferSecond_1 : decode cX8_preferSecond 1 = .ok (.istore_n 3, 1) := by decide +kernel
theorem dX8_preferSecond_2 : decode cX8_preferSecond 2 = .ok (.iconst 0, 1) := by decide +kernel
theorem dX8_preferSecond_3 : decode cX8_preferSecond 3 = .ok (.istore 4, 2) := by decide +kernel
theorem dX8_preferSecond_5 : decode cX8_preferSecond 5 = .ok (.iload 4, 2) := by decide +kernel
theorem dX8_preferSecond_7 : decode cX8_preferSecond 7 = .ok (.bipush 12, 2) := by decide +kernel
theorem dX8_preferSecond_9 : decode cX8_preferSecond 9 = .ok (.if_icmp .ge 65, 3) := by decide +kernel
theorem dX8_preferSecond_12 : decode cX8_preferSecond 12 = .ok (.iload_n 2, 1) := by decide +kernel
theorem dX8_preferSecond_13 : decode cX8_preferSecond 13 = .ok (.iload 4, 2) := by decide +kernel
theorem dX8_preferSecond_15 : decode cX8_preferSecond 15 = .ok (.ishr, 1) := by decide +kernel
theorem dX8_preferSecond_16 : decode cX8_preferSecond 16 = .ok (.ifCond .eq 58, 3) := by decide +kernel
theorem dX8_preferSecond_19 : decode cX8_preferSecond 19 = .ok (.iload_n 2, 1) := by decide +kernel
theorem dX8_preferSecond_20 : decode cX8_preferSecond 20 = .ok (.iload 4, 2) := by decide +kernel
theorem dX8_preferSecond_22 : decode cX8_preferSecond 22 = .ok (.invokestatic 69, 3) := by decide +kernel
theorem dX8_preferSecond_25 : decode cX8_preferSecond 25 = .ok (.ifCond .eq 43, 3) := by decide +kernel
theorem dX8_preferSecond_28 : decode cX8_preferSecond 28 = .ok (.aload_n 1, 1) := by decide +kernel
theorem dX8_preferSecond_29 : decode cX8_preferSecond 29 = .ok (.getfield 73, 3) := by decide +kernel
theorem dX8_preferSecond_32 : decode cX8_preferSecond 32 = .ok (.aload_n 0, 1) := by decide +kernel
theorem dX8_preferSecond_33 : decode cX8_preferSecond 33 = .ok (.getfield 24, 3) := by decide +kernel
theorem dX8_preferSecond_36 : decode cX8_preferSecond 36 = .ok (.bipush 12, 2) := by decide +kernel
theorem dX8_preferSecond_38 : decode cX8_preferSecond 38 = .ok (.imul, 1) := by decide +kernel
theorem dX8_preferSecond_39 : decode cX8_preferSecond 39 = .ok (.iload 4, 2) := by decide +kernel
theorem dX8_preferSecond_41 : decode cX8_preferSecond 41 = .ok (.iadd, 1) := by decide +kernel
theorem dX8_preferSecond_42 : decode cX8_preferSecond 42 = .ok (.iaload, 1) := by decide +kernel
theorem dX8_preferSecond_43 : decode cX8_preferSecond 43 = .ok (.aload_n 1, 1) := by decide +kernel
theorem dX8_preferSecond_44 : decode cX8_preferSecond 44 = .ok (.getfield 73, 3) := by decide +kernel
theorem dX8_preferSecond_47 : decode cX8_preferSecond 47 = .ok (.aload_n 0, 1) := by decide +kernel
theorem dX8_preferSecond_48 : decode cX8_preferSecond 48 = .ok (.getfield 15, 3) := by decide +kernel
theorem dX8_preferSecond_51 : decode cX8_preferSecond 51 = .ok (.bipush 12, 2) := by decide +kernel
theorem dX8_preferSecond_53 : decode cX8_preferSecond 53 = .ok (.imul, 1) := by decide +kernel
theorem dX8_preferSecond_54 : decode cX8_preferSecond 54 = .ok (.iload 4, 2) := by decide +kernel
theorem dX8_preferSecond_56 : decode cX8_preferSecond 56 = .ok (.iadd, 1) := by decide +kernel
theorem dX8_preferSecond_57 : decode cX8_preferSecond 57 = .ok (.iaload, 1) := by decide +kernel
theorem dX8_preferSecond_58 : decode cX8_preferSecond 58 = .ok (.if_icmp .ge 10, 3) := by decide +kernel
theorem dX8_preferSecond_61 : decode cX8_preferSecond 61 = .ok (.iload_n 3, 1) := by decide +kernel
theorem dX8_preferSecond_62 : decode cX8_preferSecond 62 = .ok (.iconst 1, 1) := by decide +kernel
theorem dX8_preferSecond_63 : decode cX8_preferSecond 63 = .ok (.iload 4, 2) := by decide +kernel
theorem dX8_preferSecond_65 : decode cX8_preferSecond 65 = .ok (.ishl, 1) := by decide +kernel
theorem dX8_preferSecond_66 : decode cX8_preferSecond 66 = .ok (.ior, 1) := by decide +kernel
theorem dX8_preferSecond_67 : decode cX8_preferSecond 67 = .ok (.istore_n 3, 1) := by decide +kernel
theorem dX8_preferSecond_68 : decode cX8_preferSecond 68 = .ok (.iinc 4 1, 3) := by decide +kernel
theorem dX8_preferSecond_71 : decode cX8_preferSecond 71 = .ok (.goto (-66), 3) := by decide +kernel
theorem dX8_preferSecond_74 : decode cX8_preferSecond 74 = .ok (.iload_n 3, 1) := by decide +kernel
theorem dX8_preferSecond_75 : decode cX8_preferSecond 75 = .ok (.ireturn, 1) := by decide +kernel
theorem dX8_stands_0 : decode cX8_stands 0 = .ok (.aload_n 0, 1) := by decide +kernel
theorem dX8_stands_1 : decode cX8_stands 1 = .ok (.iload_n 2, 1) := by decide +kernel
theorem dX8_stands_2 : decode cX8_stands 2 = .ok (.invokevirtual 76, 3) := by decide +kernel
theorem dX8_stands_5 : decode cX8_stands 5 = .ok (.ifCond .ne 5, 3) := by decide +kernel
theorem dX8_stands_8 : decode cX8_stands 8 = .ok (.iconst 0, 1) := by decide +kernel
theorem dX8_stands_9 : decode cX8_stands 9 = .ok (.ireturn, 1) := by decide +kernel
theorem dX8_stands_10 : decode cX8_stands 10 = .ok (.aload_n 1, 1) := by decide +kernel
theorem dX8_stands_11 : decode cX8_stands 11 = .ok (.getfield 51, 3) := by decide +kernel
theorem dX8_stands_14 : decode cX8_stands 14 = .ok (.aload_n 0, 1) := by decide +kernel
theorem dX8_stands_15 : decode cX8_stands 15 = .ok (.iload_n 2, 1) := by decide +kernel
theorem dX8_stands_16 : decode cX8_stands 16 = .ok (.invokevirtual 9, 3) := by decide +kernel
theorem dX8_stands_19 : decode cX8_stands 19 = .ok (.iaload, 1) := by decide +kernel
theorem dX8_stands_20 : decode cX8_stands 20 = .ok (.istore_n 3, 1) := by decide +kernel
theorem dX8_stands_21 : decode cX8_stands 21 = .ok (.aload_n 0, 1) := by decide +kernel
theorem dX8_stands_22 : decode cX8_stands 22 = .ok (.invokevirtual 80, 3) := by decide +kernel
theorem dX8_stands_25 : decode cX8_stands 25 = .ok (.ifCond .ne 14, 3) := by decide +kernel
theorem dX8_stands_28 : decode cX8_stands 28 = .ok (.iload_n 3, 1) := by decide +kernel
theorem dX8_stands_29 : decode cX8_stands 29 = .ok (.iconst (-1), 1) := by decide +kernel
theorem dX8_stands_30 : decode cX8_stands 30 = .ok (.if_icmp .eq 7, 3) := by decide +kernel
theorem dX8_stands_33 : decode cX8_stands 33 = .ok (.iconst 1, 1) := by decide +kernel
theorem dX8_stands_34 : decode cX8_stands 34 = .ok (.goto 4, 3) := by decide +kernel
theorem dX8_stands_37 : decode cX8_stands 37 = .ok (.iconst 0, 1) := by decide +kernel
theorem dX8_stands_38 : decode cX8_stands 38 = .ok (.ireturn, 1) := by decide +kernel
theorem dX8_stands_39 : decode cX8_stands 39 = .ok (.aload_n 1, 1) := by decide +kernel
theorem dX8_stands_40 : decode cX8_stands 40 = .ok (.getfield 51, 3) := by decide +kernel
theorem dX8_stands_43 : decode cX8_stands 43 = .ok (.aload_n 0, 1) := by decide +kernel
theorem dX8_stands_44 : decode cX8_stands 44 = .ok (.iload_n 2, 1) := by decide +kernel
theorem dX8_stands_45 : decode cX8_stands 45 = .ok (.invokevirtual 21, 3) := by decide +kernel
theorem dX8_stands_48 : decode cX8_stands 48 = .ok (.iaload, 1) := by decide +kernel
theorem dX8_stands_49 : decode cX8_stands 49 = .ok (.istore 4, 2) := by decide +kernel
theorem dX8_stands_51 : decode cX8_stands 51 = .ok (.iload_n 3, 1) := by decide +kernel
theorem dX8_stands_52 : decode cX8_stands 52 = .ok (.iconst (-1), 1) := by decide +kernel
theorem dX8_stands_53 : decode cX8_stands 53 = .ok (.if_icmp .eq 27, 3) := by decide +kernel
theorem dX8_stands_56 : decode cX8_stands 56 = .ok (.iload 4, 2) := by decide +kernel
theorem dX8_stands_58 : decode cX8_stands 58 = .ok (.iconst (-1), 1) := by decide +kernel
theorem dX8_stands_59 : decode cX8_stands 59 = .ok (.if_icmp .eq 21, 3) := by decide +kernel
theorem dX8_stands_62 : decode cX8_stands 62 = .ok (.iload_n 3, 1) := by decide +kernel
theorem dX8_stands_63 : decode cX8_stands 63 = .ok (.iload 4, 2) := by decide +kernel
theorem dX8_stands_65 : decode cX8_stands 65 = .ok (.isub, 1) := by decide +kernel
theorem dX8_stands_66 : decode cX8_stands 66 = .ok (.invokestatic 84, 3) := by decide +kernel
theorem dX8_stands_69 : decode cX8_stands 69 = .ok (.aload_n 0, 1) := by decide +kernel
theorem dX8_stands_70 : decode cX8_stands 70 = .ok (.getfield 60, 3) := by decide +kernel
theorem dX8_stands_73 : decode cX8_stands 73 = .ok (.if_icmp .lt 7, 3) := by decide +kernel
theorem dX8_stands_76 : decode cX8_stands 76 = .ok (.iconst 1, 1) := by decide +kernel
theorem dX8_stands_77 : decode cX8_stands 77 = .ok (.goto 4, 3) := by decide +kernel
theorem dX8_stands_80 : decode cX8_stands 80 = .ok (.iconst 0, 1) := by decide +kernel
theorem dX8_stands_81 : decode cX8_stands 81 = .ok (.ireturn, 1) := by decide +kernel
theorem dX8_suits_0 : decode cX8_suits 0 = .ok (.aload_n 1, 1) := by decide +kernel
theorem dX8_suits_1 : decode cX8_suits 1 = .ok (.aload_n 2, 1) := by decide +kernel
theorem dX8_suits_2 : decode cX8_suits 2 = .ok (.iload 4, 2) := by decide +kernel
theorem dX8_suits_4 : decode cX8_suits 4 = .ok (.invokestatic 89, 3) := by decide +kernel
theorem dX8_suits_7 : decode cX8_suits 7 = .ok (.ifCond .ne 5, 3) := by decide +kernel
theorem dX8_suits_10 : decode cX8_suits 10 = .ok (.iconst 0, 1) := by decide +kernel
theorem dX8_suits_11 : decode cX8_suits 11 = .ok (.ireturn, 1) := by decide +kernel
theorem dX8_suits_12 : decode cX8_suits 12 = .ok (.aload_n 0, 1) := by decide +kernel
theorem dX8_suits_13 : decode cX8_suits 13 = .ok (.aload_n 1, 1) := by decide +kernel
theorem dX8_suits_14 : decode cX8_suits 14 = .ok (.aload_n 2, 1) := by decide +kernel
theorem dX8_suits_15 : decode cX8_suits 15 = .ok (.aload_n 3, 1) := by decide +kernel
theorem dX8_suits_16 : decode cX8_suits 16 = .ok (.iload 4, 2) := by decide +kernel
theorem dX8_suits_18 : decode cX8_suits 18 = .ok (.invokevirtual 93, 3) := by decide +kernel
theorem dX8_suits_21 : decode cX8_suits 21 = .ok (.aload_n 0, 1) := by decide +kernel
theorem dX8_suits_22 : decode cX8_suits 22 = .ok (.getfield 31, 3) := by decide +kernel
theorem dX8_suits_25 : decode cX8_suits 25 = .ok (.aload_n 0, 1) := by decide +kernel
theorem dX8_suits_26 : decode cX8_suits 26 = .ok (.getfield 34, 3) := by decide +kernel
theorem dX8_suits_29 : decode cX8_suits 29 = .ok (.ior, 1) := by decide +kernel
theorem dX8_suits_30 : decode cX8_suits 30 = .ok (.istore 5, 2) := by decide +kernel
theorem dX8_suits_32 : decode cX8_suits 32 = .ok (.aload_n 1, 1) := by decide +kernel
theorem dX8_suits_33 : decode cX8_suits 33 = .ok (.getfield 97, 3) := by decide +kernel
theorem dX8_suits_36 : decode cX8_suits 36 = .ok (.iconst 1, 1) := by decide +kernel
theorem dX8_suits_37 : decode cX8_suits 37 = .ok (.iaload, 1) := by decide +kernel
theorem dX8_suits_38 : decode cX8_suits 38 = .ok (.iload 5, 2) := by decide +kernel
theorem dX8_suits_40 : decode cX8_suits 40 = .ok (.iconst (-1), 1) := by decide +kernel
theorem dX8_suits_41 : decode cX8_suits 41 = .ok (.ixor, 1) := by decide +kernel
theorem dX8_suits_42 : decode cX8_suits 42 = .ok (.iand, 1) := by decide +kernel
theorem dX8_suits_43 : decode cX8_suits 43 = .ok (.ifCond .ne 22, 3) := by decide +kernel
theorem dX8_suits_46 : decode cX8_suits 46 = .ok (.aload_n 1, 1) := by decide +kernel
theorem dX8_suits_47 : decode cX8_suits 47 = .ok (.invokevirtual 37, 3) := by decide +kernel
theorem dX8_suits_50 : decode cX8_suits 50 = .ok (.aload_n 0, 1) := by decide +kernel
theorem dX8_suits_51 : decode cX8_suits 51 = .ok (.getfield 31, 3) := by decide +kernel
theorem dX8_suits_54 : decode cX8_suits 54 = .ok (.aload_n 0, 1) := by decide +kernel
theorem dX8_suits_55 : decode cX8_suits 55 = .ok (.getfield 34, 3) := by decide +kernel
theorem dX8_suits_58 : decode cX8_suits 58 = .ok (.iand, 1) := by decide +kernel
theorem dX8_suits_59 : decode cX8_suits 59 = .ok (.iconst (-1), 1) := by decide +kernel
theorem dX8_suits_60 : decode cX8_suits 60 = .ok (.ixor, 1) := by decide +kernel
theorem dX8_suits_61 : decode cX8_suits 61 = .ok (.iand, 1) := by decide +kernel
theorem dX8_suits_62 : decode cX8_suits 62 = .ok (.ifCond .eq 5, 3) := by decide +kernel
theorem dX8_suits_65 : decode cX8_suits 65 = .ok (.iconst 0, 1) := by decide +kernel
theorem dX8_suits_66 : decode cX8_suits 66 = .ok (.ireturn, 1) := by decide +kernel
theorem dX8_suits_67 : decode cX8_suits 67 = .ok (.iconst 3, 1) := by decide +kernel
theorem dX8_suits_68 : decode cX8_suits 68 = .ok (.istore 6, 2) := by decide +kernel
theorem dX8_suits_70 : decode cX8_suits 70 = .ok (.iload 6, 2) := by decide +kernel
theorem dX8_suits_72 : decode cX8_suits 72 = .ok (.bipush 6, 2) := by decide +kernel
theorem dX8_suits_74 : decode cX8_suits 74 = .ok (.if_icmp .ge 34, 3) := by decide +kernel
theorem dX8_suits_77 : decode cX8_suits 77 = .ok (.aload_n 1, 1) := by decide +kernel
theorem dX8_suits_78 : decode cX8_suits 78 = .ok (.getfield 97, 3) := by decide +kernel
theorem dX8_suits_81 : decode cX8_suits 81 = .ok (.iload 6, 2) := by decide +kernel
theorem dX8_suits_83 : decode cX8_suits 83 = .ok (.iaload, 1) := by decide +kernel
theorem dX8_suits_84 : decode cX8_suits 84 = .ok (.ifCond .eq 18, 3) := by decide +kernel
theorem dX8_suits_87 : decode cX8_suits 87 = .ok (.aload_n 1, 1) := by decide +kernel
theorem dX8_suits_88 : decode cX8_suits 88 = .ok (.getfield 97, 3) := by decide +kernel
theorem dX8_suits_91 : decode cX8_suits 91 = .ok (.iload 6, 2) := by decide +kernel
theorem dX8_suits_93 : decode cX8_suits 93 = .ok (.iaload, 1) := by decide +kernel
theorem dX8_suits_94 : decode cX8_suits 94 = .ok (.iload 5, 2) := by decide +kernel
theorem dX8_suits_96 : decode cX8_suits 96 = .ok (.iand, 1) := by decide +kernel
theorem dX8_suits_97 : decode cX8_suits 97 = .ok (.ifCond .ne 5, 3) := by decide +kernel
theorem dX8_suits_100 : decode cX8_suits 100 = .ok (.iconst 0, 1) := by decide +kernel
theorem dX8_suits_101 : decode cX8_suits 101 = .ok (.ireturn, 1) := by decide +kernel
theorem dX8_suits_102 : decode cX8_suits 102 = .ok (.iinc 6 1, 3) := by decide +kernel
theorem dX8_suits_105 : decode cX8_suits 105 = .ok (.goto (-35), 3) := by decide +kernel
theorem dX8_suits_108 : decode cX8_suits 108 = .ok (.aload_n 0, 1) := by decide +kernel
theorem dX8_suits_109 : decode cX8_suits 109 = .ok (.aload_n 1, 1) := by decide +kernel
theorem dX8_suits_110 : decode cX8_suits 110 = .ok (.aload_n 2, 1) := by decide +kernel
theorem dX8_suits_111 : decode cX8_suits 111 = .ok (.aload_n 3, 1) := by decide +kernel
theorem dX8_suits_112 : decode cX8_suits 112 = .ok (.invokevirtual 100, 3) := by decide +kernel
theorem dX8_suits_115 : decode cX8_suits 115 = .ok (.ireturn, 1) := by decide +kernel
theorem dX8_isBehindChain_0 : decode cX8_isBehindChain 0 = .ok (.aload_n 1, 1) := by decide +kernel
theorem dX8_isBehindChain_1 : decode cX8_isBehindChain 1 = .ok (.getfield 104, 3) := by decide +kernel
theorem dX8_isBehindChain_4 : decode cX8_isBehindChain 4 = .ok (.ifnonnull 5, 3) := by decide +kernel
theorem dX8_isBehindChain_7 : decode cX8_isBehindChain 7 = .ok (.iconst 1, 1) := by decide +kernel
theorem dX8_isBehindChain_8 : decode cX8_isBehindChain 8 = .ok (.ireturn, 1) := by decide +kernel
theorem dX8_isBehindChain_9 : decode cX8_isBehindChain 9 = .ok (.aload_n 3, 1) := by decide +kernel
theorem dX8_isBehindChain_10 : decode cX8_isBehindChain 10 = .ok (.getfield 108, 3) := by decide +kernel
theorem dX8_isBehindChain_13 : decode cX8_isBehindChain 13 = .ok (.aload_n 1, 1) := by decide +kernel
theorem dX8_isBehindChain_14 : decode cX8_isBehindChain 14 = .ok (.getfield 104, 3) := by decide +kernel
theorem dX8_isBehindChain_17 : decode cX8_isBehindChain 17 = .ok (.getfield 111, 3) := by decide +kernel
theorem dX8_isBehindChain_20 : decode cX8_isBehindChain 20 = .ok (.iaload, 1) := by decide +kernel
theorem dX8_isBehindChain_21 : decode cX8_isBehindChain 21 = .ok (.istore 4, 2) := by decide +kernel
theorem dX8_isBehindChain_23 : decode cX8_isBehindChain 23 = .ok (.iload 4, 2) := by decide +kernel
theorem dX8_isBehindChain_25 : decode cX8_isBehindChain 25 = .ok (.aload_n 2, 1) := by decide +kernel
theorem dX8_isBehindChain_26 : decode cX8_isBehindChain 26 = .ok (.getfield 51, 3) := by decide +kernel
theorem dX8_isBehindChain_29 : decode cX8_isBehindChain 29 = .ok (.aload_n 0, 1) := by decide +kernel
theorem dX8_isBehindChain_30 : decode cX8_isBehindChain 30 = .ok (.getfield 15, 3) := by decide +kernel
theorem dX8_isBehindChain_33 : decode cX8_isBehindChain 33 = .ok (.iaload, 1) := by decide +kernel
theorem dX8_isBehindChain_34 : decode cX8_isBehindChain 34 = .ok (.if_icmp .gt 29, 3) := by decide +kernel
theorem dX8_isBehindChain_37 : decode cX8_isBehindChain 37 = .ok (.aload_n 0, 1) := by decide +kernel
theorem dX8_isBehindChain_38 : decode cX8_isBehindChain 38 = .ok (.getfield 24, 3) := by decide +kernel
theorem dX8_isBehindChain_41 : decode cX8_isBehindChain 41 = .ok (.iconst (-1), 1) := by decide +kernel
theorem dX8_isBehindChain_42 : decode cX8_isBehindChain 42 = .ok (.if_icmp .eq 17, 3) := by decide +kernel
theorem dX8_isBehindChain_45 : decode cX8_isBehindChain 45 = .ok (.iload 4, 2) := by decide +kernel
theorem dX8_isBehindChain_47 : decode cX8_isBehindChain 47 = .ok (.aload_n 2, 1) := by decide +kernel
theorem dX8_isBehindChain_48 : decode cX8_isBehindChain 48 = .ok (.getfield 51, 3) := by decide +kernel
theorem dX8_isBehindChain_51 : decode cX8_isBehindChain 51 = .ok (.aload_n 0, 1) := by decide +kernel
theorem dX8_isBehindChain_52 : decode cX8_isBehindChain 52 = .ok (.getfield 24, 3) := by decide +kernel
theorem dX8_isBehindChain_55 : decode cX8_isBehindChain 55 = .ok (.iaload, 1) := by decide +kernel
theorem dX8_isBehindChain_56 : decode cX8_isBehindChain 56 = .ok (.if_icmp .gt 7, 3) := by decide +kernel
theorem dX8_isBehindChain_59 : decode cX8_isBehindChain 59 = .ok (.iconst 1, 1) := by decide +kernel
theorem dX8_isBehindChain_60 : decode cX8_isBehindChain 60 = .ok (.goto 4, 3) := by decide +kernel
theorem dX8_isBehindChain_63 : decode cX8_isBehindChain 63 = .ok (.iconst 0, 1) := by decide +kernel
theorem dX8_isBehindChain_64 : decode cX8_isBehindChain 64 = .ok (.ireturn, 1) := by decide +kernel
theorem dX8_priceFor_0 : decode cX8_priceFor 0 = .ok (.aload_n 0, 1) := by decide +kernel
theorem dX8_priceFor_1 : decode cX8_priceFor 1 = .ok (.getfield 45, 3) := by decide +kernel
theorem dX8_priceFor_4 : decode cX8_priceFor 4 = .ok (.iload_n 2, 1) := by decide +kernel
theorem dX8_priceFor_5 : decode cX8_priceFor 5 = .ok (.invokestatic 69, 3) := by decide +kernel
theorem dX8_priceFor_8 : decode cX8_priceFor 8 = .ok (.ifCond .eq 20, 3) := by decide +kernel
theorem dX8_priceFor_11 : decode cX8_priceFor 11 = .ok (.aload_n 1, 1) := by decide +kernel
theorem dX8_priceFor_12 : decode cX8_priceFor 12 = .ok (.getfield 73, 3) := by decide +kernel
theorem dX8_priceFor_15 : decode cX8_priceFor 15 = .ok (.aload_n 0, 1) := by decide +kernel
theorem dX8_priceFor_16 : decode cX8_priceFor 16 = .ok (.getfield 15, 3) := by decide +kernel
theorem dX8_priceFor_19 : decode cX8_priceFor 19 = .ok (.bipush 12, 2) := by decide +kernel
theorem dX8_priceFor_21 : decode cX8_priceFor 21 = .ok (.imul, 1) := by decide +kernel
theorem dX8_priceFor_22 : decode cX8_priceFor 22 = .ok (.iload_n 2, 1) := by decide +kernel
theorem dX8_priceFor_23 : decode cX8_priceFor 23 = .ok (.iadd, 1) := by decide +kernel
theorem dX8_priceFor_24 : decode cX8_priceFor 24 = .ok (.iaload, 1) := by decide +kernel
theorem dX8_priceFor_25 : decode cX8_priceFor 25 = .ok (.goto 4, 3) := by decide +kernel
theorem dX8_priceFor_28 : decode cX8_priceFor 28 = .ok (.iconst 0, 1) := by decide +kernel
theorem dX8_priceFor_29 : decode cX8_priceFor 29 = .ok (.istore_n 3, 1) := by decide +kernel
theorem dX8_priceFor_30 : decode cX8_priceFor 30 = .ok (.aload_n 0, 1) := by decide +kernel
theorem dX8_priceFor_31 : decode cX8_priceFor 31 = .ok (.getfield 48, 3) := by decide +kernel
theorem dX8_priceFor_34 : decode cX8_priceFor 34 = .ok (.iload_n 2, 1) := by decide +kernel
theorem dX8_priceFor_35 : decode cX8_priceFor 35 = .ok (.invokestatic 69, 3) := by decide +kernel
theorem dX8_priceFor_38 : decode cX8_priceFor 38 = .ok (.ifCond .eq 22, 3) := by decide +kernel
theorem dX8_priceFor_41 : decode cX8_priceFor 41 = .ok (.iload_n 3, 1) := by decide +kernel
theorem dX8_priceFor_42 : decode cX8_priceFor 42 = .ok (.aload_n 1, 1) := by decide +kernel
theorem dX8_priceFor_43 : decode cX8_priceFor 43 = .ok (.getfield 73, 3) := by decide +kernel
theorem dX8_priceFor_46 : decode cX8_priceFor 46 = .ok (.aload_n 0, 1) := by decide +kernel
theorem dX8_priceFor_47 : decode cX8_priceFor 47 = .ok (.getfield 24, 3) := by decide +kernel
theorem dX8_priceFor_50 : decode cX8_priceFor 50 = .ok (.bipush 12, 2) := by decide +kernel
theorem dX8_priceFor_52 : decode cX8_priceFor 52 = .ok (.imul, 1) := by decide +kernel
theorem dX8_priceFor_53 : decode cX8_priceFor 53 = .ok (.iload_n 2, 1) := by decide +kernel
theorem dX8_priceFor_54 : decode cX8_priceFor 54 = .ok (.iadd, 1) := by decide +kernel
theorem dX8_priceFor_55 : decode cX8_priceFor 55 = .ok (.iaload, 1) := by decide +kernel
theorem dX8_priceFor_56 : decode cX8_priceFor 56 = .ok (.iadd, 1) := by decide +kernel
theorem dX8_priceFor_57 : decode cX8_priceFor 57 = .ok (.goto 4, 3) := by decide +kernel
theorem dX8_priceFor_60 : decode cX8_priceFor 60 = .ok (.iload_n 3, 1) := by decide +kernel
theorem dX8_priceFor_61 : decode cX8_priceFor 61 = .ok (.ireturn, 1) := by decide +kernel
theorem dX9_init_0 : decode cX9_init 0 = .ok (.aload_n 0, 1) := by decide +kernel
theorem dX9_init_1 : decode cX9_init 1 = .ok (.invokespecial 3, 3) := by decide +kernel
theorem dX9_init_4 : decode cX9_init 4 = .ok (.aload_n 0, 1) := by decide +kernel
theorem dX9_init_5 : decode cX9_init 5 = .ok (.iload_n 1, 1) := by decide +kernel
theorem dX9_init_6 : decode cX9_init 6 = .ok (.putfield 9, 3) := by decide +kernel
theorem dX9_init_9 : decode cX9_init 9 = .ok (.aload_n 0, 1) := by decide +kernel
theorem dX9_init_10 : decode cX9_init 10 = .ok (.iload_n 2, 1) := by decide +kernel
theorem dX9_init_11 : decode cX9_init 11 = .ok (.putfield 15, 3) := by decide +kernel
theorem dX9_init_14 : decode cX9_init 14 = .ok (.aload_n 0, 1) := by decide +kernel
theorem dX9_init_15 : decode cX9_init 15 = .ok (.aload_n 3, 1) := by decide +kernel
theorem dX9_init_16 : decode cX9_init 16 = .ok (.putfield 18, 3) := by decide +kernel
theorem dX9_init_19 : decode cX9_init 19 = .ok (.aload_n 0, 1) := by decide +kernel
theorem dX9_init_20 : decode cX9_init 20 = .ok (.iload 4, 2) := by decide +kernel
theorem dX9_init_22 : decode cX9_init 22 = .ok (.putfield 22, 3) := by decide +kernel
theorem dX9_init_25 : decode cX9_init 25 = .ok (.aload_n 0, 1) := by decide +kernel
theorem dX9_init_26 : decode cX9_init 26 = .ok (.bipush 6, 2) := by decide +kernel
theorem dX9_init_28 : decode cX9_init 28 = .ok (.newarray .int, 2) := by decide +kernel
theorem dX9_init_30 : decode cX9_init 30 = .ok (.putfield 25, 3) := by decide +kernel
theorem dX9_init_33 : decode cX9_init 33 = .ok (.aload_n 0, 1) := by decide +kernel
theorem dX9_init_34 : decode cX9_init 34 = .ok (.bipush 6, 2) := by decide +kernel
theorem dX9_init_36 : decode cX9_init 36 = .ok (.newarray .int, 2) := by decide +kernel
theorem dX9_init_38 : decode cX9_init 38 = .ok (.putfield 29, 3) := by decide +kernel
theorem dX9_init_41 : decode cX9_init 41 = .ok (.aload_n 0, 1) := by decide +kernel
theorem dX9_init_42 : decode cX9_init 42 = .ok (.bipush 52, 2) := by decide +kernel
theorem dX9_init_44 : decode cX9_init 44 = .ok (.newarray .int, 2) := by decide +kernel
theorem dX9_init_46 : decode cX9_init 46 = .ok (.putfield 32, 3) := by decide +kernel
theorem dX9_init_49 : decode cX9_init 49 = .ok (.iconst 0, 1) := by decide +kernel
theorem dX9_init_50 : decode cX9_init 50 = .ok (.istore 5, 2) := by decide +kernel
theorem dX9_init_52 : decode cX9_init 52 = .ok (.iload 5, 2) := by decide +kernel
theorem dX9_init_54 : decode cX9_init 54 = .ok (.bipush 52, 2) := by decide +kernel
theorem dX9_init_56 : decode cX9_init 56 = .ok (.if_icmp .ge 17, 3) := by decide +kernel
theorem dX9_init_59 : decode cX9_init 59 = .ok (.aload_n 0, 1) := by decide +kernel
theorem dX9_init_60 : decode cX9_init 60 = .ok (.getfield 32, 3) := by decide +kernel
theorem dX9_init_63 : decode cX9_init 63 = .ok (.iload 5, 2) := by decide +kernel
theorem dX9_init_65 : decode cX9_init 65 = .ok (.iconst (-1), 1) := by decide +kernel
theorem dX9_init_66 : decode cX9_init 66 = .ok (.iastore, 1) := by decide +kernel
theorem dX9_init_67 : decode cX9_init 67 = .ok (.iinc 5 1, 3) := by decide +kernel
theorem dX9_init_70 : decode cX9_init 70 = .ok (.goto (-18), 3) := by decide +kernel
theorem dX9_init_73 : decode cX9_init 73 = .ok (.return_, 1) := by decide +kernel
theorem dX9_isSplit_0 : decode cX9_isSplit 0 = .ok (.aload_n 0, 1) := by decide +kernel
theorem dX9_isSplit_1 : decode cX9_isSplit 1 = .ok (.getfield 22, 3) := by decide +kernel
theorem dX9_isSplit_4 : decode cX9_isSplit 4 = .ok (.iconst (-1), 1) := by decide +kernel
theorem dX9_isSplit_5 : decode cX9_isSplit 5 = .ok (.if_icmp .eq 7, 3) := by decide +kernel
theorem dX9_isSplit_8 : decode cX9_isSplit 8 = .ok (.iconst 1, 1) := by decide +kernel
theorem dX9_isSplit_9 : decode cX9_isSplit 9 = .ok (.goto 4, 3) := by decide +kernel
theorem dX9_isSplit_12 : decode cX9_isSplit 12 = .ok (.iconst 0, 1) := by decide +kernel
theorem dX9_isSplit_13 : decode cX9_isSplit 13 = .ok (.ireturn, 1) := by decide +kernel
theorem dX9_mostWeeks_0 : decode cX9_mostWeeks 0 = .ok (.aload_n 0, 1) := by decide +kernel
theorem dX9_mostWeeks_1 : decode cX9_mostWeeks 1 = .ok (.invokevirtual 35, 3) := by decide +kernel
theorem dX9_mostWeeks_4 : decode cX9_mostWeeks 4 = .ok (.ifCond .eq 7, 3) := by decide +kernel
theorem dX9_mostWeeks_7 : decode cX9_mostWeeks 7 = .ok (.iconst 4, 1) := by decide +kernel
theorem dX9_mostWeeks_8 : decode cX9_mostWeeks 8 = .ok (.goto 5, 3) := by decide +kernel
theorem dX9_mostWeeks_11 : decode cX9_mostWeeks 11 = .ok (.bipush 6, 2) := by decide +kernel
theorem dX9_mostWeeks_13 : decode cX9_mostWeeks 13 = .ok (.ireturn, 1) := by decide +kernel
theorem dX9_choices_0 : decode cX9_choices 0 = .ok (.aload_n 0, 1) := by decide +kernel
theorem dX9_choices_1 : decode cX9_choices 1 = .ok (.invokevirtual 35, 3) := by decide +kernel
theorem dX9_choices_4 : decode cX9_choices 4 = .ok (.ifCond .eq 8, 3) := by decide +kernel
theorem dX9_choices_7 : decode cX9_choices 7 = .ok (.bipush 15, 2) := by decide +kernel
theorem dX9_choices_9 : decode cX9_choices 9 = .ok (.goto 5, 3) := by decide +kernel
theorem dX9_choices_12 : decode cX9_choices 12 = .ok (.bipush 6, 2) := by decide +kernel
theorem dX9_choices_14 : decode cX9_choices 14 = .ok (.ireturn, 1) := by decide +kernel
theorem dX9_firstOf_0 : decode cX9_firstOf 0 = .ok (.aload_n 0, 1) := by decide +kernel
theorem dX9_firstOf_1 : decode cX9_firstOf 1 = .ok (.invokevirtual 35, 3) := by decide +kernel
theorem dX9_firstOf_4 : decode cX9_firstOf 4 = .ok (.ifCond .eq 11, 3) := by decide +kernel
theorem dX9_firstOf_7 : decode cX9_firstOf 7 = .ok (.getstatic 39, 3) := by decide +kernel
theorem dX9_firstOf_10 : decode cX9_firstOf 10 = .ok (.iload_n 1, 1) := by decide +kernel
theorem dX9_firstOf_11 : decode cX9_firstOf 11 = .ok (.iaload, 1) := by decide +kernel
theorem dX9_firstOf_12 : decode cX9_firstOf 12 = .ok (.goto 4, 3) := by decide +kernel
theorem dX9_firstOf_15 : decode cX9_firstOf 15 = .ok (.iload_n 1, 1) := by decide +kernel
theorem dX9_firstOf_16 : decode cX9_firstOf 16 = .ok (.ireturn, 1) := by decide +kernel
theorem dX9_secondOf_0 : decode cX9_secondOf 0 = .ok (.aload_n 0, 1) := by decide +kernel
theorem dX9_secondOf_1 : decode cX9_secondOf 1 = .ok (.invokevirtual 35, 3) := by decide +kernel
theorem dX9_secondOf_4 : decode cX9_secondOf 4 = .ok (.ifCond .eq 11, 3) := by decide +kernel
theorem dX9_secondOf_7 : decode cX9_secondOf 7 = .ok (.getstatic 42, 3) := by decide +kernel
theorem dX9_secondOf_10 : decode cX9_secondOf 10 = .ok (.iload_n 1, 1) := by decide +kernel
theorem dX9_secondOf_11 : decode cX9_secondOf 11 = .ok (.iaload, 1) := by decide +kernel
theorem dX9_secondOf_12 : decode cX9_secondOf 12 = .ok (.goto 4, 3) := by decide +kernel
theorem dX9_secondOf_15 : decode cX9_secondOf 15 = .ok (.iconst (-1), 1) := by decide +kernel
theorem dX9_secondOf_16 : decode cX9_secondOf 16 = .ok (.ireturn, 1) := by decide +kernel
theorem dX9_has_0 : decode cX9_has 0 = .ok (.aload_n 0, 1) := by decide +kernel
theorem dX9_has_1 : decode cX9_has 1 = .ok (.iload_n 1, 1) := by decide +kernel
theorem dX9_has_2 : decode cX9_has 2 = .ok (.invokevirtual 45, 3) := by decide +kernel
theorem dX9_has_5 : decode cX9_has 5 = .ok (.aload_n 0, 1) := by decide +kernel
theorem dX9_has_6 : decode cX9_has 6 = .ok (.iload_n 1, 1) := by decide +kernel
theorem dX9_has_7 : decode cX9_has 7 = .ok (.invokevirtual 49, 3) := by decide +kernel
theorem dX9_has_10 : decode cX9_has 10 = .ok (.invokestatic 52, 3) := by decide +kernel
theorem dX9_has_13 : decode cX9_has 13 = .ok (.aload_n 0, 1) := by decide +kernel
theorem dX9_has_14 : decode cX9_has 14 = .ok (.getfield 58, 3) := by decide +kernel
theorem dX9_has_17 : decode cX9_has 17 = .ok (.if_icmp .ge 7, 3) := by decide +kernel
theorem dX9_has_20 : decode cX9_has 20 = .ok (.iconst 1, 1) := by decide +kernel
theorem dX9_has_21 : decode cX9_has 21 = .ok (.goto 4, 3) := by decide +kernel
theorem dX9_has_24 : decode cX9_has 24 = .ok (.iconst 0, 1) := by decide +kernel
theorem dX9_has_25 : decode cX9_has 25 = .ok (.ireturn, 1) := by decide +kernel
theorem dX9_choiceOf_0 : decode cX9_choiceOf 0 = .ok (.iconst 0, 1) := by decide +kernel
theorem dX9_choiceOf_1 : decode cX9_choiceOf 1 = .ok (.istore_n 3, 1) := by decide +kernel
theorem dX9_choiceOf_2 : decode cX9_choiceOf 2 = .ok (.iload_n 3, 1) := by decide +kernel
theorem dX9_choiceOf_3 : decode cX9_choiceOf 3 = .ok (.aload_n 0, 1) := by decide +kernel
theorem dX9_choiceOf_4 : decode cX9_choiceOf 4 = .ok (.invokevirtual 61, 3) := by decide +kernel
theorem dX9_choiceOf_7 : decode cX9_choiceOf 7 = .ok (.if_icmp .ge 37, 3) := by decide +kernel
theorem dX9_choiceOf_10 : decode cX9_choiceOf 10 = .ok (.aload_n 0, 1) := by decide +kernel
theorem dX9_choiceOf_11 : decode cX9_choiceOf 11 = .ok (.iload_n 3, 1) := by decide +kernel
theorem dX9_choiceOf_12 : decode cX9_choiceOf 12 = .ok (.invokevirtual 65, 3) := by decide +kernel
theorem dX9_choiceOf_15 : decode cX9_choiceOf 15 = .ok (.ifCond .eq 23, 3) := by decide +kernel
theorem dX9_choiceOf_18 : decode cX9_choiceOf 18 = .ok (.aload_n 0, 1) := by decide +kernel
theorem dX9_choiceOf_19 : decode cX9_choiceOf 19 = .ok (.iload_n 3, 1) := by decide +kernel
theorem dX9_choiceOf_20 : decode cX9_choiceOf 20 = .ok (.invokevirtual 45, 3) := by decide +kernel
theorem dX9_choiceOf_23 : decode cX9_choiceOf 23 = .ok (.iload_n 1, 1) := by decide +kernel
theorem dX9_choiceOf_24 : decode cX9_choiceOf 24 = .ok (.if_icmp .ne 14, 3) := by decide +kernel
theorem dX9_choiceOf_27 : decode cX9_choiceOf 27 = .ok (.aload_n 0, 1) := by decide +kernel
theorem dX9_choiceOf_28 : decode cX9_choiceOf 28 = .ok (.iload_n 3, 1) := by decide +kernel
theorem dX9_choiceOf_29 : decode cX9_choiceOf 29 = .ok (.invokevirtual 49, 3) := by decide +kernel
theorem dX9_choiceOf_32 : decode cX9_choiceOf 32 = .ok (.iload_n 2, 1) := by decide +kernel
theorem dX9_choiceOf_33 : decode cX9_choiceOf 33 = .ok (.if_icmp .ne 5, 3) := by decide +kernel
theorem dX9_choiceOf_36 : decode cX9_choiceOf 36 = .ok (.iload_n 3, 1) := by decide +kernel
theorem dX9_choiceOf_37 : decode cX9_choiceOf 37 = .ok (.ireturn, 1) := by decide +kernel
theorem dX9_choiceOf_38 : decode cX9_choiceOf 38 = .ok (.iinc 3 1, 3) := by decide +kernel
theorem dX9_choiceOf_41 : decode cX9_choiceOf 41 = .ok (.goto (-39), 3) := by decide +kernel
theorem dX9_choiceOf_44 : decode cX9_choiceOf 44 = .ok (.iconst (-1), 1) := by decide +kernel
theorem dX9_choiceOf_45 : decode cX9_choiceOf 45 = .ok (.ireturn, 1) := by decide +kernel
theorem dX9_optionsOf_0 : decode cX9_optionsOf 0 = .ok (.aload_n 0, 1) := by decide +kernel
theorem dX9_optionsOf_1 : decode cX9_optionsOf 1 = .ok (.invokevirtual 35, 3) := by decide +kernel
theorem dX9_optionsOf_4 : decode cX9_optionsOf 4 = .ok (.ifCond .eq 21, 3) := by decide +kernel
theorem dX9_optionsOf_7 : decode cX9_optionsOf 7 = .ok (.iconst 1, 1) := by decide +kernel
theorem dX9_optionsOf_8 : decode cX9_optionsOf 8 = .ok (.aload_n 0, 1) := by decide +kernel
theorem dX9_optionsOf_9 : decode cX9_optionsOf 9 = .ok (.iload_n 1, 1) := by decide +kernel
theorem dX9_optionsOf_10 : decode cX9_optionsOf 10 = .ok (.invokevirtual 45, 3) := by decide +kernel
theorem dX9_optionsOf_13 : decode cX9_optionsOf 13 = .ok (.ishl, 1) := by decide +kernel
theorem dX9_optionsOf_14 : decode cX9_optionsOf 14 = .ok (.iconst 1, 1) := by decide +kernel
theorem dX9_optionsOf_15 : decode cX9_optionsOf 15 = .ok (.aload_n 0, 1) := by decide +kernel
theorem dX9_optionsOf_16 : decode cX9_optionsOf 16 = .ok (.iload_n 1, 1) := by decide +kernel
theorem dX9_optionsOf_17 : decode cX9_optionsOf 17 = .ok (.invokevirtual 49, 3) := by decide +kernel
theorem dX9_optionsOf_20 : decode cX9_optionsOf 20 = .ok (.ishl, 1) := by decide +kernel
theorem dX9_optionsOf_21 : decode cX9_optionsOf 21 = .ok (.ior, 1) := by decide +kernel
theorem dX9_optionsOf_22 : decode cX9_optionsOf 22 = .ok (.goto 6, 3) := by decide +kernel
theorem dX9_optionsOf_25 : decode cX9_optionsOf 25 = .ok (.iconst 1, 1) := by decide +kernel
theorem dX9_optionsOf_26 : decode cX9_optionsOf 26 = .ok (.iload_n 1, 1) := by decide +kernel
theorem dX9_optionsOf_27 : decode cX9_optionsOf 27 = .ok (.ishl, 1) := by decide +kernel
theorem dX9_optionsOf_28 : decode cX9_optionsOf 28 = .ok (.ireturn, 1) := by decide +kernel
theorem dX9_allOptions_0 : decode cX9_allOptions 0 = .ok (.iconst 1, 1) := by decide +kernel
theorem dX9_allOptions_1 : decode cX9_allOptions 1 = .ok (.aload_n 0, 1) := by decide +kernel
theorem dX9_allOptions_2 : decode cX9_allOptions 2 = .ok (.getfield 58, 3) := by decide +kernel
theorem dX9_allOptions_5 : decode cX9_allOptions 5 = .ok (.ishl, 1) := by decide +kernel
theorem dX9_allOptions_6 : decode cX9_allOptions 6 = .ok (.iconst 1, 1) := by decide +kernel
theorem dX9_allOptions_7 : decode cX9_allOptions 7 = .ok (.isub, 1) := by decide +kernel
theorem dX9_allOptions_8 : decode cX9_allOptions 8 = .ok (.ireturn, 1) := by decide +kernel
theorem dX9_startOf_0 : decode cX9_startOf 0 = .ok (.iload_n 1, 1) := by decide +kernel
theorem dX9_startOf_1 : decode cX9_startOf 1 = .ok (.iconst (-1), 1) := by decide +kernel
theorem dX9_startOf_2 : decode cX9_startOf 2 = .ok (.if_icmp .ne 7, 3) := by decide +kernel
theorem dX9_startOf_5 : decode cX9_startOf 5 = .ok (.iconst (-1), 1) := by decide +kernel
theorem dX9_startOf_6 : decode cX9_startOf 6 = .ok (.goto 15, 3) := by decide +kernel
theorem dX9_startOf_9 : decode cX9_startOf 9 = .ok (.iload_n 2, 1) := by decide +kernel
theorem dX9_startOf_10 : decode cX9_startOf 10 = .ok (.sipush 336, 3) := by decide +kernel
theorem dX9_startOf_13 : decode cX9_startOf 13 = .ok (.imul, 1) := by decide +kernel
theorem dX9_startOf_14 : decode cX9_startOf 14 = .ok (.aload_n 0, 1) := by decide +kernel
theorem dX9_startOf_15 : decode cX9_startOf 15 = .ok (.getfield 25, 3) := by decide +kernel
theorem dX9_startOf_18 : decode cX9_startOf 18 = .ok (.iload_n 1, 1) := by decide +kernel
theorem dX9_startOf_19 : decode cX9_startOf 19 = .ok (.iaload, 1) := by decide +kernel
theorem dX9_startOf_20 : decode cX9_startOf 20 = .ok (.iadd, 1) := by decide +kernel
theorem dX9_startOf_21 : decode cX9_startOf 21 = .ok (.ireturn, 1) := by decide +kernel
theorem dX9_giveRole_0 : decode cX9_giveRole 0 = .ok (.iconst 0, 1) := by decide +kernel
theorem dX9_giveRole_1 : decode cX9_giveRole 1 = .ok (.istore_n 3, 1) := by decide +kernel
theorem dX9_giveRole_2 : decode cX9_giveRole 2 = .ok (.iload_n 3, 1) := by decide +kernel
theorem dX9_giveRole_3 : decode cX9_giveRole 3 = .ok (.bipush 6, 2) := by decide +kernel
theorem dX9_giveRole_5 : decode cX9_giveRole 5 = .ok (.if_icmp .ge 23, 3) := by decide +kernel
theorem dX9_giveRole_8 : decode cX9_giveRole 8 = .ok (.aload_n 0, 1) := by decide +kernel
theorem dX9_giveRole_9 : decode cX9_giveRole 9 = .ok (.getfield 29, 3) := by decide +kernel
theorem dX9_giveRole_12 : decode cX9_giveRole 12 = .ok (.iload_n 3, 1) := by decide +kernel
theorem dX9_giveRole_13 : decode cX9_giveRole 13 = .ok (.dup2, 1) := by decide +kernel
theorem dX9_giveRole_14 : decode cX9_giveRole 14 = .ok (.iaload, 1) := by decide +kernel
theorem dX9_giveRole_15 : decode cX9_giveRole 15 = .ok (.iconst 1, 1) := by decide +kernel
theorem dX9_giveRole_16 : decode cX9_giveRole 16 = .ok (.iload_n 1, 1) := by decide +kernel
theorem dX9_giveRole_17 : decode cX9_giveRole 17 = .ok (.ishl, 1) := by decide +kernel
theorem dX9_giveRole_18 : decode cX9_giveRole 18 = .ok (.iconst (-1), 1) := by decide +kernel
theorem dX9_giveRole_19 : decode cX9_giveRole 19 = .ok (.ixor, 1) := by decide +kernel
theorem dX9_giveRole_20 : decode cX9_giveRole 20 = .ok (.iand, 1) := by decide +kernel
theorem dX9_giveRole_21 : decode cX9_giveRole 21 = .ok (.iastore, 1) := by decide +kernel
theorem dX9_giveRole_22 : decode cX9_giveRole 22 = .ok (.iinc 3 1, 3) := by decide +kernel
theorem dX9_giveRole_25 : decode cX9_giveRole 25 = .ok (.goto (-23), 3) := by decide +kernel
theorem dX9_giveRole_28 : decode cX9_giveRole 28 = .ok (.aload_n 0, 1) := by decide +kernel
theorem dX9_giveRole_29 : decode cX9_giveRole 29 = .ok (.getfield 29, 3) := by decide +kernel
theorem dX9_giveRole_32 : decode cX9_giveRole 32 = .ok (.iload_n 2, 1) := by decide +kernel
theorem dX9_giveRole_33 : decode cX9_giveRole 33 = .ok (.dup2, 1) := by decide +kernel
theorem dX9_giveRole_34 : decode cX9_giveRole 34 = .ok (.iaload, 1) := by decide +kernel
theorem dX9_giveRole_35 : decode cX9_giveRole 35 = .ok (.iconst 1, 1) := by decide +kernel
theorem dX9_giveRole_36 : decode cX9_giveRole 36 = .ok (.iload_n 1, 1) := by decide +kernel
theorem dX9_giveRole_37 : decode cX9_giveRole 37 = .ok (.ishl, 1) := by decide +kernel
theorem dX9_giveRole_38 : decode cX9_giveRole 38 = .ok (.ior, 1) := by decide +kernel
theorem dX9_giveRole_39 : decode cX9_giveRole 39 = .ok (.iastore, 1) := by decide +kernel
theorem dX9_giveRole_40 : decode cX9_giveRole 40 = .ok (.return_, 1) := by decide +kernel
theorem dX9_withRole_0 : decode cX9_withRole 0 = .ok (.iconst 0, 1) := by decide +kernel
theorem dX9_withRole_1 : decode cX9_withRole 1 = .ok (.istore_n 1, 1) := by decide +kernel
theorem dX9_withRole_2 : decode cX9_withRole 2 = .ok (.iconst 1, 1) := by decide +kernel
theorem dX9_withRole_3 : decode cX9_withRole 3 = .ok (.istore_n 2, 1) := by decide +kernel
theorem dX9_withRole_4 : decode cX9_withRole 4 = .ok (.iload_n 2, 1) := by decide +kernel
theorem dX9_withRole_5 : decode cX9_withRole 5 = .ok (.bipush 6, 2) := by decide +kernel
theorem dX9_withRole_7 : decode cX9_withRole 7 = .ok (.if_icmp .ge 18, 3) := by decide +kernel
theorem dX9_withRole_10 : decode cX9_withRole 10 = .ok (.iload_n 1, 1) := by decide +kernel
theorem dX9_withRole_11 : decode cX9_withRole 11 = .ok (.aload_n 0, 1) := by decide +kernel
theorem dX9_withRole_12 : decode cX9_withRole 12 = .ok (.getfield 29, 3) := by decide +kernel
theorem dX9_withRole_15 : decode cX9_withRole 15 = .ok (.iload_n 2, 1) := by decide +kernel
theorem dX9_withRole_16 : decode cX9_withRole 16 = .ok (.iaload, 1) := by decide +kernel
theorem dX9_withRole_17 : decode cX9_withRole 17 = .ok (.ior, 1) := by decide +kernel
theorem dX9_withRole_18 : decode cX9_withRole 18 = .ok (.istore_n 1, 1) := by decide +kernel
theorem dX9_withRole_19 : decode cX9_withRole 19 = .ok (.iinc 2 1, 3) := by decide +kernel
theorem dX9_withRole_22 : decode cX9_withRole 22 = .ok (.goto (-18), 3) := by decide +kernel
theorem dX9_withRole_25 : decode cX9_withRole 25 = .ok (.iload_n 1, 1) := by decide +kernel
theorem dX9_withRole_26 : decode cX9_withRole 26 = .ok (.ireturn, 1) := by decide +kernel
theorem dX9_chairAlone_0 : decode cX9_chairAlone 0 = .ok (.aload_n 0, 1) := by decide +kernel
theorem dX9_chairAlone_1 : decode cX9_chairAlone 1 = .ok (.invokevirtual 35, 3) := by decide +kernel
theorem dX9_chairAlone_4 : decode cX9_chairAlone 4 = .ok (.ifCond .eq 12, 3) := by decide +kernel
theorem dX9_chairAlone_7 : decode cX9_chairAlone 7 = .ok (.iconst 1, 1) := by decide +kernel
theorem dX9_chairAlone_8 : decode cX9_chairAlone 8 = .ok (.aload_n 0, 1) := by decide +kernel
theorem dX9_chairAlone_9 : decode cX9_chairAlone 9 = .ok (.getfield 22, 3) := by decide +kernel
theorem dX9_chairAlone_12 : decode cX9_chairAlone 12 = .ok (.ishl, 1) := by decide +kernel
theorem dX9_chairAlone_13 : decode cX9_chairAlone 13 = .ok (.goto 4, 3) := by decide +kernel
theorem dX9_chairAlone_16 : decode cX9_chairAlone 16 = .ok (.iconst 0, 1) := by decide +kernel
theorem dX9_chairAlone_17 : decode cX9_chairAlone 17 = .ok (.ireturn, 1) := by decide +kernel
theorem dX9_everyone_0 : decode cX9_everyone 0 = .ok (.aload_n 0, 1) := by decide +kernel
theorem dX9_everyone_1 : decode cX9_everyone 1 = .ok (.invokevirtual 69, 3) := by decide +kernel
theorem dX9_everyone_4 : decode cX9_everyone 4 = .ok (.aload_n 0, 1) := by decide +kernel
theorem dX9_everyone_5 : decode cX9_everyone 5 = .ok (.invokevirtual 72, 3) := by decide +kernel
theorem dX9_everyone_8 : decode cX9_everyone 8 = .ok (.ior, 1) := by decide +kernel
theorem dX9_everyone_9 : decode cX9_everyone 9 = .ok (.ireturn, 1) := by decide +kernel
theorem dX9_hasCant_0 : decode cX9_hasCant 0 = .ok (.aload_n 0, 1) := by decide +kernel
theorem dX9_hasCant_1 : decode cX9_hasCant 1 = .ok (.getfield 75, 3) := by decide +kernel
theorem dX9_hasCant_4 : decode cX9_hasCant 4 = .ok (.astore 4, 2) := by decide +kernel
theorem dX9_hasCant_6 : decode cX9_hasCant 6 = .ok (.aload 4, 2) := by decide +kernel
theorem dX9_hasCant_8 : decode cX9_hasCant 8 = .ok (.ifnull 42, 3) := by decide +kernel
theorem dX9_hasCant_11 : decode cX9_hasCant 11 = .ok (.aload 4, 2) := by decide +kernel
theorem dX9_hasCant_13 : decode cX9_hasCant 13 = .ok (.getfield 79, 3) := by decide +kernel
theorem dX9_hasCant_16 : decode cX9_hasCant 16 = .ok (.iload_n 3, 1) := by decide +kernel
theorem dX9_hasCant_17 : decode cX9_hasCant 17 = .ok (.if_icmp .ge 23, 3) := by decide +kernel
theorem dX9_hasCant_20 : decode cX9_hasCant 20 = .ok (.aload 4, 2) := by decide +kernel
theorem dX9_hasCant_22 : decode cX9_hasCant 22 = .ok (.getfield 82, 3) := by decide +kernel
theorem dX9_hasCant_25 : decode cX9_hasCant 25 = .ok (.iload_n 1, 1) := by decide +kernel
theorem dX9_hasCant_26 : decode cX9_hasCant 26 = .ok (.if_icmp .ne 14, 3) := by decide +kernel
theorem dX9_hasCant_29 : decode cX9_hasCant 29 = .ok (.aload 4, 2) := by decide +kernel
theorem dX9_hasCant_31 : decode cX9_hasCant 31 = .ok (.getfield 85, 3) := by decide +kernel
theorem dX9_hasCant_34 : decode cX9_hasCant 34 = .ok (.iload_n 2, 1) := by decide +kernel
theorem dX9_hasCant_35 : decode cX9_hasCant 35 = .ok (.if_icmp .ne 5, 3) := by decide +kernel
theorem dX9_hasCant_38 : decode cX9_hasCant 38 = .ok (.iconst 1, 1) := by decide +kernel
theorem dX9_hasCant_39 : decode cX9_hasCant 39 = .ok (.ireturn, 1) := by decide +kernel
theorem dX9_hasCant_40 : decode cX9_hasCant 40 = .ok (.aload 4, 2) := by decide +kernel
theorem dX9_hasCant_42 : decode cX9_hasCant 42 = .ok (.getfield 88, 3) := by decide +kernel
theorem dX9_hasCant_45 : decode cX9_hasCant 45 = .ok (.astore 4, 2) := by decide +kernel
theorem dX9_hasCant_47 : decode cX9_hasCant 47 = .ok (.goto (-41), 3) := by decide +kernel
theorem dX9_hasCant_50 : decode cX9_hasCant 50 = .ok (.iconst 0, 1) := by decide +kernel
theorem dX9_hasCant_51 : decode cX9_hasCant 51 = .ok (.ireturn, 1) := by decide +kernel
theorem dX10_init_0 : decode cX10_init 0 = .ok (.aload_n 0, 1) := by decide +kernel
theorem dX10_init_1 : decode cX10_init 1 = .ok (.invokespecial 3, 3) := by decide +kernel
theorem dX10_init_4 : decode cX10_init 4 = .ok (.aload_n 0, 1) := by decide +kernel
theorem dX10_init_5 : decode cX10_init 5 = .ok (.bipush 6, 2) := by decide +kernel
theorem dX10_init_7 : decode cX10_init 7 = .ok (.newarray .int, 2) := by decide +kernel
theorem dX10_init_9 : decode cX10_init 9 = .ok (.putfield 9, 3) := by decide +kernel
theorem dX10_init_12 : decode cX10_init 12 = .ok (.aload_n 0, 1) := by decide +kernel
theorem dX10_init_13 : decode cX10_init 13 = .ok (.bipush 6, 2) := by decide +kernel
theorem dX10_init_15 : decode cX10_init 15 = .ok (.newarray .int, 2) := by decide +kernel
theorem dX10_init_17 : decode cX10_init 17 = .ok (.putfield 15, 3) := by decide +kernel
theorem dX10_init_20 : decode cX10_init 20 = .ok (.aload_n 0, 1) := by decide +kernel
theorem dX10_init_21 : decode cX10_init 21 = .ok (.bipush 72, 2) := by decide +kernel
theorem dX10_init_23 : decode cX10_init 23 = .ok (.newarray .int, 2) := by decide +kernel
theorem dX10_init_25 : decode cX10_init 25 = .ok (.putfield 18, 3) := by decide +kernel
theorem dX10_init_28 : decode cX10_init 28 = .ok (.return_, 1) := by decide +kernel
theorem dX10_fill_0 : decode cX10_fill 0 = .ok (.iconst 0, 1) := by decide +kernel
theorem dX10_fill_1 : decode cX10_fill 1 = .ok (.istore 7, 2) := by decide +kernel
theorem dX10_fill_3 : decode cX10_fill 3 = .ok (.iload 7, 2) := by decide +kernel
theorem dX10_fill_5 : decode cX10_fill 5 = .ok (.aload_n 1, 1) := by decide +kernel
theorem dX10_fill_6 : decode cX10_fill 6 = .ok (.getfield 21, 3) := by decide +kernel
theorem dX10_fill_9 : decode cX10_fill 9 = .ok (.if_icmp .ge 185, 3) := by decide +kernel
theorem dX10_fill_12 : decode cX10_fill 12 = .ok (.iload_n 2, 1) := by decide +kernel
theorem dX10_fill_13 : decode cX10_fill 13 = .ok (.iload 7, 2) := by decide +kernel
theorem dX10_fill_15 : decode cX10_fill 15 = .ok (.invokestatic 27, 3) := by decide +kernel
theorem dX10_fill_18 : decode cX10_fill 18 = .ok (.ifCond .eq 170, 3) := by decide +kernel
theorem dX10_fill_21 : decode cX10_fill 21 = .ok (.aload_n 1, 1) := by decide +kernel
theorem dX10_fill_22 : decode cX10_fill 22 = .ok (.iload 7, 2) := by decide +kernel
theorem dX10_fill_24 : decode cX10_fill 24 = .ok (.iload_n 3, 1) := by decide +kernel
theorem dX10_fill_25 : decode cX10_fill 25 = .ok (.invokevirtual 31, 3) := by decide +kernel
theorem dX10_fill_28 : decode cX10_fill 28 = .ok (.istore 8, 2) := by decide +kernel
theorem dX10_fill_30 : decode cX10_fill 30 = .ok (.iload 8, 2) := by decide +kernel
theorem dX10_fill_32 : decode cX10_fill 32 = .ok (.aload_n 1, 1) := by decide +kernel
theorem dX10_fill_33 : decode cX10_fill 33 = .ok (.getfield 35, 3) := by decide +kernel
theorem dX10_fill_36 : decode cX10_fill 36 = .ok (.iadd, 1) := by decide +kernel
theorem dX10_fill_37 : decode cX10_fill 37 = .ok (.sipush 17472, 3) := by decide +kernel
theorem dX10_fill_40 : decode cX10_fill 40 = .ok (.if_icmp .gt 7, 3) := by decide +kernel
theorem dX10_fill_43 : decode cX10_fill 43 = .ok (.iconst 1, 1) := by decide +kernel
theorem dX10_fill_44 : decode cX10_fill 44 = .ok (.goto 4, 3) := by decide +kernel
theorem dX10_fill_47 : decode cX10_fill 47 = .ok (.iconst 0, 1) := by decide +kernel
theorem dX10_fill_48 : decode cX10_fill 48 = .ok (.istore 9, 2) := by decide +kernel
theorem dX10_fill_50 : decode cX10_fill 50 = .ok (.aload_n 0, 1) := by decide +kernel
theorem dX10_fill_51 : decode cX10_fill 51 = .ok (.getfield 9, 3) := by decide +kernel
theorem dX10_fill_54 : decode cX10_fill 54 = .ok (.iload 7, 2) := by decide +kernel
theorem dX10_fill_56 : decode cX10_fill 56 = .ok (.iload 9, 2) := by decide +kernel
theorem dX10_fill_58 : decode cX10_fill 58 = .ok (.ifCond .eq 8, 3) := by decide +kernel
theorem dX10_fill_61 : decode cX10_fill 61 = .ok (.iload 8, 2) := by decide +kernel
theorem dX10_fill_63 : decode cX10_fill 63 = .ok (.goto 4, 3) := by decide +kernel
theorem dX10_fill_66 : decode cX10_fill 66 = .ok (.iconst (-1), 1) := by decide +kernel
theorem dX10_fill_67 : decode cX10_fill 67 = .ok (.iastore, 1) := by decide +kernel
theorem dX10_fill_68 : decode cX10_fill 68 = .ok (.aload_n 0, 1) := by decide +kernel
theorem dX10_fill_69 : decode cX10_fill 69 = .ok (.getfield 15, 3) := by decide +kernel
theorem dX10_fill_72 : decode cX10_fill 72 = .ok (.iload 7, 2) := by decide +kernel
theorem dX10_fill_74 : decode cX10_fill 74 = .ok (.iconst 0, 1) := by decide +kernel
theorem dX10_fill_75 : decode cX10_fill 75 = .ok (.iastore, 1) := by decide +kernel
theorem dX10_fill_76 : decode cX10_fill 76 = .ok (.iconst 0, 1) := by decide +kernel
theorem dX10_fill_77 : decode cX10_fill 77 = .ok (.istore 10, 2) := by decide +kernel
theorem dX10_fill_79 : decode cX10_fill 79 = .ok (.iload 10, 2) := by decide +kernel
theorem dX10_fill_81 : decode cX10_fill 81 = .ok (.aload 6, 2) := by decide +kernel
theorem dX10_fill_83 : decode cX10_fill 83 = .ok (.arraylength, 1) := by decide +kernel
theorem dX10_fill_84 : decode cX10_fill 84 = .ok (.if_icmp .ge 104, 3) := by decide +kernel
theorem dX10_fill_87 : decode cX10_fill 87 = .ok (.iload 9, 2) := by decide +kernel
theorem dX10_fill_89 : decode cX10_fill 89 = .ok (.ifCond .eq 99, 3) := by decide +kernel
theorem dX10_fill_92 : decode cX10_fill 92 = .ok (.aload 6, 2) := by decide +kernel
theorem dX10_fill_94 : decode cX10_fill 94 = .ok (.iload 10, 2) := by decide +kernel
theorem dX10_fill_96 : decode cX10_fill 96 = .ok (.aaload, 1) := by decide +kernel
theorem dX10_fill_97 : decode cX10_fill 97 = .ok (.astore 11, 2) := by decide +kernel
theorem dX10_fill_99 : decode cX10_fill 99 = .ok (.aload 11, 2) := by decide +kernel
theorem dX10_fill_101 : decode cX10_fill 101 = .ok (.ifnull 81, 3) := by decide +kernel
theorem dX10_fill_104 : decode cX10_fill 104 = .ok (.iload 5, 2) := by decide +kernel
theorem dX10_fill_106 : decode cX10_fill 106 = .ok (.iload 10, 2) := by decide +kernel
theorem dX10_fill_108 : decode cX10_fill 108 = .ok (.invokestatic 27, 3) := by decide +kernel
theorem dX10_fill_111 : decode cX10_fill 111 = .ok (.ifCond .eq 71, 3) := by decide +kernel
theorem dX10_fill_114 : decode cX10_fill 114 = .ok (.aload_n 1, 1) := by decide +kernel
theorem dX10_fill_115 : decode cX10_fill 115 = .ok (.iload 10, 2) := by decide +kernel
theorem dX10_fill_117 : decode cX10_fill 117 = .ok (.iload_n 3, 1) := by decide +kernel
theorem dX10_fill_118 : decode cX10_fill 118 = .ok (.iload 4, 2) := by decide +kernel
theorem dX10_fill_120 : decode cX10_fill 120 = .ok (.invokevirtual 38, 3) := by decide +kernel
theorem dX10_fill_123 : decode cX10_fill 123 = .ok (.ifCond .ne 59, 3) := by decide +kernel
theorem dX10_fill_126 : decode cX10_fill 126 = .ok (.aload 11, 2) := by decide +kernel
theorem dX10_fill_128 : decode cX10_fill 128 = .ok (.iload 8, 2) := by decide +kernel
theorem dX10_fill_130 : decode cX10_fill 130 = .ok (.aload_n 1, 1) := by decide +kernel
theorem dX10_fill_131 : decode cX10_fill 131 = .ok (.getfield 35, 3) := by decide +kernel
theorem dX10_fill_134 : decode cX10_fill 134 = .ok (.iload 4, 2) := by decide +kernel
theorem dX10_fill_136 : decode cX10_fill 136 = .ok (.invokevirtual 42, 3) := by decide +kernel
theorem dX10_fill_139 : decode cX10_fill 139 = .ok (.ifCond .ne 43, 3) := by decide +kernel
theorem dX10_fill_142 : decode cX10_fill 142 = .ok (.aload_n 0, 1) := by decide +kernel
theorem dX10_fill_143 : decode cX10_fill 143 = .ok (.getfield 15, 3) := by decide +kernel
theorem dX10_fill_146 : decode cX10_fill 146 = .ok (.iload 7, 2) := by decide +kernel
theorem dX10_fill_148 : decode cX10_fill 148 = .ok (.dup2, 1) := by decide +kernel
theorem dX10_fill_149 : decode cX10_fill 149 = .ok (.iaload, 1) := by decide +kernel
theorem dX10_fill_150 : decode cX10_fill 150 = .ok (.iconst 1, 1) := by decide +kernel
theorem dX10_fill_151 : decode cX10_fill 151 = .ok (.iload 10, 2) := by decide +kernel
theorem dX10_fill_153 : decode cX10_fill 153 = .ok (.ishl, 1) := by decide +kernel
theorem dX10_fill_154 : decode cX10_fill 154 = .ok (.ior, 1) := by decide +kernel
theorem dX10_fill_155 : decode cX10_fill 155 = .ok (.iastore, 1) := by decide +kernel
theorem dX10_fill_156 : decode cX10_fill 156 = .ok (.aload_n 0, 1) := by decide +kernel
theorem dX10_fill_157 : decode cX10_fill 157 = .ok (.getfield 18, 3) := by decide +kernel
theorem dX10_fill_160 : decode cX10_fill 160 = .ok (.iload 7, 2) := by decide +kernel
theorem dX10_fill_162 : decode cX10_fill 162 = .ok (.bipush 12, 2) := by decide +kernel
theorem dX10_fill_164 : decode cX10_fill 164 = .ok (.imul, 1) := by decide +kernel
theorem dX10_fill_165 : decode cX10_fill 165 = .ok (.iload 10, 2) := by decide +kernel
theorem dX10_fill_167 : decode cX10_fill 167 = .ok (.iadd, 1) := by decide +kernel
theorem dX10_fill_168 : decode cX10_fill 168 = .ok (.aload 11, 2) := by decide +kernel
theorem dX10_fill_170 : decode cX10_fill 170 = .ok (.iload 8, 2) := by decide +kernel
theorem dX10_fill_172 : decode cX10_fill 172 = .ok (.aload_n 1, 1) := by decide +kernel
theorem dX10_fill_173 : decode cX10_fill 173 = .ok (.getfield 35, 3) := by decide +kernel
theorem dX10_fill_176 : decode cX10_fill 176 = .ok (.iload 4, 2) := by decide +kernel
theorem dX10_fill_178 : decode cX10_fill 178 = .ok (.invokevirtual 48, 3) := by decide +kernel
theorem dX10_fill_181 : decode cX10_fill 181 = .ok (.iastore, 1) := by decide +kernel
theorem dX10_fill_182 : decode cX10_fill 182 = .ok (.iinc 10 1, 3) := by decide +kernel
theorem dX10_fill_185 : decode cX10_fill 185 = .ok (.goto (-106), 3) := by decide +kernel
theorem dX10_fill_188 : decode cX10_fill 188 = .ok (.iinc 7 1, 3) := by decide +kernel
theorem dX10_fill_191 : decode cX10_fill 191 = .ok (.goto (-188), 3) := by decide +kernel
theorem dX10_fill_194 : decode cX10_fill 194 = .ok (.return_, 1) := by decide +kernel
theorem dJ6_bitCount_0f7a4_0 : decode cJ6_bitCount_0f7a4 0 = .ok (.iload_n 0, 1) := by decide +kernel
theorem dJ6_bitCount_0f7a4_1 : decode cJ6_bitCount_0f7a4 1 = .ok (.iload_n 0, 1) := by decide +kernel
theorem dJ6_bitCount_0f7a4_2 : decode cJ6_bitCount_0f7a4 2 = .ok (.iconst 1, 1) := by decide +kernel
theorem dJ6_bitCount_0f7a4_3 : decode cJ6_bitCount_0f7a4 3 = .ok (.iushr, 1) := by decide +kernel
theorem dJ6_bitCount_0f7a4_4 : decode cJ6_bitCount_0f7a4 4 = .ok (.ldc_w 265, 3) := by decide +kernel
theorem dJ6_bitCount_0f7a4_7 : decode cJ6_bitCount_0f7a4 7 = .ok (.iand, 1) := by decide +kernel
theorem dJ6_bitCount_0f7a4_8 : decode cJ6_bitCount_0f7a4 8 = .ok (.isub, 1) := by decide +kernel
theorem dJ6_bitCount_0f7a4_9 : decode cJ6_bitCount_0f7a4 9 = .ok (.istore_n 0, 1) := by decide +kernel
theorem dJ6_bitCount_0f7a4_10 : decode cJ6_bitCount_0f7a4 10 = .ok (.iload_n 0, 1) := by decide +kernel
theorem dJ6_bitCount_0f7a4_11 : decode cJ6_bitCount_0f7a4 11 = .ok (.ldc_w 266, 3) := by decide +kernel
theorem dJ6_bitCount_0f7a4_14 : decode cJ6_bitCount_0f7a4 14 = .ok (.iand, 1) := by decide +kernel
theorem dJ6_bitCount_0f7a4_15 : decode cJ6_bitCount_0f7a4 15 = .ok (.iload_n 0, 1) := by decide +kernel
theorem dJ6_bitCount_0f7a4_16 : decode cJ6_bitCount_0f7a4 16 = .ok (.iconst 2, 1) := by decide +kernel
theorem dJ6_bitCount_0f7a4_17 : decode cJ6_bitCount_0f7a4 17 = .ok (.iushr, 1) := by decide +kernel
theorem dJ6_bitCount_0f7a4_18 : decode cJ6_bitCount_0f7a4 18 = .ok (.ldc_w 266, 3) := by decide +kernel
theorem dJ6_bitCount_0f7a4_21 : decode cJ6_bitCount_0f7a4 21 = .ok (.iand, 1) := by decide +kernel
theorem dJ6_bitCount_0f7a4_22 : decode cJ6_bitCount_0f7a4 22 = .ok (.iadd, 1) := by decide +kernel
theorem dJ6_bitCount_0f7a4_23 : decode cJ6_bitCount_0f7a4 23 = .ok (.istore_n 0, 1) := by decide +kernel
theorem dJ6_bitCount_0f7a4_24 : decode cJ6_bitCount_0f7a4 24 = .ok (.iload_n 0, 1) := by decide +kernel
theorem dJ6_bitCount_0f7a4_25 : decode cJ6_bitCount_0f7a4 25 = .ok (.iload_n 0, 1) := by decide +kernel
theorem dJ6_bitCount_0f7a4_26 : decode cJ6_bitCount_0f7a4 26 = .ok (.iconst 4, 1) := by decide +kernel
theorem dJ6_bitCount_0f7a4_27 : decode cJ6_bitCount_0f7a4 27 = .ok (.iushr, 1) := by decide +kernel
theorem dJ6_bitCount_0f7a4_28 : decode cJ6_bitCount_0f7a4 28 = .ok (.iadd, 1) := by decide +kernel
theorem dJ6_bitCount_0f7a4_29 : decode cJ6_bitCount_0f7a4 29 = .ok (.ldc_w 267, 3) := by decide +kernel
theorem dJ6_bitCount_0f7a4_32 : decode cJ6_bitCount_0f7a4 32 = .ok (.iand, 1) := by decide +kernel
theorem dJ6_bitCount_0f7a4_33 : decode cJ6_bitCount_0f7a4 33 = .ok (.istore_n 0, 1) := by decide +kernel
theorem dJ6_bitCount_0f7a4_34 : decode cJ6_bitCount_0f7a4 34 = .ok (.iload_n 0, 1) := by decide +kernel
theorem dJ6_bitCount_0f7a4_35 : decode cJ6_bitCount_0f7a4 35 = .ok (.iload_n 0, 1) := by decide +kernel
theorem dJ6_bitCount_0f7a4_36 : decode cJ6_bitCount_0f7a4 36 = .ok (.bipush 8, 2) := by decide +kernel
theorem dJ6_bitCount_0f7a4_38 : decode cJ6_bitCount_0f7a4 38 = .ok (.iushr, 1) := by decide +kernel
theorem dJ6_bitCount_0f7a4_39 : decode cJ6_bitCount_0f7a4 39 = .ok (.iadd, 1) := by decide +kernel
theorem dJ6_bitCount_0f7a4_40 : decode cJ6_bitCount_0f7a4 40 = .ok (.istore_n 0, 1) := by decide +kernel
theorem dJ6_bitCount_0f7a4_41 : decode cJ6_bitCount_0f7a4 41 = .ok (.iload_n 0, 1) := by decide +kernel
theorem dJ6_bitCount_0f7a4_42 : decode cJ6_bitCount_0f7a4 42 = .ok (.iload_n 0, 1) := by decide +kernel
theorem dJ6_bitCount_0f7a4_43 : decode cJ6_bitCount_0f7a4 43 = .ok (.bipush 16, 2) := by decide +kernel
theorem dJ6_bitCount_0f7a4_45 : decode cJ6_bitCount_0f7a4 45 = .ok (.iushr, 1) := by decide +kernel
theorem dJ6_bitCount_0f7a4_46 : decode cJ6_bitCount_0f7a4 46 = .ok (.iadd, 1) := by decide +kernel
theorem dJ6_bitCount_0f7a4_47 : decode cJ6_bitCount_0f7a4 47 = .ok (.istore_n 0, 1) := by decide +kernel
theorem dJ6_bitCount_0f7a4_48 : decode cJ6_bitCount_0f7a4 48 = .ok (.iload_n 0, 1) := by decide +kernel
theorem dJ6_bitCount_0f7a4_49 : decode cJ6_bitCount_0f7a4 49 = .ok (.bipush 63, 2) := by decide +kernel
theorem dJ6_bitCount_0f7a4_51 : decode cJ6_bitCount_0f7a4 51 = .ok (.iand, 1) := by decide +kernel
theorem dJ6_bitCount_0f7a4_52 : decode cJ6_bitCount_0f7a4 52 = .ok (.ireturn, 1) := by decide +kernel
theorem dJ9_floorDiv_7cf53_0 : decode cJ9_floorDiv_7cf53 0 = .ok (.iload_n 0, 1) := by decide +kernel
theorem dJ9_floorDiv_7cf53_1 : decode cJ9_floorDiv_7cf53 1 = .ok (.iload_n 1, 1) := by decide +kernel
theorem dJ9_floorDiv_7cf53_2 : decode cJ9_floorDiv_7cf53 2 = .ok (.idiv, 1) := by decide +kernel
theorem dJ9_floorDiv_7cf53_3 : decode cJ9_floorDiv_7cf53 3 = .ok (.istore_n 2, 1) := by decide +kernel
theorem dJ9_floorDiv_7cf53_4 : decode cJ9_floorDiv_7cf53 4 = .ok (.iload_n 0, 1) := by decide +kernel
theorem dJ9_floorDiv_7cf53_5 : decode cJ9_floorDiv_7cf53 5 = .ok (.iload_n 1, 1) := by decide +kernel
theorem dJ9_floorDiv_7cf53_6 : decode cJ9_floorDiv_7cf53 6 = .ok (.ixor, 1) := by decide +kernel
theorem dJ9_floorDiv_7cf53_7 : decode cJ9_floorDiv_7cf53 7 = .ok (.ifCond .ge 14, 3) := by decide +kernel
theorem dJ9_floorDiv_7cf53_10 : decode cJ9_floorDiv_7cf53 10 = .ok (.iload_n 2, 1) := by decide +kernel
theorem dJ9_floorDiv_7cf53_11 : decode cJ9_floorDiv_7cf53 11 = .ok (.iload_n 1, 1) := by decide +kernel
theorem dJ9_floorDiv_7cf53_12 : decode cJ9_floorDiv_7cf53 12 = .ok (.imul, 1) := by decide +kernel
theorem dJ9_floorDiv_7cf53_13 : decode cJ9_floorDiv_7cf53 13 = .ok (.iload_n 0, 1) := by decide +kernel
theorem dJ9_floorDiv_7cf53_14 : decode cJ9_floorDiv_7cf53 14 = .ok (.if_icmp .eq 7, 3) := by decide +kernel
theorem dJ9_floorDiv_7cf53_17 : decode cJ9_floorDiv_7cf53 17 = .ok (.iload_n 2, 1) := by decide +kernel
theorem dJ9_floorDiv_7cf53_18 : decode cJ9_floorDiv_7cf53 18 = .ok (.iconst 1, 1) := by decide +kernel
theorem dJ9_floorDiv_7cf53_19 : decode cJ9_floorDiv_7cf53 19 = .ok (.isub, 1) := by decide +kernel
theorem dJ9_floorDiv_7cf53_20 : decode cJ9_floorDiv_7cf53 20 = .ok (.ireturn, 1) := by decide +kernel
theorem dJ9_floorDiv_7cf53_21 : decode cJ9_floorDiv_7cf53 21 = .ok (.iload_n 2, 1) := by decide +kernel
theorem dJ9_floorDiv_7cf53_22 : decode cJ9_floorDiv_7cf53 22 = .ok (.ireturn, 1) := by decide +kernel
theorem dJ9_floorMod_7cf53_0 : decode cJ9_floorMod_7cf53 0 = .ok (.iload_n 0, 1) := by decide +kernel
theorem dJ9_floorMod_7cf53_1 : decode cJ9_floorMod_7cf53 1 = .ok (.iload_n 1, 1) := by decide +kernel
theorem dJ9_floorMod_7cf53_2 : decode cJ9_floorMod_7cf53 2 = .ok (.irem, 1) := by decide +kernel
theorem dJ9_floorMod_7cf53_3 : decode cJ9_floorMod_7cf53 3 = .ok (.istore_n 2, 1) := by decide +kernel
theorem dJ9_floorMod_7cf53_4 : decode cJ9_floorMod_7cf53 4 = .ok (.iload_n 0, 1) := by decide +kernel
theorem dJ9_floorMod_7cf53_5 : decode cJ9_floorMod_7cf53 5 = .ok (.iload_n 1, 1) := by decide +kernel
theorem dJ9_floorMod_7cf53_6 : decode cJ9_floorMod_7cf53 6 = .ok (.ixor, 1) := by decide +kernel
theorem dJ9_floorMod_7cf53_7 : decode cJ9_floorMod_7cf53 7 = .ok (.ifCond .ge 11, 3) := by decide +kernel
theorem dJ9_floorMod_7cf53_10 : decode cJ9_floorMod_7cf53 10 = .ok (.iload_n 2, 1) := by decide +kernel
theorem dJ9_floorMod_7cf53_11 : decode cJ9_floorMod_7cf53 11 = .ok (.ifCond .eq 7, 3) := by decide +kernel
theorem dJ9_floorMod_7cf53_14 : decode cJ9_floorMod_7cf53 14 = .ok (.iload_n 2, 1) := by decide +kernel
theorem dJ9_floorMod_7cf53_15 : decode cJ9_floorMod_7cf53 15 = .ok (.iload_n 1, 1) := by decide +kernel
theorem dJ9_floorMod_7cf53_16 : decode cJ9_floorMod_7cf53 16 = .ok (.iadd, 1) := by decide +kernel
theorem dJ9_floorMod_7cf53_17 : decode cJ9_floorMod_7cf53 17 = .ok (.ireturn, 1) := by decide +kernel
theorem dJ9_floorMod_7cf53_18 : decode cJ9_floorMod_7cf53 18 = .ok (.iload_n 2, 1) := by decide +kernel
theorem dJ9_floorMod_7cf53_19 : decode cJ9_floorMod_7cf53 19 = .ok (.ireturn, 1) := by decide +kernel
theorem dJ9_abs_0f7a4_0 : decode cJ9_abs_0f7a4 0 = .ok (.iload_n 0, 1) := by decide +kernel
theorem dJ9_abs_0f7a4_1 : decode cJ9_abs_0f7a4 1 = .ok (.ifCond .ge 8, 3) := by decide +kernel
theorem dJ9_abs_0f7a4_4 : decode cJ9_abs_0f7a4 4 = .ok (.iload_n 0, 1) := by decide +kernel
theorem dJ9_abs_0f7a4_5 : decode cJ9_abs_0f7a4 5 = .ok (.ineg, 1) := by decide +kernel
theorem dJ9_abs_0f7a4_6 : decode cJ9_abs_0f7a4 6 = .ok (.goto 4, 3) := by decide +kernel
theorem dJ9_abs_0f7a4_9 : decode cJ9_abs_0f7a4 9 = .ok (.iload_n 0, 1) := by decide +kernel
theorem dJ9_abs_0f7a4_10 : decode cJ9_abs_0f7a4 10 = .ok (.ireturn, 1) := by decide +kernel
theorem dJ9_max_7cf53_0 : decode cJ9_max_7cf53 0 = .ok (.iload_n 0, 1) := by decide +kernel
theorem dJ9_max_7cf53_1 : decode cJ9_max_7cf53 1 = .ok (.iload_n 1, 1) := by decide +kernel
theorem dJ9_max_7cf53_2 : decode cJ9_max_7cf53 2 = .ok (.if_icmp .lt 7, 3) := by decide +kernel
theorem dJ9_max_7cf53_5 : decode cJ9_max_7cf53 5 = .ok (.iload_n 0, 1) := by decide +kernel
theorem dJ9_max_7cf53_6 : decode cJ9_max_7cf53 6 = .ok (.goto 4, 3) := by decide +kernel
theorem dJ9_max_7cf53_9 : decode cJ9_max_7cf53 9 = .ok (.iload_n 1, 1) := by decide +kernel
theorem dJ9_max_7cf53_10 : decode cJ9_max_7cf53 10 = .ok (.ireturn, 1) := by decide +kernel
theorem dJ9_min_7cf53_0 : decode cJ9_min_7cf53 0 = .ok (.iload_n 0, 1) := by decide +kernel
theorem dJ9_min_7cf53_1 : decode cJ9_min_7cf53 1 = .ok (.iload_n 1, 1) := by decide +kernel
theorem dJ9_min_7cf53_2 : decode cJ9_min_7cf53 2 = .ok (.if_icmp .gt 7, 3) := by decide +kernel
theorem dJ9_min_7cf53_5 : decode cJ9_min_7cf53 5 = .ok (.iload_n 0, 1) := by decide +kernel
theorem dJ9_min_7cf53_6 : decode cJ9_min_7cf53 6 = .ok (.goto 4, 3) := by decide +kernel
theorem dJ9_min_7cf53_9 : decode cJ9_min_7cf53 9 = .ok (.iload_n 1, 1) := by decide +kernel
theorem dJ9_min_7cf53_10 : decode cJ9_min_7cf53 10 = .ok (.ireturn, 1) := by decide +kernel
theorem dJ7_fill_53178_0 : decode cJ7_fill_53178 0 = .ok (.iconst 0, 1) := by decide +kernel
theorem dJ7_fill_53178_1 : decode cJ7_fill_53178 1 = .ok (.istore_n 2, 1) := by decide +kernel
theorem dJ7_fill_53178_2 : decode cJ7_fill_53178 2 = .ok (.aload_n 0, 1) := by decide +kernel
theorem dJ7_fill_53178_3 : decode cJ7_fill_53178 3 = .ok (.arraylength, 1) := by decide +kernel
theorem dJ7_fill_53178_4 : decode cJ7_fill_53178 4 = .ok (.istore_n 3, 1) := by decide +kernel
theorem dJ7_fill_53178_5 : decode cJ7_fill_53178 5 = .ok (.iload_n 2, 1) := by decide +kernel
theorem dJ7_fill_53178_6 : decode cJ7_fill_53178 6 = .ok (.iload_n 3, 1) := by decide +kernel
theorem dJ7_fill_53178_7 : decode cJ7_fill_53178 7 = .ok (.if_icmp .ge 13, 3) := by decide +kernel
theorem dJ7_fill_53178_10 : decode cJ7_fill_53178 10 = .ok (.aload_n 0, 1) := by decide +kernel
theorem dJ7_fill_53178_11 : decode cJ7_fill_53178 11 = .ok (.iload_n 2, 1) := by decide +kernel
theorem dJ7_fill_53178_12 : decode cJ7_fill_53178 12 = .ok (.iload_n 1, 1) := by decide +kernel
theorem dJ7_fill_53178_13 : decode cJ7_fill_53178 13 = .ok (.iastore, 1) := by decide +kernel
theorem dJ7_fill_53178_14 : decode cJ7_fill_53178 14 = .ok (.iinc 2 1, 3) := by decide +kernel
theorem dJ7_fill_53178_17 : decode cJ7_fill_53178 17 = .ok (.goto (-12), 3) := by decide +kernel
theorem dJ7_fill_53178_20 : decode cJ7_fill_53178 20 = .ok (.return_, 1) := by decide +kernel
theorem dJ7_fill_031fb_0 : decode cJ7_fill_031fb 0 = .ok (.iconst 0, 1) := by decide +kernel
theorem dJ7_fill_031fb_1 : decode cJ7_fill_031fb 1 = .ok (.istore_n 2, 1) := by decide +kernel
theorem dJ7_fill_031fb_2 : decode cJ7_fill_031fb 2 = .ok (.aload_n 0, 1) := by decide +kernel
theorem dJ7_fill_031fb_3 : decode cJ7_fill_031fb 3 = .ok (.arraylength, 1) := by decide +kernel
theorem dJ7_fill_031fb_4 : decode cJ7_fill_031fb 4 = .ok (.istore_n 3, 1) := by decide +kernel
theorem dJ7_fill_031fb_5 : decode cJ7_fill_031fb 5 = .ok (.iload_n 2, 1) := by decide +kernel
theorem dJ7_fill_031fb_6 : decode cJ7_fill_031fb 6 = .ok (.iload_n 3, 1) := by decide +kernel
theorem dJ7_fill_031fb_7 : decode cJ7_fill_031fb 7 = .ok (.if_icmp .ge 13, 3) := by decide +kernel
theorem dJ7_fill_031fb_10 : decode cJ7_fill_031fb 10 = .ok (.aload_n 0, 1) := by decide +kernel
theorem dJ7_fill_031fb_11 : decode cJ7_fill_031fb 11 = .ok (.iload_n 2, 1) := by decide +kernel
theorem dJ7_fill_031fb_12 : decode cJ7_fill_031fb 12 = .ok (.iload_n 1, 1) := by decide +kernel
theorem dJ7_fill_031fb_13 : decode cJ7_fill_031fb 13 = .ok (.bastore, 1) := by decide +kernel
theorem dJ7_fill_031fb_14 : decode cJ7_fill_031fb 14 = .ok (.iinc 2 1, 3) := by decide +kernel
theorem dJ7_fill_031fb_17 : decode cJ7_fill_031fb 17 = .ok (.goto (-12), 3) := by decide +kernel
theorem dJ7_fill_031fb_20 : decode cJ7_fill_031fb 20 = .ok (.return_, 1) := by decide +kernel
end
section
theorem dX12_init_0 : decode cX12_init 0 = .ok (.aload_n 0, 1) := by decide +kernel
theorem dX12_init_1 : decode cX12_init 1 = .ok (.invokespecial 7, 3) := by decide +kernel
theorem dX12_init_4 : decode cX12_init 4 = .ok (.aload_n 0, 1) := by decide +kernel
theorem dX12_init_5 : decode cX12_init 5 = .ok (.bipush 8, 2) := by decide +kernel
theorem dX12_init_7 : decode cX12_init 7 = .ok (.newarray .int, 2) := by decide +kernel
theorem dX12_init_9 : decode cX12_init 9 = .ok (.putfield 13, 3) := by decide +kernel
theorem dX12_init_12 : decode cX12_init 12 = .ok (.aload_n 0, 1) := by decide +kernel
theorem dX12_init_13 : decode cX12_init 13 = .ok (.bipush 12, 2) := by decide +kernel
theorem dX12_init_15 : decode cX12_init 15 = .ok (.newarray .int, 2) := by decide +kernel
theorem dX12_init_17 : decode cX12_init 17 = .ok (.putfield 17, 3) := by decide +kernel
theorem dX12_init_20 : decode cX12_init 20 = .ok (.aload_n 0, 1) := by decide +kernel
theorem dX12_init_21 : decode cX12_init 21 = .ok (.bipush 12, 2) := by decide +kernel
theorem dX12_init_23 : decode cX12_init 23 = .ok (.newarray .int, 2) := by decide +kernel
theorem dX12_init_25 : decode cX12_init 25 = .ok (.putfield 20, 3) := by decide +kernel
theorem dX12_init_28 : decode cX12_init 28 = .ok (.aload_n 0, 1) := by decide +kernel
theorem dX12_init_29 : decode cX12_init 29 = .ok (.bipush 12, 2) := by decide +kernel
theorem dX12_init_31 : decode cX12_init 31 = .ok (.newarray .int, 2) := by decide +kernel
theorem dX12_init_33 : decode cX12_init 33 = .ok (.putfield 23, 3) := by decide +kernel
theorem dX12_init_36 : decode cX12_init 36 = .ok (.aload_n 0, 1) := by decide +kernel
theorem dX12_init_37 : decode cX12_init 37 = .ok (.sipush 576, 3) := by decide +kernel
theorem dX12_init_40 : decode cX12_init 40 = .ok (.newarray .int, 2) := by decide +kernel
theorem dX12_init_42 : decode cX12_init 42 = .ok (.putfield 26, 3) := by decide +kernel
theorem dX12_init_45 : decode cX12_init 45 = .ok (.aload_n 0, 1) := by decide +kernel
theorem dX12_init_46 : decode cX12_init 46 = .ok (.sipush 400, 3) := by decide +kernel
theorem dX12_init_49 : decode cX12_init 49 = .ok (.newarray .int, 2) := by decide +kernel
theorem dX12_init_51 : decode cX12_init 51 = .ok (.putfield 29, 3) := by decide +kernel
theorem dX12_init_54 : decode cX12_init 54 = .ok (.aload_n 0, 1) := by decide +kernel
theorem dX12_init_55 : decode cX12_init 55 = .ok (.sipush 400, 3) := by decide +kernel
theorem dX12_init_58 : decode cX12_init 58 = .ok (.newarray .int, 2) := by decide +kernel
theorem dX12_init_60 : decode cX12_init 60 = .ok (.putfield 32, 3) := by decide +kernel
theorem dX12_init_63 : decode cX12_init 63 = .ok (.aload_n 0, 1) := by decide +kernel
theorem dX12_init_64 : decode cX12_init 64 = .ok (.sipush 400, 3) := by decide +kernel
theorem dX12_init_67 : decode cX12_init 67 = .ok (.newarray .int, 2) := by decide +kernel
theorem dX12_init_69 : decode cX12_init 69 = .ok (.putfield 35, 3) := by decide +kernel
theorem dX12_init_72 : decode cX12_init 72 = .ok (.aload_n 0, 1) := by decide +kernel
theorem dX12_init_73 : decode cX12_init 73 = .ok (.sipush 400, 3) := by decide +kernel
theorem dX12_init_76 : decode cX12_init 76 = .ok (.newarray .int, 2) := by decide +kernel
theorem dX12_init_78 : decode cX12_init 78 = .ok (.putfield 38, 3) := by decide +kernel
theorem dX12_init_81 : decode cX12_init 81 = .ok (.aload_n 0, 1) := by decide +kernel
theorem dX12_init_82 : decode cX12_init 82 = .ok (.sipush 400, 3) := by decide +kernel
theorem dX12_init_85 : decode cX12_init 85 = .ok (.newarray .boolean, 2) := by decide +kernel
theorem dX12_init_87 : decode cX12_init 87 = .ok (.putfield 41, 3) := by decide +kernel
theorem dX12_init_90 : decode cX12_init 90 = .ok (.aload_n 0, 1) := by decide +kernel
theorem dX12_init_91 : decode cX12_init 91 = .ok (.iconst 4, 1) := by decide +kernel
theorem dX12_init_92 : decode cX12_init 92 = .ok (.newarray .int, 2) := by decide +kernel
theorem dX12_init_94 : decode cX12_init 94 = .ok (.putfield 45, 3) := by decide +kernel
theorem dX12_init_97 : decode cX12_init 97 = .ok (.aload_n 0, 1) := by decide +kernel
theorem dX12_init_98 : decode cX12_init 98 = .ok (.iconst 4, 1) := by decide +kernel
theorem dX12_init_99 : decode cX12_init 99 = .ok (.newarray .int, 2) := by decide +kernel
theorem dX12_init_101 : decode cX12_init 101 = .ok (.putfield 48, 3) := by decide +kernel
theorem dX12_init_104 : decode cX12_init 104 = .ok (.aload_n 0, 1) := by decide +kernel
theorem dX12_init_105 : decode cX12_init 105 = .ok (.iconst 4, 1) := by decide +kernel
theorem dX12_init_106 : decode cX12_init 106 = .ok (.newarray .int, 2) := by decide +kernel
theorem dX12_init_108 : decode cX12_init 108 = .ok (.putfield 51, 3) := by decide +kernel
theorem dX12_init_111 : decode cX12_init 111 = .ok (.aload_n 0, 1) := by decide +kernel
theorem dX12_init_112 : decode cX12_init 112 = .ok (.iconst 4, 1) := by decide +kernel
theorem dX12_init_113 : decode cX12_init 113 = .ok (.newarray .int, 2) := by decide +kernel
theorem dX12_init_115 : decode cX12_init 115 = .ok (.putfield 54, 3) := by decide +kernel
theorem dX12_init_118 : decode cX12_init 118 = .ok (.aload_n 0, 1) := by decide +kernel
theorem dX12_init_119 : decode cX12_init 119 = .ok (.bipush 24, 2) := by decide +kernel
theorem dX12_init_121 : decode cX12_init 121 = .ok (.newarray .int, 2) := by decide +kernel
theorem dX12_init_123 : decode cX12_init 123 = .ok (.putfield 57, 3) := by decide +kernel
theorem dX12_init_126 : decode cX12_init 126 = .ok (.aload_n 0, 1) := by decide +kernel
theorem dX12_init_127 : decode cX12_init 127 = .ok (.bipush 48, 2) := by decide +kernel
theorem dX12_init_129 : decode cX12_init 129 = .ok (.newarray .int, 2) := by decide +kernel
theorem dX12_init_131 : decode cX12_init 131 = .ok (.putfield 60, 3) := by decide +kernel
theorem dX12_init_134 : decode cX12_init 134 = .ok (.aload_n 0, 1) := by decide +kernel
theorem dX12_init_135 : decode cX12_init 135 = .ok (.sipush 416, 3) := by decide +kernel
theorem dX12_init_138 : decode cX12_init 138 = .ok (.newarray .int, 2) := by decide +kernel
theorem dX12_init_140 : decode cX12_init 140 = .ok (.putfield 63, 3) := by decide +kernel
theorem dX12_init_143 : decode cX12_init 143 = .ok (.aload_n 0, 1) := by decide +kernel
theorem dX12_init_144 : decode cX12_init 144 = .ok (.iconst 4, 1) := by decide +kernel
theorem dX12_init_145 : decode cX12_init 145 = .ok (.newarray .int, 2) := by decide +kernel
theorem dX12_init_147 : decode cX12_init 147 = .ok (.putfield 66, 3) := by decide +kernel
theorem dX12_init_150 : decode cX12_init 150 = .ok (.aload_n 0, 1) := by decide +kernel
theorem dX12_init_151 : decode cX12_init 151 = .ok (.iconst 4, 1) := by decide +kernel
theorem dX12_init_152 : decode cX12_init 152 = .ok (.newarray .int, 2) := by decide +kernel
theorem dX12_init_154 : decode cX12_init 154 = .ok (.putfield 69, 3) := by decide +kernel
theorem dX12_init_157 : decode cX12_init 157 = .ok (.aload_n 0, 1) := by decide +kernel
theorem dX12_init_158 : decode cX12_init 158 = .ok (.bipush 48, 2) := by decide +kernel
theorem dX12_init_160 : decode cX12_init 160 = .ok (.newarray .int, 2) := by decide +kernel
theorem dX12_init_162 : decode cX12_init 162 = .ok (.putfield 72, 3) := by decide +kernel
theorem dX12_init_165 : decode cX12_init 165 = .ok (.aload_n 0, 1) := by decide +kernel
theorem dX12_init_166 : decode cX12_init 166 = .ok (.bipush 72, 2) := by decide +kernel
theorem dX12_init_168 : decode cX12_init 168 = .ok (.newarray .boolean, 2) := by decide +kernel
theorem dX12_init_170 : decode cX12_init 170 = .ok (.putfield 75, 3) := by decide +kernel
theorem dX12_init_173 : decode cX12_init 173 = .ok (.aload_n 0, 1) := by decide +kernel
theorem dX12_init_174 : decode cX12_init 174 = .ok (.bipush 60, 2) := by decide +kernel
theorem dX12_init_176 : decode cX12_init 176 = .ok (.newarray .int, 2) := by decide +kernel
theorem dX12_init_178 : decode cX12_init 178 = .ok (.putfield 78, 3) := by decide +kernel
theorem dX12_init_181 : decode cX12_init 181 = .ok (.aload_n 0, 1) := by decide +kernel
theorem dX12_init_182 : decode cX12_init 182 = .ok (.bipush 60, 2) := by decide +kernel
theorem dX12_init_184 : decode cX12_init 184 = .ok (.newarray .int, 2) := by decide +kernel
theorem dX12_init_186 : decode cX12_init 186 = .ok (.putfield 81, 3) := by decide +kernel
theorem dX12_init_189 : decode cX12_init 189 = .ok (.aload_n 0, 1) := by decide +kernel
theorem dX12_init_190 : decode cX12_init 190 = .ok (.iconst 4, 1) := by decide +kernel
theorem dX12_init_191 : decode cX12_init 191 = .ok (.newarray .int, 2) := by decide +kernel
theorem dX12_init_193 : decode cX12_init 193 = .ok (.putfield 84, 3) := by decide +kernel
theorem dX12_init_196 : decode cX12_init 196 = .ok (.aload_n 0, 1) := by decide +kernel
theorem dX12_init_197 : decode cX12_init 197 = .ok (.bipush 12, 2) := by decide +kernel
theorem dX12_init_199 : decode cX12_init 199 = .ok (.newarray .int, 2) := by decide +kernel
theorem dX12_init_201 : decode cX12_init 201 = .ok (.putfield 87, 3) := by decide +kernel
theorem dX12_init_204 : decode cX12_init 204 = .ok (.aload_n 0, 1) := by decide +kernel
theorem dX12_init_205 : decode cX12_init 205 = .ok (.bipush 12, 2) := by decide +kernel
theorem dX12_init_207 : decode cX12_init 207 = .ok (.newarray .int, 2) := by decide +kernel
theorem dX12_init_209 : decode cX12_init 209 = .ok (.putfield 90, 3) := by decide +kernel
theorem dX12_init_212 : decode cX12_init 212 = .ok (.aload_n 0, 1) := by decide +kernel
theorem dX12_init_213 : decode cX12_init 213 = .ok (.bipush 12, 2) := by decide +kernel
theorem dX12_init_215 : decode cX12_init 215 = .ok (.newarray .int, 2) := by decide +kernel
theorem dX12_init_217 : decode cX12_init 217 = .ok (.putfield 93, 3) := by decide +kernel
theorem dX12_init_220 : decode cX12_init 220 = .ok (.aload_n 0, 1) := by decide +kernel
theorem dX12_init_221 : decode cX12_init 221 = .ok (.bipush 90, 2) := by decide +kernel
theorem dX12_init_223 : decode cX12_init 223 = .ok (.newarray .boolean, 2) := by decide +kernel
theorem dX12_init_225 : decode cX12_init 225 = .ok (.putfield 96, 3) := by decide +kernel
theorem dX12_init_228 : decode cX12_init 228 = .ok (.aload_n 0, 1) := by decide +kernel
theorem dX12_init_229 : decode cX12_init 229 = .ok (.sipush 1080, 3) := by decide +kernel
theorem dX12_init_232 : decode cX12_init 232 = .ok (.newarray .int, 2) := by decide +kernel
theorem dX12_init_234 : decode cX12_init 234 = .ok (.putfield 99, 3) := by decide +kernel
theorem dX12_init_237 : decode cX12_init 237 = .ok (.aload_n 0, 1) := by decide +kernel
theorem dX12_init_238 : decode cX12_init 238 = .ok (.bipush 6, 2) := by decide +kernel
theorem dX12_init_240 : decode cX12_init 240 = .ok (.newarray .int, 2) := by decide +kernel
theorem dX12_init_242 : decode cX12_init 242 = .ok (.putfield 102, 3) := by decide +kernel
theorem dX12_init_245 : decode cX12_init 245 = .ok (.aload_n 0, 1) := by decide +kernel
theorem dX12_init_246 : decode cX12_init 246 = .ok (.bipush 6, 2) := by decide +kernel
theorem dX12_init_248 : decode cX12_init 248 = .ok (.newarray .int, 2) := by decide +kernel
theorem dX12_init_250 : decode cX12_init 250 = .ok (.putfield 105, 3) := by decide +kernel
theorem dX12_init_253 : decode cX12_init 253 = .ok (.aload_n 0, 1) := by decide +kernel
theorem dX12_init_254 : decode cX12_init 254 = .ok (.iconst 4, 1) := by decide +kernel
theorem dX12_init_255 : decode cX12_init 255 = .ok (.newarray .int, 2) := by decide +kernel
theorem dX12_init_257 : decode cX12_init 257 = .ok (.putfield 108, 3) := by decide +kernel
theorem dX12_init_260 : decode cX12_init 260 = .ok (.aload_n 0, 1) := by decide +kernel
theorem dX12_init_261 : decode cX12_init 261 = .ok (.iconst 4, 1) := by decide +kernel
theorem dX12_init_262 : decode cX12_init 262 = .ok (.newarray .int, 2) := by decide +kernel
theorem dX12_init_264 : decode cX12_init 264 = .ok (.putfield 111, 3) := by decide +kernel
theorem dX12_init_267 : decode cX12_init 267 = .ok (.aload_n 0, 1) := by decide +kernel
theorem dX12_init_268 : decode cX12_init 268 = .ok (.iconst 4, 1) := by decide +kernel
theorem dX12_init_269 : decode cX12_init 269 = .ok (.newarray .int, 2) := by decide +kernel
theorem dX12_init_271 : decode cX12_init 271 = .ok (.putfield 114, 3) := by decide +kernel
theorem dX12_init_274 : decode cX12_init 274 = .ok (.aload_n 0, 1) := by decide +kernel
theorem dX12_init_275 : decode cX12_init 275 = .ok (.iconst 4, 1) := by decide +kernel
theorem dX12_init_276 : decode cX12_init 276 = .ok (.newarray .int, 2) := by decide +kernel
theorem dX12_init_278 : decode cX12_init 278 = .ok (.putfield 117, 3) := by decide +kernel
theorem dX12_init_281 : decode cX12_init 281 = .ok (.iconst 0, 1) := by decide +kernel
theorem dX12_init_282 : decode cX12_init 282 = .ok (.istore_n 1, 1) := by decide +kernel
theorem dX12_init_283 : decode cX12_init 283 = .ok (.iload_n 1, 1) := by decide +kernel
theorem dX12_init_284 : decode cX12_init 284 = .ok (.sipush 416, 3) := by decide +kernel
theorem dX12_init_287 : decode cX12_init 287 = .ok (.if_icmp .ge 16, 3) := by decide +kernel
theorem dX12_init_290 : decode cX12_init 290 = .ok (.aload_n 0, 1) := by decide +kernel
theorem dX12_init_291 : decode cX12_init 291 = .ok (.getfield 63, 3) := by decide +kernel
theorem dX12_init_294 : decode cX12_init 294 = .ok (.iload_n 1, 1) := by decide +kernel
theorem dX12_init_295 : decode cX12_init 295 = .ok (.iconst (-1), 1) := by decide +kernel
theorem dX12_init_296 : decode cX12_init 296 = .ok (.iastore, 1) := by decide +kernel
theorem dX12_init_297 : decode cX12_init 297 = .ok (.iinc 1 1, 3) := by decide +kernel
theorem dX12_init_300 : decode cX12_init 300 = .ok (.goto (-17), 3) := by decide +kernel
theorem dX12_init_303 : decode cX12_init 303 = .ok (.return_, 1) := by decide +kernel
theorem dX12_isLand_0 : decode cX12_isLand 0 = .ok (.iload_n 1, 1) := by decide +kernel
theorem dX12_isLand_1 : decode cX12_isLand 1 = .ok (.ifCond .lt 15, 3) := by decide +kernel
theorem dX12_isLand_4 : decode cX12_isLand 4 = .ok (.iload_n 1, 1) := by decide +kernel
theorem dX12_isLand_5 : decode cX12_isLand 5 = .ok (.aload_n 0, 1) := by decide +kernel
theorem dX12_isLand_6 : decode cX12_isLand 6 = .ok (.getfield 120, 3) := by decide +kernel
theorem dX12_isLand_9 : decode cX12_isLand 9 = .ok (.if_icmp .ge 7, 3) := by decide +kernel
theorem dX12_isLand_12 : decode cX12_isLand 12 = .ok (.iconst 1, 1) := by decide +kernel
theorem dX12_isLand_13 : decode cX12_isLand 13 = .ok (.goto 4, 3) := by decide +kernel
theorem dX12_isLand_16 : decode cX12_isLand 16 = .ok (.iconst 0, 1) := by decide +kernel
theorem dX12_isLand_17 : decode cX12_isLand 17 = .ok (.ireturn, 1) := by decide +kernel
theorem dX12_isPerson_0 : decode cX12_isPerson 0 = .ok (.iload_n 1, 1) := by decide +kernel
theorem dX12_isPerson_1 : decode cX12_isPerson 1 = .ok (.ifCond .lt 15, 3) := by decide +kernel
theorem dX12_isPerson_4 : decode cX12_isPerson 4 = .ok (.iload_n 1, 1) := by decide +kernel
theorem dX12_isPerson_5 : decode cX12_isPerson 5 = .ok (.aload_n 0, 1) := by decide +kernel
theorem dX12_isPerson_6 : decode cX12_isPerson 6 = .ok (.getfield 123, 3) := by decide +kernel
theorem dX12_isPerson_9 : decode cX12_isPerson 9 = .ok (.if_icmp .ge 7, 3) := by decide +kernel
theorem dX12_isPerson_12 : decode cX12_isPerson 12 = .ok (.iconst 1, 1) := by decide +kernel
theorem dX12_isPerson_13 : decode cX12_isPerson 13 = .ok (.goto 4, 3) := by decide +kernel
theorem dX12_isPerson_16 : decode cX12_isPerson 16 = .ok (.iconst 0, 1) := by decide +kernel
theorem dX12_isPerson_17 : decode cX12_isPerson 17 = .ok (.ireturn, 1) := by decide +kernel
theorem dX12_isSeries_0 : decode cX12_isSeries 0 = .ok (.iload_n 1, 1) := by decide +kernel
theorem dX12_isSeries_1 : decode cX12_isSeries 1 = .ok (.ifCond .lt 15, 3) := by decide +kernel
theorem dX12_isSeries_4 : decode cX12_isSeries 4 = .ok (.iload_n 1, 1) := by decide +kernel
theorem dX12_isSeries_5 : decode cX12_isSeries 5 = .ok (.aload_n 0, 1) := by decide +kernel
theorem dX12_isSeries_6 : decode cX12_isSeries 6 = .ok (.getfield 126, 3) := by decide +kernel
theorem dX12_isSeries_9 : decode cX12_isSeries 9 = .ok (.if_icmp .ge 7, 3) := by decide +kernel
theorem dX12_isSeries_12 : decode cX12_isSeries 12 = .ok (.iconst 1, 1) := by decide +kernel
theorem dX12_isSeries_13 : decode cX12_isSeries 13 = .ok (.goto 4, 3) := by decide +kernel
theorem dX12_isSeries_16 : decode cX12_isSeries 16 = .ok (.iconst 0, 1) := by decide +kernel
theorem dX12_isSeries_17 : decode cX12_isSeries 17 = .ok (.ireturn, 1) := by decide +kernel
theorem dX12_isWeek_0 : decode cX12_isWeek 0 = .ok (.iload_n 0, 1) := by decide +kernel
theorem dX12_isWeek_1 : decode cX12_isWeek 1 = .ok (.ifCond .lt 13, 3) := by decide +kernel
theorem dX12_isWeek_4 : decode cX12_isWeek 4 = .ok (.iload_n 0, 1) := by decide +kernel
theorem dX12_isWeek_5 : decode cX12_isWeek 5 = .ok (.bipush 52, 2) := by decide +kernel
theorem dX12_isWeek_7 : decode cX12_isWeek 7 = .ok (.if_icmp .ge 7, 3) := by decide +kernel
theorem dX12_isWeek_10 : decode cX12_isWeek 10 = .ok (.iconst 1, 1) := by decide +kernel
theorem dX12_isWeek_11 : decode cX12_isWeek 11 = .ok (.goto 4, 3) := by decide +kernel
theorem dX12_isWeek_14 : decode cX12_isWeek 14 = .ok (.iconst 0, 1) := by decide +kernel
theorem dX12_isWeek_15 : decode cX12_isWeek 15 = .ok (.ireturn, 1) := by decide +kernel
theorem dX12_isKnown_0 : decode cX12_isKnown 0 = .ok (.iload_n 1, 1) := by decide +kernel
theorem dX12_isKnown_1 : decode cX12_isKnown 1 = .ok (.ifCond .lt 15, 3) := by decide +kernel
theorem dX12_isKnown_4 : decode cX12_isKnown 4 = .ok (.iload_n 1, 1) := by decide +kernel
theorem dX12_isKnown_5 : decode cX12_isKnown 5 = .ok (.aload_n 0, 1) := by decide +kernel
theorem dX12_isKnown_6 : decode cX12_isKnown 6 = .ok (.getfield 129, 3) := by decide +kernel
theorem dX12_isKnown_9 : decode cX12_isKnown 9 = .ok (.if_icmp .gt 7, 3) := by decide +kernel
theorem dX12_isKnown_12 : decode cX12_isKnown 12 = .ok (.iconst 1, 1) := by decide +kernel
theorem dX12_isKnown_13 : decode cX12_isKnown 13 = .ok (.goto 4, 3) := by decide +kernel
theorem dX12_isKnown_16 : decode cX12_isKnown 16 = .ok (.iconst 0, 1) := by decide +kernel
theorem dX12_isKnown_17 : decode cX12_isKnown 17 = .ok (.ireturn, 1) := by decide +kernel
theorem dX12_isOffset_0 : decode cX12_isOffset 0 = .ok (.iload_n 0, 1) := by decide +kernel
theorem dX12_isOffset_1 : decode cX12_isOffset 1 = .ok (.bipush (-24), 2) := by decide +kernel
theorem dX12_isOffset_3 : decode cX12_isOffset 3 = .ok (.if_icmp .lt 13, 3) := by decide +kernel
theorem dX12_isOffset_6 : decode cX12_isOffset 6 = .ok (.iload_n 0, 1) := by decide +kernel
theorem dX12_isOffset_7 : decode cX12_isOffset 7 = .ok (.bipush 28, 2) := by decide +kernel
theorem dX12_isOffset_9 : decode cX12_isOffset 9 = .ok (.if_icmp .gt 7, 3) := by decide +kernel
theorem dX12_isOffset_12 : decode cX12_isOffset 12 = .ok (.iconst 1, 1) := by decide +kernel
theorem dX12_isOffset_13 : decode cX12_isOffset 13 = .ok (.goto 4, 3) := by decide +kernel
theorem dX12_isOffset_16 : decode cX12_isOffset 16 = .ok (.iconst 0, 1) := by decide +kernel
theorem dX12_isOffset_17 : decode cX12_isOffset 17 = .ok (.ireturn, 1) := by decide +kernel
theorem dX12_land_0 : decode cX12_land 0 = .ok (.aload_n 0, 1) := by decide +kernel
theorem dX12_land_1 : decode cX12_land 1 = .ok (.getfield 120, 3) := by decide +kernel
theorem dX12_land_4 : decode cX12_land 4 = .ok (.bipush 8, 2) := by decide +kernel
theorem dX12_land_6 : decode cX12_land 6 = .ok (.if_icmp .eq 10, 3) := by decide +kernel
theorem dX12_land_9 : decode cX12_land 9 = .ok (.iload_n 1, 1) := by decide +kernel
theorem dX12_land_10 : decode cX12_land 10 = .ok (.invokestatic 132, 3) := by decide +kernel
theorem dX12_land_13 : decode cX12_land 13 = .ok (.ifCond .ne 5, 3) := by decide +kernel
theorem dX12_land_16 : decode cX12_land 16 = .ok (.iconst (-1), 1) := by decide +kernel
theorem dX12_land_17 : decode cX12_land 17 = .ok (.ireturn, 1) := by decide +kernel
theorem dX12_land_18 : decode cX12_land 18 = .ok (.aload_n 0, 1) := by decide +kernel
theorem dX12_land_19 : decode cX12_land 19 = .ok (.getfield 13, 3) := by decide +kernel
theorem dX12_land_22 : decode cX12_land 22 = .ok (.aload_n 0, 1) := by decide +kernel
theorem dX12_land_23 : decode cX12_land 23 = .ok (.getfield 120, 3) := by decide +kernel
theorem dX12_land_26 : decode cX12_land 26 = .ok (.iload_n 1, 1) := by decide +kernel
theorem dX12_land_27 : decode cX12_land 27 = .ok (.iastore, 1) := by decide +kernel
theorem dX12_land_28 : decode cX12_land 28 = .ok (.aload_n 0, 1) := by decide +kernel
theorem dX12_land_29 : decode cX12_land 29 = .ok (.dup, 1) := by decide +kernel
theorem dX12_land_30 : decode cX12_land 30 = .ok (.getfield 120, 3) := by decide +kernel
theorem dX12_land_33 : decode cX12_land 33 = .ok (.iconst 1, 1) := by decide +kernel
theorem dX12_land_34 : decode cX12_land 34 = .ok (.iadd, 1) := by decide +kernel
theorem dX12_land_35 : decode cX12_land 35 = .ok (.putfield 120, 3) := by decide +kernel
theorem dX12_land_38 : decode cX12_land 38 = .ok (.aload_n 0, 1) := by decide +kernel
theorem dX12_land_39 : decode cX12_land 39 = .ok (.getfield 120, 3) := by decide +kernel
theorem dX12_land_42 : decode cX12_land 42 = .ok (.iconst 1, 1) := by decide +kernel
theorem dX12_land_43 : decode cX12_land 43 = .ok (.isub, 1) := by decide +kernel
theorem dX12_land_44 : decode cX12_land 44 = .ok (.ireturn, 1) := by decide +kernel
theorem dX12_person_0 : decode cX12_person 0 = .ok (.aload_n 0, 1) := by decide +kernel
theorem dX12_person_1 : decode cX12_person 1 = .ok (.getfield 123, 3) := by decide +kernel
theorem dX12_person_4 : decode cX12_person 4 = .ok (.bipush 12, 2) := by decide +kernel
theorem dX12_person_6 : decode cX12_person 6 = .ok (.if_icmp .eq 21, 3) := by decide +kernel
theorem dX12_person_9 : decode cX12_person 9 = .ok (.aload_n 0, 1) := by decide +kernel
theorem dX12_person_10 : decode cX12_person 10 = .ok (.iload_n 1, 1) := by decide +kernel
theorem dX12_person_11 : decode cX12_person 11 = .ok (.invokevirtual 136, 3) := by decide +kernel
theorem dX12_person_14 : decode cX12_person 14 = .ok (.ifCond .eq 13, 3) := by decide +kernel
theorem dX12_person_17 : decode cX12_person 17 = .ok (.iload_n 2, 1) := by decide +kernel
theorem dX12_person_18 : decode cX12_person 18 = .ok (.ifCond .lt 9, 3) := by decide +kernel
theorem dX12_person_21 : decode cX12_person 21 = .ok (.iload_n 2, 1) := by decide +kernel
theorem dX12_person_22 : decode cX12_person 22 = .ok (.bipush 127, 2) := by decide +kernel
theorem dX12_person_24 : decode cX12_person 24 = .ok (.if_icmp .le 5, 3) := by decide +kernel
theorem dX12_person_27 : decode cX12_person 27 = .ok (.iconst (-1), 1) := by decide +kernel
theorem dX12_person_28 : decode cX12_person 28 = .ok (.ireturn, 1) := by decide +kernel
theorem dX12_person_29 : decode cX12_person 29 = .ok (.aload_n 0, 1) := by decide +kernel
theorem dX12_person_30 : decode cX12_person 30 = .ok (.getfield 17, 3) := by decide +kernel
theorem dX12_person_33 : decode cX12_person 33 = .ok (.aload_n 0, 1) := by decide +kernel
theorem dX12_person_34 : decode cX12_person 34 = .ok (.getfield 123, 3) := by decide +kernel
theorem dX12_person_37 : decode cX12_person 37 = .ok (.iload_n 1, 1) := by decide +kernel
theorem dX12_person_38 : decode cX12_person 38 = .ok (.iastore, 1) := by decide +kernel
theorem dX12_person_39 : decode cX12_person 39 = .ok (.aload_n 0, 1) := by decide +kernel
theorem dX12_person_40 : decode cX12_person 40 = .ok (.getfield 20, 3) := by decide +kernel
theorem dX12_person_43 : decode cX12_person 43 = .ok (.aload_n 0, 1) := by decide +kernel
theorem dX12_person_44 : decode cX12_person 44 = .ok (.getfield 123, 3) := by decide +kernel
theorem dX12_person_47 : decode cX12_person 47 = .ok (.iload_n 2, 1) := by decide +kernel
theorem dX12_person_48 : decode cX12_person 48 = .ok (.iastore, 1) := by decide +kernel
theorem dX12_person_49 : decode cX12_person 49 = .ok (.aload_n 0, 1) := by decide +kernel
theorem dX12_person_50 : decode cX12_person 50 = .ok (.getfield 23, 3) := by decide +kernel
theorem dX12_person_53 : decode cX12_person 53 = .ok (.aload_n 0, 1) := by decide +kernel
theorem dX12_person_54 : decode cX12_person 54 = .ok (.getfield 123, 3) := by decide +kernel
theorem dX12_person_57 : decode cX12_person 57 = .ok (.iconst (-1), 1) := by decide +kernel
theorem dX12_person_58 : decode cX12_person 58 = .ok (.iastore, 1) := by decide +kernel
theorem dX12_person_59 : decode cX12_person 59 = .ok (.aload_n 0, 1) := by decide +kernel
theorem dX12_person_60 : decode cX12_person 60 = .ok (.dup, 1) := by decide +kernel
theorem dX12_person_61 : decode cX12_person 61 = .ok (.getfield 123, 3) := by decide +kernel
theorem dX12_person_64 : decode cX12_person 64 = .ok (.iconst 1, 1) := by decide +kernel
theorem dX12_person_65 : decode cX12_person 65 = .ok (.iadd, 1) := by decide +kernel
theorem dX12_person_66 : decode cX12_person 66 = .ok (.putfield 123, 3) := by decide +kernel
theorem dX12_person_69 : decode cX12_person 69 = .ok (.aload_n 0, 1) := by decide +kernel
theorem dX12_person_70 : decode cX12_person 70 = .ok (.getfield 123, 3) := by decide +kernel
theorem dX12_person_73 : decode cX12_person 73 = .ok (.iconst 1, 1) := by decide +kernel
theorem dX12_person_74 : decode cX12_person 74 = .ok (.isub, 1) := by decide +kernel
theorem dX12_person_75 : decode cX12_person 75 = .ok (.ireturn, 1) := by decide +kernel
theorem dX12_row_0 : decode cX12_row 0 = .ok (.aload_n 0, 1) := by decide +kernel
theorem dX12_row_1 : decode cX12_row 1 = .ok (.iload_n 1, 1) := by decide +kernel
theorem dX12_row_2 : decode cX12_row 2 = .ok (.invokevirtual 139, 3) := by decide +kernel
theorem dX12_row_5 : decode cX12_row 5 = .ok (.ifCond .eq 19, 3) := by decide +kernel
theorem dX12_row_8 : decode cX12_row 8 = .ok (.iload_n 2, 1) := by decide +kernel
theorem dX12_row_9 : decode cX12_row 9 = .ok (.iconst (-1), 1) := by decide +kernel
theorem dX12_row_10 : decode cX12_row 10 = .ok (.if_icmp .eq 16, 3) := by decide +kernel
theorem dX12_row_13 : decode cX12_row 13 = .ok (.iload_n 2, 1) := by decide +kernel
theorem dX12_row_14 : decode cX12_row 14 = .ok (.iconst 1, 1) := by decide +kernel
theorem dX12_row_15 : decode cX12_row 15 = .ok (.if_icmp .lt 9, 3) := by decide +kernel
theorem dX12_row_18 : decode cX12_row 18 = .ok (.iload_n 2, 1) := by decide +kernel
theorem dX12_row_19 : decode cX12_row 19 = .ok (.bipush 48, 2) := by decide +kernel
theorem dX12_row_21 : decode cX12_row 21 = .ok (.if_icmp .le 5, 3) := by decide +kernel
theorem dX12_row_24 : decode cX12_row 24 = .ok (.iconst 0, 1) := by decide +kernel
theorem dX12_row_25 : decode cX12_row 25 = .ok (.ireturn, 1) := by decide +kernel
theorem dX12_row_26 : decode cX12_row 26 = .ok (.aload_n 0, 1) := by decide +kernel
theorem dX12_row_27 : decode cX12_row 27 = .ok (.getfield 23, 3) := by decide +kernel
theorem dX12_row_30 : decode cX12_row 30 = .ok (.iload_n 1, 1) := by decide +kernel
theorem dX12_row_31 : decode cX12_row 31 = .ok (.iload_n 2, 1) := by decide +kernel
theorem dX12_row_32 : decode cX12_row 32 = .ok (.iastore, 1) := by decide +kernel
theorem dX12_row_33 : decode cX12_row 33 = .ok (.iconst 0, 1) := by decide +kernel
theorem dX12_row_34 : decode cX12_row 34 = .ok (.istore_n 3, 1) := by decide +kernel
theorem dX12_row_35 : decode cX12_row 35 = .ok (.iload_n 3, 1) := by decide +kernel
theorem dX12_row_36 : decode cX12_row 36 = .ok (.bipush 48, 2) := by decide +kernel
theorem dX12_row_38 : decode cX12_row 38 = .ok (.if_icmp .ge 21, 3) := by decide +kernel
theorem dX12_row_41 : decode cX12_row 41 = .ok (.aload_n 0, 1) := by decide +kernel
theorem dX12_row_42 : decode cX12_row 42 = .ok (.getfield 26, 3) := by decide +kernel
theorem dX12_row_45 : decode cX12_row 45 = .ok (.bipush 48, 2) := by decide +kernel
theorem dX12_row_47 : decode cX12_row 47 = .ok (.iload_n 1, 1) := by decide +kernel
theorem dX12_row_48 : decode cX12_row 48 = .ok (.imul, 1) := by decide +kernel
theorem dX12_row_49 : decode cX12_row 49 = .ok (.iload_n 3, 1) := by decide +kernel
theorem dX12_row_50 : decode cX12_row 50 = .ok (.iadd, 1) := by decide +kernel
theorem dX12_row_51 : decode cX12_row 51 = .ok (.iconst 0, 1) := by decide +kernel
theorem dX12_row_52 : decode cX12_row 52 = .ok (.iastore, 1) := by decide +kernel
theorem dX12_row_53 : decode cX12_row 53 = .ok (.iinc 3 1, 3) := by decide +kernel
theorem dX12_row_56 : decode cX12_row 56 = .ok (.goto (-21), 3) := by decide +kernel
theorem dX12_row_59 : decode cX12_row 59 = .ok (.iconst 1, 1) := by decide +kernel
theorem dX12_row_60 : decode cX12_row 60 = .ok (.ireturn, 1) := by decide +kernel
theorem dX12_cell_0 : decode cX12_cell 0 = .ok (.aload_n 0, 1) := by decide +kernel
theorem dX12_cell_1 : decode cX12_cell 1 = .ok (.iload_n 1, 1) := by decide +kernel
theorem dX12_cell_2 : decode cX12_cell 2 = .ok (.invokevirtual 139, 3) := by decide +kernel
theorem dX12_cell_5 : decode cX12_cell 5 = .ok (.ifCond .eq 28, 3) := by decide +kernel
theorem dX12_cell_8 : decode cX12_cell 8 = .ok (.iload_n 2, 1) := by decide +kernel
theorem dX12_cell_9 : decode cX12_cell 9 = .ok (.ifCond .lt 24, 3) := by decide +kernel
theorem dX12_cell_12 : decode cX12_cell 12 = .ok (.iload_n 2, 1) := by decide +kernel
theorem dX12_cell_13 : decode cX12_cell 13 = .ok (.aload_n 0, 1) := by decide +kernel
theorem dX12_cell_14 : decode cX12_cell 14 = .ok (.getfield 23, 3) := by decide +kernel
theorem dX12_cell_17 : decode cX12_cell 17 = .ok (.iload_n 1, 1) := by decide +kernel
theorem dX12_cell_18 : decode cX12_cell 18 = .ok (.iaload, 1) := by decide +kernel
theorem dX12_cell_19 : decode cX12_cell 19 = .ok (.if_icmp .ge 14, 3) := by decide +kernel
theorem dX12_cell_22 : decode cX12_cell 22 = .ok (.iload_n 3, 1) := by decide +kernel
theorem dX12_cell_23 : decode cX12_cell 23 = .ok (.iconst (-1), 1) := by decide +kernel
theorem dX12_cell_24 : decode cX12_cell 24 = .ok (.if_icmp .lt 9, 3) := by decide +kernel
theorem dX12_cell_27 : decode cX12_cell 27 = .ok (.iload_n 3, 1) := by decide +kernel
theorem dX12_cell_28 : decode cX12_cell 28 = .ok (.bipush 100, 2) := by decide +kernel
theorem dX12_cell_30 : decode cX12_cell 30 = .ok (.if_icmp .le 5, 3) := by decide +kernel
theorem dX12_cell_33 : decode cX12_cell 33 = .ok (.iconst 0, 1) := by decide +kernel
theorem dX12_cell_34 : decode cX12_cell 34 = .ok (.ireturn, 1) := by decide +kernel
theorem dX12_cell_35 : decode cX12_cell 35 = .ok (.aload_n 0, 1) := by decide +kernel
theorem dX12_cell_36 : decode cX12_cell 36 = .ok (.getfield 26, 3) := by decide +kernel
theorem dX12_cell_39 : decode cX12_cell 39 = .ok (.bipush 48, 2) := by decide +kernel
theorem dX12_cell_41 : decode cX12_cell 41 = .ok (.iload_n 1, 1) := by decide +kernel
theorem dX12_cell_42 : decode cX12_cell 42 = .ok (.imul, 1) := by decide +kernel
theorem dX12_cell_43 : decode cX12_cell 43 = .ok (.iload_n 2, 1) := by decide +kernel
theorem dX12_cell_44 : decode cX12_cell 44 = .ok (.iadd, 1) := by decide +kernel
theorem dX12_cell_45 : decode cX12_cell 45 = .ok (.iload_n 3, 1) := by decide +kernel
theorem dX12_cell_46 : decode cX12_cell 46 = .ok (.iastore, 1) := by decide +kernel
theorem dX12_cell_47 : decode cX12_cell 47 = .ok (.iconst 1, 1) := by decide +kernel
theorem dX12_cell_48 : decode cX12_cell 48 = .ok (.ireturn, 1) := by decide +kernel
theorem dX12_fact_0 : decode cX12_fact 0 = .ok (.aload_n 0, 1) := by decide +kernel
theorem dX12_fact_1 : decode cX12_fact 1 = .ok (.getfield 29, 3) := by decide +kernel
theorem dX12_fact_4 : decode cX12_fact 4 = .ok (.aload_n 0, 1) := by decide +kernel
theorem dX12_fact_5 : decode cX12_fact 5 = .ok (.getfield 129, 3) := by decide +kernel
theorem dX12_fact_8 : decode cX12_fact 8 = .ok (.iload_n 1, 1) := by decide +kernel
theorem dX12_fact_9 : decode cX12_fact 9 = .ok (.iastore, 1) := by decide +kernel
theorem dX12_fact_10 : decode cX12_fact 10 = .ok (.aload_n 0, 1) := by decide +kernel
theorem dX12_fact_11 : decode cX12_fact 11 = .ok (.getfield 32, 3) := by decide +kernel
theorem dX12_fact_14 : decode cX12_fact 14 = .ok (.aload_n 0, 1) := by decide +kernel
theorem dX12_fact_15 : decode cX12_fact 15 = .ok (.getfield 129, 3) := by decide +kernel
theorem dX12_fact_18 : decode cX12_fact 18 = .ok (.iload_n 2, 1) := by decide +kernel
theorem dX12_fact_19 : decode cX12_fact 19 = .ok (.iastore, 1) := by decide +kernel
theorem dX12_fact_20 : decode cX12_fact 20 = .ok (.aload_n 0, 1) := by decide +kernel
theorem dX12_fact_21 : decode cX12_fact 21 = .ok (.getfield 35, 3) := by decide +kernel
theorem dX12_fact_24 : decode cX12_fact 24 = .ok (.aload_n 0, 1) := by decide +kernel
theorem dX12_fact_25 : decode cX12_fact 25 = .ok (.getfield 129, 3) := by decide +kernel
theorem dX12_fact_28 : decode cX12_fact 28 = .ok (.iload_n 3, 1) := by decide +kernel
theorem dX12_fact_29 : decode cX12_fact 29 = .ok (.iastore, 1) := by decide +kernel
theorem dX12_fact_30 : decode cX12_fact 30 = .ok (.aload_n 0, 1) := by decide +kernel
theorem dX12_fact_31 : decode cX12_fact 31 = .ok (.getfield 38, 3) := by decide +kernel
theorem dX12_fact_34 : decode cX12_fact 34 = .ok (.aload_n 0, 1) := by decide +kernel
theorem dX12_fact_35 : decode cX12_fact 35 = .ok (.getfield 129, 3) := by decide +kernel
theorem dX12_fact_38 : decode cX12_fact 38 = .ok (.iload 4, 2) := by decide +kernel
theorem dX12_fact_40 : decode cX12_fact 40 = .ok (.iastore, 1) := by decide +kernel
theorem dX12_fact_41 : decode cX12_fact 41 = .ok (.aload_n 0, 1) := by decide +kernel
theorem dX12_fact_42 : decode cX12_fact 42 = .ok (.getfield 41, 3) := by decide +kernel
theorem dX12_fact_45 : decode cX12_fact 45 = .ok (.aload_n 0, 1) := by decide +kernel
theorem dX12_fact_46 : decode cX12_fact 46 = .ok (.getfield 129, 3) := by decide +kernel
theorem dX12_fact_49 : decode cX12_fact 49 = .ok (.iload 5, 2) := by decide +kernel
theorem dX12_fact_51 : decode cX12_fact 51 = .ok (.bastore, 1) := by decide +kernel
theorem dX12_fact_52 : decode cX12_fact 52 = .ok (.aload_n 0, 1) := by decide +kernel
theorem dX12_fact_53 : decode cX12_fact 53 = .ok (.dup, 1) := by decide +kernel
theorem dX12_fact_54 : decode cX12_fact 54 = .ok (.getfield 129, 3) := by decide +kernel
theorem dX12_fact_57 : decode cX12_fact 57 = .ok (.iconst 1, 1) := by decide +kernel
theorem dX12_fact_58 : decode cX12_fact 58 = .ok (.iadd, 1) := by decide +kernel
theorem dX12_fact_59 : decode cX12_fact 59 = .ok (.putfield 129, 3) := by decide +kernel
theorem dX12_fact_62 : decode cX12_fact 62 = .ok (.aload_n 0, 1) := by decide +kernel
theorem dX12_fact_63 : decode cX12_fact 63 = .ok (.getfield 129, 3) := by decide +kernel
theorem dX12_fact_66 : decode cX12_fact 66 = .ok (.iconst 1, 1) := by decide +kernel
theorem dX12_fact_67 : decode cX12_fact 67 = .ok (.isub, 1) := by decide +kernel
theorem dX12_fact_68 : decode cX12_fact 68 = .ok (.ireturn, 1) := by decide +kernel
theorem dX12_change_0 : decode cX12_change 0 = .ok (.aload_n 0, 1) := by decide +kernel
theorem dX12_change_1 : decode cX12_change 1 = .ok (.getfield 129, 3) := by decide +kernel
theorem dX12_change_4 : decode cX12_change 4 = .ok (.sipush 400, 3) := by decide +kernel
theorem dX12_change_7 : decode cX12_change 7 = .ok (.if_icmp .eq 29, 3) := by decide +kernel
theorem dX12_change_10 : decode cX12_change 10 = .ok (.aload_n 0, 1) := by decide +kernel
theorem dX12_change_11 : decode cX12_change 11 = .ok (.iload_n 1, 1) := by decide +kernel
theorem dX12_change_12 : decode cX12_change 12 = .ok (.invokevirtual 136, 3) := by decide +kernel
theorem dX12_change_15 : decode cX12_change 15 = .ok (.ifCond .eq 21, 3) := by decide +kernel
theorem dX12_change_18 : decode cX12_change 18 = .ok (.iload_n 2, 1) := by decide +kernel
theorem dX12_change_19 : decode cX12_change 19 = .ok (.ifCond .lt 17, 3) := by decide +kernel
theorem dX12_change_22 : decode cX12_change 22 = .ok (.iload_n 2, 1) := by decide +kernel
theorem dX12_change_23 : decode cX12_change 23 = .ok (.sipush 17472, 3) := by decide +kernel
theorem dX12_change_26 : decode cX12_change 26 = .ok (.if_icmp .ge 10, 3) := by decide +kernel
theorem dX12_change_29 : decode cX12_change 29 = .ok (.iload_n 3, 1) := by decide +kernel
theorem dX12_change_30 : decode cX12_change 30 = .ok (.invokestatic 132, 3) := by decide +kernel
theorem dX12_change_33 : decode cX12_change 33 = .ok (.ifCond .ne 7, 3) := by decide +kernel
theorem dX12_change_36 : decode cX12_change 36 = .ok (.iconst (-1), 1) := by decide +kernel
theorem dX12_change_37 : decode cX12_change 37 = .ok (.goto 12, 3) := by decide +kernel
theorem dX12_change_40 : decode cX12_change 40 = .ok (.aload_n 0, 1) := by decide +kernel
theorem dX12_change_41 : decode cX12_change 41 = .ok (.iconst 0, 1) := by decide +kernel
theorem dX12_change_42 : decode cX12_change 42 = .ok (.iload_n 1, 1) := by decide +kernel
theorem dX12_change_43 : decode cX12_change 43 = .ok (.iload_n 2, 1) := by decide +kernel
theorem dX12_change_44 : decode cX12_change 44 = .ok (.iload_n 3, 1) := by decide +kernel
theorem dX12_change_45 : decode cX12_change 45 = .ok (.iconst 0, 1) := by decide +kernel
theorem dX12_change_46 : decode cX12_change 46 = .ok (.invokevirtual 142, 3) := by decide +kernel
theorem dX12_change_49 : decode cX12_change 49 = .ok (.ireturn, 1) := by decide +kernel
theorem dX12_feast_0 : decode cX12_feast 0 = .ok (.aload_n 0, 1) := by decide +kernel
theorem dX12_feast_1 : decode cX12_feast 1 = .ok (.getfield 129, 3) := by decide +kernel
theorem dX12_feast_4 : decode cX12_feast 4 = .ok (.sipush 400, 3) := by decide +kernel
theorem dX12_feast_7 : decode cX12_feast 7 = .ok (.if_icmp .eq 22, 3) := by decide +kernel
theorem dX12_feast_10 : decode cX12_feast 10 = .ok (.aload_n 0, 1) := by decide +kernel
theorem dX12_feast_11 : decode cX12_feast 11 = .ok (.iload_n 1, 1) := by decide +kernel
theorem dX12_feast_12 : decode cX12_feast 12 = .ok (.invokevirtual 136, 3) := by decide +kernel
theorem dX12_feast_15 : decode cX12_feast 15 = .ok (.ifCond .eq 14, 3) := by decide +kernel
theorem dX12_feast_18 : decode cX12_feast 18 = .ok (.iload_n 2, 1) := by decide +kernel
theorem dX12_feast_19 : decode cX12_feast 19 = .ok (.ifCond .lt 10, 3) := by decide +kernel
theorem dX12_feast_22 : decode cX12_feast 22 = .ok (.iload_n 2, 1) := by decide +kernel
theorem dX12_feast_23 : decode cX12_feast 23 = .ok (.sipush 363, 3) := by decide +kernel
theorem dX12_feast_26 : decode cX12_feast 26 = .ok (.if_icmp .le 7, 3) := by decide +kernel
theorem dX12_feast_29 : decode cX12_feast 29 = .ok (.iconst (-1), 1) := by decide +kernel
theorem dX12_feast_30 : decode cX12_feast 30 = .ok (.goto 12, 3) := by decide +kernel
theorem dX12_feast_33 : decode cX12_feast 33 = .ok (.aload_n 0, 1) := by decide +kernel
theorem dX12_feast_34 : decode cX12_feast 34 = .ok (.iconst 1, 1) := by decide +kernel
theorem dX12_feast_35 : decode cX12_feast 35 = .ok (.iload_n 1, 1) := by decide +kernel
theorem dX12_feast_36 : decode cX12_feast 36 = .ok (.iload_n 2, 1) := by decide +kernel
theorem dX12_feast_37 : decode cX12_feast 37 = .ok (.iconst 0, 1) := by decide +kernel
theorem dX12_feast_38 : decode cX12_feast 38 = .ok (.iconst 0, 1) := by decide +kernel
theorem dX12_feast_39 : decode cX12_feast 39 = .ok (.invokevirtual 142, 3) := by decide +kernel
theorem dX12_feast_42 : decode cX12_feast 42 = .ok (.ireturn, 1) := by decide +kernel
theorem dX12_busy_0 : decode cX12_busy 0 = .ok (.aload_n 0, 1) := by decide +kernel
theorem dX12_busy_1 : decode cX12_busy 1 = .ok (.getfield 129, 3) := by decide +kernel
theorem dX12_busy_4 : decode cX12_busy 4 = .ok (.sipush 400, 3) := by decide +kernel
theorem dX12_busy_7 : decode cX12_busy 7 = .ok (.if_icmp .eq 27, 3) := by decide +kernel
theorem dX12_busy_10 : decode cX12_busy 10 = .ok (.aload_n 0, 1) := by decide +kernel
theorem dX12_busy_11 : decode cX12_busy 11 = .ok (.iload_n 1, 1) := by decide +kernel
theorem dX12_busy_12 : decode cX12_busy 12 = .ok (.invokevirtual 139, 3) := by decide +kernel
theorem dX12_busy_15 : decode cX12_busy 15 = .ok (.ifCond .eq 19, 3) := by decide +kernel
theorem dX12_busy_18 : decode cX12_busy 18 = .ok (.iload_n 2, 1) := by decide +kernel
theorem dX12_busy_19 : decode cX12_busy 19 = .ok (.ifCond .lt 15, 3) := by decide +kernel
theorem dX12_busy_22 : decode cX12_busy 22 = .ok (.iload_n 2, 1) := by decide +kernel
theorem dX12_busy_23 : decode cX12_busy 23 = .ok (.iload_n 3, 1) := by decide +kernel
theorem dX12_busy_24 : decode cX12_busy 24 = .ok (.if_icmp .ge 10, 3) := by decide +kernel
theorem dX12_busy_27 : decode cX12_busy 27 = .ok (.iload_n 3, 1) := by decide +kernel
theorem dX12_busy_28 : decode cX12_busy 28 = .ok (.sipush 17472, 3) := by decide +kernel
theorem dX12_busy_31 : decode cX12_busy 31 = .ok (.if_icmp .le 7, 3) := by decide +kernel
theorem dX12_busy_34 : decode cX12_busy 34 = .ok (.iconst (-1), 1) := by decide +kernel
theorem dX12_busy_35 : decode cX12_busy 35 = .ok (.goto 13, 3) := by decide +kernel
theorem dX12_busy_38 : decode cX12_busy 38 = .ok (.aload_n 0, 1) := by decide +kernel
theorem dX12_busy_39 : decode cX12_busy 39 = .ok (.iconst 2, 1) := by decide +kernel
theorem dX12_busy_40 : decode cX12_busy 40 = .ok (.iload_n 1, 1) := by decide +kernel
theorem dX12_busy_41 : decode cX12_busy 41 = .ok (.iload_n 2, 1) := by decide +kernel
theorem dX12_busy_42 : decode cX12_busy 42 = .ok (.iload_n 3, 1) := by decide +kernel
theorem dX12_busy_43 : decode cX12_busy 43 = .ok (.iload 4, 2) := by decide +kernel
theorem dX12_busy_45 : decode cX12_busy 45 = .ok (.invokevirtual 142, 3) := by decide +kernel
theorem dX12_busy_48 : decode cX12_busy 48 = .ok (.ireturn, 1) := by decide +kernel
theorem dX12_cant_0 : decode cX12_cant 0 = .ok (.aload_n 0, 1) := by decide +kernel
theorem dX12_cant_1 : decode cX12_cant 1 = .ok (.getfield 129, 3) := by decide +kernel
theorem dX12_cant_4 : decode cX12_cant 4 = .ok (.sipush 400, 3) := by decide +kernel
theorem dX12_cant_7 : decode cX12_cant 7 = .ok (.if_icmp .eq 26, 3) := by decide +kernel
theorem dX12_cant_10 : decode cX12_cant 10 = .ok (.aload_n 0, 1) := by decide +kernel
theorem dX12_cant_11 : decode cX12_cant 11 = .ok (.iload_n 1, 1) := by decide +kernel
theorem dX12_cant_12 : decode cX12_cant 12 = .ok (.invokevirtual 139, 3) := by decide +kernel
theorem dX12_cant_15 : decode cX12_cant 15 = .ok (.ifCond .eq 18, 3) := by decide +kernel
theorem dX12_cant_18 : decode cX12_cant 18 = .ok (.aload_n 0, 1) := by decide +kernel
theorem dX12_cant_19 : decode cX12_cant 19 = .ok (.iload_n 2, 1) := by decide +kernel
theorem dX12_cant_20 : decode cX12_cant 20 = .ok (.invokevirtual 146, 3) := by decide +kernel
theorem dX12_cant_23 : decode cX12_cant 23 = .ok (.ifCond .eq 10, 3) := by decide +kernel
theorem dX12_cant_26 : decode cX12_cant 26 = .ok (.iload_n 3, 1) := by decide +kernel
theorem dX12_cant_27 : decode cX12_cant 27 = .ok (.invokestatic 149, 3) := by decide +kernel
theorem dX12_cant_30 : decode cX12_cant 30 = .ok (.ifCond .ne 7, 3) := by decide +kernel
theorem dX12_cant_33 : decode cX12_cant 33 = .ok (.iconst (-1), 1) := by decide +kernel
theorem dX12_cant_34 : decode cX12_cant 34 = .ok (.goto 12, 3) := by decide +kernel
theorem dX12_cant_37 : decode cX12_cant 37 = .ok (.aload_n 0, 1) := by decide +kernel
theorem dX12_cant_38 : decode cX12_cant 38 = .ok (.iconst 3, 1) := by decide +kernel
theorem dX12_cant_39 : decode cX12_cant 39 = .ok (.iload_n 1, 1) := by decide +kernel
theorem dX12_cant_40 : decode cX12_cant 40 = .ok (.iload_n 2, 1) := by decide +kernel
theorem dX12_cant_41 : decode cX12_cant 41 = .ok (.iload_n 3, 1) := by decide +kernel
theorem dX12_cant_42 : decode cX12_cant 42 = .ok (.iconst 0, 1) := by decide +kernel
theorem dX12_cant_43 : decode cX12_cant 43 = .ok (.invokevirtual 142, 3) := by decide +kernel
theorem dX12_cant_46 : decode cX12_cant 46 = .ok (.ireturn, 1) := by decide +kernel
theorem dX12_offsetAt_0 : decode cX12_offsetAt 0 = .ok (.iconst (-1), 1) := by decide +kernel
theorem dX12_offsetAt_1 : decode cX12_offsetAt 1 = .ok (.istore 4, 2) := by decide +kernel
theorem dX12_offsetAt_3 : decode cX12_offsetAt 3 = .ok (.iconst 0, 1) := by decide +kernel
theorem dX12_offsetAt_4 : decode cX12_offsetAt 4 = .ok (.istore 5, 2) := by decide +kernel
theorem dX12_offsetAt_6 : decode cX12_offsetAt 6 = .ok (.iload 5, 2) := by decide +kernel
theorem dX12_offsetAt_8 : decode cX12_offsetAt 8 = .ok (.iload_n 3, 1) := by decide +kernel
theorem dX12_offsetAt_9 : decode cX12_offsetAt 9 = .ok (.if_icmp .ge 68, 3) := by decide +kernel
theorem dX12_offsetAt_12 : decode cX12_offsetAt 12 = .ok (.aload_n 0, 1) := by decide +kernel
theorem dX12_offsetAt_13 : decode cX12_offsetAt 13 = .ok (.getfield 29, 3) := by decide +kernel
theorem dX12_offsetAt_16 : decode cX12_offsetAt 16 = .ok (.iload 5, 2) := by decide +kernel
theorem dX12_offsetAt_18 : decode cX12_offsetAt 18 = .ok (.iaload, 1) := by decide +kernel
theorem dX12_offsetAt_19 : decode cX12_offsetAt 19 = .ok (.ifCond .ne 52, 3) := by decide +kernel
theorem dX12_offsetAt_22 : decode cX12_offsetAt 22 = .ok (.aload_n 0, 1) := by decide +kernel
theorem dX12_offsetAt_23 : decode cX12_offsetAt 23 = .ok (.getfield 32, 3) := by decide +kernel
theorem dX12_offsetAt_26 : decode cX12_offsetAt 26 = .ok (.iload 5, 2) := by decide +kernel
theorem dX12_offsetAt_28 : decode cX12_offsetAt 28 = .ok (.iaload, 1) := by decide +kernel
theorem dX12_offsetAt_29 : decode cX12_offsetAt 29 = .ok (.iload_n 1, 1) := by decide +kernel
theorem dX12_offsetAt_30 : decode cX12_offsetAt 30 = .ok (.if_icmp .ne 41, 3) := by decide +kernel
theorem dX12_offsetAt_33 : decode cX12_offsetAt 33 = .ok (.aload_n 0, 1) := by decide +kernel
theorem dX12_offsetAt_34 : decode cX12_offsetAt 34 = .ok (.getfield 35, 3) := by decide +kernel
theorem dX12_offsetAt_37 : decode cX12_offsetAt 37 = .ok (.iload 5, 2) := by decide +kernel
theorem dX12_offsetAt_39 : decode cX12_offsetAt 39 = .ok (.iaload, 1) := by decide +kernel
theorem dX12_offsetAt_40 : decode cX12_offsetAt 40 = .ok (.iload_n 2, 1) := by decide +kernel
theorem dX12_offsetAt_41 : decode cX12_offsetAt 41 = .ok (.if_icmp .gt 30, 3) := by decide +kernel
theorem dX12_offsetAt_44 : decode cX12_offsetAt 44 = .ok (.iload 4, 2) := by decide +kernel
theorem dX12_offsetAt_46 : decode cX12_offsetAt 46 = .ok (.iconst (-1), 1) := by decide +kernel
theorem dX12_offsetAt_47 : decode cX12_offsetAt 47 = .ok (.if_icmp .eq 20, 3) := by decide +kernel
theorem dX12_offsetAt_50 : decode cX12_offsetAt 50 = .ok (.aload_n 0, 1) := by decide +kernel
theorem dX12_offsetAt_51 : decode cX12_offsetAt 51 = .ok (.getfield 35, 3) := by decide +kernel
theorem dX12_offsetAt_54 : decode cX12_offsetAt 54 = .ok (.iload 5, 2) := by decide +kernel
theorem dX12_offsetAt_56 : decode cX12_offsetAt 56 = .ok (.iaload, 1) := by decide +kernel
theorem dX12_offsetAt_57 : decode cX12_offsetAt 57 = .ok (.aload_n 0, 1) := by decide +kernel
theorem dX12_offsetAt_58 : decode cX12_offsetAt 58 = .ok (.getfield 35, 3) := by decide +kernel
theorem dX12_offsetAt_61 : decode cX12_offsetAt 61 = .ok (.iload 4, 2) := by decide +kernel
theorem dX12_offsetAt_63 : decode cX12_offsetAt 63 = .ok (.iaload, 1) := by decide +kernel
theorem dX12_offsetAt_64 : decode cX12_offsetAt 64 = .ok (.if_icmp .lt 7, 3) := by decide +kernel
theorem dX12_offsetAt_67 : decode cX12_offsetAt 67 = .ok (.iload 5, 2) := by decide +kernel
theorem dX12_offsetAt_69 : decode cX12_offsetAt 69 = .ok (.istore 4, 2) := by decide +kernel
theorem dX12_offsetAt_71 : decode cX12_offsetAt 71 = .ok (.iinc 5 1, 3) := by decide +kernel
theorem dX12_offsetAt_74 : decode cX12_offsetAt 74 = .ok (.goto (-68), 3) := by decide +kernel
theorem dX12_offsetAt_77 : decode cX12_offsetAt 77 = .ok (.iload 4, 2) := by decide +kernel
theorem dX12_offsetAt_79 : decode cX12_offsetAt 79 = .ok (.iconst (-1), 1) := by decide +kernel
theorem dX12_offsetAt_80 : decode cX12_offsetAt 80 = .ok (.if_icmp .ne 12, 3) := by decide +kernel
theorem dX12_offsetAt_83 : decode cX12_offsetAt 83 = .ok (.aload_n 0, 1) := by decide +kernel
theorem dX12_offsetAt_84 : decode cX12_offsetAt 84 = .ok (.getfield 13, 3) := by decide +kernel
theorem dX12_offsetAt_87 : decode cX12_offsetAt 87 = .ok (.iload_n 1, 1) := by decide +kernel
theorem dX12_offsetAt_88 : decode cX12_offsetAt 88 = .ok (.iaload, 1) := by decide +kernel
theorem dX12_offsetAt_89 : decode cX12_offsetAt 89 = .ok (.goto 10, 3) := by decide +kernel
theorem dX12_offsetAt_92 : decode cX12_offsetAt 92 = .ok (.aload_n 0, 1) := by decide +kernel
theorem dX12_offsetAt_93 : decode cX12_offsetAt 93 = .ok (.getfield 38, 3) := by decide +kernel
theorem dX12_offsetAt_96 : decode cX12_offsetAt 96 = .ok (.iload 4, 2) := by decide +kernel
theorem dX12_offsetAt_98 : decode cX12_offsetAt 98 = .ok (.iaload, 1) := by decide +kernel
theorem dX12_offsetAt_99 : decode cX12_offsetAt 99 = .ok (.ireturn, 1) := by decide +kernel
theorem dX12_down_0 : decode cX12_down 0 = .ok (.iload_n 0, 1) := by decide +kernel
theorem dX12_down_1 : decode cX12_down 1 = .ok (.iload_n 1, 1) := by decide +kernel
theorem dX12_down_2 : decode cX12_down 2 = .ok (.idiv, 1) := by decide +kernel
theorem dX12_down_3 : decode cX12_down 3 = .ok (.istore_n 2, 1) := by decide +kernel
theorem dX12_down_4 : decode cX12_down 4 = .ok (.iload_n 0, 1) := by decide +kernel
theorem dX12_down_5 : decode cX12_down 5 = .ok (.iload_n 1, 1) := by decide +kernel
theorem dX12_down_6 : decode cX12_down 6 = .ok (.irem, 1) := by decide +kernel
theorem dX12_down_7 : decode cX12_down 7 = .ok (.ifCond .ge 9, 3) := by decide +kernel
theorem dX12_down_10 : decode cX12_down 10 = .ok (.iload_n 2, 1) := by decide +kernel
theorem dX12_down_11 : decode cX12_down 11 = .ok (.iconst 1, 1) := by decide +kernel
theorem dX12_down_12 : decode cX12_down 12 = .ok (.isub, 1) := by decide +kernel
theorem dX12_down_13 : decode cX12_down 13 = .ok (.goto 4, 3) := by decide +kernel
theorem dX12_down_16 : decode cX12_down 16 = .ok (.iload_n 2, 1) := by decide +kernel
theorem dX12_down_17 : decode cX12_down 17 = .ok (.ireturn, 1) := by decide +kernel
theorem dX12_local_0 : decode cX12_local 0 = .ok (.aload_n 0, 1) := by decide +kernel
theorem dX12_local_1 : decode cX12_local 1 = .ok (.iload_n 1, 1) := by decide +kernel
theorem dX12_local_2 : decode cX12_local 2 = .ok (.invokevirtual 136, 3) := by decide +kernel
theorem dX12_local_5 : decode cX12_local 5 = .ok (.ifCond .eq 33, 3) := by decide +kernel
theorem dX12_local_8 : decode cX12_local 8 = .ok (.iload_n 2, 1) := by decide +kernel
theorem dX12_local_9 : decode cX12_local 9 = .ok (.ifCond .lt 29, 3) := by decide +kernel
theorem dX12_local_12 : decode cX12_local 12 = .ok (.iload_n 2, 1) := by decide +kernel
theorem dX12_local_13 : decode cX12_local 13 = .ok (.sipush 17472, 3) := by decide +kernel
theorem dX12_local_16 : decode cX12_local 16 = .ok (.if_icmp .ge 22, 3) := by decide +kernel
theorem dX12_local_19 : decode cX12_local 19 = .ok (.aload_n 0, 1) := by decide +kernel
theorem dX12_local_20 : decode cX12_local 20 = .ok (.iload_n 3, 1) := by decide +kernel
theorem dX12_local_21 : decode cX12_local 21 = .ok (.invokevirtual 152, 3) := by decide +kernel
theorem dX12_local_24 : decode cX12_local 24 = .ok (.ifCond .eq 14, 3) := by decide +kernel
theorem dX12_local_27 : decode cX12_local 27 = .ok (.iload 4, 2) := by decide +kernel
theorem dX12_local_29 : decode cX12_local 29 = .ok (.ifCond .lt 9, 3) := by decide +kernel
theorem dX12_local_32 : decode cX12_local 32 = .ok (.iload 4, 2) := by decide +kernel
theorem dX12_local_34 : decode cX12_local 34 = .ok (.iconst 3, 1) := by decide +kernel
theorem dX12_local_35 : decode cX12_local 35 = .ok (.if_icmp .le 6, 3) := by decide +kernel
theorem dX12_local_38 : decode cX12_local 38 = .ok (.ldc 155, 2) := by decide +kernel
theorem dX12_local_40 : decode cX12_local 40 = .ok (.ireturn, 1) := by decide +kernel
theorem dX12_local_41 : decode cX12_local 41 = .ok (.aload_n 0, 1) := by decide +kernel
theorem dX12_local_42 : decode cX12_local 42 = .ok (.iload_n 1, 1) := by decide +kernel
theorem dX12_local_43 : decode cX12_local 43 = .ok (.iload_n 2, 1) := by decide +kernel
theorem dX12_local_44 : decode cX12_local 44 = .ok (.iload_n 3, 1) := by decide +kernel
theorem dX12_local_45 : decode cX12_local 45 = .ok (.invokevirtual 156, 3) := by decide +kernel
theorem dX12_local_48 : decode cX12_local 48 = .ok (.istore 5, 2) := by decide +kernel
theorem dX12_local_50 : decode cX12_local 50 = .ok (.iload_n 2, 1) := by decide +kernel
theorem dX12_local_51 : decode cX12_local 51 = .ok (.iload 5, 2) := by decide +kernel
theorem dX12_local_53 : decode cX12_local 53 = .ok (.iadd, 1) := by decide +kernel
theorem dX12_local_54 : decode cX12_local 54 = .ok (.bipush 48, 2) := by decide +kernel
theorem dX12_local_56 : decode cX12_local 56 = .ok (.invokestatic 160, 3) := by decide +kernel
theorem dX12_local_59 : decode cX12_local 59 = .ok (.istore 6, 2) := by decide +kernel
theorem dX12_local_61 : decode cX12_local 61 = .ok (.iload 4, 2) := by decide +kernel
theorem dX12_local_63 : decode cX12_local 63 = .ok (.tableswitch 53 0 2 #[25, 28, 39], 25) := by decide +kernel
theorem dX12_local_88 : decode cX12_local 88 = .ok (.iload 6, 2) := by decide +kernel
theorem dX12_local_90 : decode cX12_local 90 = .ok (.ireturn, 1) := by decide +kernel
theorem dX12_local_91 : decode cX12_local 91 = .ok (.iload_n 2, 1) := by decide +kernel
theorem dX12_local_92 : decode cX12_local 92 = .ok (.iload 5, 2) := by decide +kernel
theorem dX12_local_94 : decode cX12_local 94 = .ok (.iadd, 1) := by decide +kernel
theorem dX12_local_95 : decode cX12_local 95 = .ok (.bipush 48, 2) := by decide +kernel
theorem dX12_local_97 : decode cX12_local 97 = .ok (.iload 6, 2) := by decide +kernel
theorem dX12_local_99 : decode cX12_local 99 = .ok (.imul, 1) := by decide +kernel
theorem dX12_local_100 : decode cX12_local 100 = .ok (.isub, 1) := by decide +kernel
theorem dX12_local_101 : decode cX12_local 101 = .ok (.ireturn, 1) := by decide +kernel
theorem dX12_local_102 : decode cX12_local 102 = .ok (.iload 6, 2) := by decide +kernel
theorem dX12_local_104 : decode cX12_local 104 = .ok (.bipush 7, 2) := by decide +kernel
theorem dX12_local_106 : decode cX12_local 106 = .ok (.iload 6, 2) := by decide +kernel
theorem dX12_local_108 : decode cX12_local 108 = .ok (.bipush 7, 2) := by decide +kernel
theorem dX12_local_110 : decode cX12_local 110 = .ok (.invokestatic 160, 3) := by decide +kernel
theorem dX12_local_113 : decode cX12_local 113 = .ok (.imul, 1) := by decide +kernel
theorem dX12_local_114 : decode cX12_local 114 = .ok (.isub, 1) := by decide +kernel
theorem dX12_local_115 : decode cX12_local 115 = .ok (.ireturn, 1) := by decide +kernel
theorem dX12_local_116 : decode cX12_local 116 = .ok (.iload 5, 2) := by decide +kernel
theorem dX12_local_118 : decode cX12_local 118 = .ok (.ireturn, 1) := by decide +kernel
theorem dX12_when_0 : decode cX12_when 0 = .ok (.aload_n 0, 1) := by decide +kernel
theorem dX12_when_1 : decode cX12_when 1 = .ok (.iload_n 1, 1) := by decide +kernel
theorem dX12_when_2 : decode cX12_when 2 = .ok (.invokevirtual 136, 3) := by decide +kernel
theorem dX12_when_5 : decode cX12_when 5 = .ok (.ifCond .eq 45, 3) := by decide +kernel
theorem dX12_when_8 : decode cX12_when 8 = .ok (.iload_n 2, 1) := by decide +kernel
theorem dX12_when_9 : decode cX12_when 9 = .ok (.iconst (-1), 1) := by decide +kernel
theorem dX12_when_10 : decode cX12_when 10 = .ok (.if_icmp .lt 40, 3) := by decide +kernel
theorem dX12_when_13 : decode cX12_when 13 = .ok (.iload_n 2, 1) := by decide +kernel
theorem dX12_when_14 : decode cX12_when 14 = .ok (.sipush 364, 3) := by decide +kernel
theorem dX12_when_17 : decode cX12_when 17 = .ok (.if_icmp .gt 33, 3) := by decide +kernel
theorem dX12_when_20 : decode cX12_when 20 = .ok (.iload_n 3, 1) := by decide +kernel
theorem dX12_when_21 : decode cX12_when 21 = .ok (.ifCond .lt 29, 3) := by decide +kernel
theorem dX12_when_24 : decode cX12_when 24 = .ok (.iload_n 3, 1) := by decide +kernel
theorem dX12_when_25 : decode cX12_when 25 = .ok (.bipush 47, 2) := by decide +kernel
theorem dX12_when_27 : decode cX12_when 27 = .ok (.if_icmp .gt 23, 3) := by decide +kernel
theorem dX12_when_30 : decode cX12_when 30 = .ok (.aload_n 0, 1) := by decide +kernel
theorem dX12_when_31 : decode cX12_when 31 = .ok (.iload 4, 2) := by decide +kernel
theorem dX12_when_33 : decode cX12_when 33 = .ok (.invokevirtual 152, 3) := by decide +kernel
theorem dX12_when_36 : decode cX12_when 36 = .ok (.ifCond .eq 14, 3) := by decide +kernel
theorem dX12_when_39 : decode cX12_when 39 = .ok (.iload 5, 2) := by decide +kernel
theorem dX12_when_41 : decode cX12_when 41 = .ok (.ifCond .lt 9, 3) := by decide +kernel
theorem dX12_when_44 : decode cX12_when 44 = .ok (.iload 5, 2) := by decide +kernel
theorem dX12_when_46 : decode cX12_when 46 = .ok (.iconst 2, 1) := by decide +kernel
theorem dX12_when_47 : decode cX12_when 47 = .ok (.if_icmp .le 5, 3) := by decide +kernel
theorem dX12_when_50 : decode cX12_when 50 = .ok (.iconst (-1), 1) := by decide +kernel
theorem dX12_when_51 : decode cX12_when 51 = .ok (.ireturn, 1) := by decide +kernel
theorem dX12_when_52 : decode cX12_when 52 = .ok (.bipush 48, 2) := by decide +kernel
theorem dX12_when_54 : decode cX12_when 54 = .ok (.iload_n 2, 1) := by decide +kernel
theorem dX12_when_55 : decode cX12_when 55 = .ok (.imul, 1) := by decide +kernel
theorem dX12_when_56 : decode cX12_when 56 = .ok (.iload_n 3, 1) := by decide +kernel
theorem dX12_when_57 : decode cX12_when 57 = .ok (.iadd, 1) := by decide +kernel
theorem dX12_when_58 : decode cX12_when 58 = .ok (.istore 6, 2) := by decide +kernel
theorem dX12_when_60 : decode cX12_when 60 = .ok (.iconst 0, 1) := by decide +kernel
theorem dX12_when_61 : decode cX12_when 61 = .ok (.istore 7, 2) := by decide +kernel
theorem dX12_when_63 : decode cX12_when 63 = .ok (.iconst (-1), 1) := by decide +kernel
theorem dX12_when_64 : decode cX12_when 64 = .ok (.istore 8, 2) := by decide +kernel
theorem dX12_when_66 : decode cX12_when 66 = .ok (.iconst (-1), 1) := by decide +kernel
theorem dX12_when_67 : decode cX12_when 67 = .ok (.istore 9, 2) := by decide +kernel
theorem dX12_when_69 : decode cX12_when 69 = .ok (.iload 6, 2) := by decide +kernel
theorem dX12_when_71 : decode cX12_when 71 = .ok (.bipush 28, 2) := by decide +kernel
theorem dX12_when_73 : decode cX12_when 73 = .ok (.isub, 1) := by decide +kernel
theorem dX12_when_74 : decode cX12_when 74 = .ok (.istore 10, 2) := by decide +kernel
theorem dX12_when_76 : decode cX12_when 76 = .ok (.iload 10, 2) := by decide +kernel
theorem dX12_when_78 : decode cX12_when 78 = .ok (.iload 6, 2) := by decide +kernel
theorem dX12_when_80 : decode cX12_when 80 = .ok (.bipush 24, 2) := by decide +kernel
theorem dX12_when_82 : decode cX12_when 82 = .ok (.iadd, 1) := by decide +kernel
theorem dX12_when_83 : decode cX12_when 83 = .ok (.if_icmp .gt 59, 3) := by decide +kernel
theorem dX12_when_86 : decode cX12_when 86 = .ok (.iload 10, 2) := by decide +kernel
theorem dX12_when_88 : decode cX12_when 88 = .ok (.ifCond .lt 48, 3) := by decide +kernel
theorem dX12_when_91 : decode cX12_when 91 = .ok (.iload 10, 2) := by decide +kernel
theorem dX12_when_93 : decode cX12_when 93 = .ok (.sipush 17472, 3) := by decide +kernel
theorem dX12_when_96 : decode cX12_when 96 = .ok (.if_icmp .ge 40, 3) := by decide +kernel
theorem dX12_when_99 : decode cX12_when 99 = .ok (.iload 10, 2) := by decide +kernel
theorem dX12_when_101 : decode cX12_when 101 = .ok (.aload_n 0, 1) := by decide +kernel
theorem dX12_when_102 : decode cX12_when 102 = .ok (.iload_n 1, 1) := by decide +kernel
theorem dX12_when_103 : decode cX12_when 103 = .ok (.iload 10, 2) := by decide +kernel
theorem dX12_when_105 : decode cX12_when 105 = .ok (.iload 4, 2) := by decide +kernel
theorem dX12_when_107 : decode cX12_when 107 = .ok (.invokevirtual 156, 3) := by decide +kernel
theorem dX12_when_110 : decode cX12_when 110 = .ok (.iadd, 1) := by decide +kernel
theorem dX12_when_111 : decode cX12_when 111 = .ok (.iload 6, 2) := by decide +kernel
theorem dX12_when_113 : decode cX12_when 113 = .ok (.if_icmp .eq 6, 3) := by decide +kernel
theorem dX12_when_116 : decode cX12_when 116 = .ok (.goto 20, 3) := by decide +kernel
theorem dX12_when_119 : decode cX12_when 119 = .ok (.iinc 7 1, 3) := by decide +kernel
theorem dX12_when_122 : decode cX12_when 122 = .ok (.iload 8, 2) := by decide +kernel
theorem dX12_when_124 : decode cX12_when 124 = .ok (.iconst (-1), 1) := by decide +kernel
theorem dX12_when_125 : decode cX12_when 125 = .ok (.if_icmp .ne 7, 3) := by decide +kernel
theorem dX12_when_128 : decode cX12_when 128 = .ok (.iload 10, 2) := by decide +kernel
theorem dX12_when_130 : decode cX12_when 130 = .ok (.istore 8, 2) := by decide +kernel
theorem dX12_when_132 : decode cX12_when 132 = .ok (.iload 10, 2) := by decide +kernel
theorem dX12_when_134 : decode cX12_when 134 = .ok (.istore 9, 2) := by decide +kernel
theorem dX12_when_136 : decode cX12_when 136 = .ok (.iinc 10 1, 3) := by decide +kernel
theorem dX12_when_139 : decode cX12_when 139 = .ok (.goto (-63), 3) := by decide +kernel
theorem dX12_when_142 : decode cX12_when 142 = .ok (.iload 5, 2) := by decide +kernel
theorem dX12_when_144 : decode cX12_when 144 = .ok (.ifCond .ne 8, 3) := by decide +kernel
theorem dX12_when_147 : decode cX12_when 147 = .ok (.iload 7, 2) := by decide +kernel
theorem dX12_when_149 : decode cX12_when 149 = .ok (.goto 16, 3) := by decide +kernel
theorem dX12_when_152 : decode cX12_when 152 = .ok (.iload 5, 2) := by decide +kernel
theorem dX12_when_154 : decode cX12_when 154 = .ok (.iconst 1, 1) := by decide +kernel
theorem dX12_when_155 : decode cX12_when 155 = .ok (.if_icmp .ne 8, 3) := by decide +kernel
theorem dX12_when_158 : decode cX12_when 158 = .ok (.iload 8, 2) := by decide +kernel
theorem dX12_when_160 : decode cX12_when 160 = .ok (.goto 5, 3) := by decide +kernel
theorem dX12_when_163 : decode cX12_when 163 = .ok (.iload 9, 2) := by decide +kernel
theorem dX12_when_165 : decode cX12_when 165 = .ok (.ireturn, 1) := by decide +kernel
theorem dX12_costAt_0 : decode cX12_costAt 0 = .ok (.aload_n 0, 1) := by decide +kernel
theorem dX12_costAt_1 : decode cX12_costAt 1 = .ok (.getfield 23, 3) := by decide +kernel
theorem dX12_costAt_4 : decode cX12_costAt 4 = .ok (.iload_n 1, 1) := by decide +kernel
theorem dX12_costAt_5 : decode cX12_costAt 5 = .ok (.iaload, 1) := by decide +kernel
theorem dX12_costAt_6 : decode cX12_costAt 6 = .ok (.iconst (-1), 1) := by decide +kernel
theorem dX12_costAt_7 : decode cX12_costAt 7 = .ok (.if_icmp .ne 5, 3) := by decide +kernel
theorem dX12_costAt_10 : decode cX12_costAt 10 = .ok (.iconst 0, 1) := by decide +kernel
theorem dX12_costAt_11 : decode cX12_costAt 11 = .ok (.ireturn, 1) := by decide +kernel
theorem dX12_costAt_12 : decode cX12_costAt 12 = .ok (.aload_n 0, 1) := by decide +kernel
theorem dX12_costAt_13 : decode cX12_costAt 13 = .ok (.getfield 26, 3) := by decide +kernel
theorem dX12_costAt_16 : decode cX12_costAt 16 = .ok (.bipush 48, 2) := by decide +kernel
theorem dX12_costAt_18 : decode cX12_costAt 18 = .ok (.iload_n 1, 1) := by decide +kernel
theorem dX12_costAt_19 : decode cX12_costAt 19 = .ok (.imul, 1) := by decide +kernel
theorem dX12_costAt_20 : decode cX12_costAt 20 = .ok (.iload_n 2, 1) := by decide +kernel
theorem dX12_costAt_21 : decode cX12_costAt 21 = .ok (.aload_n 0, 1) := by decide +kernel
theorem dX12_costAt_22 : decode cX12_costAt 22 = .ok (.getfield 23, 3) := by decide +kernel
theorem dX12_costAt_25 : decode cX12_costAt 25 = .ok (.iload_n 1, 1) := by decide +kernel
theorem dX12_costAt_26 : decode cX12_costAt 26 = .ok (.iaload, 1) := by decide +kernel
theorem dX12_costAt_27 : decode cX12_costAt 27 = .ok (.if_icmp .ge 7, 3) := by decide +kernel
theorem dX12_costAt_30 : decode cX12_costAt 30 = .ok (.iload_n 2, 1) := by decide +kernel
theorem dX12_costAt_31 : decode cX12_costAt 31 = .ok (.goto 11, 3) := by decide +kernel
theorem dX12_costAt_34 : decode cX12_costAt 34 = .ok (.aload_n 0, 1) := by decide +kernel
theorem dX12_costAt_35 : decode cX12_costAt 35 = .ok (.getfield 23, 3) := by decide +kernel
theorem dX12_costAt_38 : decode cX12_costAt 38 = .ok (.iload_n 1, 1) := by decide +kernel
theorem dX12_costAt_39 : decode cX12_costAt 39 = .ok (.iaload, 1) := by decide +kernel
theorem dX12_costAt_40 : decode cX12_costAt 40 = .ok (.iconst 1, 1) := by decide +kernel
theorem dX12_costAt_41 : decode cX12_costAt 41 = .ok (.isub, 1) := by decide +kernel
theorem dX12_costAt_42 : decode cX12_costAt 42 = .ok (.iadd, 1) := by decide +kernel
theorem dX12_costAt_43 : decode cX12_costAt 43 = .ok (.iaload, 1) := by decide +kernel
theorem dX12_costAt_44 : decode cX12_costAt 44 = .ok (.ireturn, 1) := by decide +kernel
theorem dX12_reason_0 : decode cX12_reason 0 = .ok (.aload_n 0, 1) := by decide +kernel
theorem dX12_reason_1 : decode cX12_reason 1 = .ok (.getfield 17, 3) := by decide +kernel
theorem dX12_reason_4 : decode cX12_reason 4 = .ok (.iload_n 1, 1) := by decide +kernel
theorem dX12_reason_5 : decode cX12_reason 5 = .ok (.iaload, 1) := by decide +kernel
theorem dX12_reason_6 : decode cX12_reason 6 = .ok (.istore 4, 2) := by decide +kernel
theorem dX12_reason_8 : decode cX12_reason 8 = .ok (.aload_n 0, 1) := by decide +kernel
theorem dX12_reason_9 : decode cX12_reason 9 = .ok (.iload 4, 2) := by decide +kernel
theorem dX12_reason_11 : decode cX12_reason 11 = .ok (.iload_n 2, 1) := by decide +kernel
theorem dX12_reason_12 : decode cX12_reason 12 = .ok (.iload_n 3, 1) := by decide +kernel
theorem dX12_reason_13 : decode cX12_reason 13 = .ok (.invokevirtual 156, 3) := by decide +kernel
theorem dX12_reason_16 : decode cX12_reason 16 = .ok (.istore 5, 2) := by decide +kernel
theorem dX12_reason_18 : decode cX12_reason 18 = .ok (.iload_n 2, 1) := by decide +kernel
theorem dX12_reason_19 : decode cX12_reason 19 = .ok (.iload 5, 2) := by decide +kernel
theorem dX12_reason_21 : decode cX12_reason 21 = .ok (.iadd, 1) := by decide +kernel
theorem dX12_reason_22 : decode cX12_reason 22 = .ok (.bipush 48, 2) := by decide +kernel
theorem dX12_reason_24 : decode cX12_reason 24 = .ok (.invokestatic 160, 3) := by decide +kernel
theorem dX12_reason_27 : decode cX12_reason 27 = .ok (.istore 6, 2) := by decide +kernel
theorem dX12_reason_29 : decode cX12_reason 29 = .ok (.aload_n 0, 1) := by decide +kernel
theorem dX12_reason_30 : decode cX12_reason 30 = .ok (.iload_n 1, 1) := by decide +kernel
theorem dX12_reason_31 : decode cX12_reason 31 = .ok (.iload_n 2, 1) := by decide +kernel
theorem dX12_reason_32 : decode cX12_reason 32 = .ok (.iload 5, 2) := by decide +kernel
theorem dX12_reason_34 : decode cX12_reason 34 = .ok (.iadd, 1) := by decide +kernel
theorem dX12_reason_35 : decode cX12_reason 35 = .ok (.bipush 48, 2) := by decide +kernel
theorem dX12_reason_37 : decode cX12_reason 37 = .ok (.iload 6, 2) := by decide +kernel
theorem dX12_reason_39 : decode cX12_reason 39 = .ok (.imul, 1) := by decide +kernel
theorem dX12_reason_40 : decode cX12_reason 40 = .ok (.isub, 1) := by decide +kernel
theorem dX12_reason_41 : decode cX12_reason 41 = .ok (.invokevirtual 164, 3) := by decide +kernel
theorem dX12_reason_44 : decode cX12_reason 44 = .ok (.iconst (-1), 1) := by decide +kernel
theorem dX12_reason_45 : decode cX12_reason 45 = .ok (.if_icmp .ne 5, 3) := by decide +kernel
theorem dX12_reason_48 : decode cX12_reason 48 = .ok (.iconst 1, 1) := by decide +kernel
theorem dX12_reason_49 : decode cX12_reason 49 = .ok (.ireturn, 1) := by decide +kernel
theorem dX12_reason_50 : decode cX12_reason 50 = .ok (.aload_n 0, 1) := by decide +kernel
theorem dX12_reason_51 : decode cX12_reason 51 = .ok (.getfield 20, 3) := by decide +kernel
theorem dX12_reason_54 : decode cX12_reason 54 = .ok (.iload_n 1, 1) := by decide +kernel
theorem dX12_reason_55 : decode cX12_reason 55 = .ok (.iaload, 1) := by decide +kernel
theorem dX12_reason_56 : decode cX12_reason 56 = .ok (.iload 6, 2) := by decide +kernel
theorem dX12_reason_58 : decode cX12_reason 58 = .ok (.bipush 7, 2) := by decide +kernel
theorem dX12_reason_60 : decode cX12_reason 60 = .ok (.iload 6, 2) := by decide +kernel
theorem dX12_reason_62 : decode cX12_reason 62 = .ok (.bipush 7, 2) := by decide +kernel
theorem dX12_reason_64 : decode cX12_reason 64 = .ok (.invokestatic 160, 3) := by decide +kernel
theorem dX12_reason_67 : decode cX12_reason 67 = .ok (.imul, 1) := by decide +kernel
theorem dX12_reason_68 : decode cX12_reason 68 = .ok (.isub, 1) := by decide +kernel
theorem dX12_reason_69 : decode cX12_reason 69 = .ok (.ishr, 1) := by decide +kernel
theorem dX12_reason_70 : decode cX12_reason 70 = .ok (.iconst 1, 1) := by decide +kernel
theorem dX12_reason_71 : decode cX12_reason 71 = .ok (.iand, 1) := by decide +kernel
theorem dX12_reason_72 : decode cX12_reason 72 = .ok (.iconst 1, 1) := by decide +kernel
theorem dX12_reason_73 : decode cX12_reason 73 = .ok (.if_icmp .ne 5, 3) := by decide +kernel
theorem dX12_reason_76 : decode cX12_reason 76 = .ok (.iconst 2, 1) := by decide +kernel
theorem dX12_reason_77 : decode cX12_reason 77 = .ok (.ireturn, 1) := by decide +kernel
theorem dX12_reason_78 : decode cX12_reason 78 = .ok (.iconst 0, 1) := by decide +kernel
theorem dX12_reason_79 : decode cX12_reason 79 = .ok (.istore 7, 2) := by decide +kernel
theorem dX12_reason_81 : decode cX12_reason 81 = .ok (.iload 7, 2) := by decide +kernel
theorem dX12_reason_83 : decode cX12_reason 83 = .ok (.iload_n 3, 1) := by decide +kernel
theorem dX12_reason_84 : decode cX12_reason 84 = .ok (.if_icmp .ge 46, 3) := by decide +kernel
theorem dX12_reason_87 : decode cX12_reason 87 = .ok (.aload_n 0, 1) := by decide +kernel
theorem dX12_reason_88 : decode cX12_reason 88 = .ok (.getfield 29, 3) := by decide +kernel
theorem dX12_reason_91 : decode cX12_reason 91 = .ok (.iload 7, 2) := by decide +kernel
theorem dX12_reason_93 : decode cX12_reason 93 = .ok (.iaload, 1) := by decide +kernel
theorem dX12_reason_94 : decode cX12_reason 94 = .ok (.iconst 1, 1) := by decide +kernel
theorem dX12_reason_95 : decode cX12_reason 95 = .ok (.if_icmp .ne 29, 3) := by decide +kernel
theorem dX12_reason_98 : decode cX12_reason 98 = .ok (.aload_n 0, 1) := by decide +kernel
theorem dX12_reason_99 : decode cX12_reason 99 = .ok (.getfield 32, 3) := by decide +kernel
theorem dX12_reason_102 : decode cX12_reason 102 = .ok (.iload 7, 2) := by decide +kernel
theorem dX12_reason_104 : decode cX12_reason 104 = .ok (.iaload, 1) := by decide +kernel
theorem dX12_reason_105 : decode cX12_reason 105 = .ok (.iload 4, 2) := by decide +kernel
theorem dX12_reason_107 : decode cX12_reason 107 = .ok (.if_icmp .ne 17, 3) := by decide +kernel
theorem dX12_reason_110 : decode cX12_reason 110 = .ok (.aload_n 0, 1) := by decide +kernel
theorem dX12_reason_111 : decode cX12_reason 111 = .ok (.getfield 35, 3) := by decide +kernel
theorem dX12_reason_114 : decode cX12_reason 114 = .ok (.iload 7, 2) := by decide +kernel
theorem dX12_reason_116 : decode cX12_reason 116 = .ok (.iaload, 1) := by decide +kernel
theorem dX12_reason_117 : decode cX12_reason 117 = .ok (.iload 6, 2) := by decide +kernel
theorem dX12_reason_119 : decode cX12_reason 119 = .ok (.if_icmp .ne 5, 3) := by decide +kernel
theorem dX12_reason_122 : decode cX12_reason 122 = .ok (.iconst 3, 1) := by decide +kernel
theorem dX12_reason_123 : decode cX12_reason 123 = .ok (.ireturn, 1) := by decide +kernel
theorem dX12_reason_124 : decode cX12_reason 124 = .ok (.iinc 7 1, 3) := by decide +kernel
theorem dX12_reason_127 : decode cX12_reason 127 = .ok (.goto (-46), 3) := by decide +kernel
theorem dX12_reason_130 : decode cX12_reason 130 = .ok (.iconst 0, 1) := by decide +kernel
theorem dX12_reason_131 : decode cX12_reason 131 = .ok (.istore 7, 2) := by decide +kernel
theorem dX12_reason_133 : decode cX12_reason 133 = .ok (.iload 7, 2) := by decide +kernel
theorem dX12_reason_135 : decode cX12_reason 135 = .ok (.iload_n 3, 1) := by decide +kernel
theorem dX12_reason_136 : decode cX12_reason 136 = .ok (.if_icmp .ge 55, 3) := by decide +kernel
theorem dX12_reason_139 : decode cX12_reason 139 = .ok (.aload_n 0, 1) := by decide +kernel
theorem dX12_reason_140 : decode cX12_reason 140 = .ok (.getfield 29, 3) := by decide +kernel
theorem dX12_reason_143 : decode cX12_reason 143 = .ok (.iload 7, 2) := by decide +kernel
theorem dX12_reason_145 : decode cX12_reason 145 = .ok (.iaload, 1) := by decide +kernel
theorem dX12_reason_146 : decode cX12_reason 146 = .ok (.iconst 2, 1) := by decide +kernel
theorem dX12_reason_147 : decode cX12_reason 147 = .ok (.if_icmp .ne 38, 3) := by decide +kernel
theorem dX12_reason_150 : decode cX12_reason 150 = .ok (.aload_n 0, 1) := by decide +kernel
theorem dX12_reason_151 : decode cX12_reason 151 = .ok (.getfield 32, 3) := by decide +kernel
theorem dX12_reason_154 : decode cX12_reason 154 = .ok (.iload 7, 2) := by decide +kernel
theorem dX12_reason_156 : decode cX12_reason 156 = .ok (.iaload, 1) := by decide +kernel
theorem dX12_reason_157 : decode cX12_reason 157 = .ok (.iload_n 1, 1) := by decide +kernel
theorem dX12_reason_158 : decode cX12_reason 158 = .ok (.if_icmp .ne 27, 3) := by decide +kernel
theorem dX12_reason_161 : decode cX12_reason 161 = .ok (.aload_n 0, 1) := by decide +kernel
theorem dX12_reason_162 : decode cX12_reason 162 = .ok (.getfield 35, 3) := by decide +kernel
theorem dX12_reason_165 : decode cX12_reason 165 = .ok (.iload 7, 2) := by decide +kernel
theorem dX12_reason_167 : decode cX12_reason 167 = .ok (.iaload, 1) := by decide +kernel
theorem dX12_reason_168 : decode cX12_reason 168 = .ok (.iload_n 2, 1) := by decide +kernel
theorem dX12_reason_169 : decode cX12_reason 169 = .ok (.if_icmp .gt 16, 3) := by decide +kernel
theorem dX12_reason_172 : decode cX12_reason 172 = .ok (.iload_n 2, 1) := by decide +kernel
theorem dX12_reason_173 : decode cX12_reason 173 = .ok (.aload_n 0, 1) := by decide +kernel
theorem dX12_reason_174 : decode cX12_reason 174 = .ok (.getfield 38, 3) := by decide +kernel
theorem dX12_reason_177 : decode cX12_reason 177 = .ok (.iload 7, 2) := by decide +kernel
theorem dX12_reason_179 : decode cX12_reason 179 = .ok (.iaload, 1) := by decide +kernel
theorem dX12_reason_180 : decode cX12_reason 180 = .ok (.if_icmp .ge 5, 3) := by decide +kernel
theorem dX12_reason_183 : decode cX12_reason 183 = .ok (.iconst 4, 1) := by decide +kernel
theorem dX12_reason_184 : decode cX12_reason 184 = .ok (.ireturn, 1) := by decide +kernel
theorem dX12_reason_185 : decode cX12_reason 185 = .ok (.iinc 7 1, 3) := by decide +kernel
theorem dX12_reason_188 : decode cX12_reason 188 = .ok (.goto (-55), 3) := by decide +kernel
theorem dX12_reason_191 : decode cX12_reason 191 = .ok (.iconst 0, 1) := by decide +kernel
theorem dX12_reason_192 : decode cX12_reason 192 = .ok (.ireturn, 1) := by decide +kernel
theorem dX12_reasons_0 : decode cX12_reasons 0 = .ok (.iconst 0, 1) := by decide +kernel
theorem dX12_reasons_1 : decode cX12_reasons 1 = .ok (.istore 5, 2) := by decide +kernel
theorem dX12_reasons_3 : decode cX12_reasons 3 = .ok (.iload 5, 2) := by decide +kernel
theorem dX12_reasons_5 : decode cX12_reasons 5 = .ok (.iload_n 3, 1) := by decide +kernel
theorem dX12_reasons_6 : decode cX12_reasons 6 = .ok (.if_icmp .ge 30, 3) := by decide +kernel
theorem dX12_reasons_9 : decode cX12_reasons 9 = .ok (.aload_n 0, 1) := by decide +kernel
theorem dX12_reasons_10 : decode cX12_reasons 10 = .ok (.iload_n 1, 1) := by decide +kernel
theorem dX12_reasons_11 : decode cX12_reasons 11 = .ok (.iload_n 2, 1) := by decide +kernel
theorem dX12_reasons_12 : decode cX12_reasons 12 = .ok (.iload 5, 2) := by decide +kernel
theorem dX12_reasons_14 : decode cX12_reasons 14 = .ok (.iadd, 1) := by decide +kernel
theorem dX12_reasons_15 : decode cX12_reasons 15 = .ok (.iload 4, 2) := by decide +kernel
theorem dX12_reasons_17 : decode cX12_reasons 17 = .ok (.invokevirtual 167, 3) := by decide +kernel
theorem dX12_reasons_20 : decode cX12_reasons 20 = .ok (.istore 6, 2) := by decide +kernel
theorem dX12_reasons_22 : decode cX12_reasons 22 = .ok (.iload 6, 2) := by decide +kernel
theorem dX12_reasons_24 : decode cX12_reasons 24 = .ok (.ifCond .le 6, 3) := by decide +kernel
theorem dX12_reasons_27 : decode cX12_reasons 27 = .ok (.iload 6, 2) := by decide +kernel
theorem dX12_reasons_29 : decode cX12_reasons 29 = .ok (.ireturn, 1) := by decide +kernel
theorem dX12_reasons_30 : decode cX12_reasons 30 = .ok (.iinc 5 1, 3) := by decide +kernel
theorem dX12_reasons_33 : decode cX12_reasons 33 = .ok (.goto (-30), 3) := by decide +kernel
theorem dX12_reasons_36 : decode cX12_reasons 36 = .ok (.iconst 0, 1) := by decide +kernel
theorem dX12_reasons_37 : decode cX12_reasons 37 = .ok (.ireturn, 1) := by decide +kernel
theorem dX12_costs_0 : decode cX12_costs 0 = .ok (.iconst 0, 1) := by decide +kernel
theorem dX12_costs_1 : decode cX12_costs 1 = .ok (.istore 5, 2) := by decide +kernel
theorem dX12_costs_3 : decode cX12_costs 3 = .ok (.iconst 0, 1) := by decide +kernel
theorem dX12_costs_4 : decode cX12_costs 4 = .ok (.istore 6, 2) := by decide +kernel
theorem dX12_costs_6 : decode cX12_costs 6 = .ok (.iload 6, 2) := by decide +kernel
theorem dX12_costs_8 : decode cX12_costs 8 = .ok (.iload_n 3, 1) := by decide +kernel
theorem dX12_costs_9 : decode cX12_costs 9 = .ok (.if_icmp .ge 64, 3) := by decide +kernel
theorem dX12_costs_12 : decode cX12_costs 12 = .ok (.iload_n 2, 1) := by decide +kernel
theorem dX12_costs_13 : decode cX12_costs 13 = .ok (.iload 6, 2) := by decide +kernel
theorem dX12_costs_15 : decode cX12_costs 15 = .ok (.iadd, 1) := by decide +kernel
theorem dX12_costs_16 : decode cX12_costs 16 = .ok (.aload_n 0, 1) := by decide +kernel
theorem dX12_costs_17 : decode cX12_costs 17 = .ok (.aload_n 0, 1) := by decide +kernel
theorem dX12_costs_18 : decode cX12_costs 18 = .ok (.getfield 17, 3) := by decide +kernel
theorem dX12_costs_21 : decode cX12_costs 21 = .ok (.iload_n 1, 1) := by decide +kernel
theorem dX12_costs_22 : decode cX12_costs 22 = .ok (.iaload, 1) := by decide +kernel
theorem dX12_costs_23 : decode cX12_costs 23 = .ok (.iload_n 2, 1) := by decide +kernel
theorem dX12_costs_24 : decode cX12_costs 24 = .ok (.iload 6, 2) := by decide +kernel
theorem dX12_costs_26 : decode cX12_costs 26 = .ok (.iadd, 1) := by decide +kernel
theorem dX12_costs_27 : decode cX12_costs 27 = .ok (.iload 4, 2) := by decide +kernel
theorem dX12_costs_29 : decode cX12_costs 29 = .ok (.invokevirtual 156, 3) := by decide +kernel
theorem dX12_costs_32 : decode cX12_costs 32 = .ok (.iadd, 1) := by decide +kernel
theorem dX12_costs_33 : decode cX12_costs 33 = .ok (.istore 7, 2) := by decide +kernel
theorem dX12_costs_35 : decode cX12_costs 35 = .ok (.aload_n 0, 1) := by decide +kernel
theorem dX12_costs_36 : decode cX12_costs 36 = .ok (.iload_n 1, 1) := by decide +kernel
theorem dX12_costs_37 : decode cX12_costs 37 = .ok (.iload 7, 2) := by decide +kernel
theorem dX12_costs_39 : decode cX12_costs 39 = .ok (.bipush 48, 2) := by decide +kernel
theorem dX12_costs_41 : decode cX12_costs 41 = .ok (.iload 7, 2) := by decide +kernel
theorem dX12_costs_43 : decode cX12_costs 43 = .ok (.bipush 48, 2) := by decide +kernel
theorem dX12_costs_45 : decode cX12_costs 45 = .ok (.invokestatic 160, 3) := by decide +kernel
theorem dX12_costs_48 : decode cX12_costs 48 = .ok (.imul, 1) := by decide +kernel
theorem dX12_costs_49 : decode cX12_costs 49 = .ok (.isub, 1) := by decide +kernel
theorem dX12_costs_50 : decode cX12_costs 50 = .ok (.invokevirtual 164, 3) := by decide +kernel
theorem dX12_costs_53 : decode cX12_costs 53 = .ok (.istore 8, 2) := by decide +kernel
theorem dX12_costs_55 : decode cX12_costs 55 = .ok (.iload 8, 2) := by decide +kernel
theorem dX12_costs_57 : decode cX12_costs 57 = .ok (.ifCond .le 10, 3) := by decide +kernel
theorem dX12_costs_60 : decode cX12_costs 60 = .ok (.iload 5, 2) := by decide +kernel
theorem dX12_costs_62 : decode cX12_costs 62 = .ok (.iload 8, 2) := by decide +kernel
theorem dX12_costs_64 : decode cX12_costs 64 = .ok (.iadd, 1) := by decide +kernel
theorem dX12_costs_65 : decode cX12_costs 65 = .ok (.istore 5, 2) := by decide +kernel
theorem dX12_costs_67 : decode cX12_costs 67 = .ok (.iinc 6 1, 3) := by decide +kernel
theorem dX12_costs_70 : decode cX12_costs 70 = .ok (.goto (-64), 3) := by decide +kernel
theorem dX12_costs_73 : decode cX12_costs 73 = .ok (.iload 5, 2) := by decide +kernel
theorem dX12_costs_75 : decode cX12_costs 75 = .ok (.ireturn, 1) := by decide +kernel
theorem dX12_isSpan_0 : decode cX12_isSpan 0 = .ok (.aload_n 0, 1) := by decide +kernel
theorem dX12_isSpan_1 : decode cX12_isSpan 1 = .ok (.iload_n 1, 1) := by decide +kernel
theorem dX12_isSpan_2 : decode cX12_isSpan 2 = .ok (.invokevirtual 139, 3) := by decide +kernel
theorem dX12_isSpan_5 : decode cX12_isSpan 5 = .ok (.ifCond .eq 40, 3) := by decide +kernel
theorem dX12_isSpan_8 : decode cX12_isSpan 8 = .ok (.iload_n 3, 1) := by decide +kernel
theorem dX12_isSpan_9 : decode cX12_isSpan 9 = .ok (.iconst 1, 1) := by decide +kernel
theorem dX12_isSpan_10 : decode cX12_isSpan 10 = .ok (.if_icmp .lt 35, 3) := by decide +kernel
theorem dX12_isSpan_13 : decode cX12_isSpan 13 = .ok (.iload_n 3, 1) := by decide +kernel
theorem dX12_isSpan_14 : decode cX12_isSpan 14 = .ok (.bipush 6, 2) := by decide +kernel
theorem dX12_isSpan_16 : decode cX12_isSpan 16 = .ok (.if_icmp .gt 29, 3) := by decide +kernel
theorem dX12_isSpan_19 : decode cX12_isSpan 19 = .ok (.iload_n 2, 1) := by decide +kernel
theorem dX12_isSpan_20 : decode cX12_isSpan 20 = .ok (.ifCond .lt 25, 3) := by decide +kernel
theorem dX12_isSpan_23 : decode cX12_isSpan 23 = .ok (.iload_n 2, 1) := by decide +kernel
theorem dX12_isSpan_24 : decode cX12_isSpan 24 = .ok (.sipush 17472, 3) := by decide +kernel
theorem dX12_isSpan_27 : decode cX12_isSpan 27 = .ok (.iload_n 3, 1) := by decide +kernel
theorem dX12_isSpan_28 : decode cX12_isSpan 28 = .ok (.isub, 1) := by decide +kernel
theorem dX12_isSpan_29 : decode cX12_isSpan 29 = .ok (.if_icmp .gt 16, 3) := by decide +kernel
theorem dX12_isSpan_32 : decode cX12_isSpan 32 = .ok (.aload_n 0, 1) := by decide +kernel
theorem dX12_isSpan_33 : decode cX12_isSpan 33 = .ok (.iload 4, 2) := by decide +kernel
theorem dX12_isSpan_35 : decode cX12_isSpan 35 = .ok (.invokevirtual 152, 3) := by decide +kernel
theorem dX12_isSpan_38 : decode cX12_isSpan 38 = .ok (.ifCond .eq 7, 3) := by decide +kernel
theorem dX12_isSpan_41 : decode cX12_isSpan 41 = .ok (.iconst 1, 1) := by decide +kernel
theorem dX12_isSpan_42 : decode cX12_isSpan 42 = .ok (.goto 4, 3) := by decide +kernel
theorem dX12_isSpan_45 : decode cX12_isSpan 45 = .ok (.iconst 0, 1) := by decide +kernel
theorem dX12_isSpan_46 : decode cX12_isSpan 46 = .ok (.ireturn, 1) := by decide +kernel
theorem dX12_can_0 : decode cX12_can 0 = .ok (.aload_n 0, 1) := by decide +kernel
theorem dX12_can_1 : decode cX12_can 1 = .ok (.iload_n 1, 1) := by decide +kernel
theorem dX12_can_2 : decode cX12_can 2 = .ok (.iload_n 2, 1) := by decide +kernel
theorem dX12_can_3 : decode cX12_can 3 = .ok (.iload_n 3, 1) := by decide +kernel
theorem dX12_can_4 : decode cX12_can 4 = .ok (.iload 4, 2) := by decide +kernel
theorem dX12_can_6 : decode cX12_can 6 = .ok (.invokevirtual 170, 3) := by decide +kernel
theorem dX12_can_9 : decode cX12_can 9 = .ok (.ifCond .eq 15, 3) := by decide +kernel
theorem dX12_can_12 : decode cX12_can 12 = .ok (.aload_n 0, 1) := by decide +kernel
theorem dX12_can_13 : decode cX12_can 13 = .ok (.iload_n 1, 1) := by decide +kernel
theorem dX12_can_14 : decode cX12_can 14 = .ok (.iload_n 2, 1) := by decide +kernel
theorem dX12_can_15 : decode cX12_can 15 = .ok (.iload_n 3, 1) := by decide +kernel
theorem dX12_can_16 : decode cX12_can 16 = .ok (.iload 4, 2) := by decide +kernel
theorem dX12_can_18 : decode cX12_can 18 = .ok (.invokevirtual 174, 3) := by decide +kernel
theorem dX12_can_21 : decode cX12_can 21 = .ok (.goto 4, 3) := by decide +kernel
theorem dX12_can_24 : decode cX12_can 24 = .ok (.iconst (-1), 1) := by decide +kernel
theorem dX12_can_25 : decode cX12_can 25 = .ok (.ireturn, 1) := by decide +kernel
theorem dX12_cost_0 : decode cX12_cost 0 = .ok (.aload_n 0, 1) := by decide +kernel
theorem dX12_cost_1 : decode cX12_cost 1 = .ok (.iload_n 1, 1) := by decide +kernel
theorem dX12_cost_2 : decode cX12_cost 2 = .ok (.iload_n 2, 1) := by decide +kernel
theorem dX12_cost_3 : decode cX12_cost 3 = .ok (.iload_n 3, 1) := by decide +kernel
theorem dX12_cost_4 : decode cX12_cost 4 = .ok (.iload 4, 2) := by decide +kernel
theorem dX12_cost_6 : decode cX12_cost 6 = .ok (.invokevirtual 170, 3) := by decide +kernel
theorem dX12_cost_9 : decode cX12_cost 9 = .ok (.ifCond .eq 15, 3) := by decide +kernel
theorem dX12_cost_12 : decode cX12_cost 12 = .ok (.aload_n 0, 1) := by decide +kernel
theorem dX12_cost_13 : decode cX12_cost 13 = .ok (.iload_n 1, 1) := by decide +kernel
theorem dX12_cost_14 : decode cX12_cost 14 = .ok (.iload_n 2, 1) := by decide +kernel
theorem dX12_cost_15 : decode cX12_cost 15 = .ok (.iload_n 3, 1) := by decide +kernel
theorem dX12_cost_16 : decode cX12_cost 16 = .ok (.iload 4, 2) := by decide +kernel
theorem dX12_cost_18 : decode cX12_cost 18 = .ok (.invokevirtual 178, 3) := by decide +kernel
theorem dX12_cost_21 : decode cX12_cost 21 = .ok (.goto 4, 3) := by decide +kernel
theorem dX12_cost_24 : decode cX12_cost 24 = .ok (.iconst (-1), 1) := by decide +kernel
theorem dX12_cost_25 : decode cX12_cost 25 = .ok (.ireturn, 1) := by decide +kernel
theorem dX12_span_0 : decode cX12_span 0 = .ok (.aload_n 0, 1) := by decide +kernel
theorem dX12_span_1 : decode cX12_span 1 = .ok (.iload_n 1, 1) := by decide +kernel
theorem dX12_span_2 : decode cX12_span 2 = .ok (.invokevirtual 139, 3) := by decide +kernel
theorem dX12_span_5 : decode cX12_span 5 = .ok (.ifCond .eq 22, 3) := by decide +kernel
theorem dX12_span_8 : decode cX12_span 8 = .ok (.iload_n 2, 1) := by decide +kernel
theorem dX12_span_9 : decode cX12_span 9 = .ok (.ifCond .lt 18, 3) := by decide +kernel
theorem dX12_span_12 : decode cX12_span 12 = .ok (.iload_n 2, 1) := by decide +kernel
theorem dX12_span_13 : decode cX12_span 13 = .ok (.sipush 17472, 3) := by decide +kernel
theorem dX12_span_16 : decode cX12_span 16 = .ok (.if_icmp .ge 11, 3) := by decide +kernel
theorem dX12_span_19 : decode cX12_span 19 = .ok (.aload_n 0, 1) := by decide +kernel
theorem dX12_span_20 : decode cX12_span 20 = .ok (.iload_n 3, 1) := by decide +kernel
theorem dX12_span_21 : decode cX12_span 21 = .ok (.invokevirtual 152, 3) := by decide +kernel
theorem dX12_span_24 : decode cX12_span 24 = .ok (.ifCond .ne 5, 3) := by decide +kernel
theorem dX12_span_27 : decode cX12_span 27 = .ok (.iconst (-1), 1) := by decide +kernel
theorem dX12_span_28 : decode cX12_span 28 = .ok (.ireturn, 1) := by decide +kernel
theorem dX12_span_29 : decode cX12_span 29 = .ok (.iload_n 3, 1) := by decide +kernel
theorem dX12_span_30 : decode cX12_span 30 = .ok (.iconst 1, 1) := by decide +kernel
theorem dX12_span_31 : decode cX12_span 31 = .ok (.isub, 1) := by decide +kernel
theorem dX12_span_32 : decode cX12_span 32 = .ok (.istore 4, 2) := by decide +kernel
theorem dX12_span_34 : decode cX12_span 34 = .ok (.iload 4, 2) := by decide +kernel
theorem dX12_span_36 : decode cX12_span 36 = .ok (.ifCond .lt 71, 3) := by decide +kernel
theorem dX12_span_39 : decode cX12_span 39 = .ok (.aload_n 0, 1) := by decide +kernel
theorem dX12_span_40 : decode cX12_span 40 = .ok (.getfield 29, 3) := by decide +kernel
theorem dX12_span_43 : decode cX12_span 43 = .ok (.iload 4, 2) := by decide +kernel
theorem dX12_span_45 : decode cX12_span 45 = .ok (.iaload, 1) := by decide +kernel
theorem dX12_span_46 : decode cX12_span 46 = .ok (.iconst 2, 1) := by decide +kernel
theorem dX12_span_47 : decode cX12_span 47 = .ok (.if_icmp .ne 54, 3) := by decide +kernel
theorem dX12_span_50 : decode cX12_span 50 = .ok (.aload_n 0, 1) := by decide +kernel
theorem dX12_span_51 : decode cX12_span 51 = .ok (.getfield 32, 3) := by decide +kernel
theorem dX12_span_54 : decode cX12_span 54 = .ok (.iload 4, 2) := by decide +kernel
theorem dX12_span_56 : decode cX12_span 56 = .ok (.iaload, 1) := by decide +kernel
theorem dX12_span_57 : decode cX12_span 57 = .ok (.iload_n 1, 1) := by decide +kernel
theorem dX12_span_58 : decode cX12_span 58 = .ok (.if_icmp .ne 43, 3) := by decide +kernel
theorem dX12_span_61 : decode cX12_span 61 = .ok (.aload_n 0, 1) := by decide +kernel
theorem dX12_span_62 : decode cX12_span 62 = .ok (.getfield 35, 3) := by decide +kernel
theorem dX12_span_65 : decode cX12_span 65 = .ok (.iload 4, 2) := by decide +kernel
theorem dX12_span_67 : decode cX12_span 67 = .ok (.iaload, 1) := by decide +kernel
theorem dX12_span_68 : decode cX12_span 68 = .ok (.iload_n 2, 1) := by decide +kernel
theorem dX12_span_69 : decode cX12_span 69 = .ok (.if_icmp .gt 32, 3) := by decide +kernel
theorem dX12_span_72 : decode cX12_span 72 = .ok (.iload_n 2, 1) := by decide +kernel
theorem dX12_span_73 : decode cX12_span 73 = .ok (.aload_n 0, 1) := by decide +kernel
theorem dX12_span_74 : decode cX12_span 74 = .ok (.getfield 38, 3) := by decide +kernel
theorem dX12_span_77 : decode cX12_span 77 = .ok (.iload 4, 2) := by decide +kernel
theorem dX12_span_79 : decode cX12_span 79 = .ok (.iaload, 1) := by decide +kernel
theorem dX12_span_80 : decode cX12_span 80 = .ok (.if_icmp .ge 21, 3) := by decide +kernel
theorem dX12_span_83 : decode cX12_span 83 = .ok (.aload_n 0, 1) := by decide +kernel
theorem dX12_span_84 : decode cX12_span 84 = .ok (.getfield 41, 3) := by decide +kernel
theorem dX12_span_87 : decode cX12_span 87 = .ok (.iload 4, 2) := by decide +kernel
theorem dX12_span_89 : decode cX12_span 89 = .ok (.baload, 1) := by decide +kernel
theorem dX12_span_90 : decode cX12_span 90 = .ok (.ifCond .eq 8, 3) := by decide +kernel
theorem dX12_span_93 : decode cX12_span 93 = .ok (.bipush (-2), 2) := by decide +kernel
theorem dX12_span_95 : decode cX12_span 95 = .ok (.goto 5, 3) := by decide +kernel
theorem dX12_span_98 : decode cX12_span 98 = .ok (.iload 4, 2) := by decide +kernel
theorem dX12_span_100 : decode cX12_span 100 = .ok (.ireturn, 1) := by decide +kernel
theorem dX12_span_101 : decode cX12_span 101 = .ok (.iinc 4 (-1), 3) := by decide +kernel
theorem dX12_span_104 : decode cX12_span 104 = .ok (.goto (-70), 3) := by decide +kernel
theorem dX12_span_107 : decode cX12_span 107 = .ok (.iconst (-1), 1) := by decide +kernel
theorem dX12_span_108 : decode cX12_span 108 = .ok (.ireturn, 1) := by decide +kernel
theorem dX12_series_0 : decode cX12_series 0 = .ok (.aload_n 0, 1) := by decide +kernel
theorem dX12_series_1 : decode cX12_series 1 = .ok (.getfield 126, 3) := by decide +kernel
theorem dX12_series_4 : decode cX12_series 4 = .ok (.iconst 4, 1) := by decide +kernel
theorem dX12_series_5 : decode cX12_series 5 = .ok (.if_icmp .eq 40, 3) := by decide +kernel
theorem dX12_series_8 : decode cX12_series 8 = .ok (.iload_n 1, 1) := by decide +kernel
theorem dX12_series_9 : decode cX12_series 9 = .ok (.iconst 1, 1) := by decide +kernel
theorem dX12_series_10 : decode cX12_series 10 = .ok (.if_icmp .lt 35, 3) := by decide +kernel
theorem dX12_series_13 : decode cX12_series 13 = .ok (.iload_n 1, 1) := by decide +kernel
theorem dX12_series_14 : decode cX12_series 14 = .ok (.bipush 6, 2) := by decide +kernel
theorem dX12_series_16 : decode cX12_series 16 = .ok (.if_icmp .gt 29, 3) := by decide +kernel
theorem dX12_series_19 : decode cX12_series 19 = .ok (.iload_n 2, 1) := by decide +kernel
theorem dX12_series_20 : decode cX12_series 20 = .ok (.iconst (-1), 1) := by decide +kernel
theorem dX12_series_21 : decode cX12_series 21 = .ok (.if_icmp .eq 11, 3) := by decide +kernel
theorem dX12_series_24 : decode cX12_series 24 = .ok (.aload_n 0, 1) := by decide +kernel
theorem dX12_series_25 : decode cX12_series 25 = .ok (.iload_n 2, 1) := by decide +kernel
theorem dX12_series_26 : decode cX12_series 26 = .ok (.invokevirtual 146, 3) := by decide +kernel
theorem dX12_series_29 : decode cX12_series 29 = .ok (.ifCond .eq 16, 3) := by decide +kernel
theorem dX12_series_32 : decode cX12_series 32 = .ok (.iload_n 3, 1) := by decide +kernel
theorem dX12_series_33 : decode cX12_series 33 = .ok (.iconst (-1), 1) := by decide +kernel
theorem dX12_series_34 : decode cX12_series 34 = .ok (.if_icmp .eq 13, 3) := by decide +kernel
theorem dX12_series_37 : decode cX12_series 37 = .ok (.aload_n 0, 1) := by decide +kernel
theorem dX12_series_38 : decode cX12_series 38 = .ok (.iload_n 3, 1) := by decide +kernel
theorem dX12_series_39 : decode cX12_series 39 = .ok (.invokevirtual 139, 3) := by decide +kernel
theorem dX12_series_42 : decode cX12_series 42 = .ok (.ifCond .ne 5, 3) := by decide +kernel
theorem dX12_series_45 : decode cX12_series 45 = .ok (.iconst (-1), 1) := by decide +kernel
theorem dX12_series_46 : decode cX12_series 46 = .ok (.ireturn, 1) := by decide +kernel
theorem dX12_series_47 : decode cX12_series 47 = .ok (.aload_n 0, 1) := by decide +kernel
theorem dX12_series_48 : decode cX12_series 48 = .ok (.getfield 45, 3) := by decide +kernel
theorem dX12_series_51 : decode cX12_series 51 = .ok (.aload_n 0, 1) := by decide +kernel
theorem dX12_series_52 : decode cX12_series 52 = .ok (.getfield 126, 3) := by decide +kernel
theorem dX12_series_55 : decode cX12_series 55 = .ok (.iload_n 1, 1) := by decide +kernel
theorem dX12_series_56 : decode cX12_series 56 = .ok (.iastore, 1) := by decide +kernel
theorem dX12_series_57 : decode cX12_series 57 = .ok (.aload_n 0, 1) := by decide +kernel
theorem dX12_series_58 : decode cX12_series 58 = .ok (.getfield 48, 3) := by decide +kernel
theorem dX12_series_61 : decode cX12_series 61 = .ok (.aload_n 0, 1) := by decide +kernel
theorem dX12_series_62 : decode cX12_series 62 = .ok (.getfield 126, 3) := by decide +kernel
theorem dX12_series_65 : decode cX12_series 65 = .ok (.iload_n 2, 1) := by decide +kernel
theorem dX12_series_66 : decode cX12_series 66 = .ok (.iastore, 1) := by decide +kernel
theorem dX12_series_67 : decode cX12_series 67 = .ok (.aload_n 0, 1) := by decide +kernel
theorem dX12_series_68 : decode cX12_series 68 = .ok (.getfield 51, 3) := by decide +kernel
theorem dX12_series_71 : decode cX12_series 71 = .ok (.aload_n 0, 1) := by decide +kernel
theorem dX12_series_72 : decode cX12_series 72 = .ok (.getfield 126, 3) := by decide +kernel
theorem dX12_series_75 : decode cX12_series 75 = .ok (.iload_n 3, 1) := by decide +kernel
theorem dX12_series_76 : decode cX12_series 76 = .ok (.iastore, 1) := by decide +kernel
theorem dX12_series_77 : decode cX12_series 77 = .ok (.aload_n 0, 1) := by decide +kernel
theorem dX12_series_78 : decode cX12_series 78 = .ok (.dup, 1) := by decide +kernel
theorem dX12_series_79 : decode cX12_series 79 = .ok (.getfield 126, 3) := by decide +kernel
theorem dX12_series_82 : decode cX12_series 82 = .ok (.iconst 1, 1) := by decide +kernel
theorem dX12_series_83 : decode cX12_series 83 = .ok (.iadd, 1) := by decide +kernel
theorem dX12_series_84 : decode cX12_series 84 = .ok (.putfield 126, 3) := by decide +kernel
theorem dX12_series_87 : decode cX12_series 87 = .ok (.aload_n 0, 1) := by decide +kernel
theorem dX12_series_88 : decode cX12_series 88 = .ok (.getfield 126, 3) := by decide +kernel
theorem dX12_series_91 : decode cX12_series 91 = .ok (.iconst 1, 1) := by decide +kernel
theorem dX12_series_92 : decode cX12_series 92 = .ok (.isub, 1) := by decide +kernel
theorem dX12_series_93 : decode cX12_series 93 = .ok (.ireturn, 1) := by decide +kernel
theorem dX12_option_0 : decode cX12_option 0 = .ok (.aload_n 0, 1) := by decide +kernel
theorem dX12_option_1 : decode cX12_option 1 = .ok (.iload_n 1, 1) := by decide +kernel
theorem dX12_option_2 : decode cX12_option 2 = .ok (.invokevirtual 146, 3) := by decide +kernel
theorem dX12_option_5 : decode cX12_option 5 = .ok (.ifCond .eq 25, 3) := by decide +kernel
theorem dX12_option_8 : decode cX12_option 8 = .ok (.aload_n 0, 1) := by decide +kernel
theorem dX12_option_9 : decode cX12_option 9 = .ok (.getfield 54, 3) := by decide +kernel
theorem dX12_option_12 : decode cX12_option 12 = .ok (.iload_n 1, 1) := by decide +kernel
theorem dX12_option_13 : decode cX12_option 13 = .ok (.iaload, 1) := by decide +kernel
theorem dX12_option_14 : decode cX12_option 14 = .ok (.bipush 6, 2) := by decide +kernel
theorem dX12_option_16 : decode cX12_option 16 = .ok (.if_icmp .eq 14, 3) := by decide +kernel
theorem dX12_option_19 : decode cX12_option 19 = .ok (.iload_n 2, 1) := by decide +kernel
theorem dX12_option_20 : decode cX12_option 20 = .ok (.ifCond .lt 10, 3) := by decide +kernel
theorem dX12_option_23 : decode cX12_option 23 = .ok (.iload_n 2, 1) := by decide +kernel
theorem dX12_option_24 : decode cX12_option 24 = .ok (.sipush 336, 3) := by decide +kernel
theorem dX12_option_27 : decode cX12_option 27 = .ok (.if_icmp .lt 5, 3) := by decide +kernel
theorem dX12_option_30 : decode cX12_option 30 = .ok (.iconst (-1), 1) := by decide +kernel
theorem dX12_option_31 : decode cX12_option 31 = .ok (.ireturn, 1) := by decide +kernel
theorem dX12_option_32 : decode cX12_option 32 = .ok (.aload_n 0, 1) := by decide +kernel
theorem dX12_option_33 : decode cX12_option 33 = .ok (.getfield 57, 3) := by decide +kernel
theorem dX12_option_36 : decode cX12_option 36 = .ok (.bipush 6, 2) := by decide +kernel
theorem dX12_option_38 : decode cX12_option 38 = .ok (.iload_n 1, 1) := by decide +kernel
theorem dX12_option_39 : decode cX12_option 39 = .ok (.imul, 1) := by decide +kernel
theorem dX12_option_40 : decode cX12_option 40 = .ok (.aload_n 0, 1) := by decide +kernel
theorem dX12_option_41 : decode cX12_option 41 = .ok (.getfield 54, 3) := by decide +kernel
theorem dX12_option_44 : decode cX12_option 44 = .ok (.iload_n 1, 1) := by decide +kernel
theorem dX12_option_45 : decode cX12_option 45 = .ok (.iaload, 1) := by decide +kernel
theorem dX12_option_46 : decode cX12_option 46 = .ok (.iadd, 1) := by decide +kernel
theorem dX12_option_47 : decode cX12_option 47 = .ok (.iload_n 2, 1) := by decide +kernel
theorem dX12_option_48 : decode cX12_option 48 = .ok (.iastore, 1) := by decide +kernel
theorem dX12_option_49 : decode cX12_option 49 = .ok (.aload_n 0, 1) := by decide +kernel
theorem dX12_option_50 : decode cX12_option 50 = .ok (.getfield 54, 3) := by decide +kernel
theorem dX12_option_53 : decode cX12_option 53 = .ok (.iload_n 1, 1) := by decide +kernel
theorem dX12_option_54 : decode cX12_option 54 = .ok (.dup2, 1) := by decide +kernel
theorem dX12_option_55 : decode cX12_option 55 = .ok (.iaload, 1) := by decide +kernel
theorem dX12_option_56 : decode cX12_option 56 = .ok (.iconst 1, 1) := by decide +kernel
theorem dX12_option_57 : decode cX12_option 57 = .ok (.iadd, 1) := by decide +kernel
theorem dX12_option_58 : decode cX12_option 58 = .ok (.iastore, 1) := by decide +kernel
theorem dX12_option_59 : decode cX12_option 59 = .ok (.aload_n 0, 1) := by decide +kernel
theorem dX12_option_60 : decode cX12_option 60 = .ok (.getfield 54, 3) := by decide +kernel
theorem dX12_option_63 : decode cX12_option 63 = .ok (.iload_n 1, 1) := by decide +kernel
theorem dX12_option_64 : decode cX12_option 64 = .ok (.iaload, 1) := by decide +kernel
theorem dX12_option_65 : decode cX12_option 65 = .ok (.iconst 1, 1) := by decide +kernel
theorem dX12_option_66 : decode cX12_option 66 = .ok (.isub, 1) := by decide +kernel
theorem dX12_option_67 : decode cX12_option 67 = .ok (.ireturn, 1) := by decide +kernel
theorem dX12_role_0 : decode cX12_role 0 = .ok (.aload_n 0, 1) := by decide +kernel
theorem dX12_role_1 : decode cX12_role 1 = .ok (.iload_n 1, 1) := by decide +kernel
theorem dX12_role_2 : decode cX12_role 2 = .ok (.invokevirtual 146, 3) := by decide +kernel
theorem dX12_role_5 : decode cX12_role 5 = .ok (.ifCond .eq 20, 3) := by decide +kernel
theorem dX12_role_8 : decode cX12_role 8 = .ok (.aload_n 0, 1) := by decide +kernel
theorem dX12_role_9 : decode cX12_role 9 = .ok (.iload_n 2, 1) := by decide +kernel
theorem dX12_role_10 : decode cX12_role 10 = .ok (.invokevirtual 139, 3) := by decide +kernel
theorem dX12_role_13 : decode cX12_role 13 = .ok (.ifCond .eq 12, 3) := by decide +kernel
theorem dX12_role_16 : decode cX12_role 16 = .ok (.iload_n 3, 1) := by decide +kernel
theorem dX12_role_17 : decode cX12_role 17 = .ok (.ifCond .lt 8, 3) := by decide +kernel
theorem dX12_role_20 : decode cX12_role 20 = .ok (.iload_n 3, 1) := by decide +kernel
theorem dX12_role_21 : decode cX12_role 21 = .ok (.iconst 5, 1) := by decide +kernel
theorem dX12_role_22 : decode cX12_role 22 = .ok (.if_icmp .le 5, 3) := by decide +kernel
theorem dX12_role_25 : decode cX12_role 25 = .ok (.iconst 0, 1) := by decide +kernel
theorem dX12_role_26 : decode cX12_role 26 = .ok (.ireturn, 1) := by decide +kernel
theorem dX12_role_27 : decode cX12_role 27 = .ok (.aload_n 0, 1) := by decide +kernel
theorem dX12_role_28 : decode cX12_role 28 = .ok (.getfield 60, 3) := by decide +kernel
theorem dX12_role_31 : decode cX12_role 31 = .ok (.bipush 12, 2) := by decide +kernel
theorem dX12_role_33 : decode cX12_role 33 = .ok (.iload_n 1, 1) := by decide +kernel
theorem dX12_role_34 : decode cX12_role 34 = .ok (.imul, 1) := by decide +kernel
theorem dX12_role_35 : decode cX12_role 35 = .ok (.iload_n 2, 1) := by decide +kernel
theorem dX12_role_36 : decode cX12_role 36 = .ok (.iadd, 1) := by decide +kernel
theorem dX12_role_37 : decode cX12_role 37 = .ok (.iload_n 3, 1) := by decide +kernel
theorem dX12_role_38 : decode cX12_role 38 = .ok (.iastore, 1) := by decide +kernel
theorem dX12_role_39 : decode cX12_role 39 = .ok (.iconst 1, 1) := by decide +kernel
theorem dX12_role_40 : decode cX12_role 40 = .ok (.ireturn, 1) := by decide +kernel
theorem dX12_slotOf_0 : decode cX12_slotOf 0 = .ok (.sipush 336, 3) := by decide +kernel
theorem dX12_slotOf_3 : decode cX12_slotOf 3 = .ok (.aload_n 0, 1) := by decide +kernel
theorem dX12_slotOf_4 : decode cX12_slotOf 4 = .ok (.getfield 181, 3) := by decide +kernel
theorem dX12_slotOf_7 : decode cX12_slotOf 7 = .ok (.imul, 1) := by decide +kernel
theorem dX12_slotOf_8 : decode cX12_slotOf 8 = .ok (.aload_n 0, 1) := by decide +kernel
theorem dX12_slotOf_9 : decode cX12_slotOf 9 = .ok (.getfield 57, 3) := by decide +kernel
theorem dX12_slotOf_12 : decode cX12_slotOf 12 = .ok (.bipush 6, 2) := by decide +kernel
theorem dX12_slotOf_14 : decode cX12_slotOf 14 = .ok (.iload_n 1, 1) := by decide +kernel
theorem dX12_slotOf_15 : decode cX12_slotOf 15 = .ok (.imul, 1) := by decide +kernel
theorem dX12_slotOf_16 : decode cX12_slotOf 16 = .ok (.iload_n 2, 1) := by decide +kernel
theorem dX12_slotOf_17 : decode cX12_slotOf 17 = .ok (.iadd, 1) := by decide +kernel
theorem dX12_slotOf_18 : decode cX12_slotOf 18 = .ok (.iaload, 1) := by decide +kernel
theorem dX12_slotOf_19 : decode cX12_slotOf 19 = .ok (.iadd, 1) := by decide +kernel
theorem dX12_slotOf_20 : decode cX12_slotOf 20 = .ok (.ireturn, 1) := by decide +kernel
theorem dX12_isIn_0 : decode cX12_isIn 0 = .ok (.aload_n 0, 1) := by decide +kernel
theorem dX12_isIn_1 : decode cX12_isIn 1 = .ok (.iload_n 1, 1) := by decide +kernel
theorem dX12_isIn_2 : decode cX12_isIn 2 = .ok (.iload_n 2, 1) := by decide +kernel
theorem dX12_isIn_3 : decode cX12_isIn 3 = .ok (.invokevirtual 184, 3) := by decide +kernel
theorem dX12_isIn_6 : decode cX12_isIn 6 = .ok (.aload_n 0, 1) := by decide +kernel
theorem dX12_isIn_7 : decode cX12_isIn 7 = .ok (.getfield 45, 3) := by decide +kernel
theorem dX12_isIn_10 : decode cX12_isIn 10 = .ok (.iload_n 1, 1) := by decide +kernel
theorem dX12_isIn_11 : decode cX12_isIn 11 = .ok (.iaload, 1) := by decide +kernel
theorem dX12_isIn_12 : decode cX12_isIn 12 = .ok (.iadd, 1) := by decide +kernel
theorem dX12_isIn_13 : decode cX12_isIn 13 = .ok (.sipush 17472, 3) := by decide +kernel
theorem dX12_isIn_16 : decode cX12_isIn 16 = .ok (.if_icmp .gt 7, 3) := by decide +kernel
theorem dX12_isIn_19 : decode cX12_isIn 19 = .ok (.iconst 1, 1) := by decide +kernel
theorem dX12_isIn_20 : decode cX12_isIn 20 = .ok (.goto 4, 3) := by decide +kernel
theorem dX12_isIn_23 : decode cX12_isIn 23 = .ok (.iconst 0, 1) := by decide +kernel
theorem dX12_isIn_24 : decode cX12_isIn 24 = .ok (.ireturn, 1) := by decide +kernel
theorem dX12_meet_0 : decode cX12_meet 0 = .ok (.aload_n 0, 1) := by decide +kernel
theorem dX12_meet_1 : decode cX12_meet 1 = .ok (.iload_n 1, 1) := by decide +kernel
theorem dX12_meet_2 : decode cX12_meet 2 = .ok (.iload_n 2, 1) := by decide +kernel
theorem dX12_meet_3 : decode cX12_meet 3 = .ok (.invokevirtual 184, 3) := by decide +kernel
theorem dX12_meet_6 : decode cX12_meet 6 = .ok (.istore 5, 2) := by decide +kernel
theorem dX12_meet_8 : decode cX12_meet 8 = .ok (.aload_n 0, 1) := by decide +kernel
theorem dX12_meet_9 : decode cX12_meet 9 = .ok (.iload_n 3, 1) := by decide +kernel
theorem dX12_meet_10 : decode cX12_meet 10 = .ok (.iload 4, 2) := by decide +kernel
theorem dX12_meet_12 : decode cX12_meet 12 = .ok (.invokevirtual 184, 3) := by decide +kernel
theorem dX12_meet_15 : decode cX12_meet 15 = .ok (.istore 6, 2) := by decide +kernel
theorem dX12_meet_17 : decode cX12_meet 17 = .ok (.iload 5, 2) := by decide +kernel
theorem dX12_meet_19 : decode cX12_meet 19 = .ok (.iload 6, 2) := by decide +kernel
theorem dX12_meet_21 : decode cX12_meet 21 = .ok (.aload_n 0, 1) := by decide +kernel
theorem dX12_meet_22 : decode cX12_meet 22 = .ok (.getfield 45, 3) := by decide +kernel
theorem dX12_meet_25 : decode cX12_meet 25 = .ok (.iload_n 3, 1) := by decide +kernel
theorem dX12_meet_26 : decode cX12_meet 26 = .ok (.iaload, 1) := by decide +kernel
theorem dX12_meet_27 : decode cX12_meet 27 = .ok (.iadd, 1) := by decide +kernel
theorem dX12_meet_28 : decode cX12_meet 28 = .ok (.if_icmp .ge 21, 3) := by decide +kernel
theorem dX12_meet_31 : decode cX12_meet 31 = .ok (.iload 6, 2) := by decide +kernel
theorem dX12_meet_33 : decode cX12_meet 33 = .ok (.iload 5, 2) := by decide +kernel
theorem dX12_meet_35 : decode cX12_meet 35 = .ok (.aload_n 0, 1) := by decide +kernel
theorem dX12_meet_36 : decode cX12_meet 36 = .ok (.getfield 45, 3) := by decide +kernel
theorem dX12_meet_39 : decode cX12_meet 39 = .ok (.iload_n 1, 1) := by decide +kernel
theorem dX12_meet_40 : decode cX12_meet 40 = .ok (.iaload, 1) := by decide +kernel
theorem dX12_meet_41 : decode cX12_meet 41 = .ok (.iadd, 1) := by decide +kernel
theorem dX12_meet_42 : decode cX12_meet 42 = .ok (.if_icmp .ge 7, 3) := by decide +kernel
theorem dX12_meet_45 : decode cX12_meet 45 = .ok (.iconst 1, 1) := by decide +kernel
theorem dX12_meet_46 : decode cX12_meet 46 = .ok (.goto 4, 3) := by decide +kernel
theorem dX12_meet_49 : decode cX12_meet 49 = .ok (.iconst 0, 1) := by decide +kernel
theorem dX12_meet_50 : decode cX12_meet 50 = .ok (.ireturn, 1) := by decide +kernel
theorem dX12_isFree_0 : decode cX12_isFree 0 = .ok (.aload_n 0, 1) := by decide +kernel
theorem dX12_isFree_1 : decode cX12_isFree 1 = .ok (.iload_n 1, 1) := by decide +kernel
theorem dX12_isFree_2 : decode cX12_isFree 2 = .ok (.aload_n 0, 1) := by decide +kernel
theorem dX12_isFree_3 : decode cX12_isFree 3 = .ok (.iload_n 2, 1) := by decide +kernel
theorem dX12_isFree_4 : decode cX12_isFree 4 = .ok (.iload_n 3, 1) := by decide +kernel
theorem dX12_isFree_5 : decode cX12_isFree 5 = .ok (.invokevirtual 184, 3) := by decide +kernel
theorem dX12_isFree_8 : decode cX12_isFree 8 = .ok (.aload_n 0, 1) := by decide +kernel
theorem dX12_isFree_9 : decode cX12_isFree 9 = .ok (.getfield 45, 3) := by decide +kernel
theorem dX12_isFree_12 : decode cX12_isFree 12 = .ok (.iload_n 2, 1) := by decide +kernel
theorem dX12_isFree_13 : decode cX12_isFree 13 = .ok (.iaload, 1) := by decide +kernel
theorem dX12_isFree_14 : decode cX12_isFree 14 = .ok (.aload_n 0, 1) := by decide +kernel
theorem dX12_isFree_15 : decode cX12_isFree 15 = .ok (.getfield 187, 3) := by decide +kernel
theorem dX12_isFree_18 : decode cX12_isFree 18 = .ok (.invokevirtual 174, 3) := by decide +kernel
theorem dX12_isFree_21 : decode cX12_isFree 21 = .ok (.ifCond .le 5, 3) := by decide +kernel
theorem dX12_isFree_24 : decode cX12_isFree 24 = .ok (.iconst 0, 1) := by decide +kernel
theorem dX12_isFree_25 : decode cX12_isFree 25 = .ok (.ireturn, 1) := by decide +kernel
theorem dX12_isFree_26 : decode cX12_isFree 26 = .ok (.iconst 0, 1) := by decide +kernel
theorem dX12_isFree_27 : decode cX12_isFree 27 = .ok (.istore 4, 2) := by decide +kernel
theorem dX12_isFree_29 : decode cX12_isFree 29 = .ok (.iload 4, 2) := by decide +kernel
theorem dX12_isFree_31 : decode cX12_isFree 31 = .ok (.aload_n 0, 1) := by decide +kernel
theorem dX12_isFree_32 : decode cX12_isFree 32 = .ok (.getfield 187, 3) := by decide +kernel
theorem dX12_isFree_35 : decode cX12_isFree 35 = .ok (.if_icmp .ge 58, 3) := by decide +kernel
theorem dX12_isFree_38 : decode cX12_isFree 38 = .ok (.aload_n 0, 1) := by decide +kernel
theorem dX12_isFree_39 : decode cX12_isFree 39 = .ok (.getfield 29, 3) := by decide +kernel
theorem dX12_isFree_42 : decode cX12_isFree 42 = .ok (.iload 4, 2) := by decide +kernel
theorem dX12_isFree_44 : decode cX12_isFree 44 = .ok (.iaload, 1) := by decide +kernel
theorem dX12_isFree_45 : decode cX12_isFree 45 = .ok (.iconst 3, 1) := by decide +kernel
theorem dX12_isFree_46 : decode cX12_isFree 46 = .ok (.if_icmp .ne 41, 3) := by decide +kernel
theorem dX12_isFree_49 : decode cX12_isFree 49 = .ok (.aload_n 0, 1) := by decide +kernel
theorem dX12_isFree_50 : decode cX12_isFree 50 = .ok (.getfield 32, 3) := by decide +kernel
theorem dX12_isFree_53 : decode cX12_isFree 53 = .ok (.iload 4, 2) := by decide +kernel
theorem dX12_isFree_55 : decode cX12_isFree 55 = .ok (.iaload, 1) := by decide +kernel
theorem dX12_isFree_56 : decode cX12_isFree 56 = .ok (.iload_n 1, 1) := by decide +kernel
theorem dX12_isFree_57 : decode cX12_isFree 57 = .ok (.if_icmp .ne 30, 3) := by decide +kernel
theorem dX12_isFree_60 : decode cX12_isFree 60 = .ok (.aload_n 0, 1) := by decide +kernel
theorem dX12_isFree_61 : decode cX12_isFree 61 = .ok (.getfield 35, 3) := by decide +kernel
theorem dX12_isFree_64 : decode cX12_isFree 64 = .ok (.iload 4, 2) := by decide +kernel
theorem dX12_isFree_66 : decode cX12_isFree 66 = .ok (.iaload, 1) := by decide +kernel
theorem dX12_isFree_67 : decode cX12_isFree 67 = .ok (.iload_n 2, 1) := by decide +kernel
theorem dX12_isFree_68 : decode cX12_isFree 68 = .ok (.if_icmp .ne 19, 3) := by decide +kernel
theorem dX12_isFree_71 : decode cX12_isFree 71 = .ok (.aload_n 0, 1) := by decide +kernel
theorem dX12_isFree_72 : decode cX12_isFree 72 = .ok (.getfield 38, 3) := by decide +kernel
theorem dX12_isFree_75 : decode cX12_isFree 75 = .ok (.iload 4, 2) := by decide +kernel
theorem dX12_isFree_77 : decode cX12_isFree 77 = .ok (.iaload, 1) := by decide +kernel
theorem dX12_isFree_78 : decode cX12_isFree 78 = .ok (.aload_n 0, 1) := by decide +kernel
theorem dX12_isFree_79 : decode cX12_isFree 79 = .ok (.getfield 181, 3) := by decide +kernel
theorem dX12_isFree_82 : decode cX12_isFree 82 = .ok (.if_icmp .ne 5, 3) := by decide +kernel
theorem dX12_isFree_85 : decode cX12_isFree 85 = .ok (.iconst 0, 1) := by decide +kernel
theorem dX12_isFree_86 : decode cX12_isFree 86 = .ok (.ireturn, 1) := by decide +kernel
theorem dX12_isFree_87 : decode cX12_isFree 87 = .ok (.iinc 4 1, 3) := by decide +kernel
theorem dX12_isFree_90 : decode cX12_isFree 90 = .ok (.goto (-61), 3) := by decide +kernel
theorem dX12_isFree_93 : decode cX12_isFree 93 = .ok (.iconst 0, 1) := by decide +kernel
theorem dX12_isFree_94 : decode cX12_isFree 94 = .ok (.istore 4, 2) := by decide +kernel
theorem dX12_isFree_96 : decode cX12_isFree 96 = .ok (.iload 4, 2) := by decide +kernel
theorem dX12_isFree_98 : decode cX12_isFree 98 = .ok (.iload_n 2, 1) := by decide +kernel
theorem dX12_isFree_99 : decode cX12_isFree 99 = .ok (.if_icmp .ge 83, 3) := by decide +kernel
theorem dX12_isFree_102 : decode cX12_isFree 102 = .ok (.aload_n 0, 1) := by decide +kernel
theorem dX12_isFree_103 : decode cX12_isFree 103 = .ok (.getfield 72, 3) := by decide +kernel
theorem dX12_isFree_106 : decode cX12_isFree 106 = .ok (.bipush 12, 2) := by decide +kernel
theorem dX12_isFree_108 : decode cX12_isFree 108 = .ok (.iload 4, 2) := by decide +kernel
theorem dX12_isFree_110 : decode cX12_isFree 110 = .ok (.imul, 1) := by decide +kernel
theorem dX12_isFree_111 : decode cX12_isFree 111 = .ok (.iload_n 1, 1) := by decide +kernel
theorem dX12_isFree_112 : decode cX12_isFree 112 = .ok (.iadd, 1) := by decide +kernel
theorem dX12_isFree_113 : decode cX12_isFree 113 = .ok (.iaload, 1) := by decide +kernel
theorem dX12_isFree_114 : decode cX12_isFree 114 = .ok (.iconst 1, 1) := by decide +kernel
theorem dX12_isFree_115 : decode cX12_isFree 115 = .ok (.iand, 1) := by decide +kernel
theorem dX12_isFree_116 : decode cX12_isFree 116 = .ok (.iconst 1, 1) := by decide +kernel
theorem dX12_isFree_117 : decode cX12_isFree 117 = .ok (.if_icmp .ne 21, 3) := by decide +kernel
theorem dX12_isFree_120 : decode cX12_isFree 120 = .ok (.aload_n 0, 1) := by decide +kernel
theorem dX12_isFree_121 : decode cX12_isFree 121 = .ok (.iload_n 2, 1) := by decide +kernel
theorem dX12_isFree_122 : decode cX12_isFree 122 = .ok (.iload_n 3, 1) := by decide +kernel
theorem dX12_isFree_123 : decode cX12_isFree 123 = .ok (.iload 4, 2) := by decide +kernel
theorem dX12_isFree_125 : decode cX12_isFree 125 = .ok (.aload_n 0, 1) := by decide +kernel
theorem dX12_isFree_126 : decode cX12_isFree 126 = .ok (.getfield 66, 3) := by decide +kernel
theorem dX12_isFree_129 : decode cX12_isFree 129 = .ok (.iload 4, 2) := by decide +kernel
theorem dX12_isFree_131 : decode cX12_isFree 131 = .ok (.iaload, 1) := by decide +kernel
theorem dX12_isFree_132 : decode cX12_isFree 132 = .ok (.invokevirtual 190, 3) := by decide +kernel
theorem dX12_isFree_135 : decode cX12_isFree 135 = .ok (.ifCond .ne 39, 3) := by decide +kernel
theorem dX12_isFree_138 : decode cX12_isFree 138 = .ok (.aload_n 0, 1) := by decide +kernel
theorem dX12_isFree_139 : decode cX12_isFree 139 = .ok (.getfield 72, 3) := by decide +kernel
theorem dX12_isFree_142 : decode cX12_isFree 142 = .ok (.bipush 12, 2) := by decide +kernel
theorem dX12_isFree_144 : decode cX12_isFree 144 = .ok (.iload 4, 2) := by decide +kernel
theorem dX12_isFree_146 : decode cX12_isFree 146 = .ok (.imul, 1) := by decide +kernel
theorem dX12_isFree_147 : decode cX12_isFree 147 = .ok (.iload_n 1, 1) := by decide +kernel
theorem dX12_isFree_148 : decode cX12_isFree 148 = .ok (.iadd, 1) := by decide +kernel
theorem dX12_isFree_149 : decode cX12_isFree 149 = .ok (.iaload, 1) := by decide +kernel
theorem dX12_isFree_150 : decode cX12_isFree 150 = .ok (.iconst 2, 1) := by decide +kernel
theorem dX12_isFree_151 : decode cX12_isFree 151 = .ok (.iand, 1) := by decide +kernel
theorem dX12_isFree_152 : decode cX12_isFree 152 = .ok (.iconst 2, 1) := by decide +kernel
theorem dX12_isFree_153 : decode cX12_isFree 153 = .ok (.if_icmp .ne 23, 3) := by decide +kernel
theorem dX12_isFree_156 : decode cX12_isFree 156 = .ok (.aload_n 0, 1) := by decide +kernel
theorem dX12_isFree_157 : decode cX12_isFree 157 = .ok (.iload_n 2, 1) := by decide +kernel
theorem dX12_isFree_158 : decode cX12_isFree 158 = .ok (.iload_n 3, 1) := by decide +kernel
theorem dX12_isFree_159 : decode cX12_isFree 159 = .ok (.iload 4, 2) := by decide +kernel
theorem dX12_isFree_161 : decode cX12_isFree 161 = .ok (.aload_n 0, 1) := by decide +kernel
theorem dX12_isFree_162 : decode cX12_isFree 162 = .ok (.getfield 69, 3) := by decide +kernel
theorem dX12_isFree_165 : decode cX12_isFree 165 = .ok (.iload 4, 2) := by decide +kernel
theorem dX12_isFree_167 : decode cX12_isFree 167 = .ok (.iaload, 1) := by decide +kernel
theorem dX12_isFree_168 : decode cX12_isFree 168 = .ok (.invokevirtual 190, 3) := by decide +kernel
theorem dX12_isFree_171 : decode cX12_isFree 171 = .ok (.ifCond .eq 5, 3) := by decide +kernel
theorem dX12_isFree_174 : decode cX12_isFree 174 = .ok (.iconst 0, 1) := by decide +kernel
theorem dX12_isFree_175 : decode cX12_isFree 175 = .ok (.ireturn, 1) := by decide +kernel
theorem dX12_isFree_176 : decode cX12_isFree 176 = .ok (.iinc 4 1, 3) := by decide +kernel
theorem dX12_isFree_179 : decode cX12_isFree 179 = .ok (.goto (-83), 3) := by decide +kernel
theorem dX12_isFree_182 : decode cX12_isFree 182 = .ok (.iconst 1, 1) := by decide +kernel
theorem dX12_isFree_183 : decode cX12_isFree 183 = .ok (.ireturn, 1) := by decide +kernel
theorem dX12_asksFree_0 : decode cX12_asksFree 0 = .ok (.iconst 0, 1) := by decide +kernel
theorem dX12_asksFree_1 : decode cX12_asksFree 1 = .ok (.istore_n 2, 1) := by decide +kernel
theorem dX12_asksFree_2 : decode cX12_asksFree 2 = .ok (.iload_n 2, 1) := by decide +kernel
theorem dX12_asksFree_3 : decode cX12_asksFree 3 = .ok (.aload_n 0, 1) := by decide +kernel
theorem dX12_asksFree_4 : decode cX12_asksFree 4 = .ok (.getfield 123, 3) := by decide +kernel
theorem dX12_asksFree_7 : decode cX12_asksFree 7 = .ok (.if_icmp .ge 62, 3) := by decide +kernel
theorem dX12_asksFree_10 : decode cX12_asksFree 10 = .ok (.iconst 0, 1) := by decide +kernel
theorem dX12_asksFree_11 : decode cX12_asksFree 11 = .ok (.istore_n 3, 1) := by decide +kernel
theorem dX12_asksFree_12 : decode cX12_asksFree 12 = .ok (.iload_n 3, 1) := by decide +kernel
theorem dX12_asksFree_13 : decode cX12_asksFree 13 = .ok (.aload_n 0, 1) := by decide +kernel
theorem dX12_asksFree_14 : decode cX12_asksFree 14 = .ok (.getfield 54, 3) := by decide +kernel
theorem dX12_asksFree_17 : decode cX12_asksFree 17 = .ok (.iload_n 1, 1) := by decide +kernel
theorem dX12_asksFree_18 : decode cX12_asksFree 18 = .ok (.iaload, 1) := by decide +kernel
theorem dX12_asksFree_19 : decode cX12_asksFree 19 = .ok (.if_icmp .ge 44, 3) := by decide +kernel
theorem dX12_asksFree_22 : decode cX12_asksFree 22 = .ok (.aload_n 0, 1) := by decide +kernel
theorem dX12_asksFree_23 : decode cX12_asksFree 23 = .ok (.getfield 75, 3) := by decide +kernel
theorem dX12_asksFree_26 : decode cX12_asksFree 26 = .ok (.bipush 6, 2) := by decide +kernel
theorem dX12_asksFree_28 : decode cX12_asksFree 28 = .ok (.iload_n 2, 1) := by decide +kernel
theorem dX12_asksFree_29 : decode cX12_asksFree 29 = .ok (.imul, 1) := by decide +kernel
theorem dX12_asksFree_30 : decode cX12_asksFree 30 = .ok (.iload_n 3, 1) := by decide +kernel
theorem dX12_asksFree_31 : decode cX12_asksFree 31 = .ok (.iadd, 1) := by decide +kernel
theorem dX12_asksFree_32 : decode cX12_asksFree 32 = .ok (.aload_n 0, 1) := by decide +kernel
theorem dX12_asksFree_33 : decode cX12_asksFree 33 = .ok (.iload_n 1, 1) := by decide +kernel
theorem dX12_asksFree_34 : decode cX12_asksFree 34 = .ok (.iload_n 3, 1) := by decide +kernel
theorem dX12_asksFree_35 : decode cX12_asksFree 35 = .ok (.invokevirtual 193, 3) := by decide +kernel
theorem dX12_asksFree_38 : decode cX12_asksFree 38 = .ok (.ifCond .eq 17, 3) := by decide +kernel
theorem dX12_asksFree_41 : decode cX12_asksFree 41 = .ok (.aload_n 0, 1) := by decide +kernel
theorem dX12_asksFree_42 : decode cX12_asksFree 42 = .ok (.iload_n 2, 1) := by decide +kernel
theorem dX12_asksFree_43 : decode cX12_asksFree 43 = .ok (.iload_n 1, 1) := by decide +kernel
theorem dX12_asksFree_44 : decode cX12_asksFree 44 = .ok (.iload_n 3, 1) := by decide +kernel
theorem dX12_asksFree_45 : decode cX12_asksFree 45 = .ok (.invokevirtual 197, 3) := by decide +kernel
theorem dX12_asksFree_48 : decode cX12_asksFree 48 = .ok (.ifCond .eq 7, 3) := by decide +kernel
theorem dX12_asksFree_51 : decode cX12_asksFree 51 = .ok (.iconst 1, 1) := by decide +kernel
theorem dX12_asksFree_52 : decode cX12_asksFree 52 = .ok (.goto 4, 3) := by decide +kernel
theorem dX12_asksFree_55 : decode cX12_asksFree 55 = .ok (.iconst 0, 1) := by decide +kernel
theorem dX12_asksFree_56 : decode cX12_asksFree 56 = .ok (.bastore, 1) := by decide +kernel
theorem dX12_asksFree_57 : decode cX12_asksFree 57 = .ok (.iinc 3 1, 3) := by decide +kernel
theorem dX12_asksFree_60 : decode cX12_asksFree 60 = .ok (.goto (-48), 3) := by decide +kernel
theorem dX12_asksFree_63 : decode cX12_asksFree 63 = .ok (.iinc 2 1, 3) := by decide +kernel
theorem dX12_asksFree_66 : decode cX12_asksFree 66 = .ok (.goto (-64), 3) := by decide +kernel
theorem dX12_asksFree_69 : decode cX12_asksFree 69 = .ok (.return_, 1) := by decide +kernel
theorem dX12_comesTo_0 : decode cX12_comesTo 0 = .ok (.iload 4, 2) := by decide +kernel
theorem dX12_comesTo_2 : decode cX12_comesTo 2 = .ok (.iconst (-1), 1) := by decide +kernel
theorem dX12_comesTo_3 : decode cX12_comesTo 3 = .ok (.if_icmp .ne 37, 3) := by decide +kernel
theorem dX12_comesTo_6 : decode cX12_comesTo 6 = .ok (.aload_n 0, 1) := by decide +kernel
theorem dX12_comesTo_7 : decode cX12_comesTo 7 = .ok (.getfield 60, 3) := by decide +kernel
theorem dX12_comesTo_10 : decode cX12_comesTo 10 = .ok (.bipush 12, 2) := by decide +kernel
theorem dX12_comesTo_12 : decode cX12_comesTo 12 = .ok (.iload_n 2, 1) := by decide +kernel
theorem dX12_comesTo_13 : decode cX12_comesTo 13 = .ok (.imul, 1) := by decide +kernel
theorem dX12_comesTo_14 : decode cX12_comesTo 14 = .ok (.iload_n 1, 1) := by decide +kernel
theorem dX12_comesTo_15 : decode cX12_comesTo 15 = .ok (.iadd, 1) := by decide +kernel
theorem dX12_comesTo_16 : decode cX12_comesTo 16 = .ok (.iaload, 1) := by decide +kernel
theorem dX12_comesTo_17 : decode cX12_comesTo 17 = .ok (.ifCond .le 21, 3) := by decide +kernel
theorem dX12_comesTo_20 : decode cX12_comesTo 20 = .ok (.aload_n 0, 1) := by decide +kernel
theorem dX12_comesTo_21 : decode cX12_comesTo 21 = .ok (.getfield 75, 3) := by decide +kernel
theorem dX12_comesTo_24 : decode cX12_comesTo 24 = .ok (.bipush 6, 2) := by decide +kernel
theorem dX12_comesTo_26 : decode cX12_comesTo 26 = .ok (.iload_n 1, 1) := by decide +kernel
theorem dX12_comesTo_27 : decode cX12_comesTo 27 = .ok (.imul, 1) := by decide +kernel
theorem dX12_comesTo_28 : decode cX12_comesTo 28 = .ok (.iload_n 3, 1) := by decide +kernel
theorem dX12_comesTo_29 : decode cX12_comesTo 29 = .ok (.iadd, 1) := by decide +kernel
theorem dX12_comesTo_30 : decode cX12_comesTo 30 = .ok (.baload, 1) := by decide +kernel
theorem dX12_comesTo_31 : decode cX12_comesTo 31 = .ok (.ifCond .eq 7, 3) := by decide +kernel
theorem dX12_comesTo_34 : decode cX12_comesTo 34 = .ok (.iconst 1, 1) := by decide +kernel
theorem dX12_comesTo_35 : decode cX12_comesTo 35 = .ok (.goto 4, 3) := by decide +kernel
theorem dX12_comesTo_38 : decode cX12_comesTo 38 = .ok (.iconst 0, 1) := by decide +kernel
theorem dX12_comesTo_39 : decode cX12_comesTo 39 = .ok (.ireturn, 1) := by decide +kernel
theorem dX12_comesTo_40 : decode cX12_comesTo 40 = .ok (.aload_n 0, 1) := by decide +kernel
theorem dX12_comesTo_41 : decode cX12_comesTo 41 = .ok (.getfield 75, 3) := by decide +kernel
theorem dX12_comesTo_44 : decode cX12_comesTo 44 = .ok (.bipush 6, 2) := by decide +kernel
theorem dX12_comesTo_46 : decode cX12_comesTo 46 = .ok (.iload_n 1, 1) := by decide +kernel
theorem dX12_comesTo_47 : decode cX12_comesTo 47 = .ok (.imul, 1) := by decide +kernel
theorem dX12_comesTo_48 : decode cX12_comesTo 48 = .ok (.iload_n 3, 1) := by decide +kernel
theorem dX12_comesTo_49 : decode cX12_comesTo 49 = .ok (.iadd, 1) := by decide +kernel
theorem dX12_comesTo_50 : decode cX12_comesTo 50 = .ok (.baload, 1) := by decide +kernel
theorem dX12_comesTo_51 : decode cX12_comesTo 51 = .ok (.istore 5, 2) := by decide +kernel
theorem dX12_comesTo_53 : decode cX12_comesTo 53 = .ok (.aload_n 0, 1) := by decide +kernel
theorem dX12_comesTo_54 : decode cX12_comesTo 54 = .ok (.getfield 75, 3) := by decide +kernel
theorem dX12_comesTo_57 : decode cX12_comesTo 57 = .ok (.bipush 6, 2) := by decide +kernel
theorem dX12_comesTo_59 : decode cX12_comesTo 59 = .ok (.iload_n 1, 1) := by decide +kernel
theorem dX12_comesTo_60 : decode cX12_comesTo 60 = .ok (.imul, 1) := by decide +kernel
theorem dX12_comesTo_61 : decode cX12_comesTo 61 = .ok (.iload 4, 2) := by decide +kernel
theorem dX12_comesTo_63 : decode cX12_comesTo 63 = .ok (.iadd, 1) := by decide +kernel
theorem dX12_comesTo_64 : decode cX12_comesTo 64 = .ok (.baload, 1) := by decide +kernel
theorem dX12_comesTo_65 : decode cX12_comesTo 65 = .ok (.istore 6, 2) := by decide +kernel
theorem dX12_comesTo_67 : decode cX12_comesTo 67 = .ok (.iload_n 1, 1) := by decide +kernel
theorem dX12_comesTo_68 : decode cX12_comesTo 68 = .ok (.aload_n 0, 1) := by decide +kernel
theorem dX12_comesTo_69 : decode cX12_comesTo 69 = .ok (.getfield 51, 3) := by decide +kernel
theorem dX12_comesTo_72 : decode cX12_comesTo 72 = .ok (.iload_n 2, 1) := by decide +kernel
theorem dX12_comesTo_73 : decode cX12_comesTo 73 = .ok (.iaload, 1) := by decide +kernel
theorem dX12_comesTo_74 : decode cX12_comesTo 74 = .ok (.if_icmp .ne 25, 3) := by decide +kernel
theorem dX12_comesTo_77 : decode cX12_comesTo 77 = .ok (.iload 5, 2) := by decide +kernel
theorem dX12_comesTo_79 : decode cX12_comesTo 79 = .ok (.ifCond .eq 7, 3) := by decide +kernel
theorem dX12_comesTo_82 : decode cX12_comesTo 82 = .ok (.iconst 1, 1) := by decide +kernel
theorem dX12_comesTo_83 : decode cX12_comesTo 83 = .ok (.goto 4, 3) := by decide +kernel
theorem dX12_comesTo_86 : decode cX12_comesTo 86 = .ok (.iconst 0, 1) := by decide +kernel
theorem dX12_comesTo_87 : decode cX12_comesTo 87 = .ok (.iload 6, 2) := by decide +kernel
theorem dX12_comesTo_89 : decode cX12_comesTo 89 = .ok (.ifCond .eq 7, 3) := by decide +kernel
theorem dX12_comesTo_92 : decode cX12_comesTo 92 = .ok (.iconst 2, 1) := by decide +kernel
theorem dX12_comesTo_93 : decode cX12_comesTo 93 = .ok (.goto 4, 3) := by decide +kernel
theorem dX12_comesTo_96 : decode cX12_comesTo 96 = .ok (.iconst 0, 1) := by decide +kernel
theorem dX12_comesTo_97 : decode cX12_comesTo 97 = .ok (.iadd, 1) := by decide +kernel
theorem dX12_comesTo_98 : decode cX12_comesTo 98 = .ok (.ireturn, 1) := by decide +kernel
theorem dX12_comesTo_99 : decode cX12_comesTo 99 = .ok (.aload_n 0, 1) := by decide +kernel
theorem dX12_comesTo_100 : decode cX12_comesTo 100 = .ok (.getfield 60, 3) := by decide +kernel
theorem dX12_comesTo_103 : decode cX12_comesTo 103 = .ok (.bipush 12, 2) := by decide +kernel
theorem dX12_comesTo_105 : decode cX12_comesTo 105 = .ok (.iload_n 2, 1) := by decide +kernel
theorem dX12_comesTo_106 : decode cX12_comesTo 106 = .ok (.imul, 1) := by decide +kernel
theorem dX12_comesTo_107 : decode cX12_comesTo 107 = .ok (.iload_n 1, 1) := by decide +kernel
theorem dX12_comesTo_108 : decode cX12_comesTo 108 = .ok (.iadd, 1) := by decide +kernel
theorem dX12_comesTo_109 : decode cX12_comesTo 109 = .ok (.iaload, 1) := by decide +kernel
theorem dX12_comesTo_110 : decode cX12_comesTo 110 = .ok (.ifCond .eq 13, 3) := by decide +kernel
theorem dX12_comesTo_113 : decode cX12_comesTo 113 = .ok (.iload 5, 2) := by decide +kernel
theorem dX12_comesTo_115 : decode cX12_comesTo 115 = .ok (.ifCond .ne 10, 3) := by decide +kernel
theorem dX12_comesTo_118 : decode cX12_comesTo 118 = .ok (.iload 6, 2) := by decide +kernel
theorem dX12_comesTo_120 : decode cX12_comesTo 120 = .ok (.ifCond .ne 5, 3) := by decide +kernel
theorem dX12_comesTo_123 : decode cX12_comesTo 123 = .ok (.iconst 0, 1) := by decide +kernel
theorem dX12_comesTo_124 : decode cX12_comesTo 124 = .ok (.ireturn, 1) := by decide +kernel
theorem dX12_comesTo_125 : decode cX12_comesTo 125 = .ok (.iload 5, 2) := by decide +kernel
theorem dX12_comesTo_127 : decode cX12_comesTo 127 = .ok (.ifCond .eq 60, 3) := by decide +kernel
theorem dX12_comesTo_130 : decode cX12_comesTo 130 = .ok (.iload 6, 2) := by decide +kernel
theorem dX12_comesTo_132 : decode cX12_comesTo 132 = .ok (.ifCond .eq 55, 3) := by decide +kernel
theorem dX12_comesTo_135 : decode cX12_comesTo 135 = .ok (.aload_n 0, 1) := by decide +kernel
theorem dX12_comesTo_136 : decode cX12_comesTo 136 = .ok (.iload_n 1, 1) := by decide +kernel
theorem dX12_comesTo_137 : decode cX12_comesTo 137 = .ok (.aload_n 0, 1) := by decide +kernel
theorem dX12_comesTo_138 : decode cX12_comesTo 138 = .ok (.iload_n 2, 1) := by decide +kernel
theorem dX12_comesTo_139 : decode cX12_comesTo 139 = .ok (.iload 4, 2) := by decide +kernel
theorem dX12_comesTo_141 : decode cX12_comesTo 141 = .ok (.invokevirtual 184, 3) := by decide +kernel
theorem dX12_comesTo_144 : decode cX12_comesTo 144 = .ok (.aload_n 0, 1) := by decide +kernel
theorem dX12_comesTo_145 : decode cX12_comesTo 145 = .ok (.getfield 45, 3) := by decide +kernel
theorem dX12_comesTo_148 : decode cX12_comesTo 148 = .ok (.iload_n 2, 1) := by decide +kernel
theorem dX12_comesTo_149 : decode cX12_comesTo 149 = .ok (.iaload, 1) := by decide +kernel
theorem dX12_comesTo_150 : decode cX12_comesTo 150 = .ok (.aload_n 0, 1) := by decide +kernel
theorem dX12_comesTo_151 : decode cX12_comesTo 151 = .ok (.getfield 187, 3) := by decide +kernel
theorem dX12_comesTo_154 : decode cX12_comesTo 154 = .ok (.invokevirtual 178, 3) := by decide +kernel
theorem dX12_comesTo_157 : decode cX12_comesTo 157 = .ok (.aload_n 0, 1) := by decide +kernel
theorem dX12_comesTo_158 : decode cX12_comesTo 158 = .ok (.iload_n 1, 1) := by decide +kernel
theorem dX12_comesTo_159 : decode cX12_comesTo 159 = .ok (.aload_n 0, 1) := by decide +kernel
theorem dX12_comesTo_160 : decode cX12_comesTo 160 = .ok (.iload_n 2, 1) := by decide +kernel
theorem dX12_comesTo_161 : decode cX12_comesTo 161 = .ok (.iload_n 3, 1) := by decide +kernel
theorem dX12_comesTo_162 : decode cX12_comesTo 162 = .ok (.invokevirtual 184, 3) := by decide +kernel
theorem dX12_comesTo_165 : decode cX12_comesTo 165 = .ok (.aload_n 0, 1) := by decide +kernel
theorem dX12_comesTo_166 : decode cX12_comesTo 166 = .ok (.getfield 45, 3) := by decide +kernel
theorem dX12_comesTo_169 : decode cX12_comesTo 169 = .ok (.iload_n 2, 1) := by decide +kernel
theorem dX12_comesTo_170 : decode cX12_comesTo 170 = .ok (.iaload, 1) := by decide +kernel
theorem dX12_comesTo_171 : decode cX12_comesTo 171 = .ok (.aload_n 0, 1) := by decide +kernel
theorem dX12_comesTo_172 : decode cX12_comesTo 172 = .ok (.getfield 187, 3) := by decide +kernel
theorem dX12_comesTo_175 : decode cX12_comesTo 175 = .ok (.invokevirtual 178, 3) := by decide +kernel
theorem dX12_comesTo_178 : decode cX12_comesTo 178 = .ok (.if_icmp .ge 7, 3) := by decide +kernel
theorem dX12_comesTo_181 : decode cX12_comesTo 181 = .ok (.iconst 2, 1) := by decide +kernel
theorem dX12_comesTo_182 : decode cX12_comesTo 182 = .ok (.goto 4, 3) := by decide +kernel
theorem dX12_comesTo_185 : decode cX12_comesTo 185 = .ok (.iconst 1, 1) := by decide +kernel
theorem dX12_comesTo_186 : decode cX12_comesTo 186 = .ok (.ireturn, 1) := by decide +kernel
theorem dX12_comesTo_187 : decode cX12_comesTo 187 = .ok (.iload 5, 2) := by decide +kernel
theorem dX12_comesTo_189 : decode cX12_comesTo 189 = .ok (.ifCond .eq 7, 3) := by decide +kernel
theorem dX12_comesTo_192 : decode cX12_comesTo 192 = .ok (.iconst 1, 1) := by decide +kernel
theorem dX12_comesTo_193 : decode cX12_comesTo 193 = .ok (.goto 4, 3) := by decide +kernel
theorem dX12_comesTo_196 : decode cX12_comesTo 196 = .ok (.iconst 2, 1) := by decide +kernel
theorem dX12_comesTo_197 : decode cX12_comesTo 197 = .ok (.ireturn, 1) := by decide +kernel
theorem dX12_comeAll_0 : decode cX12_comeAll 0 = .ok (.iconst 0, 1) := by decide +kernel
theorem dX12_comeAll_1 : decode cX12_comeAll 1 = .ok (.istore_n 2, 1) := by decide +kernel
theorem dX12_comeAll_2 : decode cX12_comeAll 2 = .ok (.iload_n 2, 1) := by decide +kernel
theorem dX12_comeAll_3 : decode cX12_comeAll 3 = .ok (.iload_n 1, 1) := by decide +kernel
theorem dX12_comeAll_4 : decode cX12_comeAll 4 = .ok (.if_icmp .ge 98, 3) := by decide +kernel
theorem dX12_comeAll_7 : decode cX12_comeAll 7 = .ok (.iconst 0, 1) := by decide +kernel
theorem dX12_comeAll_8 : decode cX12_comeAll 8 = .ok (.istore_n 3, 1) := by decide +kernel
theorem dX12_comeAll_9 : decode cX12_comeAll 9 = .ok (.iload_n 3, 1) := by decide +kernel
theorem dX12_comeAll_10 : decode cX12_comeAll 10 = .ok (.bipush 12, 2) := by decide +kernel
theorem dX12_comeAll_12 : decode cX12_comeAll 12 = .ok (.if_icmp .ge 21, 3) := by decide +kernel
theorem dX12_comeAll_15 : decode cX12_comeAll 15 = .ok (.aload_n 0, 1) := by decide +kernel
theorem dX12_comeAll_16 : decode cX12_comeAll 16 = .ok (.getfield 72, 3) := by decide +kernel
theorem dX12_comeAll_19 : decode cX12_comeAll 19 = .ok (.bipush 12, 2) := by decide +kernel
theorem dX12_comeAll_21 : decode cX12_comeAll 21 = .ok (.iload_n 2, 1) := by decide +kernel
theorem dX12_comeAll_22 : decode cX12_comeAll 22 = .ok (.imul, 1) := by decide +kernel
theorem dX12_comeAll_23 : decode cX12_comeAll 23 = .ok (.iload_n 3, 1) := by decide +kernel
theorem dX12_comeAll_24 : decode cX12_comeAll 24 = .ok (.iadd, 1) := by decide +kernel
theorem dX12_comeAll_25 : decode cX12_comeAll 25 = .ok (.iconst 0, 1) := by decide +kernel
theorem dX12_comeAll_26 : decode cX12_comeAll 26 = .ok (.iastore, 1) := by decide +kernel
theorem dX12_comeAll_27 : decode cX12_comeAll 27 = .ok (.iinc 3 1, 3) := by decide +kernel
theorem dX12_comeAll_30 : decode cX12_comeAll 30 = .ok (.goto (-21), 3) := by decide +kernel
theorem dX12_comeAll_33 : decode cX12_comeAll 33 = .ok (.aload_n 0, 1) := by decide +kernel
theorem dX12_comeAll_34 : decode cX12_comeAll 34 = .ok (.getfield 66, 3) := by decide +kernel
theorem dX12_comeAll_37 : decode cX12_comeAll 37 = .ok (.iload_n 2, 1) := by decide +kernel
theorem dX12_comeAll_38 : decode cX12_comeAll 38 = .ok (.iaload, 1) := by decide +kernel
theorem dX12_comeAll_39 : decode cX12_comeAll 39 = .ok (.iconst (-1), 1) := by decide +kernel
theorem dX12_comeAll_40 : decode cX12_comeAll 40 = .ok (.if_icmp .ne 6, 3) := by decide +kernel
theorem dX12_comeAll_43 : decode cX12_comeAll 43 = .ok (.goto 53, 3) := by decide +kernel
theorem dX12_comeAll_46 : decode cX12_comeAll 46 = .ok (.aload_n 0, 1) := by decide +kernel
theorem dX12_comeAll_47 : decode cX12_comeAll 47 = .ok (.iload_n 2, 1) := by decide +kernel
theorem dX12_comeAll_48 : decode cX12_comeAll 48 = .ok (.invokevirtual 201, 3) := by decide +kernel
theorem dX12_comeAll_51 : decode cX12_comeAll 51 = .ok (.iconst 0, 1) := by decide +kernel
theorem dX12_comeAll_52 : decode cX12_comeAll 52 = .ok (.istore_n 3, 1) := by decide +kernel
theorem dX12_comeAll_53 : decode cX12_comeAll 53 = .ok (.iload_n 3, 1) := by decide +kernel
theorem dX12_comeAll_54 : decode cX12_comeAll 54 = .ok (.aload_n 0, 1) := by decide +kernel
theorem dX12_comeAll_55 : decode cX12_comeAll 55 = .ok (.getfield 123, 3) := by decide +kernel
theorem dX12_comeAll_58 : decode cX12_comeAll 58 = .ok (.if_icmp .ge 38, 3) := by decide +kernel
theorem dX12_comeAll_61 : decode cX12_comeAll 61 = .ok (.aload_n 0, 1) := by decide +kernel
theorem dX12_comeAll_62 : decode cX12_comeAll 62 = .ok (.getfield 72, 3) := by decide +kernel
theorem dX12_comeAll_65 : decode cX12_comeAll 65 = .ok (.bipush 12, 2) := by decide +kernel
theorem dX12_comeAll_67 : decode cX12_comeAll 67 = .ok (.iload_n 2, 1) := by decide +kernel
theorem dX12_comeAll_68 : decode cX12_comeAll 68 = .ok (.imul, 1) := by decide +kernel
theorem dX12_comeAll_69 : decode cX12_comeAll 69 = .ok (.iload_n 3, 1) := by decide +kernel
theorem dX12_comeAll_70 : decode cX12_comeAll 70 = .ok (.iadd, 1) := by decide +kernel
theorem dX12_comeAll_71 : decode cX12_comeAll 71 = .ok (.aload_n 0, 1) := by decide +kernel
theorem dX12_comeAll_72 : decode cX12_comeAll 72 = .ok (.iload_n 3, 1) := by decide +kernel
theorem dX12_comeAll_73 : decode cX12_comeAll 73 = .ok (.iload_n 2, 1) := by decide +kernel
theorem dX12_comeAll_74 : decode cX12_comeAll 74 = .ok (.aload_n 0, 1) := by decide +kernel
theorem dX12_comeAll_75 : decode cX12_comeAll 75 = .ok (.getfield 66, 3) := by decide +kernel
theorem dX12_comeAll_78 : decode cX12_comeAll 78 = .ok (.iload_n 2, 1) := by decide +kernel
theorem dX12_comeAll_79 : decode cX12_comeAll 79 = .ok (.iaload, 1) := by decide +kernel
theorem dX12_comeAll_80 : decode cX12_comeAll 80 = .ok (.aload_n 0, 1) := by decide +kernel
theorem dX12_comeAll_81 : decode cX12_comeAll 81 = .ok (.getfield 69, 3) := by decide +kernel
theorem dX12_comeAll_84 : decode cX12_comeAll 84 = .ok (.iload_n 2, 1) := by decide +kernel
theorem dX12_comeAll_85 : decode cX12_comeAll 85 = .ok (.iaload, 1) := by decide +kernel
theorem dX12_comeAll_86 : decode cX12_comeAll 86 = .ok (.invokevirtual 205, 3) := by decide +kernel
theorem dX12_comeAll_89 : decode cX12_comeAll 89 = .ok (.iastore, 1) := by decide +kernel
theorem dX12_comeAll_90 : decode cX12_comeAll 90 = .ok (.iinc 3 1, 3) := by decide +kernel
theorem dX12_comeAll_93 : decode cX12_comeAll 93 = .ok (.goto (-40), 3) := by decide +kernel
theorem dX12_comeAll_96 : decode cX12_comeAll 96 = .ok (.iinc 2 1, 3) := by decide +kernel
theorem dX12_comeAll_99 : decode cX12_comeAll 99 = .ok (.goto (-97), 3) := by decide +kernel
theorem dX12_comeAll_102 : decode cX12_comeAll 102 = .ok (.return_, 1) := by decide +kernel
theorem dX12_takesWeek_0 : decode cX12_takesWeek 0 = .ok (.aload_n 0, 1) := by decide +kernel
theorem dX12_takesWeek_1 : decode cX12_takesWeek 1 = .ok (.iload_n 1, 1) := by decide +kernel
theorem dX12_takesWeek_2 : decode cX12_takesWeek 2 = .ok (.putfield 181, 3) := by decide +kernel
theorem dX12_takesWeek_5 : decode cX12_takesWeek 5 = .ok (.aload_n 0, 1) := by decide +kernel
theorem dX12_takesWeek_6 : decode cX12_takesWeek 6 = .ok (.iload_n 2, 1) := by decide +kernel
theorem dX12_takesWeek_7 : decode cX12_takesWeek 7 = .ok (.putfield 187, 3) := by decide +kernel
theorem dX12_takesWeek_10 : decode cX12_takesWeek 10 = .ok (.iconst 0, 1) := by decide +kernel
theorem dX12_takesWeek_11 : decode cX12_takesWeek 11 = .ok (.istore_n 3, 1) := by decide +kernel
theorem dX12_takesWeek_12 : decode cX12_takesWeek 12 = .ok (.iload_n 3, 1) := by decide +kernel
theorem dX12_takesWeek_13 : decode cX12_takesWeek 13 = .ok (.iconst 4, 1) := by decide +kernel
theorem dX12_takesWeek_14 : decode cX12_takesWeek 14 = .ok (.if_icmp .ge 49, 3) := by decide +kernel
theorem dX12_takesWeek_17 : decode cX12_takesWeek 17 = .ok (.aload_n 0, 1) := by decide +kernel
theorem dX12_takesWeek_18 : decode cX12_takesWeek 18 = .ok (.getfield 66, 3) := by decide +kernel
theorem dX12_takesWeek_21 : decode cX12_takesWeek 21 = .ok (.iload_n 3, 1) := by decide +kernel
theorem dX12_takesWeek_22 : decode cX12_takesWeek 22 = .ok (.aload_n 0, 1) := by decide +kernel
theorem dX12_takesWeek_23 : decode cX12_takesWeek 23 = .ok (.getfield 63, 3) := by decide +kernel
theorem dX12_takesWeek_26 : decode cX12_takesWeek 26 = .ok (.iconst 2, 1) := by decide +kernel
theorem dX12_takesWeek_27 : decode cX12_takesWeek 27 = .ok (.bipush 52, 2) := by decide +kernel
theorem dX12_takesWeek_29 : decode cX12_takesWeek 29 = .ok (.iload_n 3, 1) := by decide +kernel
theorem dX12_takesWeek_30 : decode cX12_takesWeek 30 = .ok (.imul, 1) := by decide +kernel
theorem dX12_takesWeek_31 : decode cX12_takesWeek 31 = .ok (.iload_n 1, 1) := by decide +kernel
theorem dX12_takesWeek_32 : decode cX12_takesWeek 32 = .ok (.iadd, 1) := by decide +kernel
theorem dX12_takesWeek_33 : decode cX12_takesWeek 33 = .ok (.imul, 1) := by decide +kernel
theorem dX12_takesWeek_34 : decode cX12_takesWeek 34 = .ok (.iaload, 1) := by decide +kernel
theorem dX12_takesWeek_35 : decode cX12_takesWeek 35 = .ok (.iastore, 1) := by decide +kernel
theorem dX12_takesWeek_36 : decode cX12_takesWeek 36 = .ok (.aload_n 0, 1) := by decide +kernel
theorem dX12_takesWeek_37 : decode cX12_takesWeek 37 = .ok (.getfield 69, 3) := by decide +kernel
theorem dX12_takesWeek_40 : decode cX12_takesWeek 40 = .ok (.iload_n 3, 1) := by decide +kernel
theorem dX12_takesWeek_41 : decode cX12_takesWeek 41 = .ok (.aload_n 0, 1) := by decide +kernel
theorem dX12_takesWeek_42 : decode cX12_takesWeek 42 = .ok (.getfield 63, 3) := by decide +kernel
theorem dX12_takesWeek_45 : decode cX12_takesWeek 45 = .ok (.iconst 2, 1) := by decide +kernel
theorem dX12_takesWeek_46 : decode cX12_takesWeek 46 = .ok (.bipush 52, 2) := by decide +kernel
theorem dX12_takesWeek_48 : decode cX12_takesWeek 48 = .ok (.iload_n 3, 1) := by decide +kernel
theorem dX12_takesWeek_49 : decode cX12_takesWeek 49 = .ok (.imul, 1) := by decide +kernel
theorem dX12_takesWeek_50 : decode cX12_takesWeek 50 = .ok (.iload_n 1, 1) := by decide +kernel
theorem dX12_takesWeek_51 : decode cX12_takesWeek 51 = .ok (.iadd, 1) := by decide +kernel
theorem dX12_takesWeek_52 : decode cX12_takesWeek 52 = .ok (.imul, 1) := by decide +kernel
theorem dX12_takesWeek_53 : decode cX12_takesWeek 53 = .ok (.iconst 1, 1) := by decide +kernel
theorem dX12_takesWeek_54 : decode cX12_takesWeek 54 = .ok (.iadd, 1) := by decide +kernel
theorem dX12_takesWeek_55 : decode cX12_takesWeek 55 = .ok (.iaload, 1) := by decide +kernel
theorem dX12_takesWeek_56 : decode cX12_takesWeek 56 = .ok (.iastore, 1) := by decide +kernel
theorem dX12_takesWeek_57 : decode cX12_takesWeek 57 = .ok (.iinc 3 1, 3) := by decide +kernel
theorem dX12_takesWeek_60 : decode cX12_takesWeek 60 = .ok (.goto (-48), 3) := by decide +kernel
theorem dX12_takesWeek_63 : decode cX12_takesWeek 63 = .ok (.return_, 1) := by decide +kernel
theorem dX12_isBehind_0 : decode cX12_isBehind 0 = .ok (.aload_n 0, 1) := by decide +kernel
theorem dX12_isBehind_1 : decode cX12_isBehind 1 = .ok (.getfield 48, 3) := by decide +kernel
theorem dX12_isBehind_4 : decode cX12_isBehind 4 = .ok (.iload_n 1, 1) := by decide +kernel
theorem dX12_isBehind_5 : decode cX12_isBehind 5 = .ok (.iaload, 1) := by decide +kernel
theorem dX12_isBehind_6 : decode cX12_isBehind 6 = .ok (.istore_n 3, 1) := by decide +kernel
theorem dX12_isBehind_7 : decode cX12_isBehind 7 = .ok (.iload_n 3, 1) := by decide +kernel
theorem dX12_isBehind_8 : decode cX12_isBehind 8 = .ok (.iconst (-1), 1) := by decide +kernel
theorem dX12_isBehind_9 : decode cX12_isBehind 9 = .ok (.if_icmp .eq 13, 3) := by decide +kernel
theorem dX12_isBehind_12 : decode cX12_isBehind 12 = .ok (.aload_n 0, 1) := by decide +kernel
theorem dX12_isBehind_13 : decode cX12_isBehind 13 = .ok (.getfield 66, 3) := by decide +kernel
theorem dX12_isBehind_16 : decode cX12_isBehind 16 = .ok (.iload_n 3, 1) := by decide +kernel
theorem dX12_isBehind_17 : decode cX12_isBehind 17 = .ok (.iaload, 1) := by decide +kernel
theorem dX12_isBehind_18 : decode cX12_isBehind 18 = .ok (.iconst (-1), 1) := by decide +kernel
theorem dX12_isBehind_19 : decode cX12_isBehind 19 = .ok (.if_icmp .ne 5, 3) := by decide +kernel
theorem dX12_isBehind_22 : decode cX12_isBehind 22 = .ok (.iconst 1, 1) := by decide +kernel
theorem dX12_isBehind_23 : decode cX12_isBehind 23 = .ok (.ireturn, 1) := by decide +kernel
theorem dX12_isBehind_24 : decode cX12_isBehind 24 = .ok (.aload_n 0, 1) := by decide +kernel
theorem dX12_isBehind_25 : decode cX12_isBehind 25 = .ok (.iload_n 3, 1) := by decide +kernel
theorem dX12_isBehind_26 : decode cX12_isBehind 26 = .ok (.aload_n 0, 1) := by decide +kernel
theorem dX12_isBehind_27 : decode cX12_isBehind 27 = .ok (.getfield 66, 3) := by decide +kernel
theorem dX12_isBehind_30 : decode cX12_isBehind 30 = .ok (.iload_n 3, 1) := by decide +kernel
theorem dX12_isBehind_31 : decode cX12_isBehind 31 = .ok (.iaload, 1) := by decide +kernel
theorem dX12_isBehind_32 : decode cX12_isBehind 32 = .ok (.invokevirtual 184, 3) := by decide +kernel
theorem dX12_isBehind_35 : decode cX12_isBehind 35 = .ok (.aload_n 0, 1) := by decide +kernel
theorem dX12_isBehind_36 : decode cX12_isBehind 36 = .ok (.getfield 45, 3) := by decide +kernel
theorem dX12_isBehind_39 : decode cX12_isBehind 39 = .ok (.iload_n 3, 1) := by decide +kernel
theorem dX12_isBehind_40 : decode cX12_isBehind 40 = .ok (.iaload, 1) := by decide +kernel
theorem dX12_isBehind_41 : decode cX12_isBehind 41 = .ok (.iadd, 1) := by decide +kernel
theorem dX12_isBehind_42 : decode cX12_isBehind 42 = .ok (.aload_n 0, 1) := by decide +kernel
theorem dX12_isBehind_43 : decode cX12_isBehind 43 = .ok (.iload_n 1, 1) := by decide +kernel
theorem dX12_isBehind_44 : decode cX12_isBehind 44 = .ok (.iload_n 2, 1) := by decide +kernel
theorem dX12_isBehind_45 : decode cX12_isBehind 45 = .ok (.invokevirtual 184, 3) := by decide +kernel
theorem dX12_isBehind_48 : decode cX12_isBehind 48 = .ok (.if_icmp .le 5, 3) := by decide +kernel
theorem dX12_isBehind_51 : decode cX12_isBehind 51 = .ok (.iconst 0, 1) := by decide +kernel
theorem dX12_isBehind_52 : decode cX12_isBehind 52 = .ok (.ireturn, 1) := by decide +kernel
theorem dX12_isBehind_53 : decode cX12_isBehind 53 = .ok (.aload_n 0, 1) := by decide +kernel
theorem dX12_isBehind_54 : decode cX12_isBehind 54 = .ok (.getfield 69, 3) := by decide +kernel
theorem dX12_isBehind_57 : decode cX12_isBehind 57 = .ok (.iload_n 3, 1) := by decide +kernel
theorem dX12_isBehind_58 : decode cX12_isBehind 58 = .ok (.iaload, 1) := by decide +kernel
theorem dX12_isBehind_59 : decode cX12_isBehind 59 = .ok (.iconst (-1), 1) := by decide +kernel
theorem dX12_isBehind_60 : decode cX12_isBehind 60 = .ok (.if_icmp .eq 30, 3) := by decide +kernel
theorem dX12_isBehind_63 : decode cX12_isBehind 63 = .ok (.aload_n 0, 1) := by decide +kernel
theorem dX12_isBehind_64 : decode cX12_isBehind 64 = .ok (.iload_n 3, 1) := by decide +kernel
theorem dX12_isBehind_65 : decode cX12_isBehind 65 = .ok (.aload_n 0, 1) := by decide +kernel
theorem dX12_isBehind_66 : decode cX12_isBehind 66 = .ok (.getfield 69, 3) := by decide +kernel
theorem dX12_isBehind_69 : decode cX12_isBehind 69 = .ok (.iload_n 3, 1) := by decide +kernel
theorem dX12_isBehind_70 : decode cX12_isBehind 70 = .ok (.iaload, 1) := by decide +kernel
theorem dX12_isBehind_71 : decode cX12_isBehind 71 = .ok (.invokevirtual 184, 3) := by decide +kernel
theorem dX12_isBehind_74 : decode cX12_isBehind 74 = .ok (.aload_n 0, 1) := by decide +kernel
theorem dX12_isBehind_75 : decode cX12_isBehind 75 = .ok (.getfield 45, 3) := by decide +kernel
theorem dX12_isBehind_78 : decode cX12_isBehind 78 = .ok (.iload_n 3, 1) := by decide +kernel
theorem dX12_isBehind_79 : decode cX12_isBehind 79 = .ok (.iaload, 1) := by decide +kernel
theorem dX12_isBehind_80 : decode cX12_isBehind 80 = .ok (.iadd, 1) := by decide +kernel
theorem dX12_isBehind_81 : decode cX12_isBehind 81 = .ok (.aload_n 0, 1) := by decide +kernel
theorem dX12_isBehind_82 : decode cX12_isBehind 82 = .ok (.iload_n 1, 1) := by decide +kernel
theorem dX12_isBehind_83 : decode cX12_isBehind 83 = .ok (.iload_n 2, 1) := by decide +kernel
theorem dX12_isBehind_84 : decode cX12_isBehind 84 = .ok (.invokevirtual 184, 3) := by decide +kernel
theorem dX12_isBehind_87 : decode cX12_isBehind 87 = .ok (.if_icmp .gt 7, 3) := by decide +kernel
theorem dX12_isBehind_90 : decode cX12_isBehind 90 = .ok (.iconst 1, 1) := by decide +kernel
theorem dX12_isBehind_91 : decode cX12_isBehind 91 = .ok (.goto 4, 3) := by decide +kernel
theorem dX12_isBehind_94 : decode cX12_isBehind 94 = .ok (.iconst 0, 1) := by decide +kernel
theorem dX12_isBehind_95 : decode cX12_isBehind 95 = .ok (.ireturn, 1) := by decide +kernel
theorem dX12_fitsBy_0 : decode cX12_fitsBy 0 = .ok (.aload_n 0, 1) := by decide +kernel
theorem dX12_fitsBy_1 : decode cX12_fitsBy 1 = .ok (.iload_n 1, 1) := by decide +kernel
theorem dX12_fitsBy_2 : decode cX12_fitsBy 2 = .ok (.iload_n 2, 1) := by decide +kernel
theorem dX12_fitsBy_3 : decode cX12_fitsBy 3 = .ok (.invokevirtual 193, 3) := by decide +kernel
theorem dX12_fitsBy_6 : decode cX12_fitsBy 6 = .ok (.ifCond .eq 12, 3) := by decide +kernel
theorem dX12_fitsBy_9 : decode cX12_fitsBy 9 = .ok (.aload_n 0, 1) := by decide +kernel
theorem dX12_fitsBy_10 : decode cX12_fitsBy 10 = .ok (.iload_n 1, 1) := by decide +kernel
theorem dX12_fitsBy_11 : decode cX12_fitsBy 11 = .ok (.iload_n 2, 1) := by decide +kernel
theorem dX12_fitsBy_12 : decode cX12_fitsBy 12 = .ok (.invokevirtual 208, 3) := by decide +kernel
theorem dX12_fitsBy_15 : decode cX12_fitsBy 15 = .ok (.ifCond .ne 5, 3) := by decide +kernel
theorem dX12_fitsBy_18 : decode cX12_fitsBy 18 = .ok (.iconst 0, 1) := by decide +kernel
theorem dX12_fitsBy_19 : decode cX12_fitsBy 19 = .ok (.ireturn, 1) := by decide +kernel
theorem dX12_fitsBy_20 : decode cX12_fitsBy 20 = .ok (.iload_n 3, 1) := by decide +kernel
theorem dX12_fitsBy_21 : decode cX12_fitsBy 21 = .ok (.iconst (-1), 1) := by decide +kernel
theorem dX12_fitsBy_22 : decode cX12_fitsBy 22 = .ok (.if_icmp .eq 34, 3) := by decide +kernel
theorem dX12_fitsBy_25 : decode cX12_fitsBy 25 = .ok (.aload_n 0, 1) := by decide +kernel
theorem dX12_fitsBy_26 : decode cX12_fitsBy 26 = .ok (.iload_n 1, 1) := by decide +kernel
theorem dX12_fitsBy_27 : decode cX12_fitsBy 27 = .ok (.iload_n 3, 1) := by decide +kernel
theorem dX12_fitsBy_28 : decode cX12_fitsBy 28 = .ok (.invokevirtual 193, 3) := by decide +kernel
theorem dX12_fitsBy_31 : decode cX12_fitsBy 31 = .ok (.ifCond .eq 23, 3) := by decide +kernel
theorem dX12_fitsBy_34 : decode cX12_fitsBy 34 = .ok (.aload_n 0, 1) := by decide +kernel
theorem dX12_fitsBy_35 : decode cX12_fitsBy 35 = .ok (.iload_n 1, 1) := by decide +kernel
theorem dX12_fitsBy_36 : decode cX12_fitsBy 36 = .ok (.iload_n 3, 1) := by decide +kernel
theorem dX12_fitsBy_37 : decode cX12_fitsBy 37 = .ok (.invokevirtual 208, 3) := by decide +kernel
theorem dX12_fitsBy_40 : decode cX12_fitsBy 40 = .ok (.ifCond .eq 14, 3) := by decide +kernel
theorem dX12_fitsBy_43 : decode cX12_fitsBy 43 = .ok (.aload_n 0, 1) := by decide +kernel
theorem dX12_fitsBy_44 : decode cX12_fitsBy 44 = .ok (.iload_n 1, 1) := by decide +kernel
theorem dX12_fitsBy_45 : decode cX12_fitsBy 45 = .ok (.iload_n 2, 1) := by decide +kernel
theorem dX12_fitsBy_46 : decode cX12_fitsBy 46 = .ok (.iload_n 1, 1) := by decide +kernel
theorem dX12_fitsBy_47 : decode cX12_fitsBy 47 = .ok (.iload_n 3, 1) := by decide +kernel
theorem dX12_fitsBy_48 : decode cX12_fitsBy 48 = .ok (.invokevirtual 190, 3) := by decide +kernel
theorem dX12_fitsBy_51 : decode cX12_fitsBy 51 = .ok (.ifCond .eq 5, 3) := by decide +kernel
theorem dX12_fitsBy_54 : decode cX12_fitsBy 54 = .ok (.iconst 0, 1) := by decide +kernel
theorem dX12_fitsBy_55 : decode cX12_fitsBy 55 = .ok (.ireturn, 1) := by decide +kernel
theorem dX12_fitsBy_56 : decode cX12_fitsBy 56 = .ok (.iconst 0, 1) := by decide +kernel
theorem dX12_fitsBy_57 : decode cX12_fitsBy 57 = .ok (.istore 4, 2) := by decide +kernel
theorem dX12_fitsBy_59 : decode cX12_fitsBy 59 = .ok (.iconst 0, 1) := by decide +kernel
theorem dX12_fitsBy_60 : decode cX12_fitsBy 60 = .ok (.istore 5, 2) := by decide +kernel
theorem dX12_fitsBy_62 : decode cX12_fitsBy 62 = .ok (.iconst 0, 1) := by decide +kernel
theorem dX12_fitsBy_63 : decode cX12_fitsBy 63 = .ok (.istore 6, 2) := by decide +kernel
theorem dX12_fitsBy_65 : decode cX12_fitsBy 65 = .ok (.iload 6, 2) := by decide +kernel
theorem dX12_fitsBy_67 : decode cX12_fitsBy 67 = .ok (.aload_n 0, 1) := by decide +kernel
theorem dX12_fitsBy_68 : decode cX12_fitsBy 68 = .ok (.getfield 123, 3) := by decide +kernel
theorem dX12_fitsBy_71 : decode cX12_fitsBy 71 = .ok (.if_icmp .ge 152, 3) := by decide +kernel
theorem dX12_fitsBy_74 : decode cX12_fitsBy 74 = .ok (.aload_n 0, 1) := by decide +kernel
theorem dX12_fitsBy_75 : decode cX12_fitsBy 75 = .ok (.getfield 60, 3) := by decide +kernel
theorem dX12_fitsBy_78 : decode cX12_fitsBy 78 = .ok (.bipush 12, 2) := by decide +kernel
theorem dX12_fitsBy_80 : decode cX12_fitsBy 80 = .ok (.iload_n 1, 1) := by decide +kernel
theorem dX12_fitsBy_81 : decode cX12_fitsBy 81 = .ok (.imul, 1) := by decide +kernel
theorem dX12_fitsBy_82 : decode cX12_fitsBy 82 = .ok (.iload 6, 2) := by decide +kernel
theorem dX12_fitsBy_84 : decode cX12_fitsBy 84 = .ok (.iadd, 1) := by decide +kernel
theorem dX12_fitsBy_85 : decode cX12_fitsBy 85 = .ok (.iaload, 1) := by decide +kernel
theorem dX12_fitsBy_86 : decode cX12_fitsBy 86 = .ok (.istore 7, 2) := by decide +kernel
theorem dX12_fitsBy_88 : decode cX12_fitsBy 88 = .ok (.aload_n 0, 1) := by decide +kernel
theorem dX12_fitsBy_89 : decode cX12_fitsBy 89 = .ok (.getfield 75, 3) := by decide +kernel
theorem dX12_fitsBy_92 : decode cX12_fitsBy 92 = .ok (.bipush 6, 2) := by decide +kernel
theorem dX12_fitsBy_94 : decode cX12_fitsBy 94 = .ok (.iload 6, 2) := by decide +kernel
theorem dX12_fitsBy_96 : decode cX12_fitsBy 96 = .ok (.imul, 1) := by decide +kernel
theorem dX12_fitsBy_97 : decode cX12_fitsBy 97 = .ok (.iload_n 2, 1) := by decide +kernel
theorem dX12_fitsBy_98 : decode cX12_fitsBy 98 = .ok (.iadd, 1) := by decide +kernel
theorem dX12_fitsBy_99 : decode cX12_fitsBy 99 = .ok (.baload, 1) := by decide +kernel
theorem dX12_fitsBy_100 : decode cX12_fitsBy 100 = .ok (.istore 8, 2) := by decide +kernel
theorem dX12_fitsBy_102 : decode cX12_fitsBy 102 = .ok (.iload 8, 2) := by decide +kernel
theorem dX12_fitsBy_104 : decode cX12_fitsBy 104 = .ok (.ifCond .ne 23, 3) := by decide +kernel
theorem dX12_fitsBy_107 : decode cX12_fitsBy 107 = .ok (.iload_n 3, 1) := by decide +kernel
theorem dX12_fitsBy_108 : decode cX12_fitsBy 108 = .ok (.iconst (-1), 1) := by decide +kernel
theorem dX12_fitsBy_109 : decode cX12_fitsBy 109 = .ok (.if_icmp .eq 22, 3) := by decide +kernel
theorem dX12_fitsBy_112 : decode cX12_fitsBy 112 = .ok (.aload_n 0, 1) := by decide +kernel
theorem dX12_fitsBy_113 : decode cX12_fitsBy 113 = .ok (.getfield 75, 3) := by decide +kernel
theorem dX12_fitsBy_116 : decode cX12_fitsBy 116 = .ok (.bipush 6, 2) := by decide +kernel
theorem dX12_fitsBy_118 : decode cX12_fitsBy 118 = .ok (.iload 6, 2) := by decide +kernel
theorem dX12_fitsBy_120 : decode cX12_fitsBy 120 = .ok (.imul, 1) := by decide +kernel
theorem dX12_fitsBy_121 : decode cX12_fitsBy 121 = .ok (.iload_n 3, 1) := by decide +kernel
theorem dX12_fitsBy_122 : decode cX12_fitsBy 122 = .ok (.iadd, 1) := by decide +kernel
theorem dX12_fitsBy_123 : decode cX12_fitsBy 123 = .ok (.baload, 1) := by decide +kernel
theorem dX12_fitsBy_124 : decode cX12_fitsBy 124 = .ok (.ifCond .eq 7, 3) := by decide +kernel
theorem dX12_fitsBy_127 : decode cX12_fitsBy 127 = .ok (.iconst 1, 1) := by decide +kernel
theorem dX12_fitsBy_128 : decode cX12_fitsBy 128 = .ok (.goto 4, 3) := by decide +kernel
theorem dX12_fitsBy_131 : decode cX12_fitsBy 131 = .ok (.iconst 0, 1) := by decide +kernel
theorem dX12_fitsBy_132 : decode cX12_fitsBy 132 = .ok (.istore 9, 2) := by decide +kernel
theorem dX12_fitsBy_134 : decode cX12_fitsBy 134 = .ok (.iload 7, 2) := by decide +kernel
theorem dX12_fitsBy_136 : decode cX12_fitsBy 136 = .ok (.iconst 1, 1) := by decide +kernel
theorem dX12_fitsBy_137 : decode cX12_fitsBy 137 = .ok (.if_icmp .ne 10, 3) := by decide +kernel
theorem dX12_fitsBy_140 : decode cX12_fitsBy 140 = .ok (.iload 9, 2) := by decide +kernel
theorem dX12_fitsBy_142 : decode cX12_fitsBy 142 = .ok (.ifCond .ne 5, 3) := by decide +kernel
theorem dX12_fitsBy_145 : decode cX12_fitsBy 145 = .ok (.iconst 0, 1) := by decide +kernel
theorem dX12_fitsBy_146 : decode cX12_fitsBy 146 = .ok (.ireturn, 1) := by decide +kernel
theorem dX12_fitsBy_147 : decode cX12_fitsBy 147 = .ok (.iload 6, 2) := by decide +kernel
theorem dX12_fitsBy_149 : decode cX12_fitsBy 149 = .ok (.aload_n 0, 1) := by decide +kernel
theorem dX12_fitsBy_150 : decode cX12_fitsBy 150 = .ok (.getfield 51, 3) := by decide +kernel
theorem dX12_fitsBy_153 : decode cX12_fitsBy 153 = .ok (.iload_n 1, 1) := by decide +kernel
theorem dX12_fitsBy_154 : decode cX12_fitsBy 154 = .ok (.iaload, 1) := by decide +kernel
theorem dX12_fitsBy_155 : decode cX12_fitsBy 155 = .ok (.if_icmp .ne 30, 3) := by decide +kernel
theorem dX12_fitsBy_158 : decode cX12_fitsBy 158 = .ok (.iload_n 3, 1) := by decide +kernel
theorem dX12_fitsBy_159 : decode cX12_fitsBy 159 = .ok (.iconst (-1), 1) := by decide +kernel
theorem dX12_fitsBy_160 : decode cX12_fitsBy 160 = .ok (.if_icmp .eq 25, 3) := by decide +kernel
theorem dX12_fitsBy_163 : decode cX12_fitsBy 163 = .ok (.iload 8, 2) := by decide +kernel
theorem dX12_fitsBy_165 : decode cX12_fitsBy 165 = .ok (.ifCond .eq 18, 3) := by decide +kernel
theorem dX12_fitsBy_168 : decode cX12_fitsBy 168 = .ok (.aload_n 0, 1) := by decide +kernel
theorem dX12_fitsBy_169 : decode cX12_fitsBy 169 = .ok (.getfield 75, 3) := by decide +kernel
theorem dX12_fitsBy_172 : decode cX12_fitsBy 172 = .ok (.bipush 6, 2) := by decide +kernel
theorem dX12_fitsBy_174 : decode cX12_fitsBy 174 = .ok (.iload 6, 2) := by decide +kernel
theorem dX12_fitsBy_176 : decode cX12_fitsBy 176 = .ok (.imul, 1) := by decide +kernel
theorem dX12_fitsBy_177 : decode cX12_fitsBy 177 = .ok (.iload_n 3, 1) := by decide +kernel
theorem dX12_fitsBy_178 : decode cX12_fitsBy 178 = .ok (.iadd, 1) := by decide +kernel
theorem dX12_fitsBy_179 : decode cX12_fitsBy 179 = .ok (.baload, 1) := by decide +kernel
theorem dX12_fitsBy_180 : decode cX12_fitsBy 180 = .ok (.ifCond .ne 5, 3) := by decide +kernel
theorem dX12_fitsBy_183 : decode cX12_fitsBy 183 = .ok (.iconst 0, 1) := by decide +kernel
theorem dX12_fitsBy_184 : decode cX12_fitsBy 184 = .ok (.ireturn, 1) := by decide +kernel
theorem dX12_fitsBy_185 : decode cX12_fitsBy 185 = .ok (.iload 7, 2) := by decide +kernel
theorem dX12_fitsBy_187 : decode cX12_fitsBy 187 = .ok (.iconst 3, 1) := by decide +kernel
theorem dX12_fitsBy_188 : decode cX12_fitsBy 188 = .ok (.if_icmp .ge 6, 3) := by decide +kernel
theorem dX12_fitsBy_191 : decode cX12_fitsBy 191 = .ok (.goto 26, 3) := by decide +kernel
theorem dX12_fitsBy_194 : decode cX12_fitsBy 194 = .ok (.iload 4, 2) := by decide +kernel
theorem dX12_fitsBy_196 : decode cX12_fitsBy 196 = .ok (.iconst 1, 1) := by decide +kernel
theorem dX12_fitsBy_197 : decode cX12_fitsBy 197 = .ok (.iload 7, 2) := by decide +kernel
theorem dX12_fitsBy_199 : decode cX12_fitsBy 199 = .ok (.ishl, 1) := by decide +kernel
theorem dX12_fitsBy_200 : decode cX12_fitsBy 200 = .ok (.ior, 1) := by decide +kernel
theorem dX12_fitsBy_201 : decode cX12_fitsBy 201 = .ok (.istore 4, 2) := by decide +kernel
theorem dX12_fitsBy_203 : decode cX12_fitsBy 203 = .ok (.iload 9, 2) := by decide +kernel
theorem dX12_fitsBy_205 : decode cX12_fitsBy 205 = .ok (.ifCond .eq 12, 3) := by decide +kernel
theorem dX12_fitsBy_208 : decode cX12_fitsBy 208 = .ok (.iload 5, 2) := by decide +kernel
theorem dX12_fitsBy_210 : decode cX12_fitsBy 210 = .ok (.iconst 1, 1) := by decide +kernel
theorem dX12_fitsBy_211 : decode cX12_fitsBy 211 = .ok (.iload 7, 2) := by decide +kernel
theorem dX12_fitsBy_213 : decode cX12_fitsBy 213 = .ok (.ishl, 1) := by decide +kernel
theorem dX12_fitsBy_214 : decode cX12_fitsBy 214 = .ok (.ior, 1) := by decide +kernel
theorem dX12_fitsBy_215 : decode cX12_fitsBy 215 = .ok (.istore 5, 2) := by decide +kernel
theorem dX12_fitsBy_217 : decode cX12_fitsBy 217 = .ok (.iinc 6 1, 3) := by decide +kernel
theorem dX12_fitsBy_220 : decode cX12_fitsBy 220 = .ok (.goto (-155), 3) := by decide +kernel
theorem dX12_fitsBy_223 : decode cX12_fitsBy 223 = .ok (.iload 4, 2) := by decide +kernel
theorem dX12_fitsBy_225 : decode cX12_fitsBy 225 = .ok (.iload 5, 2) := by decide +kernel
theorem dX12_fitsBy_227 : decode cX12_fitsBy 227 = .ok (.if_icmp .ne 7, 3) := by decide +kernel
theorem dX12_fitsBy_230 : decode cX12_fitsBy 230 = .ok (.iconst 1, 1) := by decide +kernel
theorem dX12_fitsBy_231 : decode cX12_fitsBy 231 = .ok (.goto 4, 3) := by decide +kernel
theorem dX12_fitsBy_234 : decode cX12_fitsBy 234 = .ok (.iconst 0, 1) := by decide +kernel
theorem dX12_fitsBy_235 : decode cX12_fitsBy 235 = .ok (.ireturn, 1) := by decide +kernel
theorem dX12_isPair_0 : decode cX12_isPair 0 = .ok (.iload_n 2, 1) := by decide +kernel
theorem dX12_isPair_1 : decode cX12_isPair 1 = .ok (.ifCond .lt 13, 3) := by decide +kernel
theorem dX12_isPair_4 : decode cX12_isPair 4 = .ok (.iload_n 2, 1) := by decide +kernel
theorem dX12_isPair_5 : decode cX12_isPair 5 = .ok (.aload_n 0, 1) := by decide +kernel
theorem dX12_isPair_6 : decode cX12_isPair 6 = .ok (.getfield 54, 3) := by decide +kernel
theorem dX12_isPair_9 : decode cX12_isPair 9 = .ok (.iload_n 1, 1) := by decide +kernel
theorem dX12_isPair_10 : decode cX12_isPair 10 = .ok (.iaload, 1) := by decide +kernel
theorem dX12_isPair_11 : decode cX12_isPair 11 = .ok (.if_icmp .lt 5, 3) := by decide +kernel
theorem dX12_isPair_14 : decode cX12_isPair 14 = .ok (.iconst 0, 1) := by decide +kernel
theorem dX12_isPair_15 : decode cX12_isPair 15 = .ok (.ireturn, 1) := by decide +kernel
theorem dX12_isPair_16 : decode cX12_isPair 16 = .ok (.aload_n 0, 1) := by decide +kernel
theorem dX12_isPair_17 : decode cX12_isPair 17 = .ok (.getfield 51, 3) := by decide +kernel
theorem dX12_isPair_20 : decode cX12_isPair 20 = .ok (.iload_n 1, 1) := by decide +kernel
theorem dX12_isPair_21 : decode cX12_isPair 21 = .ok (.iaload, 1) := by decide +kernel
theorem dX12_isPair_22 : decode cX12_isPair 22 = .ok (.iconst (-1), 1) := by decide +kernel
theorem dX12_isPair_23 : decode cX12_isPair 23 = .ok (.if_icmp .ne 16, 3) := by decide +kernel
theorem dX12_isPair_26 : decode cX12_isPair 26 = .ok (.iload_n 3, 1) := by decide +kernel
theorem dX12_isPair_27 : decode cX12_isPair 27 = .ok (.iconst (-1), 1) := by decide +kernel
theorem dX12_isPair_28 : decode cX12_isPair 28 = .ok (.if_icmp .ne 7, 3) := by decide +kernel
theorem dX12_isPair_31 : decode cX12_isPair 31 = .ok (.iconst 1, 1) := by decide +kernel
theorem dX12_isPair_32 : decode cX12_isPair 32 = .ok (.goto 27, 3) := by decide +kernel
theorem dX12_isPair_35 : decode cX12_isPair 35 = .ok (.iconst 0, 1) := by decide +kernel
theorem dX12_isPair_36 : decode cX12_isPair 36 = .ok (.goto 23, 3) := by decide +kernel
theorem dX12_isPair_39 : decode cX12_isPair 39 = .ok (.iload_n 2, 1) := by decide +kernel
theorem dX12_isPair_40 : decode cX12_isPair 40 = .ok (.iload_n 3, 1) := by decide +kernel
theorem dX12_isPair_41 : decode cX12_isPair 41 = .ok (.if_icmp .ge 17, 3) := by decide +kernel
theorem dX12_isPair_44 : decode cX12_isPair 44 = .ok (.iload_n 3, 1) := by decide +kernel
theorem dX12_isPair_45 : decode cX12_isPair 45 = .ok (.aload_n 0, 1) := by decide +kernel
theorem dX12_isPair_46 : decode cX12_isPair 46 = .ok (.getfield 54, 3) := by decide +kernel
theorem dX12_isPair_49 : decode cX12_isPair 49 = .ok (.iload_n 1, 1) := by decide +kernel
theorem dX12_isPair_50 : decode cX12_isPair 50 = .ok (.iaload, 1) := by decide +kernel
theorem dX12_isPair_51 : decode cX12_isPair 51 = .ok (.if_icmp .ge 7, 3) := by decide +kernel
theorem dX12_isPair_54 : decode cX12_isPair 54 = .ok (.iconst 1, 1) := by decide +kernel
theorem dX12_isPair_55 : decode cX12_isPair 55 = .ok (.goto 4, 3) := by decide +kernel
theorem dX12_isPair_58 : decode cX12_isPair 58 = .ok (.iconst 0, 1) := by decide +kernel
theorem dX12_isPair_59 : decode cX12_isPair 59 = .ok (.ireturn, 1) := by decide +kernel
theorem dX12_fits_0 : decode cX12_fits 0 = .ok (.aload_n 0, 1) := by decide +kernel
theorem dX12_fits_1 : decode cX12_fits 1 = .ok (.iload_n 1, 1) := by decide +kernel
theorem dX12_fits_2 : decode cX12_fits 2 = .ok (.invokevirtual 146, 3) := by decide +kernel
theorem dX12_fits_5 : decode cX12_fits 5 = .ok (.ifCond .eq 30, 3) := by decide +kernel
theorem dX12_fits_8 : decode cX12_fits 8 = .ok (.iload_n 2, 1) := by decide +kernel
theorem dX12_fits_9 : decode cX12_fits 9 = .ok (.invokestatic 149, 3) := by decide +kernel
theorem dX12_fits_12 : decode cX12_fits 12 = .ok (.ifCond .eq 23, 3) := by decide +kernel
theorem dX12_fits_15 : decode cX12_fits 15 = .ok (.aload_n 0, 1) := by decide +kernel
theorem dX12_fits_16 : decode cX12_fits 16 = .ok (.iload 5, 2) := by decide +kernel
theorem dX12_fits_18 : decode cX12_fits 18 = .ok (.invokevirtual 152, 3) := by decide +kernel
theorem dX12_fits_21 : decode cX12_fits 21 = .ok (.ifCond .eq 14, 3) := by decide +kernel
theorem dX12_fits_24 : decode cX12_fits 24 = .ok (.aload_n 0, 1) := by decide +kernel
theorem dX12_fits_25 : decode cX12_fits 25 = .ok (.iload_n 1, 1) := by decide +kernel
theorem dX12_fits_26 : decode cX12_fits 26 = .ok (.iload_n 3, 1) := by decide +kernel
theorem dX12_fits_27 : decode cX12_fits 27 = .ok (.iload 4, 2) := by decide +kernel
theorem dX12_fits_29 : decode cX12_fits 29 = .ok (.invokevirtual 211, 3) := by decide +kernel
theorem dX12_fits_32 : decode cX12_fits 32 = .ok (.ifCond .ne 5, 3) := by decide +kernel
theorem dX12_fits_35 : decode cX12_fits 35 = .ok (.iconst (-1), 1) := by decide +kernel
theorem dX12_fits_36 : decode cX12_fits 36 = .ok (.ireturn, 1) := by decide +kernel
theorem dX12_fits_37 : decode cX12_fits 37 = .ok (.aload_n 0, 1) := by decide +kernel
theorem dX12_fits_38 : decode cX12_fits 38 = .ok (.iload_n 2, 1) := by decide +kernel
theorem dX12_fits_39 : decode cX12_fits 39 = .ok (.iload 5, 2) := by decide +kernel
theorem dX12_fits_41 : decode cX12_fits 41 = .ok (.invokevirtual 214, 3) := by decide +kernel
theorem dX12_fits_44 : decode cX12_fits 44 = .ok (.aload_n 0, 1) := by decide +kernel
theorem dX12_fits_45 : decode cX12_fits 45 = .ok (.iload_n 1, 1) := by decide +kernel
theorem dX12_fits_46 : decode cX12_fits 46 = .ok (.invokevirtual 218, 3) := by decide +kernel
theorem dX12_fits_49 : decode cX12_fits 49 = .ok (.aload_n 0, 1) := by decide +kernel
theorem dX12_fits_50 : decode cX12_fits 50 = .ok (.iload_n 1, 1) := by decide +kernel
theorem dX12_fits_51 : decode cX12_fits 51 = .ok (.invokevirtual 201, 3) := by decide +kernel
theorem dX12_fits_54 : decode cX12_fits 54 = .ok (.aload_n 0, 1) := by decide +kernel
theorem dX12_fits_55 : decode cX12_fits 55 = .ok (.iload_n 1, 1) := by decide +kernel
theorem dX12_fits_56 : decode cX12_fits 56 = .ok (.iload_n 3, 1) := by decide +kernel
theorem dX12_fits_57 : decode cX12_fits 57 = .ok (.iload 4, 2) := by decide +kernel
theorem dX12_fits_59 : decode cX12_fits 59 = .ok (.invokevirtual 221, 3) := by decide +kernel
theorem dX12_fits_62 : decode cX12_fits 62 = .ok (.ifCond .eq 7, 3) := by decide +kernel
theorem dX12_fits_65 : decode cX12_fits 65 = .ok (.iconst 1, 1) := by decide +kernel
theorem dX12_fits_66 : decode cX12_fits 66 = .ok (.goto 4, 3) := by decide +kernel
theorem dX12_fits_69 : decode cX12_fits 69 = .ok (.iconst 0, 1) := by decide +kernel
theorem dX12_fits_70 : decode cX12_fits 70 = .ok (.ireturn, 1) := by decide +kernel
theorem dX12_lists_0 : decode cX12_lists 0 = .ok (.aload_n 0, 1) := by decide +kernel
theorem dX12_lists_1 : decode cX12_lists 1 = .ok (.getfield 84, 3) := by decide +kernel
theorem dX12_lists_4 : decode cX12_lists 4 = .ok (.iload_n 1, 1) := by decide +kernel
theorem dX12_lists_5 : decode cX12_lists 5 = .ok (.iconst 0, 1) := by decide +kernel
theorem dX12_lists_6 : decode cX12_lists 6 = .ok (.iastore, 1) := by decide +kernel
theorem dX12_lists_7 : decode cX12_lists 7 = .ok (.iconst 0, 1) := by decide +kernel
theorem dX12_lists_8 : decode cX12_lists 8 = .ok (.istore_n 2, 1) := by decide +kernel
theorem dX12_lists_9 : decode cX12_lists 9 = .ok (.iload_n 2, 1) := by decide +kernel
theorem dX12_lists_10 : decode cX12_lists 10 = .ok (.aload_n 0, 1) := by decide +kernel
theorem dX12_lists_11 : decode cX12_lists 11 = .ok (.getfield 54, 3) := by decide +kernel
theorem dX12_lists_14 : decode cX12_lists 14 = .ok (.iload_n 1, 1) := by decide +kernel
theorem dX12_lists_15 : decode cX12_lists 15 = .ok (.iaload, 1) := by decide +kernel
theorem dX12_lists_16 : decode cX12_lists 16 = .ok (.if_icmp .ge 95, 3) := by decide +kernel
theorem dX12_lists_19 : decode cX12_lists 19 = .ok (.aload_n 0, 1) := by decide +kernel
theorem dX12_lists_20 : decode cX12_lists 20 = .ok (.getfield 51, 3) := by decide +kernel
theorem dX12_lists_23 : decode cX12_lists 23 = .ok (.iload_n 1, 1) := by decide +kernel
theorem dX12_lists_24 : decode cX12_lists 24 = .ok (.iaload, 1) := by decide +kernel
theorem dX12_lists_25 : decode cX12_lists 25 = .ok (.iconst (-1), 1) := by decide +kernel
theorem dX12_lists_26 : decode cX12_lists 26 = .ok (.if_icmp .ne 7, 3) := by decide +kernel
theorem dX12_lists_29 : decode cX12_lists 29 = .ok (.iconst (-1), 1) := by decide +kernel
theorem dX12_lists_30 : decode cX12_lists 30 = .ok (.goto 6, 3) := by decide +kernel
theorem dX12_lists_33 : decode cX12_lists 33 = .ok (.iload_n 2, 1) := by decide +kernel
theorem dX12_lists_34 : decode cX12_lists 34 = .ok (.iconst 1, 1) := by decide +kernel
theorem dX12_lists_35 : decode cX12_lists 35 = .ok (.iadd, 1) := by decide +kernel
theorem dX12_lists_36 : decode cX12_lists 36 = .ok (.istore_n 3, 1) := by decide +kernel
theorem dX12_lists_37 : decode cX12_lists 37 = .ok (.iload_n 3, 1) := by decide +kernel
theorem dX12_lists_38 : decode cX12_lists 38 = .ok (.aload_n 0, 1) := by decide +kernel
theorem dX12_lists_39 : decode cX12_lists 39 = .ok (.getfield 54, 3) := by decide +kernel
theorem dX12_lists_42 : decode cX12_lists 42 = .ok (.iload_n 1, 1) := by decide +kernel
theorem dX12_lists_43 : decode cX12_lists 43 = .ok (.iaload, 1) := by decide +kernel
theorem dX12_lists_44 : decode cX12_lists 44 = .ok (.if_icmp .ge 61, 3) := by decide +kernel
theorem dX12_lists_47 : decode cX12_lists 47 = .ok (.bipush 15, 2) := by decide +kernel
theorem dX12_lists_49 : decode cX12_lists 49 = .ok (.iload_n 1, 1) := by decide +kernel
theorem dX12_lists_50 : decode cX12_lists 50 = .ok (.imul, 1) := by decide +kernel
theorem dX12_lists_51 : decode cX12_lists 51 = .ok (.aload_n 0, 1) := by decide +kernel
theorem dX12_lists_52 : decode cX12_lists 52 = .ok (.getfield 84, 3) := by decide +kernel
theorem dX12_lists_55 : decode cX12_lists 55 = .ok (.iload_n 1, 1) := by decide +kernel
theorem dX12_lists_56 : decode cX12_lists 56 = .ok (.iaload, 1) := by decide +kernel
theorem dX12_lists_57 : decode cX12_lists 57 = .ok (.iadd, 1) := by decide +kernel
theorem dX12_lists_58 : decode cX12_lists 58 = .ok (.istore 4, 2) := by decide +kernel
theorem dX12_lists_60 : decode cX12_lists 60 = .ok (.aload_n 0, 1) := by decide +kernel
theorem dX12_lists_61 : decode cX12_lists 61 = .ok (.getfield 78, 3) := by decide +kernel
theorem dX12_lists_64 : decode cX12_lists 64 = .ok (.iload 4, 2) := by decide +kernel
theorem dX12_lists_66 : decode cX12_lists 66 = .ok (.iload_n 2, 1) := by decide +kernel
theorem dX12_lists_67 : decode cX12_lists 67 = .ok (.iastore, 1) := by decide +kernel
theorem dX12_lists_68 : decode cX12_lists 68 = .ok (.aload_n 0, 1) := by decide +kernel
theorem dX12_lists_69 : decode cX12_lists 69 = .ok (.getfield 81, 3) := by decide +kernel
theorem dX12_lists_72 : decode cX12_lists 72 = .ok (.iload 4, 2) := by decide +kernel
theorem dX12_lists_74 : decode cX12_lists 74 = .ok (.iload_n 3, 1) := by decide +kernel
theorem dX12_lists_75 : decode cX12_lists 75 = .ok (.iastore, 1) := by decide +kernel
theorem dX12_lists_76 : decode cX12_lists 76 = .ok (.aload_n 0, 1) := by decide +kernel
theorem dX12_lists_77 : decode cX12_lists 77 = .ok (.getfield 84, 3) := by decide +kernel
theorem dX12_lists_80 : decode cX12_lists 80 = .ok (.iload_n 1, 1) := by decide +kernel
theorem dX12_lists_81 : decode cX12_lists 81 = .ok (.dup2, 1) := by decide +kernel
theorem dX12_lists_82 : decode cX12_lists 82 = .ok (.iaload, 1) := by decide +kernel
theorem dX12_lists_83 : decode cX12_lists 83 = .ok (.iconst 1, 1) := by decide +kernel
theorem dX12_lists_84 : decode cX12_lists 84 = .ok (.iadd, 1) := by decide +kernel
theorem dX12_lists_85 : decode cX12_lists 85 = .ok (.iastore, 1) := by decide +kernel
theorem dX12_lists_86 : decode cX12_lists 86 = .ok (.aload_n 0, 1) := by decide +kernel
theorem dX12_lists_87 : decode cX12_lists 87 = .ok (.getfield 51, 3) := by decide +kernel
theorem dX12_lists_90 : decode cX12_lists 90 = .ok (.iload_n 1, 1) := by decide +kernel
theorem dX12_lists_91 : decode cX12_lists 91 = .ok (.iaload, 1) := by decide +kernel
theorem dX12_lists_92 : decode cX12_lists 92 = .ok (.iconst (-1), 1) := by decide +kernel
theorem dX12_lists_93 : decode cX12_lists 93 = .ok (.if_icmp .ne 6, 3) := by decide +kernel
theorem dX12_lists_96 : decode cX12_lists 96 = .ok (.goto 9, 3) := by decide +kernel
theorem dX12_lists_99 : decode cX12_lists 99 = .ok (.iinc 3 1, 3) := by decide +kernel
theorem dX12_lists_102 : decode cX12_lists 102 = .ok (.goto (-65), 3) := by decide +kernel
theorem dX12_lists_105 : decode cX12_lists 105 = .ok (.iinc 2 1, 3) := by decide +kernel
theorem dX12_lists_108 : decode cX12_lists 108 = .ok (.goto (-99), 3) := by decide +kernel
theorem dX12_lists_111 : decode cX12_lists 111 = .ok (.return_, 1) := by decide +kernel
theorem dX12_sorts_0 : decode cX12_sorts 0 = .ok (.iconst 0, 1) := by decide +kernel
theorem dX12_sorts_1 : decode cX12_sorts 1 = .ok (.istore_n 1, 1) := by decide +kernel
theorem dX12_sorts_2 : decode cX12_sorts 2 = .ok (.iload_n 1, 1) := by decide +kernel
theorem dX12_sorts_3 : decode cX12_sorts 3 = .ok (.aload_n 0, 1) := by decide +kernel
theorem dX12_sorts_4 : decode cX12_sorts 4 = .ok (.getfield 123, 3) := by decide +kernel
theorem dX12_sorts_7 : decode cX12_sorts 7 = .ok (.if_icmp .ge 64, 3) := by decide +kernel
theorem dX12_sorts_10 : decode cX12_sorts 10 = .ok (.iload_n 1, 1) := by decide +kernel
theorem dX12_sorts_11 : decode cX12_sorts 11 = .ok (.istore_n 2, 1) := by decide +kernel
theorem dX12_sorts_12 : decode cX12_sorts 12 = .ok (.iload_n 2, 1) := by decide +kernel
theorem dX12_sorts_13 : decode cX12_sorts 13 = .ok (.ifCond .le 40, 3) := by decide +kernel
theorem dX12_sorts_16 : decode cX12_sorts 16 = .ok (.aload_n 0, 1) := by decide +kernel
theorem dX12_sorts_17 : decode cX12_sorts 17 = .ok (.getfield 90, 3) := by decide +kernel
theorem dX12_sorts_20 : decode cX12_sorts 20 = .ok (.iload_n 2, 1) := by decide +kernel
theorem dX12_sorts_21 : decode cX12_sorts 21 = .ok (.iconst 1, 1) := by decide +kernel
theorem dX12_sorts_22 : decode cX12_sorts 22 = .ok (.isub, 1) := by decide +kernel
theorem dX12_sorts_23 : decode cX12_sorts 23 = .ok (.iaload, 1) := by decide +kernel
theorem dX12_sorts_24 : decode cX12_sorts 24 = .ok (.aload_n 0, 1) := by decide +kernel
theorem dX12_sorts_25 : decode cX12_sorts 25 = .ok (.getfield 87, 3) := by decide +kernel
theorem dX12_sorts_28 : decode cX12_sorts 28 = .ok (.iload_n 1, 1) := by decide +kernel
theorem dX12_sorts_29 : decode cX12_sorts 29 = .ok (.iaload, 1) := by decide +kernel
theorem dX12_sorts_30 : decode cX12_sorts 30 = .ok (.if_icmp .ge 23, 3) := by decide +kernel
theorem dX12_sorts_33 : decode cX12_sorts 33 = .ok (.aload_n 0, 1) := by decide +kernel
theorem dX12_sorts_34 : decode cX12_sorts 34 = .ok (.getfield 90, 3) := by decide +kernel
theorem dX12_sorts_37 : decode cX12_sorts 37 = .ok (.iload_n 2, 1) := by decide +kernel
theorem dX12_sorts_38 : decode cX12_sorts 38 = .ok (.aload_n 0, 1) := by decide +kernel
theorem dX12_sorts_39 : decode cX12_sorts 39 = .ok (.getfield 90, 3) := by decide +kernel
theorem dX12_sorts_42 : decode cX12_sorts 42 = .ok (.iload_n 2, 1) := by decide +kernel
theorem dX12_sorts_43 : decode cX12_sorts 43 = .ok (.iconst 1, 1) := by decide +kernel
theorem dX12_sorts_44 : decode cX12_sorts 44 = .ok (.isub, 1) := by decide +kernel
theorem dX12_sorts_45 : decode cX12_sorts 45 = .ok (.iaload, 1) := by decide +kernel
theorem dX12_sorts_46 : decode cX12_sorts 46 = .ok (.iastore, 1) := by decide +kernel
theorem dX12_sorts_47 : decode cX12_sorts 47 = .ok (.iinc 2 (-1), 3) := by decide +kernel
theorem dX12_sorts_50 : decode cX12_sorts 50 = .ok (.goto (-38), 3) := by decide +kernel
theorem dX12_sorts_53 : decode cX12_sorts 53 = .ok (.aload_n 0, 1) := by decide +kernel
theorem dX12_sorts_54 : decode cX12_sorts 54 = .ok (.getfield 90, 3) := by decide +kernel
theorem dX12_sorts_57 : decode cX12_sorts 57 = .ok (.iload_n 2, 1) := by decide +kernel
theorem dX12_sorts_58 : decode cX12_sorts 58 = .ok (.aload_n 0, 1) := by decide +kernel
theorem dX12_sorts_59 : decode cX12_sorts 59 = .ok (.getfield 87, 3) := by decide +kernel
theorem dX12_sorts_62 : decode cX12_sorts 62 = .ok (.iload_n 1, 1) := by decide +kernel
theorem dX12_sorts_63 : decode cX12_sorts 63 = .ok (.iaload, 1) := by decide +kernel
theorem dX12_sorts_64 : decode cX12_sorts 64 = .ok (.iastore, 1) := by decide +kernel
theorem dX12_sorts_65 : decode cX12_sorts 65 = .ok (.iinc 1 1, 3) := by decide +kernel
theorem dX12_sorts_68 : decode cX12_sorts 68 = .ok (.goto (-66), 3) := by decide +kernel
theorem dX12_sorts_71 : decode cX12_sorts 71 = .ok (.return_, 1) := by decide +kernel
theorem dX12_isLess_0 : decode cX12_isLess 0 = .ok (.iconst 0, 1) := by decide +kernel
theorem dX12_isLess_1 : decode cX12_isLess 1 = .ok (.istore_n 1, 1) := by decide +kernel
theorem dX12_isLess_2 : decode cX12_isLess 2 = .ok (.iload_n 1, 1) := by decide +kernel
theorem dX12_isLess_3 : decode cX12_isLess 3 = .ok (.aload_n 0, 1) := by decide +kernel
theorem dX12_isLess_4 : decode cX12_isLess 4 = .ok (.getfield 123, 3) := by decide +kernel
theorem dX12_isLess_7 : decode cX12_isLess 7 = .ok (.if_icmp .ge 45, 3) := by decide +kernel
theorem dX12_isLess_10 : decode cX12_isLess 10 = .ok (.aload_n 0, 1) := by decide +kernel
theorem dX12_isLess_11 : decode cX12_isLess 11 = .ok (.getfield 90, 3) := by decide +kernel
theorem dX12_isLess_14 : decode cX12_isLess 14 = .ok (.iload_n 1, 1) := by decide +kernel
theorem dX12_isLess_15 : decode cX12_isLess 15 = .ok (.iaload, 1) := by decide +kernel
theorem dX12_isLess_16 : decode cX12_isLess 16 = .ok (.aload_n 0, 1) := by decide +kernel
theorem dX12_isLess_17 : decode cX12_isLess 17 = .ok (.getfield 93, 3) := by decide +kernel
theorem dX12_isLess_20 : decode cX12_isLess 20 = .ok (.iload_n 1, 1) := by decide +kernel
theorem dX12_isLess_21 : decode cX12_isLess 21 = .ok (.iaload, 1) := by decide +kernel
theorem dX12_isLess_22 : decode cX12_isLess 22 = .ok (.if_icmp .eq 24, 3) := by decide +kernel
theorem dX12_isLess_25 : decode cX12_isLess 25 = .ok (.aload_n 0, 1) := by decide +kernel
theorem dX12_isLess_26 : decode cX12_isLess 26 = .ok (.getfield 90, 3) := by decide +kernel
theorem dX12_isLess_29 : decode cX12_isLess 29 = .ok (.iload_n 1, 1) := by decide +kernel
theorem dX12_isLess_30 : decode cX12_isLess 30 = .ok (.iaload, 1) := by decide +kernel
theorem dX12_isLess_31 : decode cX12_isLess 31 = .ok (.aload_n 0, 1) := by decide +kernel
theorem dX12_isLess_32 : decode cX12_isLess 32 = .ok (.getfield 93, 3) := by decide +kernel
theorem dX12_isLess_35 : decode cX12_isLess 35 = .ok (.iload_n 1, 1) := by decide +kernel
theorem dX12_isLess_36 : decode cX12_isLess 36 = .ok (.iaload, 1) := by decide +kernel
theorem dX12_isLess_37 : decode cX12_isLess 37 = .ok (.if_icmp .ge 7, 3) := by decide +kernel
theorem dX12_isLess_40 : decode cX12_isLess 40 = .ok (.iconst 1, 1) := by decide +kernel
theorem dX12_isLess_41 : decode cX12_isLess 41 = .ok (.goto 4, 3) := by decide +kernel
theorem dX12_isLess_44 : decode cX12_isLess 44 = .ok (.iconst 0, 1) := by decide +kernel
theorem dX12_isLess_45 : decode cX12_isLess 45 = .ok (.ireturn, 1) := by decide +kernel
theorem dX12_isLess_46 : decode cX12_isLess 46 = .ok (.iinc 1 1, 3) := by decide +kernel
theorem dX12_isLess_49 : decode cX12_isLess 49 = .ok (.goto (-47), 3) := by decide +kernel
theorem dX12_isLess_52 : decode cX12_isLess 52 = .ok (.iconst 0, 1) := by decide +kernel
theorem dX12_isLess_53 : decode cX12_isLess 53 = .ok (.ireturn, 1) := by decide +kernel
theorem dX12_isBest_0 : decode cX12_isBest 0 = .ok (.iconst 0, 1) := by decide +kernel
theorem dX12_isBest_1 : decode cX12_isBest 1 = .ok (.istore_n 1, 1) := by decide +kernel
theorem dX12_isBest_2 : decode cX12_isBest 2 = .ok (.iload_n 1, 1) := by decide +kernel
theorem dX12_isBest_3 : decode cX12_isBest 3 = .ok (.aload_n 0, 1) := by decide +kernel
theorem dX12_isBest_4 : decode cX12_isBest 4 = .ok (.getfield 123, 3) := by decide +kernel
theorem dX12_isBest_7 : decode cX12_isBest 7 = .ok (.if_icmp .ge 21, 3) := by decide +kernel
theorem dX12_isBest_10 : decode cX12_isBest 10 = .ok (.aload_n 0, 1) := by decide +kernel
theorem dX12_isBest_11 : decode cX12_isBest 11 = .ok (.getfield 93, 3) := by decide +kernel
theorem dX12_isBest_14 : decode cX12_isBest 14 = .ok (.iload_n 1, 1) := by decide +kernel
theorem dX12_isBest_15 : decode cX12_isBest 15 = .ok (.aload_n 0, 1) := by decide +kernel
theorem dX12_isBest_16 : decode cX12_isBest 16 = .ok (.getfield 90, 3) := by decide +kernel
theorem dX12_isBest_19 : decode cX12_isBest 19 = .ok (.iload_n 1, 1) := by decide +kernel
theorem dX12_isBest_20 : decode cX12_isBest 20 = .ok (.iaload, 1) := by decide +kernel
theorem dX12_isBest_21 : decode cX12_isBest 21 = .ok (.iastore, 1) := by decide +kernel
theorem dX12_isBest_22 : decode cX12_isBest 22 = .ok (.iinc 1 1, 3) := by decide +kernel
theorem dX12_isBest_25 : decode cX12_isBest 25 = .ok (.goto (-23), 3) := by decide +kernel
theorem dX12_isBest_28 : decode cX12_isBest 28 = .ok (.return_, 1) := by decide +kernel
theorem dX12_priceOf_0 : decode cX12_priceOf 0 = .ok (.iconst 0, 1) := by decide +kernel
theorem dX12_priceOf_1 : decode cX12_priceOf 1 = .ok (.istore 6, 2) := by decide +kernel
theorem dX12_priceOf_3 : decode cX12_priceOf 3 = .ok (.iload 5, 2) := by decide +kernel
theorem dX12_priceOf_5 : decode cX12_priceOf 5 = .ok (.iconst 1, 1) := by decide +kernel
theorem dX12_priceOf_6 : decode cX12_priceOf 6 = .ok (.iand, 1) := by decide +kernel
theorem dX12_priceOf_7 : decode cX12_priceOf 7 = .ok (.iconst 1, 1) := by decide +kernel
theorem dX12_priceOf_8 : decode cX12_priceOf 8 = .ok (.if_icmp .ne 29, 3) := by decide +kernel
theorem dX12_priceOf_11 : decode cX12_priceOf 11 = .ok (.iload 6, 2) := by decide +kernel
theorem dX12_priceOf_13 : decode cX12_priceOf 13 = .ok (.aload_n 0, 1) := by decide +kernel
theorem dX12_priceOf_14 : decode cX12_priceOf 14 = .ok (.iload_n 1, 1) := by decide +kernel
theorem dX12_priceOf_15 : decode cX12_priceOf 15 = .ok (.aload_n 0, 1) := by decide +kernel
theorem dX12_priceOf_16 : decode cX12_priceOf 16 = .ok (.iload_n 2, 1) := by decide +kernel
theorem dX12_priceOf_17 : decode cX12_priceOf 17 = .ok (.iload_n 3, 1) := by decide +kernel
theorem dX12_priceOf_18 : decode cX12_priceOf 18 = .ok (.invokevirtual 184, 3) := by decide +kernel
theorem dX12_priceOf_21 : decode cX12_priceOf 21 = .ok (.aload_n 0, 1) := by decide +kernel
theorem dX12_priceOf_22 : decode cX12_priceOf 22 = .ok (.getfield 45, 3) := by decide +kernel
theorem dX12_priceOf_25 : decode cX12_priceOf 25 = .ok (.iload_n 2, 1) := by decide +kernel
theorem dX12_priceOf_26 : decode cX12_priceOf 26 = .ok (.iaload, 1) := by decide +kernel
theorem dX12_priceOf_27 : decode cX12_priceOf 27 = .ok (.aload_n 0, 1) := by decide +kernel
theorem dX12_priceOf_28 : decode cX12_priceOf 28 = .ok (.getfield 187, 3) := by decide +kernel
theorem dX12_priceOf_31 : decode cX12_priceOf 31 = .ok (.invokevirtual 178, 3) := by decide +kernel
theorem dX12_priceOf_34 : decode cX12_priceOf 34 = .ok (.iadd, 1) := by decide +kernel
theorem dX12_priceOf_35 : decode cX12_priceOf 35 = .ok (.istore 6, 2) := by decide +kernel
theorem dX12_priceOf_37 : decode cX12_priceOf 37 = .ok (.iload 5, 2) := by decide +kernel
theorem dX12_priceOf_39 : decode cX12_priceOf 39 = .ok (.iconst 2, 1) := by decide +kernel
theorem dX12_priceOf_40 : decode cX12_priceOf 40 = .ok (.iand, 1) := by decide +kernel
theorem dX12_priceOf_41 : decode cX12_priceOf 41 = .ok (.iconst 2, 1) := by decide +kernel
theorem dX12_priceOf_42 : decode cX12_priceOf 42 = .ok (.if_icmp .ne 30, 3) := by decide +kernel
theorem dX12_priceOf_45 : decode cX12_priceOf 45 = .ok (.iload 6, 2) := by decide +kernel
theorem dX12_priceOf_47 : decode cX12_priceOf 47 = .ok (.aload_n 0, 1) := by decide +kernel
theorem dX12_priceOf_48 : decode cX12_priceOf 48 = .ok (.iload_n 1, 1) := by decide +kernel
theorem dX12_priceOf_49 : decode cX12_priceOf 49 = .ok (.aload_n 0, 1) := by decide +kernel
theorem dX12_priceOf_50 : decode cX12_priceOf 50 = .ok (.iload_n 2, 1) := by decide +kernel
theorem dX12_priceOf_51 : decode cX12_priceOf 51 = .ok (.iload 4, 2) := by decide +kernel
theorem dX12_priceOf_53 : decode cX12_priceOf 53 = .ok (.invokevirtual 184, 3) := by decide +kernel
theorem dX12_priceOf_56 : decode cX12_priceOf 56 = .ok (.aload_n 0, 1) := by decide +kernel
theorem dX12_priceOf_57 : decode cX12_priceOf 57 = .ok (.getfield 45, 3) := by decide +kernel
theorem dX12_priceOf_60 : decode cX12_priceOf 60 = .ok (.iload_n 2, 1) := by decide +kernel
theorem dX12_priceOf_61 : decode cX12_priceOf 61 = .ok (.iaload, 1) := by decide +kernel
theorem dX12_priceOf_62 : decode cX12_priceOf 62 = .ok (.aload_n 0, 1) := by decide +kernel
theorem dX12_priceOf_63 : decode cX12_priceOf 63 = .ok (.getfield 187, 3) := by decide +kernel
theorem dX12_priceOf_66 : decode cX12_priceOf 66 = .ok (.invokevirtual 178, 3) := by decide +kernel
theorem dX12_priceOf_69 : decode cX12_priceOf 69 = .ok (.iadd, 1) := by decide +kernel
theorem dX12_priceOf_70 : decode cX12_priceOf 70 = .ok (.istore 6, 2) := by decide +kernel
theorem dX12_priceOf_72 : decode cX12_priceOf 72 = .ok (.iload 6, 2) := by decide +kernel
theorem dX12_priceOf_74 : decode cX12_priceOf 74 = .ok (.ireturn, 1) := by decide +kernel
theorem dX12_plan_0 : decode cX12_plan 0 = .ok (.aload_n 0, 1) := by decide +kernel
theorem dX12_plan_1 : decode cX12_plan 1 = .ok (.iload_n 1, 1) := by decide +kernel
theorem dX12_plan_2 : decode cX12_plan 2 = .ok (.invokevirtual 146, 3) := by decide +kernel
theorem dX12_plan_5 : decode cX12_plan 5 = .ok (.ifCond .eq 49, 3) := by decide +kernel
theorem dX12_plan_8 : decode cX12_plan 8 = .ok (.aload_n 0, 1) := by decide +kernel
theorem dX12_plan_9 : decode cX12_plan 9 = .ok (.iload 4, 2) := by decide +kernel
theorem dX12_plan_11 : decode cX12_plan 11 = .ok (.invokevirtual 152, 3) := by decide +kernel
theorem dX12_plan_14 : decode cX12_plan 14 = .ok (.ifCond .eq 40, 3) := by decide +kernel
theorem dX12_plan_17 : decode cX12_plan 17 = .ok (.iload_n 2, 1) := by decide +kernel
theorem dX12_plan_18 : decode cX12_plan 18 = .ok (.ifCond .lt 36, 3) := by decide +kernel
theorem dX12_plan_21 : decode cX12_plan 21 = .ok (.iload_n 2, 1) := by decide +kernel
theorem dX12_plan_22 : decode cX12_plan 22 = .ok (.iload_n 3, 1) := by decide +kernel
theorem dX12_plan_23 : decode cX12_plan 23 = .ok (.if_icmp .ge 31, 3) := by decide +kernel
theorem dX12_plan_26 : decode cX12_plan 26 = .ok (.iload_n 3, 1) := by decide +kernel
theorem dX12_plan_27 : decode cX12_plan 27 = .ok (.bipush 52, 2) := by decide +kernel
theorem dX12_plan_29 : decode cX12_plan 29 = .ok (.if_icmp .gt 25, 3) := by decide +kernel
theorem dX12_plan_32 : decode cX12_plan 32 = .ok (.iload_n 3, 1) := by decide +kernel
theorem dX12_plan_33 : decode cX12_plan 33 = .ok (.iload_n 2, 1) := by decide +kernel
theorem dX12_plan_34 : decode cX12_plan 34 = .ok (.isub, 1) := by decide +kernel
theorem dX12_plan_35 : decode cX12_plan 35 = .ok (.aload_n 0, 1) := by decide +kernel
theorem dX12_plan_36 : decode cX12_plan 36 = .ok (.getfield 51, 3) := by decide +kernel
theorem dX12_plan_39 : decode cX12_plan 39 = .ok (.iload_n 1, 1) := by decide +kernel
theorem dX12_plan_40 : decode cX12_plan 40 = .ok (.iaload, 1) := by decide +kernel
theorem dX12_plan_41 : decode cX12_plan 41 = .ok (.iconst (-1), 1) := by decide +kernel
theorem dX12_plan_42 : decode cX12_plan 42 = .ok (.if_icmp .ne 8, 3) := by decide +kernel
theorem dX12_plan_45 : decode cX12_plan 45 = .ok (.bipush 6, 2) := by decide +kernel
theorem dX12_plan_47 : decode cX12_plan 47 = .ok (.goto 4, 3) := by decide +kernel
theorem dX12_plan_50 : decode cX12_plan 50 = .ok (.iconst 4, 1) := by decide +kernel
theorem dX12_plan_51 : decode cX12_plan 51 = .ok (.if_icmp .le 6, 3) := by decide +kernel
theorem dX12_plan_54 : decode cX12_plan 54 = .ok (.bipush (-2), 2) := by decide +kernel
theorem dX12_plan_56 : decode cX12_plan 56 = .ok (.ireturn, 1) := by decide +kernel
theorem dX12_plan_57 : decode cX12_plan 57 = .ok (.aload_n 0, 1) := by decide +kernel
theorem dX12_plan_58 : decode cX12_plan 58 = .ok (.iload_n 1, 1) := by decide +kernel
theorem dX12_plan_59 : decode cX12_plan 59 = .ok (.invokevirtual 224, 3) := by decide +kernel
theorem dX12_plan_62 : decode cX12_plan 62 = .ok (.aload_n 0, 1) := by decide +kernel
theorem dX12_plan_63 : decode cX12_plan 63 = .ok (.iconst 0, 1) := by decide +kernel
theorem dX12_plan_64 : decode cX12_plan 64 = .ok (.putfield 227, 3) := by decide +kernel
theorem dX12_plan_67 : decode cX12_plan 67 = .ok (.aload_n 0, 1) := by decide +kernel
theorem dX12_plan_68 : decode cX12_plan 68 = .ok (.getfield 84, 3) := by decide +kernel
theorem dX12_plan_71 : decode cX12_plan 71 = .ok (.iload_n 1, 1) := by decide +kernel
theorem dX12_plan_72 : decode cX12_plan 72 = .ok (.iaload, 1) := by decide +kernel
theorem dX12_plan_73 : decode cX12_plan 73 = .ok (.istore 5, 2) := by decide +kernel
theorem dX12_plan_75 : decode cX12_plan 75 = .ok (.iload_n 3, 1) := by decide +kernel
theorem dX12_plan_76 : decode cX12_plan 76 = .ok (.iload_n 2, 1) := by decide +kernel
theorem dX12_plan_77 : decode cX12_plan 77 = .ok (.isub, 1) := by decide +kernel
theorem dX12_plan_78 : decode cX12_plan 78 = .ok (.istore 6, 2) := by decide +kernel
theorem dX12_plan_80 : decode cX12_plan 80 = .ok (.iconst 0, 1) := by decide +kernel
theorem dX12_plan_81 : decode cX12_plan 81 = .ok (.istore 7, 2) := by decide +kernel
theorem dX12_plan_83 : decode cX12_plan 83 = .ok (.iload 7, 2) := by decide +kernel
theorem dX12_plan_85 : decode cX12_plan 85 = .ok (.iload 6, 2) := by decide +kernel
theorem dX12_plan_87 : decode cX12_plan 87 = .ok (.if_icmp .ge 224, 3) := by decide +kernel
theorem dX12_plan_90 : decode cX12_plan 90 = .ok (.aload_n 0, 1) := by decide +kernel
theorem dX12_plan_91 : decode cX12_plan 91 = .ok (.iload_n 2, 1) := by decide +kernel
theorem dX12_plan_92 : decode cX12_plan 92 = .ok (.iload 7, 2) := by decide +kernel
theorem dX12_plan_94 : decode cX12_plan 94 = .ok (.iadd, 1) := by decide +kernel
theorem dX12_plan_95 : decode cX12_plan 95 = .ok (.iload 4, 2) := by decide +kernel
theorem dX12_plan_97 : decode cX12_plan 97 = .ok (.invokevirtual 214, 3) := by decide +kernel
theorem dX12_plan_100 : decode cX12_plan 100 = .ok (.aload_n 0, 1) := by decide +kernel
theorem dX12_plan_101 : decode cX12_plan 101 = .ok (.iload_n 1, 1) := by decide +kernel
theorem dX12_plan_102 : decode cX12_plan 102 = .ok (.invokevirtual 218, 3) := by decide +kernel
theorem dX12_plan_105 : decode cX12_plan 105 = .ok (.aload_n 0, 1) := by decide +kernel
theorem dX12_plan_106 : decode cX12_plan 106 = .ok (.iload_n 1, 1) := by decide +kernel
theorem dX12_plan_107 : decode cX12_plan 107 = .ok (.invokevirtual 201, 3) := by decide +kernel
theorem dX12_plan_110 : decode cX12_plan 110 = .ok (.iconst 0, 1) := by decide +kernel
theorem dX12_plan_111 : decode cX12_plan 111 = .ok (.istore 8, 2) := by decide +kernel
theorem dX12_plan_113 : decode cX12_plan 113 = .ok (.iconst 0, 1) := by decide +kernel
theorem dX12_plan_114 : decode cX12_plan 114 = .ok (.istore 9, 2) := by decide +kernel
theorem dX12_plan_116 : decode cX12_plan 116 = .ok (.iload 9, 2) := by decide +kernel
theorem dX12_plan_118 : decode cX12_plan 118 = .ok (.iload 5, 2) := by decide +kernel
theorem dX12_plan_120 : decode cX12_plan 120 = .ok (.if_icmp .ge 166, 3) := by decide +kernel
theorem dX12_plan_123 : decode cX12_plan 123 = .ok (.aload_n 0, 1) := by decide +kernel
theorem dX12_plan_124 : decode cX12_plan 124 = .ok (.getfield 78, 3) := by decide +kernel
theorem dX12_plan_127 : decode cX12_plan 127 = .ok (.bipush 15, 2) := by decide +kernel
theorem dX12_plan_129 : decode cX12_plan 129 = .ok (.iload_n 1, 1) := by decide +kernel
theorem dX12_plan_130 : decode cX12_plan 130 = .ok (.imul, 1) := by decide +kernel
theorem dX12_plan_131 : decode cX12_plan 131 = .ok (.iload 9, 2) := by decide +kernel
theorem dX12_plan_133 : decode cX12_plan 133 = .ok (.iadd, 1) := by decide +kernel
theorem dX12_plan_134 : decode cX12_plan 134 = .ok (.iaload, 1) := by decide +kernel
theorem dX12_plan_135 : decode cX12_plan 135 = .ok (.istore 10, 2) := by decide +kernel
theorem dX12_plan_137 : decode cX12_plan 137 = .ok (.aload_n 0, 1) := by decide +kernel
theorem dX12_plan_138 : decode cX12_plan 138 = .ok (.getfield 81, 3) := by decide +kernel
theorem dX12_plan_141 : decode cX12_plan 141 = .ok (.bipush 15, 2) := by decide +kernel
theorem dX12_plan_143 : decode cX12_plan 143 = .ok (.iload_n 1, 1) := by decide +kernel
theorem dX12_plan_144 : decode cX12_plan 144 = .ok (.imul, 1) := by decide +kernel
theorem dX12_plan_145 : decode cX12_plan 145 = .ok (.iload 9, 2) := by decide +kernel
theorem dX12_plan_147 : decode cX12_plan 147 = .ok (.iadd, 1) := by decide +kernel
theorem dX12_plan_148 : decode cX12_plan 148 = .ok (.iaload, 1) := by decide +kernel
theorem dX12_plan_149 : decode cX12_plan 149 = .ok (.istore 11, 2) := by decide +kernel
theorem dX12_plan_151 : decode cX12_plan 151 = .ok (.aload_n 0, 1) := by decide +kernel
theorem dX12_plan_152 : decode cX12_plan 152 = .ok (.getfield 96, 3) := by decide +kernel
theorem dX12_plan_155 : decode cX12_plan 155 = .ok (.bipush 15, 2) := by decide +kernel
theorem dX12_plan_157 : decode cX12_plan 157 = .ok (.iload 7, 2) := by decide +kernel
theorem dX12_plan_159 : decode cX12_plan 159 = .ok (.imul, 1) := by decide +kernel
theorem dX12_plan_160 : decode cX12_plan 160 = .ok (.iload 9, 2) := by decide +kernel
theorem dX12_plan_162 : decode cX12_plan 162 = .ok (.iadd, 1) := by decide +kernel
theorem dX12_plan_163 : decode cX12_plan 163 = .ok (.aload_n 0, 1) := by decide +kernel
theorem dX12_plan_164 : decode cX12_plan 164 = .ok (.iload_n 1, 1) := by decide +kernel
theorem dX12_plan_165 : decode cX12_plan 165 = .ok (.iload 10, 2) := by decide +kernel
theorem dX12_plan_167 : decode cX12_plan 167 = .ok (.iload 11, 2) := by decide +kernel
theorem dX12_plan_169 : decode cX12_plan 169 = .ok (.invokevirtual 221, 3) := by decide +kernel
theorem dX12_plan_172 : decode cX12_plan 172 = .ok (.bastore, 1) := by decide +kernel
theorem dX12_plan_173 : decode cX12_plan 173 = .ok (.iload 8, 2) := by decide +kernel
theorem dX12_plan_175 : decode cX12_plan 175 = .ok (.ifCond .ne 19, 3) := by decide +kernel
theorem dX12_plan_178 : decode cX12_plan 178 = .ok (.aload_n 0, 1) := by decide +kernel
theorem dX12_plan_179 : decode cX12_plan 179 = .ok (.getfield 96, 3) := by decide +kernel
theorem dX12_plan_182 : decode cX12_plan 182 = .ok (.bipush 15, 2) := by decide +kernel
theorem dX12_plan_184 : decode cX12_plan 184 = .ok (.iload 7, 2) := by decide +kernel
theorem dX12_plan_186 : decode cX12_plan 186 = .ok (.imul, 1) := by decide +kernel
theorem dX12_plan_187 : decode cX12_plan 187 = .ok (.iload 9, 2) := by decide +kernel
theorem dX12_plan_189 : decode cX12_plan 189 = .ok (.iadd, 1) := by decide +kernel
theorem dX12_plan_190 : decode cX12_plan 190 = .ok (.baload, 1) := by decide +kernel
theorem dX12_plan_191 : decode cX12_plan 191 = .ok (.ifCond .eq 7, 3) := by decide +kernel
theorem dX12_plan_194 : decode cX12_plan 194 = .ok (.iconst 1, 1) := by decide +kernel
theorem dX12_plan_195 : decode cX12_plan 195 = .ok (.goto 4, 3) := by decide +kernel
theorem dX12_plan_198 : decode cX12_plan 198 = .ok (.iconst 0, 1) := by decide +kernel
theorem dX12_plan_199 : decode cX12_plan 199 = .ok (.istore 8, 2) := by decide +kernel
theorem dX12_plan_201 : decode cX12_plan 201 = .ok (.iconst 0, 1) := by decide +kernel
theorem dX12_plan_202 : decode cX12_plan 202 = .ok (.istore 12, 2) := by decide +kernel
theorem dX12_plan_204 : decode cX12_plan 204 = .ok (.iload 12, 2) := by decide +kernel
theorem dX12_plan_206 : decode cX12_plan 206 = .ok (.aload_n 0, 1) := by decide +kernel
theorem dX12_plan_207 : decode cX12_plan 207 = .ok (.getfield 123, 3) := by decide +kernel
theorem dX12_plan_210 : decode cX12_plan 210 = .ok (.if_icmp .ge 70, 3) := by decide +kernel
theorem dX12_plan_213 : decode cX12_plan 213 = .ok (.aload_n 0, 1) := by decide +kernel
theorem dX12_plan_214 : decode cX12_plan 214 = .ok (.getfield 99, 3) := by decide +kernel
theorem dX12_plan_217 : decode cX12_plan 217 = .ok (.bipush 12, 2) := by decide +kernel
theorem dX12_plan_219 : decode cX12_plan 219 = .ok (.bipush 15, 2) := by decide +kernel
theorem dX12_plan_221 : decode cX12_plan 221 = .ok (.iload 7, 2) := by decide +kernel
theorem dX12_plan_223 : decode cX12_plan 223 = .ok (.imul, 1) := by decide +kernel
theorem dX12_plan_224 : decode cX12_plan 224 = .ok (.iload 9, 2) := by decide +kernel
theorem dX12_plan_226 : decode cX12_plan 226 = .ok (.iadd, 1) := by decide +kernel
theorem dX12_plan_227 : decode cX12_plan 227 = .ok (.imul, 1) := by decide +kernel
theorem dX12_plan_228 : decode cX12_plan 228 = .ok (.iload 12, 2) := by decide +kernel
theorem dX12_plan_230 : decode cX12_plan 230 = .ok (.iadd, 1) := by decide +kernel
theorem dX12_plan_231 : decode cX12_plan 231 = .ok (.aload_n 0, 1) := by decide +kernel
theorem dX12_plan_232 : decode cX12_plan 232 = .ok (.getfield 96, 3) := by decide +kernel
theorem dX12_plan_235 : decode cX12_plan 235 = .ok (.bipush 15, 2) := by decide +kernel
theorem dX12_plan_237 : decode cX12_plan 237 = .ok (.iload 7, 2) := by decide +kernel
theorem dX12_plan_239 : decode cX12_plan 239 = .ok (.imul, 1) := by decide +kernel
theorem dX12_plan_240 : decode cX12_plan 240 = .ok (.iload 9, 2) := by decide +kernel
theorem dX12_plan_242 : decode cX12_plan 242 = .ok (.iadd, 1) := by decide +kernel
theorem dX12_plan_243 : decode cX12_plan 243 = .ok (.baload, 1) := by decide +kernel
theorem dX12_plan_244 : decode cX12_plan 244 = .ok (.ifCond .eq 28, 3) := by decide +kernel
theorem dX12_plan_247 : decode cX12_plan 247 = .ok (.aload_n 0, 1) := by decide +kernel
theorem dX12_plan_248 : decode cX12_plan 248 = .ok (.iload 12, 2) := by decide +kernel
theorem dX12_plan_250 : decode cX12_plan 250 = .ok (.iload_n 1, 1) := by decide +kernel
theorem dX12_plan_251 : decode cX12_plan 251 = .ok (.iload 10, 2) := by decide +kernel
theorem dX12_plan_253 : decode cX12_plan 253 = .ok (.iload 11, 2) := by decide +kernel
theorem dX12_plan_255 : decode cX12_plan 255 = .ok (.aload_n 0, 1) := by decide +kernel
theorem dX12_plan_256 : decode cX12_plan 256 = .ok (.iload 12, 2) := by decide +kernel
theorem dX12_plan_258 : decode cX12_plan 258 = .ok (.iload_n 1, 1) := by decide +kernel
theorem dX12_plan_259 : decode cX12_plan 259 = .ok (.iload 10, 2) := by decide +kernel
theorem dX12_plan_261 : decode cX12_plan 261 = .ok (.iload 11, 2) := by decide +kernel
theorem dX12_plan_263 : decode cX12_plan 263 = .ok (.invokevirtual 205, 3) := by decide +kernel
theorem dX12_plan_266 : decode cX12_plan 266 = .ok (.invokevirtual 230, 3) := by decide +kernel
theorem dX12_plan_269 : decode cX12_plan 269 = .ok (.goto 4, 3) := by decide +kernel
theorem dX12_plan_272 : decode cX12_plan 272 = .ok (.iconst 0, 1) := by decide +kernel
theorem dX12_plan_273 : decode cX12_plan 273 = .ok (.iastore, 1) := by decide +kernel
theorem dX12_plan_274 : decode cX12_plan 274 = .ok (.iinc 12 1, 3) := by decide +kernel
theorem dX12_plan_277 : decode cX12_plan 277 = .ok (.goto (-73), 3) := by decide +kernel
theorem dX12_plan_280 : decode cX12_plan 280 = .ok (.iinc 9 1, 3) := by decide +kernel
theorem dX12_plan_283 : decode cX12_plan 283 = .ok (.goto (-167), 3) := by decide +kernel
theorem dX12_plan_286 : decode cX12_plan 286 = .ok (.iload 8, 2) := by decide +kernel
theorem dX12_plan_288 : decode cX12_plan 288 = .ok (.ifCond .eq 6, 3) := by decide +kernel
theorem dX12_plan_291 : decode cX12_plan 291 = .ok (.goto 14, 3) := by decide +kernel
theorem dX12_plan_294 : decode cX12_plan 294 = .ok (.aload_n 0, 1) := by decide +kernel
theorem dX12_plan_295 : decode cX12_plan 295 = .ok (.aload_n 0, 1) := by decide +kernel
theorem dX12_plan_296 : decode cX12_plan 296 = .ok (.iload_n 1, 1) := by decide +kernel
theorem dX12_plan_297 : decode cX12_plan 297 = .ok (.invokevirtual 234, 3) := by decide +kernel
theorem dX12_plan_300 : decode cX12_plan 300 = .ok (.putfield 227, 3) := by decide +kernel
theorem dX12_plan_303 : decode cX12_plan 303 = .ok (.iconst (-1), 1) := by decide +kernel
theorem dX12_plan_304 : decode cX12_plan 304 = .ok (.ireturn, 1) := by decide +kernel
theorem dX12_plan_305 : decode cX12_plan 305 = .ok (.iinc 7 1, 3) := by decide +kernel
theorem dX12_plan_308 : decode cX12_plan 308 = .ok (.goto (-225), 3) := by decide +kernel
theorem dX12_plan_311 : decode cX12_plan 311 = .ok (.iconst 0, 1) := by decide +kernel
theorem dX12_plan_312 : decode cX12_plan 312 = .ok (.istore 7, 2) := by decide +kernel
theorem dX12_plan_314 : decode cX12_plan 314 = .ok (.iconst 0, 1) := by decide +kernel
theorem dX12_plan_315 : decode cX12_plan 315 = .ok (.istore 8, 2) := by decide +kernel
theorem dX12_plan_317 : decode cX12_plan 317 = .ok (.iload 8, 2) := by decide +kernel
theorem dX12_plan_319 : decode cX12_plan 319 = .ok (.iload 6, 2) := by decide +kernel
theorem dX12_plan_321 : decode cX12_plan 321 = .ok (.if_icmp .ge 17, 3) := by decide +kernel
theorem dX12_plan_324 : decode cX12_plan 324 = .ok (.aload_n 0, 1) := by decide +kernel
theorem dX12_plan_325 : decode cX12_plan 325 = .ok (.getfield 102, 3) := by decide +kernel
theorem dX12_plan_328 : decode cX12_plan 328 = .ok (.iload 8, 2) := by decide +kernel
theorem dX12_plan_330 : decode cX12_plan 330 = .ok (.iconst 0, 1) := by decide +kernel
theorem dX12_plan_331 : decode cX12_plan 331 = .ok (.iastore, 1) := by decide +kernel
theorem dX12_plan_332 : decode cX12_plan 332 = .ok (.iinc 8 1, 3) := by decide +kernel
theorem dX12_plan_335 : decode cX12_plan 335 = .ok (.goto (-18), 3) := by decide +kernel
theorem dX12_plan_338 : decode cX12_plan 338 = .ok (.iconst 1, 1) := by decide +kernel
theorem dX12_plan_339 : decode cX12_plan 339 = .ok (.istore 8, 2) := by decide +kernel
theorem dX12_plan_341 : decode cX12_plan 341 = .ok (.iload 8, 2) := by decide +kernel
theorem dX12_plan_343 : decode cX12_plan 343 = .ok (.ifCond .eq 259, 3) := by decide +kernel
theorem dX12_plan_346 : decode cX12_plan 346 = .ok (.iconst 1, 1) := by decide +kernel
theorem dX12_plan_347 : decode cX12_plan 347 = .ok (.istore 9, 2) := by decide +kernel
theorem dX12_plan_349 : decode cX12_plan 349 = .ok (.iconst 0, 1) := by decide +kernel
theorem dX12_plan_350 : decode cX12_plan 350 = .ok (.istore 10, 2) := by decide +kernel
theorem dX12_plan_352 : decode cX12_plan 352 = .ok (.iload 10, 2) := by decide +kernel
theorem dX12_plan_354 : decode cX12_plan 354 = .ok (.iload 6, 2) := by decide +kernel
theorem dX12_plan_356 : decode cX12_plan 356 = .ok (.if_icmp .ge 42, 3) := by decide +kernel
theorem dX12_plan_359 : decode cX12_plan 359 = .ok (.iload 9, 2) := by decide +kernel
theorem dX12_plan_361 : decode cX12_plan 361 = .ok (.ifCond .eq 28, 3) := by decide +kernel
theorem dX12_plan_364 : decode cX12_plan 364 = .ok (.aload_n 0, 1) := by decide +kernel
theorem dX12_plan_365 : decode cX12_plan 365 = .ok (.getfield 96, 3) := by decide +kernel
theorem dX12_plan_368 : decode cX12_plan 368 = .ok (.bipush 15, 2) := by decide +kernel
theorem dX12_plan_370 : decode cX12_plan 370 = .ok (.iload 10, 2) := by decide +kernel
theorem dX12_plan_372 : decode cX12_plan 372 = .ok (.imul, 1) := by decide +kernel
theorem dX12_plan_373 : decode cX12_plan 373 = .ok (.aload_n 0, 1) := by decide +kernel
theorem dX12_plan_374 : decode cX12_plan 374 = .ok (.getfield 102, 3) := by decide +kernel
theorem dX12_plan_377 : decode cX12_plan 377 = .ok (.iload 10, 2) := by decide +kernel
theorem dX12_plan_379 : decode cX12_plan 379 = .ok (.iaload, 1) := by decide +kernel
theorem dX12_plan_380 : decode cX12_plan 380 = .ok (.iadd, 1) := by decide +kernel
theorem dX12_plan_381 : decode cX12_plan 381 = .ok (.baload, 1) := by decide +kernel
theorem dX12_plan_382 : decode cX12_plan 382 = .ok (.ifCond .eq 7, 3) := by decide +kernel
theorem dX12_plan_385 : decode cX12_plan 385 = .ok (.iconst 1, 1) := by decide +kernel
theorem dX12_plan_386 : decode cX12_plan 386 = .ok (.goto 4, 3) := by decide +kernel
theorem dX12_plan_389 : decode cX12_plan 389 = .ok (.iconst 0, 1) := by decide +kernel
theorem dX12_plan_390 : decode cX12_plan 390 = .ok (.istore 9, 2) := by decide +kernel
theorem dX12_plan_392 : decode cX12_plan 392 = .ok (.iinc 10 1, 3) := by decide +kernel
theorem dX12_plan_395 : decode cX12_plan 395 = .ok (.goto (-43), 3) := by decide +kernel
theorem dX12_plan_398 : decode cX12_plan 398 = .ok (.iload 9, 2) := by decide +kernel
theorem dX12_plan_400 : decode cX12_plan 400 = .ok (.ifCond .eq 132, 3) := by decide +kernel
theorem dX12_plan_403 : decode cX12_plan 403 = .ok (.iconst 0, 1) := by decide +kernel
theorem dX12_plan_404 : decode cX12_plan 404 = .ok (.istore 10, 2) := by decide +kernel
theorem dX12_plan_406 : decode cX12_plan 406 = .ok (.iload 10, 2) := by decide +kernel
theorem dX12_plan_408 : decode cX12_plan 408 = .ok (.aload_n 0, 1) := by decide +kernel
theorem dX12_plan_409 : decode cX12_plan 409 = .ok (.getfield 123, 3) := by decide +kernel
theorem dX12_plan_412 : decode cX12_plan 412 = .ok (.if_icmp .ge 67, 3) := by decide +kernel
theorem dX12_plan_415 : decode cX12_plan 415 = .ok (.aload_n 0, 1) := by decide +kernel
theorem dX12_plan_416 : decode cX12_plan 416 = .ok (.getfield 87, 3) := by decide +kernel
theorem dX12_plan_419 : decode cX12_plan 419 = .ok (.iload 10, 2) := by decide +kernel
theorem dX12_plan_421 : decode cX12_plan 421 = .ok (.iconst 0, 1) := by decide +kernel
theorem dX12_plan_422 : decode cX12_plan 422 = .ok (.iastore, 1) := by decide +kernel
theorem dX12_plan_423 : decode cX12_plan 423 = .ok (.iconst 0, 1) := by decide +kernel
theorem dX12_plan_424 : decode cX12_plan 424 = .ok (.istore 11, 2) := by decide +kernel
theorem dX12_plan_426 : decode cX12_plan 426 = .ok (.iload 11, 2) := by decide +kernel
theorem dX12_plan_428 : decode cX12_plan 428 = .ok (.iload 6, 2) := by decide +kernel
theorem dX12_plan_430 : decode cX12_plan 430 = .ok (.if_icmp .ge 43, 3) := by decide +kernel
theorem dX12_plan_433 : decode cX12_plan 433 = .ok (.aload_n 0, 1) := by decide +kernel
theorem dX12_plan_434 : decode cX12_plan 434 = .ok (.getfield 87, 3) := by decide +kernel
theorem dX12_plan_437 : decode cX12_plan 437 = .ok (.iload 10, 2) := by decide +kernel
theorem dX12_plan_439 : decode cX12_plan 439 = .ok (.dup2, 1) := by decide +kernel
theorem dX12_plan_440 : decode cX12_plan 440 = .ok (.iaload, 1) := by decide +kernel
theorem dX12_plan_441 : decode cX12_plan 441 = .ok (.aload_n 0, 1) := by decide +kernel
theorem dX12_plan_442 : decode cX12_plan 442 = .ok (.getfield 99, 3) := by decide +kernel
theorem dX12_plan_445 : decode cX12_plan 445 = .ok (.bipush 12, 2) := by decide +kernel
theorem dX12_plan_447 : decode cX12_plan 447 = .ok (.bipush 15, 2) := by decide +kernel
theorem dX12_plan_449 : decode cX12_plan 449 = .ok (.iload 11, 2) := by decide +kernel
theorem dX12_plan_451 : decode cX12_plan 451 = .ok (.imul, 1) := by decide +kernel
theorem dX12_plan_452 : decode cX12_plan 452 = .ok (.aload_n 0, 1) := by decide +kernel
theorem dX12_plan_453 : decode cX12_plan 453 = .ok (.getfield 102, 3) := by decide +kernel
theorem dX12_plan_456 : decode cX12_plan 456 = .ok (.iload 11, 2) := by decide +kernel
theorem dX12_plan_458 : decode cX12_plan 458 = .ok (.iaload, 1) := by decide +kernel
theorem dX12_plan_459 : decode cX12_plan 459 = .ok (.iadd, 1) := by decide +kernel
theorem dX12_plan_460 : decode cX12_plan 460 = .ok (.imul, 1) := by decide +kernel
theorem dX12_plan_461 : decode cX12_plan 461 = .ok (.iload 10, 2) := by decide +kernel
theorem dX12_plan_463 : decode cX12_plan 463 = .ok (.iadd, 1) := by decide +kernel
theorem dX12_plan_464 : decode cX12_plan 464 = .ok (.iaload, 1) := by decide +kernel
theorem dX12_plan_465 : decode cX12_plan 465 = .ok (.iadd, 1) := by decide +kernel
theorem dX12_plan_466 : decode cX12_plan 466 = .ok (.iastore, 1) := by decide +kernel
theorem dX12_plan_467 : decode cX12_plan 467 = .ok (.iinc 11 1, 3) := by decide +kernel
theorem dX12_plan_470 : decode cX12_plan 470 = .ok (.goto (-44), 3) := by decide +kernel
theorem dX12_plan_473 : decode cX12_plan 473 = .ok (.iinc 10 1, 3) := by decide +kernel
theorem dX12_plan_476 : decode cX12_plan 476 = .ok (.goto (-70), 3) := by decide +kernel
theorem dX12_plan_479 : decode cX12_plan 479 = .ok (.aload_n 0, 1) := by decide +kernel
theorem dX12_plan_480 : decode cX12_plan 480 = .ok (.invokevirtual 238, 3) := by decide +kernel
theorem dX12_plan_483 : decode cX12_plan 483 = .ok (.iload 7, 2) := by decide +kernel
theorem dX12_plan_485 : decode cX12_plan 485 = .ok (.ifCond .eq 10, 3) := by decide +kernel
theorem dX12_plan_488 : decode cX12_plan 488 = .ok (.aload_n 0, 1) := by decide +kernel
theorem dX12_plan_489 : decode cX12_plan 489 = .ok (.invokevirtual 241, 3) := by decide +kernel
theorem dX12_plan_492 : decode cX12_plan 492 = .ok (.ifCond .eq 40, 3) := by decide +kernel
theorem dX12_plan_495 : decode cX12_plan 495 = .ok (.iconst 1, 1) := by decide +kernel
theorem dX12_plan_496 : decode cX12_plan 496 = .ok (.istore 7, 2) := by decide +kernel
theorem dX12_plan_498 : decode cX12_plan 498 = .ok (.aload_n 0, 1) := by decide +kernel
theorem dX12_plan_499 : decode cX12_plan 499 = .ok (.invokevirtual 245, 3) := by decide +kernel
theorem dX12_plan_502 : decode cX12_plan 502 = .ok (.iconst 0, 1) := by decide +kernel
theorem dX12_plan_503 : decode cX12_plan 503 = .ok (.istore 10, 2) := by decide +kernel
theorem dX12_plan_505 : decode cX12_plan 505 = .ok (.iload 10, 2) := by decide +kernel
theorem dX12_plan_507 : decode cX12_plan 507 = .ok (.iload 6, 2) := by decide +kernel
theorem dX12_plan_509 : decode cX12_plan 509 = .ok (.if_icmp .ge 23, 3) := by decide +kernel
theorem dX12_plan_512 : decode cX12_plan 512 = .ok (.aload_n 0, 1) := by decide +kernel
theorem dX12_plan_513 : decode cX12_plan 513 = .ok (.getfield 105, 3) := by decide +kernel
theorem dX12_plan_516 : decode cX12_plan 516 = .ok (.iload 10, 2) := by decide +kernel
theorem dX12_plan_518 : decode cX12_plan 518 = .ok (.aload_n 0, 1) := by decide +kernel
theorem dX12_plan_519 : decode cX12_plan 519 = .ok (.getfield 102, 3) := by decide +kernel
theorem dX12_plan_522 : decode cX12_plan 522 = .ok (.iload 10, 2) := by decide +kernel
theorem dX12_plan_524 : decode cX12_plan 524 = .ok (.iaload, 1) := by decide +kernel
theorem dX12_plan_525 : decode cX12_plan 525 = .ok (.iastore, 1) := by decide +kernel
theorem dX12_plan_526 : decode cX12_plan 526 = .ok (.iinc 10 1, 3) := by decide +kernel
theorem dX12_plan_529 : decode cX12_plan 529 = .ok (.goto (-24), 3) := by decide +kernel
theorem dX12_plan_532 : decode cX12_plan 532 = .ok (.iload 6, 2) := by decide +kernel
theorem dX12_plan_534 : decode cX12_plan 534 = .ok (.iconst 1, 1) := by decide +kernel
theorem dX12_plan_535 : decode cX12_plan 535 = .ok (.isub, 1) := by decide +kernel
theorem dX12_plan_536 : decode cX12_plan 536 = .ok (.istore 10, 2) := by decide +kernel
theorem dX12_plan_538 : decode cX12_plan 538 = .ok (.iload 10, 2) := by decide +kernel
theorem dX12_plan_540 : decode cX12_plan 540 = .ok (.ifCond .lt 31, 3) := by decide +kernel
theorem dX12_plan_543 : decode cX12_plan 543 = .ok (.aload_n 0, 1) := by decide +kernel
theorem dX12_plan_544 : decode cX12_plan 544 = .ok (.getfield 102, 3) := by decide +kernel
theorem dX12_plan_547 : decode cX12_plan 547 = .ok (.iload 10, 2) := by decide +kernel
theorem dX12_plan_549 : decode cX12_plan 549 = .ok (.iaload, 1) := by decide +kernel
theorem dX12_plan_550 : decode cX12_plan 550 = .ok (.iload 5, 2) := by decide +kernel
theorem dX12_plan_552 : decode cX12_plan 552 = .ok (.iconst 1, 1) := by decide +kernel
theorem dX12_plan_553 : decode cX12_plan 553 = .ok (.isub, 1) := by decide +kernel
theorem dX12_plan_554 : decode cX12_plan 554 = .ok (.if_icmp .ne 17, 3) := by decide +kernel
theorem dX12_plan_557 : decode cX12_plan 557 = .ok (.aload_n 0, 1) := by decide +kernel
theorem dX12_plan_558 : decode cX12_plan 558 = .ok (.getfield 102, 3) := by decide +kernel
theorem dX12_plan_561 : decode cX12_plan 561 = .ok (.iload 10, 2) := by decide +kernel
theorem dX12_plan_563 : decode cX12_plan 563 = .ok (.iconst 0, 1) := by decide +kernel
theorem dX12_plan_564 : decode cX12_plan 564 = .ok (.iastore, 1) := by decide +kernel
theorem dX12_plan_565 : decode cX12_plan 565 = .ok (.iinc 10 (-1), 3) := by decide +kernel
theorem dX12_plan_568 : decode cX12_plan 568 = .ok (.goto (-30), 3) := by decide +kernel
theorem dX12_plan_571 : decode cX12_plan 571 = .ok (.iload 10, 2) := by decide +kernel
theorem dX12_plan_573 : decode cX12_plan 573 = .ok (.ifCond .lt 7, 3) := by decide +kernel
theorem dX12_plan_576 : decode cX12_plan 576 = .ok (.iconst 1, 1) := by decide +kernel
theorem dX12_plan_577 : decode cX12_plan 577 = .ok (.goto 4, 3) := by decide +kernel
theorem dX12_plan_580 : decode cX12_plan 580 = .ok (.iconst 0, 1) := by decide +kernel
theorem dX12_plan_581 : decode cX12_plan 581 = .ok (.istore 8, 2) := by decide +kernel
theorem dX12_plan_583 : decode cX12_plan 583 = .ok (.iload 8, 2) := by decide +kernel
theorem dX12_plan_585 : decode cX12_plan 585 = .ok (.ifCond .eq 14, 3) := by decide +kernel
theorem dX12_plan_588 : decode cX12_plan 588 = .ok (.aload_n 0, 1) := by decide +kernel
theorem dX12_plan_589 : decode cX12_plan 589 = .ok (.getfield 102, 3) := by decide +kernel
theorem dX12_plan_592 : decode cX12_plan 592 = .ok (.iload 10, 2) := by decide +kernel
theorem dX12_plan_594 : decode cX12_plan 594 = .ok (.dup2, 1) := by decide +kernel
theorem dX12_plan_595 : decode cX12_plan 595 = .ok (.iaload, 1) := by decide +kernel
theorem dX12_plan_596 : decode cX12_plan 596 = .ok (.iconst 1, 1) := by decide +kernel
theorem dX12_plan_597 : decode cX12_plan 597 = .ok (.iadd, 1) := by decide +kernel
theorem dX12_plan_598 : decode cX12_plan 598 = .ok (.iastore, 1) := by decide +kernel
theorem dX12_plan_599 : decode cX12_plan 599 = .ok (.goto (-258), 3) := by decide +kernel
theorem dX12_plan_602 : decode cX12_plan 602 = .ok (.iconst 0, 1) := by decide +kernel
theorem dX12_plan_603 : decode cX12_plan 603 = .ok (.istore 9, 2) := by decide +kernel
theorem dX12_plan_605 : decode cX12_plan 605 = .ok (.iload 9, 2) := by decide +kernel
theorem dX12_plan_607 : decode cX12_plan 607 = .ok (.iload 6, 2) := by decide +kernel
theorem dX12_plan_609 : decode cX12_plan 609 = .ok (.if_icmp .ge 77, 3) := by decide +kernel
theorem dX12_plan_612 : decode cX12_plan 612 = .ok (.aload_n 0, 1) := by decide +kernel
theorem dX12_plan_613 : decode cX12_plan 613 = .ok (.getfield 63, 3) := by decide +kernel
theorem dX12_plan_616 : decode cX12_plan 616 = .ok (.iconst 2, 1) := by decide +kernel
theorem dX12_plan_617 : decode cX12_plan 617 = .ok (.bipush 52, 2) := by decide +kernel
theorem dX12_plan_619 : decode cX12_plan 619 = .ok (.iload_n 1, 1) := by decide +kernel
theorem dX12_plan_620 : decode cX12_plan 620 = .ok (.imul, 1) := by decide +kernel
theorem dX12_plan_621 : decode cX12_plan 621 = .ok (.iload_n 2, 1) := by decide +kernel
theorem dX12_plan_622 : decode cX12_plan 622 = .ok (.iadd, 1) := by decide +kernel
theorem dX12_plan_623 : decode cX12_plan 623 = .ok (.iload 9, 2) := by decide +kernel
theorem dX12_plan_625 : decode cX12_plan 625 = .ok (.iadd, 1) := by decide +kernel
theorem dX12_plan_626 : decode cX12_plan 626 = .ok (.imul, 1) := by decide +kernel
theorem dX12_plan_627 : decode cX12_plan 627 = .ok (.aload_n 0, 1) := by decide +kernel
theorem dX12_plan_628 : decode cX12_plan 628 = .ok (.getfield 78, 3) := by decide +kernel
theorem dX12_plan_631 : decode cX12_plan 631 = .ok (.bipush 15, 2) := by decide +kernel
theorem dX12_plan_633 : decode cX12_plan 633 = .ok (.iload_n 1, 1) := by decide +kernel
theorem dX12_plan_634 : decode cX12_plan 634 = .ok (.imul, 1) := by decide +kernel
theorem dX12_plan_635 : decode cX12_plan 635 = .ok (.aload_n 0, 1) := by decide +kernel
theorem dX12_plan_636 : decode cX12_plan 636 = .ok (.getfield 105, 3) := by decide +kernel
theorem dX12_plan_639 : decode cX12_plan 639 = .ok (.iload 9, 2) := by decide +kernel
theorem dX12_plan_641 : decode cX12_plan 641 = .ok (.iaload, 1) := by decide +kernel
theorem dX12_plan_642 : decode cX12_plan 642 = .ok (.iadd, 1) := by decide +kernel
theorem dX12_plan_643 : decode cX12_plan 643 = .ok (.iaload, 1) := by decide +kernel
theorem dX12_plan_644 : decode cX12_plan 644 = .ok (.iastore, 1) := by decide +kernel
theorem dX12_plan_645 : decode cX12_plan 645 = .ok (.aload_n 0, 1) := by decide +kernel
theorem dX12_plan_646 : decode cX12_plan 646 = .ok (.getfield 63, 3) := by decide +kernel
theorem dX12_plan_649 : decode cX12_plan 649 = .ok (.iconst 2, 1) := by decide +kernel
theorem dX12_plan_650 : decode cX12_plan 650 = .ok (.bipush 52, 2) := by decide +kernel
theorem dX12_plan_652 : decode cX12_plan 652 = .ok (.iload_n 1, 1) := by decide +kernel
theorem dX12_plan_653 : decode cX12_plan 653 = .ok (.imul, 1) := by decide +kernel
theorem dX12_plan_654 : decode cX12_plan 654 = .ok (.iload_n 2, 1) := by decide +kernel
theorem dX12_plan_655 : decode cX12_plan 655 = .ok (.iadd, 1) := by decide +kernel
theorem dX12_plan_656 : decode cX12_plan 656 = .ok (.iload 9, 2) := by decide +kernel
theorem dX12_plan_658 : decode cX12_plan 658 = .ok (.iadd, 1) := by decide +kernel
theorem dX12_plan_659 : decode cX12_plan 659 = .ok (.imul, 1) := by decide +kernel
theorem dX12_plan_660 : decode cX12_plan 660 = .ok (.iconst 1, 1) := by decide +kernel
theorem dX12_plan_661 : decode cX12_plan 661 = .ok (.iadd, 1) := by decide +kernel
theorem dX12_plan_662 : decode cX12_plan 662 = .ok (.aload_n 0, 1) := by decide +kernel
theorem dX12_plan_663 : decode cX12_plan 663 = .ok (.getfield 81, 3) := by decide +kernel
theorem dX12_plan_666 : decode cX12_plan 666 = .ok (.bipush 15, 2) := by decide +kernel
theorem dX12_plan_668 : decode cX12_plan 668 = .ok (.iload_n 1, 1) := by decide +kernel
theorem dX12_plan_669 : decode cX12_plan 669 = .ok (.imul, 1) := by decide +kernel
theorem dX12_plan_670 : decode cX12_plan 670 = .ok (.aload_n 0, 1) := by decide +kernel
theorem dX12_plan_671 : decode cX12_plan 671 = .ok (.getfield 105, 3) := by decide +kernel
theorem dX12_plan_674 : decode cX12_plan 674 = .ok (.iload 9, 2) := by decide +kernel
theorem dX12_plan_676 : decode cX12_plan 676 = .ok (.iaload, 1) := by decide +kernel
theorem dX12_plan_677 : decode cX12_plan 677 = .ok (.iadd, 1) := by decide +kernel
theorem dX12_plan_678 : decode cX12_plan 678 = .ok (.iaload, 1) := by decide +kernel
theorem dX12_plan_679 : decode cX12_plan 679 = .ok (.iastore, 1) := by decide +kernel
theorem dX12_plan_680 : decode cX12_plan 680 = .ok (.iinc 9 1, 3) := by decide +kernel
theorem dX12_plan_683 : decode cX12_plan 683 = .ok (.goto (-78), 3) := by decide +kernel
theorem dX12_plan_686 : decode cX12_plan 686 = .ok (.aload_n 0, 1) := by decide +kernel
theorem dX12_plan_687 : decode cX12_plan 687 = .ok (.getfield 123, 3) := by decide +kernel
theorem dX12_plan_690 : decode cX12_plan 690 = .ok (.ifCond .ne 7, 3) := by decide +kernel
theorem dX12_plan_693 : decode cX12_plan 693 = .ok (.iconst 0, 1) := by decide +kernel
theorem dX12_plan_694 : decode cX12_plan 694 = .ok (.goto 9, 3) := by decide +kernel
theorem dX12_plan_697 : decode cX12_plan 697 = .ok (.aload_n 0, 1) := by decide +kernel
theorem dX12_plan_698 : decode cX12_plan 698 = .ok (.getfield 93, 3) := by decide +kernel
theorem dX12_plan_701 : decode cX12_plan 701 = .ok (.iconst 0, 1) := by decide +kernel
theorem dX12_plan_702 : decode cX12_plan 702 = .ok (.iaload, 1) := by decide +kernel
theorem dX12_plan_703 : decode cX12_plan 703 = .ok (.ireturn, 1) := by decide +kernel
theorem dX12_goesFor_0 : decode cX12_goesFor 0 = .ok (.iconst 0, 1) := by decide +kernel
theorem dX12_goesFor_1 : decode cX12_goesFor 1 = .ok (.istore_n 3, 1) := by decide +kernel
theorem dX12_goesFor_2 : decode cX12_goesFor 2 = .ok (.iload_n 3, 1) := by decide +kernel
theorem dX12_goesFor_3 : decode cX12_goesFor 3 = .ok (.aload_n 0, 1) := by decide +kernel
theorem dX12_goesFor_4 : decode cX12_goesFor 4 = .ok (.getfield 84, 3) := by decide +kernel
theorem dX12_goesFor_7 : decode cX12_goesFor 7 = .ok (.iload_n 1, 1) := by decide +kernel
theorem dX12_goesFor_8 : decode cX12_goesFor 8 = .ok (.iaload, 1) := by decide +kernel
theorem dX12_goesFor_9 : decode cX12_goesFor 9 = .ok (.if_icmp .ge 218, 3) := by decide +kernel
theorem dX12_goesFor_12 : decode cX12_goesFor 12 = .ok (.aload_n 0, 1) := by decide +kernel
theorem dX12_goesFor_13 : decode cX12_goesFor 13 = .ok (.getfield 78, 3) := by decide +kernel
theorem dX12_goesFor_16 : decode cX12_goesFor 16 = .ok (.bipush 15, 2) := by decide +kernel
theorem dX12_goesFor_18 : decode cX12_goesFor 18 = .ok (.iload_n 1, 1) := by decide +kernel
theorem dX12_goesFor_19 : decode cX12_goesFor 19 = .ok (.imul, 1) := by decide +kernel
theorem dX12_goesFor_20 : decode cX12_goesFor 20 = .ok (.iload_n 3, 1) := by decide +kernel
theorem dX12_goesFor_21 : decode cX12_goesFor 21 = .ok (.iadd, 1) := by decide +kernel
theorem dX12_goesFor_22 : decode cX12_goesFor 22 = .ok (.iaload, 1) := by decide +kernel
theorem dX12_goesFor_23 : decode cX12_goesFor 23 = .ok (.istore 4, 2) := by decide +kernel
theorem dX12_goesFor_25 : decode cX12_goesFor 25 = .ok (.aload_n 0, 1) := by decide +kernel
theorem dX12_goesFor_26 : decode cX12_goesFor 26 = .ok (.getfield 81, 3) := by decide +kernel
theorem dX12_goesFor_29 : decode cX12_goesFor 29 = .ok (.bipush 15, 2) := by decide +kernel
theorem dX12_goesFor_31 : decode cX12_goesFor 31 = .ok (.iload_n 1, 1) := by decide +kernel
theorem dX12_goesFor_32 : decode cX12_goesFor 32 = .ok (.imul, 1) := by decide +kernel
theorem dX12_goesFor_33 : decode cX12_goesFor 33 = .ok (.iload_n 3, 1) := by decide +kernel
theorem dX12_goesFor_34 : decode cX12_goesFor 34 = .ok (.iadd, 1) := by decide +kernel
theorem dX12_goesFor_35 : decode cX12_goesFor 35 = .ok (.iaload, 1) := by decide +kernel
theorem dX12_goesFor_36 : decode cX12_goesFor 36 = .ok (.istore 5, 2) := by decide +kernel
theorem dX12_goesFor_38 : decode cX12_goesFor 38 = .ok (.aload_n 0, 1) := by decide +kernel
theorem dX12_goesFor_39 : decode cX12_goesFor 39 = .ok (.iload_n 1, 1) := by decide +kernel
theorem dX12_goesFor_40 : decode cX12_goesFor 40 = .ok (.iload 4, 2) := by decide +kernel
theorem dX12_goesFor_42 : decode cX12_goesFor 42 = .ok (.invokevirtual 193, 3) := by decide +kernel
theorem dX12_goesFor_45 : decode cX12_goesFor 45 = .ok (.ifCond .eq 176, 3) := by decide +kernel
theorem dX12_goesFor_48 : decode cX12_goesFor 48 = .ok (.iload 5, 2) := by decide +kernel
theorem dX12_goesFor_50 : decode cX12_goesFor 50 = .ok (.iconst (-1), 1) := by decide +kernel
theorem dX12_goesFor_51 : decode cX12_goesFor 51 = .ok (.if_icmp .eq 29, 3) := by decide +kernel
theorem dX12_goesFor_54 : decode cX12_goesFor 54 = .ok (.aload_n 0, 1) := by decide +kernel
theorem dX12_goesFor_55 : decode cX12_goesFor 55 = .ok (.iload_n 1, 1) := by decide +kernel
theorem dX12_goesFor_56 : decode cX12_goesFor 56 = .ok (.iload 5, 2) := by decide +kernel
theorem dX12_goesFor_58 : decode cX12_goesFor 58 = .ok (.invokevirtual 193, 3) := by decide +kernel
theorem dX12_goesFor_61 : decode cX12_goesFor 61 = .ok (.ifCond .eq 160, 3) := by decide +kernel
theorem dX12_goesFor_64 : decode cX12_goesFor 64 = .ok (.aload_n 0, 1) := by decide +kernel
theorem dX12_goesFor_65 : decode cX12_goesFor 65 = .ok (.iload_n 1, 1) := by decide +kernel
theorem dX12_goesFor_66 : decode cX12_goesFor 66 = .ok (.iload 4, 2) := by decide +kernel
theorem dX12_goesFor_68 : decode cX12_goesFor 68 = .ok (.iload_n 1, 1) := by decide +kernel
theorem dX12_goesFor_69 : decode cX12_goesFor 69 = .ok (.iload 5, 2) := by decide +kernel
theorem dX12_goesFor_71 : decode cX12_goesFor 71 = .ok (.invokevirtual 190, 3) := by decide +kernel
theorem dX12_goesFor_74 : decode cX12_goesFor 74 = .ok (.ifCond .eq 6, 3) := by decide +kernel
theorem dX12_goesFor_77 : decode cX12_goesFor 77 = .ok (.goto 144, 3) := by decide +kernel
theorem dX12_goesFor_80 : decode cX12_goesFor 80 = .ok (.iconst 1, 1) := by decide +kernel
theorem dX12_goesFor_81 : decode cX12_goesFor 81 = .ok (.istore 6, 2) := by decide +kernel
theorem dX12_goesFor_83 : decode cX12_goesFor 83 = .ok (.iconst 0, 1) := by decide +kernel
theorem dX12_goesFor_84 : decode cX12_goesFor 84 = .ok (.istore 7, 2) := by decide +kernel
theorem dX12_goesFor_86 : decode cX12_goesFor 86 = .ok (.iload 7, 2) := by decide +kernel
theorem dX12_goesFor_88 : decode cX12_goesFor 88 = .ok (.aload_n 0, 1) := by decide +kernel
theorem dX12_goesFor_89 : decode cX12_goesFor 89 = .ok (.getfield 123, 3) := by decide +kernel
theorem dX12_goesFor_92 : decode cX12_goesFor 92 = .ok (.if_icmp .ge 122, 3) := by decide +kernel
theorem dX12_goesFor_95 : decode cX12_goesFor 95 = .ok (.iload 6, 2) := by decide +kernel
theorem dX12_goesFor_97 : decode cX12_goesFor 97 = .ok (.ifCond .eq 117, 3) := by decide +kernel
theorem dX12_goesFor_100 : decode cX12_goesFor 100 = .ok (.iload_n 2, 1) := by decide +kernel
theorem dX12_goesFor_101 : decode cX12_goesFor 101 = .ok (.iload 7, 2) := by decide +kernel
theorem dX12_goesFor_103 : decode cX12_goesFor 103 = .ok (.ishr, 1) := by decide +kernel
theorem dX12_goesFor_104 : decode cX12_goesFor 104 = .ok (.iconst 1, 1) := by decide +kernel
theorem dX12_goesFor_105 : decode cX12_goesFor 105 = .ok (.iand, 1) := by decide +kernel
theorem dX12_goesFor_106 : decode cX12_goesFor 106 = .ok (.ifCond .ne 6, 3) := by decide +kernel
theorem dX12_goesFor_109 : decode cX12_goesFor 109 = .ok (.goto 99, 3) := by decide +kernel
theorem dX12_goesFor_112 : decode cX12_goesFor 112 = .ok (.aload_n 0, 1) := by decide +kernel
theorem dX12_goesFor_113 : decode cX12_goesFor 113 = .ok (.getfield 75, 3) := by decide +kernel
theorem dX12_goesFor_116 : decode cX12_goesFor 116 = .ok (.bipush 6, 2) := by decide +kernel
theorem dX12_goesFor_118 : decode cX12_goesFor 118 = .ok (.iload 7, 2) := by decide +kernel
theorem dX12_goesFor_120 : decode cX12_goesFor 120 = .ok (.imul, 1) := by decide +kernel
theorem dX12_goesFor_121 : decode cX12_goesFor 121 = .ok (.iload 4, 2) := by decide +kernel
theorem dX12_goesFor_123 : decode cX12_goesFor 123 = .ok (.iadd, 1) := by decide +kernel
theorem dX12_goesFor_124 : decode cX12_goesFor 124 = .ok (.baload, 1) := by decide +kernel
theorem dX12_goesFor_125 : decode cX12_goesFor 125 = .ok (.istore 8, 2) := by decide +kernel
theorem dX12_goesFor_127 : decode cX12_goesFor 127 = .ok (.iload 5, 2) := by decide +kernel
theorem dX12_goesFor_129 : decode cX12_goesFor 129 = .ok (.iconst (-1), 1) := by decide +kernel
theorem dX12_goesFor_130 : decode cX12_goesFor 130 = .ok (.if_icmp .eq 23, 3) := by decide +kernel
theorem dX12_goesFor_133 : decode cX12_goesFor 133 = .ok (.aload_n 0, 1) := by decide +kernel
theorem dX12_goesFor_134 : decode cX12_goesFor 134 = .ok (.getfield 75, 3) := by decide +kernel
theorem dX12_goesFor_137 : decode cX12_goesFor 137 = .ok (.bipush 6, 2) := by decide +kernel
theorem dX12_goesFor_139 : decode cX12_goesFor 139 = .ok (.iload 7, 2) := by decide +kernel
theorem dX12_goesFor_141 : decode cX12_goesFor 141 = .ok (.imul, 1) := by decide +kernel
theorem dX12_goesFor_142 : decode cX12_goesFor 142 = .ok (.iload 5, 2) := by decide +kernel
theorem dX12_goesFor_144 : decode cX12_goesFor 144 = .ok (.iadd, 1) := by decide +kernel
theorem dX12_goesFor_145 : decode cX12_goesFor 145 = .ok (.baload, 1) := by decide +kernel
theorem dX12_goesFor_146 : decode cX12_goesFor 146 = .ok (.ifCond .eq 7, 3) := by decide +kernel
theorem dX12_goesFor_149 : decode cX12_goesFor 149 = .ok (.iconst 1, 1) := by decide +kernel
theorem dX12_goesFor_150 : decode cX12_goesFor 150 = .ok (.goto 4, 3) := by decide +kernel
theorem dX12_goesFor_153 : decode cX12_goesFor 153 = .ok (.iconst 0, 1) := by decide +kernel
theorem dX12_goesFor_154 : decode cX12_goesFor 154 = .ok (.istore 9, 2) := by decide +kernel
theorem dX12_goesFor_156 : decode cX12_goesFor 156 = .ok (.iload 7, 2) := by decide +kernel
theorem dX12_goesFor_158 : decode cX12_goesFor 158 = .ok (.aload_n 0, 1) := by decide +kernel
theorem dX12_goesFor_159 : decode cX12_goesFor 159 = .ok (.getfield 51, 3) := by decide +kernel
theorem dX12_goesFor_162 : decode cX12_goesFor 162 = .ok (.iload_n 1, 1) := by decide +kernel
theorem dX12_goesFor_163 : decode cX12_goesFor 163 = .ok (.iaload, 1) := by decide +kernel
theorem dX12_goesFor_164 : decode cX12_goesFor 164 = .ok (.if_icmp .ne 27, 3) := by decide +kernel
theorem dX12_goesFor_167 : decode cX12_goesFor 167 = .ok (.iload 5, 2) := by decide +kernel
theorem dX12_goesFor_169 : decode cX12_goesFor 169 = .ok (.iconst (-1), 1) := by decide +kernel
theorem dX12_goesFor_170 : decode cX12_goesFor 170 = .ok (.if_icmp .eq 21, 3) := by decide +kernel
theorem dX12_goesFor_173 : decode cX12_goesFor 173 = .ok (.iload 8, 2) := by decide +kernel
theorem dX12_goesFor_175 : decode cX12_goesFor 175 = .ok (.ifCond .eq 12, 3) := by decide +kernel
theorem dX12_goesFor_178 : decode cX12_goesFor 178 = .ok (.iload 9, 2) := by decide +kernel
theorem dX12_goesFor_180 : decode cX12_goesFor 180 = .ok (.ifCond .eq 7, 3) := by decide +kernel
theorem dX12_goesFor_183 : decode cX12_goesFor 183 = .ok (.iconst 1, 1) := by decide +kernel
theorem dX12_goesFor_184 : decode cX12_goesFor 184 = .ok (.goto 22, 3) := by decide +kernel
theorem dX12_goesFor_187 : decode cX12_goesFor 187 = .ok (.iconst 0, 1) := by decide +kernel
theorem dX12_goesFor_188 : decode cX12_goesFor 188 = .ok (.goto 18, 3) := by decide +kernel
theorem dX12_goesFor_191 : decode cX12_goesFor 191 = .ok (.iload 8, 2) := by decide +kernel
theorem dX12_goesFor_193 : decode cX12_goesFor 193 = .ok (.ifCond .ne 8, 3) := by decide +kernel
theorem dX12_goesFor_196 : decode cX12_goesFor 196 = .ok (.iload 9, 2) := by decide +kernel
theorem dX12_goesFor_198 : decode cX12_goesFor 198 = .ok (.ifCond .eq 7, 3) := by decide +kernel
theorem dX12_goesFor_201 : decode cX12_goesFor 201 = .ok (.iconst 1, 1) := by decide +kernel
theorem dX12_goesFor_202 : decode cX12_goesFor 202 = .ok (.goto 4, 3) := by decide +kernel
theorem dX12_goesFor_205 : decode cX12_goesFor 205 = .ok (.iconst 0, 1) := by decide +kernel
theorem dX12_goesFor_206 : decode cX12_goesFor 206 = .ok (.istore 6, 2) := by decide +kernel
theorem dX12_goesFor_208 : decode cX12_goesFor 208 = .ok (.iinc 7 1, 3) := by decide +kernel
theorem dX12_goesFor_211 : decode cX12_goesFor 211 = .ok (.goto (-125), 3) := by decide +kernel
theorem dX12_goesFor_214 : decode cX12_goesFor 214 = .ok (.iload 6, 2) := by decide +kernel
theorem dX12_goesFor_216 : decode cX12_goesFor 216 = .ok (.ifCond .eq 5, 3) := by decide +kernel
theorem dX12_goesFor_219 : decode cX12_goesFor 219 = .ok (.iconst 1, 1) := by decide +kernel
theorem dX12_goesFor_220 : decode cX12_goesFor 220 = .ok (.ireturn, 1) := by decide +kernel
theorem dX12_goesFor_221 : decode cX12_goesFor 221 = .ok (.iinc 3 1, 3) := by decide +kernel
theorem dX12_goesFor_224 : decode cX12_goesFor 224 = .ok (.goto (-222), 3) := by decide +kernel
theorem dX12_goesFor_227 : decode cX12_goesFor 227 = .ok (.iconst 0, 1) := by decide +kernel
theorem dX12_goesFor_228 : decode cX12_goesFor 228 = .ok (.ireturn, 1) := by decide +kernel
theorem dX12_leastStuck_0 : decode cX12_leastStuck 0 = .ok (.iconst 0, 1) := by decide +kernel
theorem dX12_leastStuck_1 : decode cX12_leastStuck 1 = .ok (.istore_n 2, 1) := by decide +kernel
theorem dX12_leastStuck_2 : decode cX12_leastStuck 2 = .ok (.iconst 0, 1) := by decide +kernel
theorem dX12_leastStuck_3 : decode cX12_leastStuck 3 = .ok (.istore_n 3, 1) := by decide +kernel
theorem dX12_leastStuck_4 : decode cX12_leastStuck 4 = .ok (.iload_n 3, 1) := by decide +kernel
theorem dX12_leastStuck_5 : decode cX12_leastStuck 5 = .ok (.aload_n 0, 1) := by decide +kernel
theorem dX12_leastStuck_6 : decode cX12_leastStuck 6 = .ok (.getfield 123, 3) := by decide +kernel
theorem dX12_leastStuck_9 : decode cX12_leastStuck 9 = .ok (.if_icmp .ge 40, 3) := by decide +kernel
theorem dX12_leastStuck_12 : decode cX12_leastStuck 12 = .ok (.aload_n 0, 1) := by decide +kernel
theorem dX12_leastStuck_13 : decode cX12_leastStuck 13 = .ok (.getfield 60, 3) := by decide +kernel
theorem dX12_leastStuck_16 : decode cX12_leastStuck 16 = .ok (.bipush 12, 2) := by decide +kernel
theorem dX12_leastStuck_18 : decode cX12_leastStuck 18 = .ok (.iload_n 1, 1) := by decide +kernel
theorem dX12_leastStuck_19 : decode cX12_leastStuck 19 = .ok (.imul, 1) := by decide +kernel
theorem dX12_leastStuck_20 : decode cX12_leastStuck 20 = .ok (.iload_n 3, 1) := by decide +kernel
theorem dX12_leastStuck_21 : decode cX12_leastStuck 21 = .ok (.iadd, 1) := by decide +kernel
theorem dX12_leastStuck_22 : decode cX12_leastStuck 22 = .ok (.iaload, 1) := by decide +kernel
theorem dX12_leastStuck_23 : decode cX12_leastStuck 23 = .ok (.iconst 1, 1) := by decide +kernel
theorem dX12_leastStuck_24 : decode cX12_leastStuck 24 = .ok (.if_icmp .eq 13, 3) := by decide +kernel
theorem dX12_leastStuck_27 : decode cX12_leastStuck 27 = .ok (.iload_n 3, 1) := by decide +kernel
theorem dX12_leastStuck_28 : decode cX12_leastStuck 28 = .ok (.aload_n 0, 1) := by decide +kernel
theorem dX12_leastStuck_29 : decode cX12_leastStuck 29 = .ok (.getfield 51, 3) := by decide +kernel
theorem dX12_leastStuck_32 : decode cX12_leastStuck 32 = .ok (.iload_n 1, 1) := by decide +kernel
theorem dX12_leastStuck_33 : decode cX12_leastStuck 33 = .ok (.iaload, 1) := by decide +kernel
theorem dX12_leastStuck_34 : decode cX12_leastStuck 34 = .ok (.if_icmp .ne 9, 3) := by decide +kernel
theorem dX12_leastStuck_37 : decode cX12_leastStuck 37 = .ok (.iload_n 2, 1) := by decide +kernel
theorem dX12_leastStuck_38 : decode cX12_leastStuck 38 = .ok (.iconst 1, 1) := by decide +kernel
theorem dX12_leastStuck_39 : decode cX12_leastStuck 39 = .ok (.iload_n 3, 1) := by decide +kernel
theorem dX12_leastStuck_40 : decode cX12_leastStuck 40 = .ok (.ishl, 1) := by decide +kernel
theorem dX12_leastStuck_41 : decode cX12_leastStuck 41 = .ok (.ior, 1) := by decide +kernel
theorem dX12_leastStuck_42 : decode cX12_leastStuck 42 = .ok (.istore_n 2, 1) := by decide +kernel
theorem dX12_leastStuck_43 : decode cX12_leastStuck 43 = .ok (.iinc 3 1, 3) := by decide +kernel
theorem dX12_leastStuck_46 : decode cX12_leastStuck 46 = .ok (.goto (-42), 3) := by decide +kernel
theorem dX12_leastStuck_49 : decode cX12_leastStuck 49 = .ok (.aload_n 0, 1) := by decide +kernel
theorem dX12_leastStuck_50 : decode cX12_leastStuck 50 = .ok (.iload_n 1, 1) := by decide +kernel
theorem dX12_leastStuck_51 : decode cX12_leastStuck 51 = .ok (.iload_n 2, 1) := by decide +kernel
theorem dX12_leastStuck_52 : decode cX12_leastStuck 52 = .ok (.invokevirtual 248, 3) := by decide +kernel
theorem dX12_leastStuck_55 : decode cX12_leastStuck 55 = .ok (.ifCond .eq 5, 3) := by decide +kernel
theorem dX12_leastStuck_58 : decode cX12_leastStuck 58 = .ok (.iconst 0, 1) := by decide +kernel
theorem dX12_leastStuck_59 : decode cX12_leastStuck 59 = .ok (.ireturn, 1) := by decide +kernel
theorem dX12_leastStuck_60 : decode cX12_leastStuck 60 = .ok (.iload_n 2, 1) := by decide +kernel
theorem dX12_leastStuck_61 : decode cX12_leastStuck 61 = .ok (.istore_n 3, 1) := by decide +kernel
theorem dX12_leastStuck_62 : decode cX12_leastStuck 62 = .ok (.iconst 0, 1) := by decide +kernel
theorem dX12_leastStuck_63 : decode cX12_leastStuck 63 = .ok (.istore 4, 2) := by decide +kernel
theorem dX12_leastStuck_65 : decode cX12_leastStuck 65 = .ok (.iload 4, 2) := by decide +kernel
theorem dX12_leastStuck_67 : decode cX12_leastStuck 67 = .ok (.sipush 4096, 3) := by decide +kernel
theorem dX12_leastStuck_70 : decode cX12_leastStuck 70 = .ok (.if_icmp .ge 43, 3) := by decide +kernel
theorem dX12_leastStuck_73 : decode cX12_leastStuck 73 = .ok (.iload 4, 2) := by decide +kernel
theorem dX12_leastStuck_75 : decode cX12_leastStuck 75 = .ok (.iload_n 2, 1) := by decide +kernel
theorem dX12_leastStuck_76 : decode cX12_leastStuck 76 = .ok (.iconst (-1), 1) := by decide +kernel
theorem dX12_leastStuck_77 : decode cX12_leastStuck 77 = .ok (.ixor, 1) := by decide +kernel
theorem dX12_leastStuck_78 : decode cX12_leastStuck 78 = .ok (.iand, 1) := by decide +kernel
theorem dX12_leastStuck_79 : decode cX12_leastStuck 79 = .ok (.ifCond .ne 28, 3) := by decide +kernel
theorem dX12_leastStuck_82 : decode cX12_leastStuck 82 = .ok (.aload_n 0, 1) := by decide +kernel
theorem dX12_leastStuck_83 : decode cX12_leastStuck 83 = .ok (.iload_n 1, 1) := by decide +kernel
theorem dX12_leastStuck_84 : decode cX12_leastStuck 84 = .ok (.iload 4, 2) := by decide +kernel
theorem dX12_leastStuck_86 : decode cX12_leastStuck 86 = .ok (.invokevirtual 248, 3) := by decide +kernel
theorem dX12_leastStuck_89 : decode cX12_leastStuck 89 = .ok (.ifCond .eq 6, 3) := by decide +kernel
theorem dX12_leastStuck_92 : decode cX12_leastStuck 92 = .ok (.goto 15, 3) := by decide +kernel
theorem dX12_leastStuck_95 : decode cX12_leastStuck 95 = .ok (.iload 4, 2) := by decide +kernel
theorem dX12_leastStuck_97 : decode cX12_leastStuck 97 = .ok (.iload_n 3, 1) := by decide +kernel
theorem dX12_leastStuck_98 : decode cX12_leastStuck 98 = .ok (.invokestatic 251, 3) := by decide +kernel
theorem dX12_leastStuck_101 : decode cX12_leastStuck 101 = .ok (.ifCond .eq 6, 3) := by decide +kernel
theorem dX12_leastStuck_104 : decode cX12_leastStuck 104 = .ok (.iload 4, 2) := by decide +kernel
theorem dX12_leastStuck_106 : decode cX12_leastStuck 106 = .ok (.istore_n 3, 1) := by decide +kernel
theorem dX12_leastStuck_107 : decode cX12_leastStuck 107 = .ok (.iinc 4 1, 3) := by decide +kernel
theorem dX12_leastStuck_110 : decode cX12_leastStuck 110 = .ok (.goto (-45), 3) := by decide +kernel
theorem dX12_leastStuck_113 : decode cX12_leastStuck 113 = .ok (.iload_n 3, 1) := by decide +kernel
theorem dX12_leastStuck_114 : decode cX12_leastStuck 114 = .ok (.ireturn, 1) := by decide +kernel
theorem dX12_bits_0 : decode cX12_bits 0 = .ok (.iconst 0, 1) := by decide +kernel
theorem dX12_bits_1 : decode cX12_bits 1 = .ok (.istore_n 1, 1) := by decide +kernel
theorem dX12_bits_2 : decode cX12_bits 2 = .ok (.iconst 0, 1) := by decide +kernel
theorem dX12_bits_3 : decode cX12_bits 3 = .ok (.istore_n 2, 1) := by decide +kernel
theorem dX12_bits_4 : decode cX12_bits 4 = .ok (.iload_n 2, 1) := by decide +kernel
theorem dX12_bits_5 : decode cX12_bits 5 = .ok (.bipush 12, 2) := by decide +kernel
theorem dX12_bits_7 : decode cX12_bits 7 = .ok (.if_icmp .ge 17, 3) := by decide +kernel
theorem dX12_bits_10 : decode cX12_bits 10 = .ok (.iload_n 1, 1) := by decide +kernel
theorem dX12_bits_11 : decode cX12_bits 11 = .ok (.iload_n 0, 1) := by decide +kernel
theorem dX12_bits_12 : decode cX12_bits 12 = .ok (.iload_n 2, 1) := by decide +kernel
theorem dX12_bits_13 : decode cX12_bits 13 = .ok (.ishr, 1) := by decide +kernel
theorem dX12_bits_14 : decode cX12_bits 14 = .ok (.iconst 1, 1) := by decide +kernel
theorem dX12_bits_15 : decode cX12_bits 15 = .ok (.iand, 1) := by decide +kernel
theorem dX12_bits_16 : decode cX12_bits 16 = .ok (.iadd, 1) := by decide +kernel
theorem dX12_bits_17 : decode cX12_bits 17 = .ok (.istore_n 1, 1) := by decide +kernel
theorem dX12_bits_18 : decode cX12_bits 18 = .ok (.iinc 2 1, 3) := by decide +kernel
theorem dX12_bits_21 : decode cX12_bits 21 = .ok (.goto (-17), 3) := by decide +kernel
theorem dX12_bits_24 : decode cX12_bits 24 = .ok (.iload_n 1, 1) := by decide +kernel
theorem dX12_bits_25 : decode cX12_bits 25 = .ok (.ireturn, 1) := by decide +kernel
theorem dX12_isAhead_0 : decode cX12_isAhead 0 = .ok (.iload_n 0, 1) := by decide +kernel
theorem dX12_isAhead_1 : decode cX12_isAhead 1 = .ok (.invokestatic 254, 3) := by decide +kernel
theorem dX12_isAhead_4 : decode cX12_isAhead 4 = .ok (.iload_n 1, 1) := by decide +kernel
theorem dX12_isAhead_5 : decode cX12_isAhead 5 = .ok (.invokestatic 254, 3) := by decide +kernel
theorem dX12_isAhead_8 : decode cX12_isAhead 8 = .ok (.if_icmp .eq 20, 3) := by decide +kernel
theorem dX12_isAhead_11 : decode cX12_isAhead 11 = .ok (.iload_n 0, 1) := by decide +kernel
theorem dX12_isAhead_12 : decode cX12_isAhead 12 = .ok (.invokestatic 254, 3) := by decide +kernel
theorem dX12_isAhead_15 : decode cX12_isAhead 15 = .ok (.iload_n 1, 1) := by decide +kernel
theorem dX12_isAhead_16 : decode cX12_isAhead 16 = .ok (.invokestatic 254, 3) := by decide +kernel
theorem dX12_isAhead_19 : decode cX12_isAhead 19 = .ok (.if_icmp .ge 7, 3) := by decide +kernel
theorem dX12_isAhead_22 : decode cX12_isAhead 22 = .ok (.iconst 1, 1) := by decide +kernel
theorem dX12_isAhead_23 : decode cX12_isAhead 23 = .ok (.goto 4, 3) := by decide +kernel
theorem dX12_isAhead_26 : decode cX12_isAhead 26 = .ok (.iconst 0, 1) := by decide +kernel
theorem dX12_isAhead_27 : decode cX12_isAhead 27 = .ok (.ireturn, 1) := by decide +kernel
theorem dX12_isAhead_28 : decode cX12_isAhead 28 = .ok (.iload_n 0, 1) := by decide +kernel
theorem dX12_isAhead_29 : decode cX12_isAhead 29 = .ok (.iload_n 1, 1) := by decide +kernel
theorem dX12_isAhead_30 : decode cX12_isAhead 30 = .ok (.ixor, 1) := by decide +kernel
theorem dX12_isAhead_31 : decode cX12_isAhead 31 = .ok (.istore_n 2, 1) := by decide +kernel
theorem dX12_isAhead_32 : decode cX12_isAhead 32 = .ok (.iload_n 0, 1) := by decide +kernel
theorem dX12_isAhead_33 : decode cX12_isAhead 33 = .ok (.iload_n 2, 1) := by decide +kernel
theorem dX12_isAhead_34 : decode cX12_isAhead 34 = .ok (.iload_n 2, 1) := by decide +kernel
theorem dX12_isAhead_35 : decode cX12_isAhead 35 = .ok (.ineg, 1) := by decide +kernel
theorem dX12_isAhead_36 : decode cX12_isAhead 36 = .ok (.iand, 1) := by decide +kernel
theorem dX12_isAhead_37 : decode cX12_isAhead 37 = .ok (.iand, 1) := by decide +kernel
theorem dX12_isAhead_38 : decode cX12_isAhead 38 = .ok (.ifCond .eq 7, 3) := by decide +kernel
theorem dX12_isAhead_41 : decode cX12_isAhead 41 = .ok (.iconst 1, 1) := by decide +kernel
theorem dX12_isAhead_42 : decode cX12_isAhead 42 = .ok (.goto 4, 3) := by decide +kernel
theorem dX12_isAhead_45 : decode cX12_isAhead 45 = .ok (.iconst 0, 1) := by decide +kernel
theorem dX12_isAhead_46 : decode cX12_isAhead 46 = .ok (.ireturn, 1) := by decide +kernel
theorem dX12_stuck_0 : decode cX12_stuck 0 = .ok (.iload_n 1, 1) := by decide +kernel
theorem dX12_stuck_1 : decode cX12_stuck 1 = .ok (.ifCond .ge 5, 3) := by decide +kernel
theorem dX12_stuck_4 : decode cX12_stuck 4 = .ok (.iconst (-1), 1) := by decide +kernel
theorem dX12_stuck_5 : decode cX12_stuck 5 = .ok (.ireturn, 1) := by decide +kernel
theorem dX12_stuck_6 : decode cX12_stuck 6 = .ok (.iload_n 1, 1) := by decide +kernel
theorem dX12_stuck_7 : decode cX12_stuck 7 = .ok (.istore_n 2, 1) := by decide +kernel
theorem dX12_stuck_8 : decode cX12_stuck 8 = .ok (.iconst 0, 1) := by decide +kernel
theorem dX12_stuck_9 : decode cX12_stuck 9 = .ok (.istore_n 3, 1) := by decide +kernel
theorem dX12_stuck_10 : decode cX12_stuck 10 = .ok (.iload_n 3, 1) := by decide +kernel
theorem dX12_stuck_11 : decode cX12_stuck 11 = .ok (.bipush 12, 2) := by decide +kernel
theorem dX12_stuck_13 : decode cX12_stuck 13 = .ok (.if_icmp .ge 32, 3) := by decide +kernel
theorem dX12_stuck_16 : decode cX12_stuck 16 = .ok (.aload_n 0, 1) := by decide +kernel
theorem dX12_stuck_17 : decode cX12_stuck 17 = .ok (.getfield 227, 3) := by decide +kernel
theorem dX12_stuck_20 : decode cX12_stuck 20 = .ok (.iload_n 3, 1) := by decide +kernel
theorem dX12_stuck_21 : decode cX12_stuck 21 = .ok (.ishr, 1) := by decide +kernel
theorem dX12_stuck_22 : decode cX12_stuck 22 = .ok (.iconst 1, 1) := by decide +kernel
theorem dX12_stuck_23 : decode cX12_stuck 23 = .ok (.iand, 1) := by decide +kernel
theorem dX12_stuck_24 : decode cX12_stuck 24 = .ok (.ifCond .ne 6, 3) := by decide +kernel
theorem dX12_stuck_27 : decode cX12_stuck 27 = .ok (.goto 12, 3) := by decide +kernel
theorem dX12_stuck_30 : decode cX12_stuck 30 = .ok (.iload_n 2, 1) := by decide +kernel
theorem dX12_stuck_31 : decode cX12_stuck 31 = .ok (.ifCond .ne 5, 3) := by decide +kernel
theorem dX12_stuck_34 : decode cX12_stuck 34 = .ok (.iload_n 3, 1) := by decide +kernel
theorem dX12_stuck_35 : decode cX12_stuck 35 = .ok (.ireturn, 1) := by decide +kernel
theorem dX12_stuck_36 : decode cX12_stuck 36 = .ok (.iinc 2 (-1), 3) := by decide +kernel
theorem dX12_stuck_39 : decode cX12_stuck 39 = .ok (.iinc 3 1, 3) := by decide +kernel
theorem dX12_stuck_42 : decode cX12_stuck 42 = .ok (.goto (-32), 3) := by decide +kernel
theorem dX12_stuck_45 : decode cX12_stuck 45 = .ok (.iconst (-1), 1) := by decide +kernel
theorem dX12_stuck_46 : decode cX12_stuck 46 = .ok (.ireturn, 1) := by decide +kernel
theorem dX12_weekSums_0 : decode cX12_weekSums 0 = .ok (.iconst 0, 1) := by decide +kernel
theorem dX12_weekSums_1 : decode cX12_weekSums 1 = .ok (.istore_n 1, 1) := by decide +kernel
theorem dX12_weekSums_2 : decode cX12_weekSums 2 = .ok (.iload_n 1, 1) := by decide +kernel
theorem dX12_weekSums_3 : decode cX12_weekSums 3 = .ok (.aload_n 0, 1) := by decide +kernel
theorem dX12_weekSums_4 : decode cX12_weekSums 4 = .ok (.getfield 123, 3) := by decide +kernel
theorem dX12_weekSums_7 : decode cX12_weekSums 7 = .ok (.if_icmp .ge 80, 3) := by decide +kernel
theorem dX12_weekSums_10 : decode cX12_weekSums 10 = .ok (.aload_n 0, 1) := by decide +kernel
theorem dX12_weekSums_11 : decode cX12_weekSums 11 = .ok (.getfield 87, 3) := by decide +kernel
theorem dX12_weekSums_14 : decode cX12_weekSums 14 = .ok (.iload_n 1, 1) := by decide +kernel
theorem dX12_weekSums_15 : decode cX12_weekSums 15 = .ok (.iconst 0, 1) := by decide +kernel
theorem dX12_weekSums_16 : decode cX12_weekSums 16 = .ok (.iastore, 1) := by decide +kernel
theorem dX12_weekSums_17 : decode cX12_weekSums 17 = .ok (.iconst 0, 1) := by decide +kernel
theorem dX12_weekSums_18 : decode cX12_weekSums 18 = .ok (.istore_n 2, 1) := by decide +kernel
theorem dX12_weekSums_19 : decode cX12_weekSums 19 = .ok (.iload_n 2, 1) := by decide +kernel
theorem dX12_weekSums_20 : decode cX12_weekSums 20 = .ok (.aload_n 0, 1) := by decide +kernel
theorem dX12_weekSums_21 : decode cX12_weekSums 21 = .ok (.getfield 126, 3) := by decide +kernel
theorem dX12_weekSums_24 : decode cX12_weekSums 24 = .ok (.if_icmp .ge 57, 3) := by decide +kernel
theorem dX12_weekSums_27 : decode cX12_weekSums 27 = .ok (.aload_n 0, 1) := by decide +kernel
theorem dX12_weekSums_28 : decode cX12_weekSums 28 = .ok (.getfield 66, 3) := by decide +kernel
theorem dX12_weekSums_31 : decode cX12_weekSums 31 = .ok (.iload_n 2, 1) := by decide +kernel
theorem dX12_weekSums_32 : decode cX12_weekSums 32 = .ok (.iaload, 1) := by decide +kernel
theorem dX12_weekSums_33 : decode cX12_weekSums 33 = .ok (.iconst (-1), 1) := by decide +kernel
theorem dX12_weekSums_34 : decode cX12_weekSums 34 = .ok (.if_icmp .eq 41, 3) := by decide +kernel
theorem dX12_weekSums_37 : decode cX12_weekSums 37 = .ok (.aload_n 0, 1) := by decide +kernel
theorem dX12_weekSums_38 : decode cX12_weekSums 38 = .ok (.getfield 87, 3) := by decide +kernel
theorem dX12_weekSums_41 : decode cX12_weekSums 41 = .ok (.iload_n 1, 1) := by decide +kernel
theorem dX12_weekSums_42 : decode cX12_weekSums 42 = .ok (.dup2, 1) := by decide +kernel
theorem dX12_weekSums_43 : decode cX12_weekSums 43 = .ok (.iaload, 1) := by decide +kernel
theorem dX12_weekSums_44 : decode cX12_weekSums 44 = .ok (.aload_n 0, 1) := by decide +kernel
theorem dX12_weekSums_45 : decode cX12_weekSums 45 = .ok (.iload_n 1, 1) := by decide +kernel
theorem dX12_weekSums_46 : decode cX12_weekSums 46 = .ok (.iload_n 2, 1) := by decide +kernel
theorem dX12_weekSums_47 : decode cX12_weekSums 47 = .ok (.aload_n 0, 1) := by decide +kernel
theorem dX12_weekSums_48 : decode cX12_weekSums 48 = .ok (.getfield 66, 3) := by decide +kernel
theorem dX12_weekSums_51 : decode cX12_weekSums 51 = .ok (.iload_n 2, 1) := by decide +kernel
theorem dX12_weekSums_52 : decode cX12_weekSums 52 = .ok (.iaload, 1) := by decide +kernel
theorem dX12_weekSums_53 : decode cX12_weekSums 53 = .ok (.aload_n 0, 1) := by decide +kernel
theorem dX12_weekSums_54 : decode cX12_weekSums 54 = .ok (.getfield 69, 3) := by decide +kernel
theorem dX12_weekSums_57 : decode cX12_weekSums 57 = .ok (.iload_n 2, 1) := by decide +kernel
theorem dX12_weekSums_58 : decode cX12_weekSums 58 = .ok (.iaload, 1) := by decide +kernel
theorem dX12_weekSums_59 : decode cX12_weekSums 59 = .ok (.aload_n 0, 1) := by decide +kernel
theorem dX12_weekSums_60 : decode cX12_weekSums 60 = .ok (.getfield 72, 3) := by decide +kernel
theorem dX12_weekSums_63 : decode cX12_weekSums 63 = .ok (.bipush 12, 2) := by decide +kernel
theorem dX12_weekSums_65 : decode cX12_weekSums 65 = .ok (.iload_n 2, 1) := by decide +kernel
theorem dX12_weekSums_66 : decode cX12_weekSums 66 = .ok (.imul, 1) := by decide +kernel
theorem dX12_weekSums_67 : decode cX12_weekSums 67 = .ok (.iload_n 1, 1) := by decide +kernel
theorem dX12_weekSums_68 : decode cX12_weekSums 68 = .ok (.iadd, 1) := by decide +kernel
theorem dX12_weekSums_69 : decode cX12_weekSums 69 = .ok (.iaload, 1) := by decide +kernel
theorem dX12_weekSums_70 : decode cX12_weekSums 70 = .ok (.invokevirtual 230, 3) := by decide +kernel
theorem dX12_weekSums_73 : decode cX12_weekSums 73 = .ok (.iadd, 1) := by decide +kernel
theorem dX12_weekSums_74 : decode cX12_weekSums 74 = .ok (.iastore, 1) := by decide +kernel
theorem dX12_weekSums_75 : decode cX12_weekSums 75 = .ok (.iinc 2 1, 3) := by decide +kernel
theorem dX12_weekSums_78 : decode cX12_weekSums 78 = .ok (.goto (-59), 3) := by decide +kernel
theorem dX12_weekSums_81 : decode cX12_weekSums 81 = .ok (.iinc 1 1, 3) := by decide +kernel
theorem dX12_weekSums_84 : decode cX12_weekSums 84 = .ok (.goto (-82), 3) := by decide +kernel
theorem dX12_weekSums_87 : decode cX12_weekSums 87 = .ok (.return_, 1) := by decide +kernel
theorem dX12_takesChoice_0 : decode cX12_takesChoice 0 = .ok (.aload_n 0, 1) := by decide +kernel
theorem dX12_takesChoice_1 : decode cX12_takesChoice 1 = .ok (.iload_n 1, 1) := by decide +kernel
theorem dX12_takesChoice_2 : decode cX12_takesChoice 2 = .ok (.invokevirtual 201, 3) := by decide +kernel
theorem dX12_takesChoice_5 : decode cX12_takesChoice 5 = .ok (.aload_n 0, 1) := by decide +kernel
theorem dX12_takesChoice_6 : decode cX12_takesChoice 6 = .ok (.getfield 78, 3) := by decide +kernel
theorem dX12_takesChoice_9 : decode cX12_takesChoice 9 = .ok (.bipush 15, 2) := by decide +kernel
theorem dX12_takesChoice_11 : decode cX12_takesChoice 11 = .ok (.iload_n 1, 1) := by decide +kernel
theorem dX12_takesChoice_12 : decode cX12_takesChoice 12 = .ok (.imul, 1) := by decide +kernel
theorem dX12_takesChoice_13 : decode cX12_takesChoice 13 = .ok (.aload_n 0, 1) := by decide +kernel
theorem dX12_takesChoice_14 : decode cX12_takesChoice 14 = .ok (.getfield 108, 3) := by decide +kernel
theorem dX12_takesChoice_17 : decode cX12_takesChoice 17 = .ok (.iload_n 1, 1) := by decide +kernel
theorem dX12_takesChoice_18 : decode cX12_takesChoice 18 = .ok (.iaload, 1) := by decide +kernel
theorem dX12_takesChoice_19 : decode cX12_takesChoice 19 = .ok (.iadd, 1) := by decide +kernel
theorem dX12_takesChoice_20 : decode cX12_takesChoice 20 = .ok (.iaload, 1) := by decide +kernel
theorem dX12_takesChoice_21 : decode cX12_takesChoice 21 = .ok (.istore_n 2, 1) := by decide +kernel
theorem dX12_takesChoice_22 : decode cX12_takesChoice 22 = .ok (.aload_n 0, 1) := by decide +kernel
theorem dX12_takesChoice_23 : decode cX12_takesChoice 23 = .ok (.getfield 81, 3) := by decide +kernel
theorem dX12_takesChoice_26 : decode cX12_takesChoice 26 = .ok (.bipush 15, 2) := by decide +kernel
theorem dX12_takesChoice_28 : decode cX12_takesChoice 28 = .ok (.iload_n 1, 1) := by decide +kernel
theorem dX12_takesChoice_29 : decode cX12_takesChoice 29 = .ok (.imul, 1) := by decide +kernel
theorem dX12_takesChoice_30 : decode cX12_takesChoice 30 = .ok (.aload_n 0, 1) := by decide +kernel
theorem dX12_takesChoice_31 : decode cX12_takesChoice 31 = .ok (.getfield 108, 3) := by decide +kernel
theorem dX12_takesChoice_34 : decode cX12_takesChoice 34 = .ok (.iload_n 1, 1) := by decide +kernel
theorem dX12_takesChoice_35 : decode cX12_takesChoice 35 = .ok (.iaload, 1) := by decide +kernel
theorem dX12_takesChoice_36 : decode cX12_takesChoice 36 = .ok (.iadd, 1) := by decide +kernel
theorem dX12_takesChoice_37 : decode cX12_takesChoice 37 = .ok (.iaload, 1) := by decide +kernel
theorem dX12_takesChoice_38 : decode cX12_takesChoice 38 = .ok (.istore_n 3, 1) := by decide +kernel
theorem dX12_takesChoice_39 : decode cX12_takesChoice 39 = .ok (.aload_n 0, 1) := by decide +kernel
theorem dX12_takesChoice_40 : decode cX12_takesChoice 40 = .ok (.iload_n 1, 1) := by decide +kernel
theorem dX12_takesChoice_41 : decode cX12_takesChoice 41 = .ok (.iload_n 2, 1) := by decide +kernel
theorem dX12_takesChoice_42 : decode cX12_takesChoice 42 = .ok (.iload_n 3, 1) := by decide +kernel
theorem dX12_takesChoice_43 : decode cX12_takesChoice 43 = .ok (.invokevirtual 221, 3) := by decide +kernel
theorem dX12_takesChoice_46 : decode cX12_takesChoice 46 = .ok (.ifCond .ne 5, 3) := by decide +kernel
theorem dX12_takesChoice_49 : decode cX12_takesChoice 49 = .ok (.iconst 0, 1) := by decide +kernel
theorem dX12_takesChoice_50 : decode cX12_takesChoice 50 = .ok (.ireturn, 1) := by decide +kernel
theorem dX12_takesChoice_51 : decode cX12_takesChoice 51 = .ok (.aload_n 0, 1) := by decide +kernel
theorem dX12_takesChoice_52 : decode cX12_takesChoice 52 = .ok (.getfield 66, 3) := by decide +kernel
theorem dX12_takesChoice_55 : decode cX12_takesChoice 55 = .ok (.iload_n 1, 1) := by decide +kernel
theorem dX12_takesChoice_56 : decode cX12_takesChoice 56 = .ok (.iload_n 2, 1) := by decide +kernel
theorem dX12_takesChoice_57 : decode cX12_takesChoice 57 = .ok (.iastore, 1) := by decide +kernel
theorem dX12_takesChoice_58 : decode cX12_takesChoice 58 = .ok (.aload_n 0, 1) := by decide +kernel
theorem dX12_takesChoice_59 : decode cX12_takesChoice 59 = .ok (.getfield 69, 3) := by decide +kernel
theorem dX12_takesChoice_62 : decode cX12_takesChoice 62 = .ok (.iload_n 1, 1) := by decide +kernel
theorem dX12_takesChoice_63 : decode cX12_takesChoice 63 = .ok (.iload_n 3, 1) := by decide +kernel
theorem dX12_takesChoice_64 : decode cX12_takesChoice 64 = .ok (.iastore, 1) := by decide +kernel
theorem dX12_takesChoice_65 : decode cX12_takesChoice 65 = .ok (.iconst 0, 1) := by decide +kernel
theorem dX12_takesChoice_66 : decode cX12_takesChoice 66 = .ok (.istore 4, 2) := by decide +kernel
theorem dX12_takesChoice_68 : decode cX12_takesChoice 68 = .ok (.iload 4, 2) := by decide +kernel
theorem dX12_takesChoice_70 : decode cX12_takesChoice 70 = .ok (.bipush 12, 2) := by decide +kernel
theorem dX12_takesChoice_72 : decode cX12_takesChoice 72 = .ok (.if_icmp .ge 43, 3) := by decide +kernel
theorem dX12_takesChoice_75 : decode cX12_takesChoice 75 = .ok (.aload_n 0, 1) := by decide +kernel
theorem dX12_takesChoice_76 : decode cX12_takesChoice 76 = .ok (.getfield 72, 3) := by decide +kernel
theorem dX12_takesChoice_79 : decode cX12_takesChoice 79 = .ok (.bipush 12, 2) := by decide +kernel
theorem dX12_takesChoice_81 : decode cX12_takesChoice 81 = .ok (.iload_n 1, 1) := by decide +kernel
theorem dX12_takesChoice_82 : decode cX12_takesChoice 82 = .ok (.imul, 1) := by decide +kernel
theorem dX12_takesChoice_83 : decode cX12_takesChoice 83 = .ok (.iload 4, 2) := by decide +kernel
theorem dX12_takesChoice_85 : decode cX12_takesChoice 85 = .ok (.iadd, 1) := by decide +kernel
theorem dX12_takesChoice_86 : decode cX12_takesChoice 86 = .ok (.iload 4, 2) := by decide +kernel
theorem dX12_takesChoice_88 : decode cX12_takesChoice 88 = .ok (.aload_n 0, 1) := by decide +kernel
theorem dX12_takesChoice_89 : decode cX12_takesChoice 89 = .ok (.getfield 123, 3) := by decide +kernel
theorem dX12_takesChoice_92 : decode cX12_takesChoice 92 = .ok (.if_icmp .ge 15, 3) := by decide +kernel
theorem dX12_takesChoice_95 : decode cX12_takesChoice 95 = .ok (.aload_n 0, 1) := by decide +kernel
theorem dX12_takesChoice_96 : decode cX12_takesChoice 96 = .ok (.iload 4, 2) := by decide +kernel
theorem dX12_takesChoice_98 : decode cX12_takesChoice 98 = .ok (.iload_n 1, 1) := by decide +kernel
theorem dX12_takesChoice_99 : decode cX12_takesChoice 99 = .ok (.iload_n 2, 1) := by decide +kernel
theorem dX12_takesChoice_100 : decode cX12_takesChoice 100 = .ok (.iload_n 3, 1) := by decide +kernel
theorem dX12_takesChoice_101 : decode cX12_takesChoice 101 = .ok (.invokevirtual 205, 3) := by decide +kernel
theorem dX12_takesChoice_104 : decode cX12_takesChoice 104 = .ok (.goto 4, 3) := by decide +kernel
theorem dX12_takesChoice_107 : decode cX12_takesChoice 107 = .ok (.iconst 0, 1) := by decide +kernel
theorem dX12_takesChoice_108 : decode cX12_takesChoice 108 = .ok (.iastore, 1) := by decide +kernel
theorem dX12_takesChoice_109 : decode cX12_takesChoice 109 = .ok (.iinc 4 1, 3) := by decide +kernel
theorem dX12_takesChoice_112 : decode cX12_takesChoice 112 = .ok (.goto (-44), 3) := by decide +kernel
theorem dX12_takesChoice_115 : decode cX12_takesChoice 115 = .ok (.iconst 1, 1) := by decide +kernel
theorem dX12_takesChoice_116 : decode cX12_takesChoice 116 = .ok (.ireturn, 1) := by decide +kernel
theorem dX12_move_0 : decode cX12_move 0 = .ok (.iload_n 1, 1) := by decide +kernel
theorem dX12_move_1 : decode cX12_move 1 = .ok (.invokestatic 149, 3) := by decide +kernel
theorem dX12_move_4 : decode cX12_move 4 = .ok (.ifCond .eq 11, 3) := by decide +kernel
theorem dX12_move_7 : decode cX12_move 7 = .ok (.aload_n 0, 1) := by decide +kernel
theorem dX12_move_8 : decode cX12_move 8 = .ok (.iload_n 2, 1) := by decide +kernel
theorem dX12_move_9 : decode cX12_move 9 = .ok (.invokevirtual 152, 3) := by decide +kernel
theorem dX12_move_12 : decode cX12_move 12 = .ok (.ifCond .ne 6, 3) := by decide +kernel
theorem dX12_move_15 : decode cX12_move 15 = .ok (.bipush (-2), 2) := by decide +kernel
theorem dX12_move_17 : decode cX12_move 17 = .ok (.ireturn, 1) := by decide +kernel
theorem dX12_move_18 : decode cX12_move 18 = .ok (.aload_n 0, 1) := by decide +kernel
theorem dX12_move_19 : decode cX12_move 19 = .ok (.iload_n 1, 1) := by decide +kernel
theorem dX12_move_20 : decode cX12_move 20 = .ok (.iload_n 2, 1) := by decide +kernel
theorem dX12_move_21 : decode cX12_move 21 = .ok (.invokevirtual 214, 3) := by decide +kernel
theorem dX12_move_24 : decode cX12_move 24 = .ok (.iconst 0, 1) := by decide +kernel
theorem dX12_move_25 : decode cX12_move 25 = .ok (.istore_n 3, 1) := by decide +kernel
theorem dX12_move_26 : decode cX12_move 26 = .ok (.iload_n 3, 1) := by decide +kernel
theorem dX12_move_27 : decode cX12_move 27 = .ok (.iconst 4, 1) := by decide +kernel
theorem dX12_move_28 : decode cX12_move 28 = .ok (.if_icmp .ge 69, 3) := by decide +kernel
theorem dX12_move_31 : decode cX12_move 31 = .ok (.aload_n 0, 1) := by decide +kernel
theorem dX12_move_32 : decode cX12_move 32 = .ok (.getfield 114, 3) := by decide +kernel
theorem dX12_move_35 : decode cX12_move 35 = .ok (.iload_n 3, 1) := by decide +kernel
theorem dX12_move_36 : decode cX12_move 36 = .ok (.aload_n 0, 1) := by decide +kernel
theorem dX12_move_37 : decode cX12_move 37 = .ok (.getfield 66, 3) := by decide +kernel
theorem dX12_move_40 : decode cX12_move 40 = .ok (.iload_n 3, 1) := by decide +kernel
theorem dX12_move_41 : decode cX12_move 41 = .ok (.iaload, 1) := by decide +kernel
theorem dX12_move_42 : decode cX12_move 42 = .ok (.iastore, 1) := by decide +kernel
theorem dX12_move_43 : decode cX12_move 43 = .ok (.aload_n 0, 1) := by decide +kernel
theorem dX12_move_44 : decode cX12_move 44 = .ok (.getfield 117, 3) := by decide +kernel
theorem dX12_move_47 : decode cX12_move 47 = .ok (.iload_n 3, 1) := by decide +kernel
theorem dX12_move_48 : decode cX12_move 48 = .ok (.aload_n 0, 1) := by decide +kernel
theorem dX12_move_49 : decode cX12_move 49 = .ok (.getfield 69, 3) := by decide +kernel
theorem dX12_move_52 : decode cX12_move 52 = .ok (.iload_n 3, 1) := by decide +kernel
theorem dX12_move_53 : decode cX12_move 53 = .ok (.iaload, 1) := by decide +kernel
theorem dX12_move_54 : decode cX12_move 54 = .ok (.iastore, 1) := by decide +kernel
theorem dX12_move_55 : decode cX12_move 55 = .ok (.aload_n 0, 1) := by decide +kernel
theorem dX12_move_56 : decode cX12_move 56 = .ok (.getfield 108, 3) := by decide +kernel
theorem dX12_move_59 : decode cX12_move 59 = .ok (.iload_n 3, 1) := by decide +kernel
theorem dX12_move_60 : decode cX12_move 60 = .ok (.iconst (-1), 1) := by decide +kernel
theorem dX12_move_61 : decode cX12_move 61 = .ok (.iastore, 1) := by decide +kernel
theorem dX12_move_62 : decode cX12_move 62 = .ok (.iconst 0, 1) := by decide +kernel
theorem dX12_move_63 : decode cX12_move 63 = .ok (.istore 4, 2) := by decide +kernel
theorem dX12_move_65 : decode cX12_move 65 = .ok (.iload 4, 2) := by decide +kernel
theorem dX12_move_67 : decode cX12_move 67 = .ok (.bipush 12, 2) := by decide +kernel
theorem dX12_move_69 : decode cX12_move 69 = .ok (.if_icmp .ge 22, 3) := by decide +kernel
theorem dX12_move_72 : decode cX12_move 72 = .ok (.aload_n 0, 1) := by decide +kernel
theorem dX12_move_73 : decode cX12_move 73 = .ok (.getfield 72, 3) := by decide +kernel
theorem dX12_move_76 : decode cX12_move 76 = .ok (.bipush 12, 2) := by decide +kernel
theorem dX12_move_78 : decode cX12_move 78 = .ok (.iload_n 3, 1) := by decide +kernel
theorem dX12_move_79 : decode cX12_move 79 = .ok (.imul, 1) := by decide +kernel
theorem dX12_move_80 : decode cX12_move 80 = .ok (.iload 4, 2) := by decide +kernel
theorem dX12_move_82 : decode cX12_move 82 = .ok (.iadd, 1) := by decide +kernel
theorem dX12_move_83 : decode cX12_move 83 = .ok (.iconst 0, 1) := by decide +kernel
theorem dX12_move_84 : decode cX12_move 84 = .ok (.iastore, 1) := by decide +kernel
theorem dX12_move_85 : decode cX12_move 85 = .ok (.iinc 4 1, 3) := by decide +kernel
theorem dX12_move_88 : decode cX12_move 88 = .ok (.goto (-23), 3) := by decide +kernel
theorem dX12_move_91 : decode cX12_move 91 = .ok (.iinc 3 1, 3) := by decide +kernel
theorem dX12_move_94 : decode cX12_move 94 = .ok (.goto (-68), 3) := by decide +kernel
theorem dX12_move_97 : decode cX12_move 97 = .ok (.iconst 0, 1) := by decide +kernel
theorem dX12_move_98 : decode cX12_move 98 = .ok (.istore_n 3, 1) := by decide +kernel
theorem dX12_move_99 : decode cX12_move 99 = .ok (.iload_n 3, 1) := by decide +kernel
theorem dX12_move_100 : decode cX12_move 100 = .ok (.aload_n 0, 1) := by decide +kernel
theorem dX12_move_101 : decode cX12_move 101 = .ok (.getfield 126, 3) := by decide +kernel
theorem dX12_move_104 : decode cX12_move 104 = .ok (.if_icmp .ge 14, 3) := by decide +kernel
theorem dX12_move_107 : decode cX12_move 107 = .ok (.aload_n 0, 1) := by decide +kernel
theorem dX12_move_108 : decode cX12_move 108 = .ok (.iload_n 3, 1) := by decide +kernel
theorem dX12_move_109 : decode cX12_move 109 = .ok (.invokevirtual 224, 3) := by decide +kernel
theorem dX12_move_112 : decode cX12_move 112 = .ok (.iinc 3 1, 3) := by decide +kernel
theorem dX12_move_115 : decode cX12_move 115 = .ok (.goto (-16), 3) := by decide +kernel
theorem dX12_move_118 : decode cX12_move 118 = .ok (.iconst (-1), 1) := by decide +kernel
theorem dX12_move_119 : decode cX12_move 119 = .ok (.istore_n 3, 1) := by decide +kernel
theorem dX12_move_120 : decode cX12_move 120 = .ok (.iconst 0, 1) := by decide +kernel
theorem dX12_move_121 : decode cX12_move 121 = .ok (.istore 4, 2) := by decide +kernel
theorem dX12_move_123 : decode cX12_move 123 = .ok (.iconst 0, 1) := by decide +kernel
theorem dX12_move_124 : decode cX12_move 124 = .ok (.istore 5, 2) := by decide +kernel
theorem dX12_move_126 : decode cX12_move 126 = .ok (.iload 4, 2) := by decide +kernel
theorem dX12_move_128 : decode cX12_move 128 = .ok (.ifCond .lt 261, 3) := by decide +kernel
theorem dX12_move_131 : decode cX12_move 131 = .ok (.iload 4, 2) := by decide +kernel
theorem dX12_move_133 : decode cX12_move 133 = .ok (.aload_n 0, 1) := by decide +kernel
theorem dX12_move_134 : decode cX12_move 134 = .ok (.getfield 126, 3) := by decide +kernel
theorem dX12_move_137 : decode cX12_move 137 = .ok (.if_icmp .ne 138, 3) := by decide +kernel
theorem dX12_move_140 : decode cX12_move 140 = .ok (.iconst 0, 1) := by decide +kernel
theorem dX12_move_141 : decode cX12_move 141 = .ok (.istore 5, 2) := by decide +kernel
theorem dX12_move_143 : decode cX12_move 143 = .ok (.iconst 0, 1) := by decide +kernel
theorem dX12_move_144 : decode cX12_move 144 = .ok (.istore 6, 2) := by decide +kernel
theorem dX12_move_146 : decode cX12_move 146 = .ok (.iload 6, 2) := by decide +kernel
theorem dX12_move_148 : decode cX12_move 148 = .ok (.aload_n 0, 1) := by decide +kernel
theorem dX12_move_149 : decode cX12_move 149 = .ok (.getfield 126, 3) := by decide +kernel
theorem dX12_move_152 : decode cX12_move 152 = .ok (.if_icmp .ge 46, 3) := by decide +kernel
theorem dX12_move_155 : decode cX12_move 155 = .ok (.aload_n 0, 1) := by decide +kernel
theorem dX12_move_156 : decode cX12_move 156 = .ok (.getfield 66, 3) := by decide +kernel
theorem dX12_move_159 : decode cX12_move 159 = .ok (.iload 6, 2) := by decide +kernel
theorem dX12_move_161 : decode cX12_move 161 = .ok (.iaload, 1) := by decide +kernel
theorem dX12_move_162 : decode cX12_move 162 = .ok (.aload_n 0, 1) := by decide +kernel
theorem dX12_move_163 : decode cX12_move 163 = .ok (.getfield 114, 3) := by decide +kernel
theorem dX12_move_166 : decode cX12_move 166 = .ok (.iload 6, 2) := by decide +kernel
theorem dX12_move_168 : decode cX12_move 168 = .ok (.iaload, 1) := by decide +kernel
theorem dX12_move_169 : decode cX12_move 169 = .ok (.if_icmp .ne 20, 3) := by decide +kernel
theorem dX12_move_172 : decode cX12_move 172 = .ok (.aload_n 0, 1) := by decide +kernel
theorem dX12_move_173 : decode cX12_move 173 = .ok (.getfield 69, 3) := by decide +kernel
theorem dX12_move_176 : decode cX12_move 176 = .ok (.iload 6, 2) := by decide +kernel
theorem dX12_move_178 : decode cX12_move 178 = .ok (.iaload, 1) := by decide +kernel
theorem dX12_move_179 : decode cX12_move 179 = .ok (.aload_n 0, 1) := by decide +kernel
theorem dX12_move_180 : decode cX12_move 180 = .ok (.getfield 117, 3) := by decide +kernel
theorem dX12_move_183 : decode cX12_move 183 = .ok (.iload 6, 2) := by decide +kernel
theorem dX12_move_185 : decode cX12_move 185 = .ok (.iaload, 1) := by decide +kernel
theorem dX12_move_186 : decode cX12_move 186 = .ok (.if_icmp .eq 6, 3) := by decide +kernel
theorem dX12_move_189 : decode cX12_move 189 = .ok (.iinc 5 1, 3) := by decide +kernel
theorem dX12_move_192 : decode cX12_move 192 = .ok (.iinc 6 1, 3) := by decide +kernel
theorem dX12_move_195 : decode cX12_move 195 = .ok (.goto (-49), 3) := by decide +kernel
theorem dX12_move_198 : decode cX12_move 198 = .ok (.aload_n 0, 1) := by decide +kernel
theorem dX12_move_199 : decode cX12_move 199 = .ok (.invokevirtual 257, 3) := by decide +kernel
theorem dX12_move_202 : decode cX12_move 202 = .ok (.aload_n 0, 1) := by decide +kernel
theorem dX12_move_203 : decode cX12_move 203 = .ok (.invokevirtual 238, 3) := by decide +kernel
theorem dX12_move_206 : decode cX12_move 206 = .ok (.iload_n 3, 1) := by decide +kernel
theorem dX12_move_207 : decode cX12_move 207 = .ok (.iconst (-1), 1) := by decide +kernel
theorem dX12_move_208 : decode cX12_move 208 = .ok (.if_icmp .eq 22, 3) := by decide +kernel
theorem dX12_move_211 : decode cX12_move 211 = .ok (.iload 5, 2) := by decide +kernel
theorem dX12_move_213 : decode cX12_move 213 = .ok (.iload_n 3, 1) := by decide +kernel
theorem dX12_move_214 : decode cX12_move 214 = .ok (.if_icmp .lt 16, 3) := by decide +kernel
theorem dX12_move_217 : decode cX12_move 217 = .ok (.iload 5, 2) := by decide +kernel
theorem dX12_move_219 : decode cX12_move 219 = .ok (.iload_n 3, 1) := by decide +kernel
theorem dX12_move_220 : decode cX12_move 220 = .ok (.if_icmp .ne 49, 3) := by decide +kernel
theorem dX12_move_223 : decode cX12_move 223 = .ok (.aload_n 0, 1) := by decide +kernel
theorem dX12_move_224 : decode cX12_move 224 = .ok (.invokevirtual 241, 3) := by decide +kernel
theorem dX12_move_227 : decode cX12_move 227 = .ok (.ifCond .eq 42, 3) := by decide +kernel
theorem dX12_move_230 : decode cX12_move 230 = .ok (.iload 5, 2) := by decide +kernel
theorem dX12_move_232 : decode cX12_move 232 = .ok (.istore_n 3, 1) := by decide +kernel
theorem dX12_move_233 : decode cX12_move 233 = .ok (.aload_n 0, 1) := by decide +kernel
theorem dX12_move_234 : decode cX12_move 234 = .ok (.invokevirtual 245, 3) := by decide +kernel
theorem dX12_move_237 : decode cX12_move 237 = .ok (.iconst 0, 1) := by decide +kernel
theorem dX12_move_238 : decode cX12_move 238 = .ok (.istore 6, 2) := by decide +kernel
theorem dX12_move_240 : decode cX12_move 240 = .ok (.iload 6, 2) := by decide +kernel
theorem dX12_move_242 : decode cX12_move 242 = .ok (.aload_n 0, 1) := by decide +kernel
theorem dX12_move_243 : decode cX12_move 243 = .ok (.getfield 126, 3) := by decide +kernel
theorem dX12_move_246 : decode cX12_move 246 = .ok (.if_icmp .ge 23, 3) := by decide +kernel
theorem dX12_move_249 : decode cX12_move 249 = .ok (.aload_n 0, 1) := by decide +kernel
theorem dX12_move_250 : decode cX12_move 250 = .ok (.getfield 111, 3) := by decide +kernel
theorem dX12_move_253 : decode cX12_move 253 = .ok (.iload 6, 2) := by decide +kernel
theorem dX12_move_255 : decode cX12_move 255 = .ok (.aload_n 0, 1) := by decide +kernel
theorem dX12_move_256 : decode cX12_move 256 = .ok (.getfield 108, 3) := by decide +kernel
theorem dX12_move_259 : decode cX12_move 259 = .ok (.iload 6, 2) := by decide +kernel
theorem dX12_move_261 : decode cX12_move 261 = .ok (.iaload, 1) := by decide +kernel
theorem dX12_move_262 : decode cX12_move 262 = .ok (.iastore, 1) := by decide +kernel
theorem dX12_move_263 : decode cX12_move 263 = .ok (.iinc 6 1, 3) := by decide +kernel
theorem dX12_move_266 : decode cX12_move 266 = .ok (.goto (-26), 3) := by decide +kernel
theorem dX12_move_269 : decode cX12_move 269 = .ok (.iinc 4 (-1), 3) := by decide +kernel
theorem dX12_move_272 : decode cX12_move 272 = .ok (.goto (-146), 3) := by decide +kernel
theorem dX12_move_275 : decode cX12_move 275 = .ok (.aload_n 0, 1) := by decide +kernel
theorem dX12_move_276 : decode cX12_move 276 = .ok (.getfield 114, 3) := by decide +kernel
theorem dX12_move_279 : decode cX12_move 279 = .ok (.iload 4, 2) := by decide +kernel
theorem dX12_move_281 : decode cX12_move 281 = .ok (.iaload, 1) := by decide +kernel
theorem dX12_move_282 : decode cX12_move 282 = .ok (.iconst (-1), 1) := by decide +kernel
theorem dX12_move_283 : decode cX12_move 283 = .ok (.if_icmp .ne 49, 3) := by decide +kernel
theorem dX12_move_286 : decode cX12_move 286 = .ok (.aload_n 0, 1) := by decide +kernel
theorem dX12_move_287 : decode cX12_move 287 = .ok (.getfield 108, 3) := by decide +kernel
theorem dX12_move_290 : decode cX12_move 290 = .ok (.iload 4, 2) := by decide +kernel
theorem dX12_move_292 : decode cX12_move 292 = .ok (.aload_n 0, 1) := by decide +kernel
theorem dX12_move_293 : decode cX12_move 293 = .ok (.getfield 108, 3) := by decide +kernel
theorem dX12_move_296 : decode cX12_move 296 = .ok (.iload 4, 2) := by decide +kernel
theorem dX12_move_298 : decode cX12_move 298 = .ok (.iaload, 1) := by decide +kernel
theorem dX12_move_299 : decode cX12_move 299 = .ok (.iconst (-1), 1) := by decide +kernel
theorem dX12_move_300 : decode cX12_move 300 = .ok (.if_icmp .ne 7, 3) := by decide +kernel
theorem dX12_move_303 : decode cX12_move 303 = .ok (.iconst 0, 1) := by decide +kernel
theorem dX12_move_304 : decode cX12_move 304 = .ok (.goto 4, 3) := by decide +kernel
theorem dX12_move_307 : decode cX12_move 307 = .ok (.iconst (-1), 1) := by decide +kernel
theorem dX12_move_308 : decode cX12_move 308 = .ok (.iastore, 1) := by decide +kernel
theorem dX12_move_309 : decode cX12_move 309 = .ok (.iload 4, 2) := by decide +kernel
theorem dX12_move_311 : decode cX12_move 311 = .ok (.aload_n 0, 1) := by decide +kernel
theorem dX12_move_312 : decode cX12_move 312 = .ok (.getfield 108, 3) := by decide +kernel
theorem dX12_move_315 : decode cX12_move 315 = .ok (.iload 4, 2) := by decide +kernel
theorem dX12_move_317 : decode cX12_move 317 = .ok (.iaload, 1) := by decide +kernel
theorem dX12_move_318 : decode cX12_move 318 = .ok (.ifCond .ne 7, 3) := by decide +kernel
theorem dX12_move_321 : decode cX12_move 321 = .ok (.iconst 1, 1) := by decide +kernel
theorem dX12_move_322 : decode cX12_move 322 = .ok (.goto 4, 3) := by decide +kernel
theorem dX12_move_325 : decode cX12_move 325 = .ok (.iconst (-1), 1) := by decide +kernel
theorem dX12_move_326 : decode cX12_move 326 = .ok (.iadd, 1) := by decide +kernel
theorem dX12_move_327 : decode cX12_move 327 = .ok (.istore 4, 2) := by decide +kernel
theorem dX12_move_329 : decode cX12_move 329 = .ok (.goto (-203), 3) := by decide +kernel
theorem dX12_move_332 : decode cX12_move 332 = .ok (.aload_n 0, 1) := by decide +kernel
theorem dX12_move_333 : decode cX12_move 333 = .ok (.getfield 108, 3) := by decide +kernel
theorem dX12_move_336 : decode cX12_move 336 = .ok (.iload 4, 2) := by decide +kernel
theorem dX12_move_338 : decode cX12_move 338 = .ok (.dup2, 1) := by decide +kernel
theorem dX12_move_339 : decode cX12_move 339 = .ok (.iaload, 1) := by decide +kernel
theorem dX12_move_340 : decode cX12_move 340 = .ok (.iconst 1, 1) := by decide +kernel
theorem dX12_move_341 : decode cX12_move 341 = .ok (.iadd, 1) := by decide +kernel
theorem dX12_move_342 : decode cX12_move 342 = .ok (.iastore, 1) := by decide +kernel
theorem dX12_move_343 : decode cX12_move 343 = .ok (.aload_n 0, 1) := by decide +kernel
theorem dX12_move_344 : decode cX12_move 344 = .ok (.getfield 108, 3) := by decide +kernel
theorem dX12_move_347 : decode cX12_move 347 = .ok (.iload 4, 2) := by decide +kernel
theorem dX12_move_349 : decode cX12_move 349 = .ok (.iaload, 1) := by decide +kernel
theorem dX12_move_350 : decode cX12_move 350 = .ok (.aload_n 0, 1) := by decide +kernel
theorem dX12_move_351 : decode cX12_move 351 = .ok (.getfield 84, 3) := by decide +kernel
theorem dX12_move_354 : decode cX12_move 354 = .ok (.iload 4, 2) := by decide +kernel
theorem dX12_move_356 : decode cX12_move 356 = .ok (.iaload, 1) := by decide +kernel
theorem dX12_move_357 : decode cX12_move 357 = .ok (.if_icmp .ne 17, 3) := by decide +kernel
theorem dX12_move_360 : decode cX12_move 360 = .ok (.aload_n 0, 1) := by decide +kernel
theorem dX12_move_361 : decode cX12_move 361 = .ok (.getfield 108, 3) := by decide +kernel
theorem dX12_move_364 : decode cX12_move 364 = .ok (.iload 4, 2) := by decide +kernel
theorem dX12_move_366 : decode cX12_move 366 = .ok (.iconst (-1), 1) := by decide +kernel
theorem dX12_move_367 : decode cX12_move 367 = .ok (.iastore, 1) := by decide +kernel
theorem dX12_move_368 : decode cX12_move 368 = .ok (.iinc 4 (-1), 3) := by decide +kernel
theorem dX12_move_371 : decode cX12_move 371 = .ok (.goto (-245), 3) := by decide +kernel
theorem dX12_move_374 : decode cX12_move 374 = .ok (.aload_n 0, 1) := by decide +kernel
theorem dX12_move_375 : decode cX12_move 375 = .ok (.iload 4, 2) := by decide +kernel
theorem dX12_move_377 : decode cX12_move 377 = .ok (.invokevirtual 260, 3) := by decide +kernel
theorem dX12_move_380 : decode cX12_move 380 = .ok (.ifCond .eq (-254), 3) := by decide +kernel
theorem dX12_move_383 : decode cX12_move 383 = .ok (.iinc 4 1, 3) := by decide +kernel
theorem dX12_move_386 : decode cX12_move 386 = .ok (.goto (-260), 3) := by decide +kernel
theorem dX12_move_389 : decode cX12_move 389 = .ok (.iload_n 3, 1) := by decide +kernel
theorem dX12_move_390 : decode cX12_move 390 = .ok (.iconst (-1), 1) := by decide +kernel
theorem dX12_move_391 : decode cX12_move 391 = .ok (.if_icmp .ne 5, 3) := by decide +kernel
theorem dX12_move_394 : decode cX12_move 394 = .ok (.iconst (-1), 1) := by decide +kernel
theorem dX12_move_395 : decode cX12_move 395 = .ok (.ireturn, 1) := by decide +kernel
theorem dX12_move_396 : decode cX12_move 396 = .ok (.iconst 0, 1) := by decide +kernel
theorem dX12_move_397 : decode cX12_move 397 = .ok (.istore 6, 2) := by decide +kernel
theorem dX12_move_399 : decode cX12_move 399 = .ok (.iload 6, 2) := by decide +kernel
theorem dX12_move_401 : decode cX12_move 401 = .ok (.aload_n 0, 1) := by decide +kernel
theorem dX12_move_402 : decode cX12_move 402 = .ok (.getfield 126, 3) := by decide +kernel
theorem dX12_move_405 : decode cX12_move 405 = .ok (.if_icmp .ge 89, 3) := by decide +kernel
theorem dX12_move_408 : decode cX12_move 408 = .ok (.aload_n 0, 1) := by decide +kernel
theorem dX12_move_409 : decode cX12_move 409 = .ok (.getfield 114, 3) := by decide +kernel
theorem dX12_move_412 : decode cX12_move 412 = .ok (.iload 6, 2) := by decide +kernel
theorem dX12_move_414 : decode cX12_move 414 = .ok (.iaload, 1) := by decide +kernel
theorem dX12_move_415 : decode cX12_move 415 = .ok (.iconst (-1), 1) := by decide +kernel
theorem dX12_move_416 : decode cX12_move 416 = .ok (.if_icmp .ne 6, 3) := by decide +kernel
theorem dX12_move_419 : decode cX12_move 419 = .ok (.goto 69, 3) := by decide +kernel
theorem dX12_move_422 : decode cX12_move 422 = .ok (.aload_n 0, 1) := by decide +kernel
theorem dX12_move_423 : decode cX12_move 423 = .ok (.getfield 63, 3) := by decide +kernel
theorem dX12_move_426 : decode cX12_move 426 = .ok (.iconst 2, 1) := by decide +kernel
theorem dX12_move_427 : decode cX12_move 427 = .ok (.bipush 52, 2) := by decide +kernel
theorem dX12_move_429 : decode cX12_move 429 = .ok (.iload 6, 2) := by decide +kernel
theorem dX12_move_431 : decode cX12_move 431 = .ok (.imul, 1) := by decide +kernel
theorem dX12_move_432 : decode cX12_move 432 = .ok (.iload_n 1, 1) := by decide +kernel
theorem dX12_move_433 : decode cX12_move 433 = .ok (.iadd, 1) := by decide +kernel
theorem dX12_move_434 : decode cX12_move 434 = .ok (.imul, 1) := by decide +kernel
theorem dX12_move_435 : decode cX12_move 435 = .ok (.aload_n 0, 1) := by decide +kernel
theorem dX12_move_436 : decode cX12_move 436 = .ok (.getfield 78, 3) := by decide +kernel
theorem dX12_move_439 : decode cX12_move 439 = .ok (.bipush 15, 2) := by decide +kernel
theorem dX12_move_441 : decode cX12_move 441 = .ok (.iload 6, 2) := by decide +kernel
theorem dX12_move_443 : decode cX12_move 443 = .ok (.imul, 1) := by decide +kernel
theorem dX12_move_444 : decode cX12_move 444 = .ok (.aload_n 0, 1) := by decide +kernel
theorem dX12_move_445 : decode cX12_move 445 = .ok (.getfield 111, 3) := by decide +kernel
theorem dX12_move_448 : decode cX12_move 448 = .ok (.iload 6, 2) := by decide +kernel
theorem dX12_move_450 : decode cX12_move 450 = .ok (.iaload, 1) := by decide +kernel
theorem dX12_move_451 : decode cX12_move 451 = .ok (.iadd, 1) := by decide +kernel
theorem dX12_move_452 : decode cX12_move 452 = .ok (.iaload, 1) := by decide +kernel
theorem dX12_move_453 : decode cX12_move 453 = .ok (.iastore, 1) := by decide +kernel
theorem dX12_move_454 : decode cX12_move 454 = .ok (.aload_n 0, 1) := by decide +kernel
theorem dX12_move_455 : decode cX12_move 455 = .ok (.getfield 63, 3) := by decide +kernel
theorem dX12_move_458 : decode cX12_move 458 = .ok (.iconst 2, 1) := by decide +kernel
theorem dX12_move_459 : decode cX12_move 459 = .ok (.bipush 52, 2) := by decide +kernel
theorem dX12_move_461 : decode cX12_move 461 = .ok (.iload 6, 2) := by decide +kernel
theorem dX12_move_463 : decode cX12_move 463 = .ok (.imul, 1) := by decide +kernel
theorem dX12_move_464 : decode cX12_move 464 = .ok (.iload_n 1, 1) := by decide +kernel
theorem dX12_move_465 : decode cX12_move 465 = .ok (.iadd, 1) := by decide +kernel
theorem dX12_move_466 : decode cX12_move 466 = .ok (.imul, 1) := by decide +kernel
theorem dX12_move_467 : decode cX12_move 467 = .ok (.iconst 1, 1) := by decide +kernel
theorem dX12_move_468 : decode cX12_move 468 = .ok (.iadd, 1) := by decide +kernel
theorem dX12_move_469 : decode cX12_move 469 = .ok (.aload_n 0, 1) := by decide +kernel
theorem dX12_move_470 : decode cX12_move 470 = .ok (.getfield 81, 3) := by decide +kernel
theorem dX12_move_473 : decode cX12_move 473 = .ok (.bipush 15, 2) := by decide +kernel
theorem dX12_move_475 : decode cX12_move 475 = .ok (.iload 6, 2) := by decide +kernel
theorem dX12_move_477 : decode cX12_move 477 = .ok (.imul, 1) := by decide +kernel
theorem dX12_move_478 : decode cX12_move 478 = .ok (.aload_n 0, 1) := by decide +kernel
theorem dX12_move_479 : decode cX12_move 479 = .ok (.getfield 111, 3) := by decide +kernel
theorem dX12_move_482 : decode cX12_move 482 = .ok (.iload 6, 2) := by decide +kernel
theorem dX12_move_484 : decode cX12_move 484 = .ok (.iaload, 1) := by decide +kernel
theorem dX12_move_485 : decode cX12_move 485 = .ok (.iadd, 1) := by decide +kernel
theorem dX12_move_486 : decode cX12_move 486 = .ok (.iaload, 1) := by decide +kernel
theorem dX12_move_487 : decode cX12_move 487 = .ok (.iastore, 1) := by decide +kernel
theorem dX12_move_488 : decode cX12_move 488 = .ok (.iinc 6 1, 3) := by decide +kernel
theorem dX12_move_491 : decode cX12_move 491 = .ok (.goto (-92), 3) := by decide +kernel
theorem dX12_move_494 : decode cX12_move 494 = .ok (.iload_n 3, 1) := by decide +kernel
theorem dX12_move_495 : decode cX12_move 495 = .ok (.ireturn, 1) := by decide +kernel
theorem dX12_planned_0 : decode cX12_planned 0 = .ok (.aload_n 0, 1) := by decide +kernel
theorem dX12_planned_1 : decode cX12_planned 1 = .ok (.iload_n 1, 1) := by decide +kernel
theorem dX12_planned_2 : decode cX12_planned 2 = .ok (.invokevirtual 146, 3) := by decide +kernel
theorem dX12_planned_5 : decode cX12_planned 5 = .ok (.ifCond .eq 19, 3) := by decide +kernel
theorem dX12_planned_8 : decode cX12_planned 8 = .ok (.iload_n 2, 1) := by decide +kernel
theorem dX12_planned_9 : decode cX12_planned 9 = .ok (.invokestatic 149, 3) := by decide +kernel
theorem dX12_planned_12 : decode cX12_planned 12 = .ok (.ifCond .eq 12, 3) := by decide +kernel
theorem dX12_planned_15 : decode cX12_planned 15 = .ok (.iload_n 3, 1) := by decide +kernel
theorem dX12_planned_16 : decode cX12_planned 16 = .ok (.ifCond .lt 8, 3) := by decide +kernel
theorem dX12_planned_19 : decode cX12_planned 19 = .ok (.iload_n 3, 1) := by decide +kernel
theorem dX12_planned_20 : decode cX12_planned 20 = .ok (.iconst 3, 1) := by decide +kernel
theorem dX12_planned_21 : decode cX12_planned 21 = .ok (.if_icmp .le 5, 3) := by decide +kernel
theorem dX12_planned_24 : decode cX12_planned 24 = .ok (.iconst (-1), 1) := by decide +kernel
theorem dX12_planned_25 : decode cX12_planned 25 = .ok (.ireturn, 1) := by decide +kernel
theorem dX12_planned_26 : decode cX12_planned 26 = .ok (.aload_n 0, 1) := by decide +kernel
theorem dX12_planned_27 : decode cX12_planned 27 = .ok (.getfield 63, 3) := by decide +kernel
theorem dX12_planned_30 : decode cX12_planned 30 = .ok (.iconst 2, 1) := by decide +kernel
theorem dX12_planned_31 : decode cX12_planned 31 = .ok (.bipush 52, 2) := by decide +kernel
theorem dX12_planned_33 : decode cX12_planned 33 = .ok (.iload_n 1, 1) := by decide +kernel
theorem dX12_planned_34 : decode cX12_planned 34 = .ok (.imul, 1) := by decide +kernel
theorem dX12_planned_35 : decode cX12_planned 35 = .ok (.iload_n 2, 1) := by decide +kernel
theorem dX12_planned_36 : decode cX12_planned 36 = .ok (.iadd, 1) := by decide +kernel
theorem dX12_planned_37 : decode cX12_planned 37 = .ok (.imul, 1) := by decide +kernel
theorem dX12_planned_38 : decode cX12_planned 38 = .ok (.iload_n 3, 1) := by decide +kernel
theorem dX12_planned_39 : decode cX12_planned 39 = .ok (.iconst 2, 1) := by decide +kernel
theorem dX12_planned_40 : decode cX12_planned 40 = .ok (.irem, 1) := by decide +kernel
theorem dX12_planned_41 : decode cX12_planned 41 = .ok (.iadd, 1) := by decide +kernel
theorem dX12_planned_42 : decode cX12_planned 42 = .ok (.iaload, 1) := by decide +kernel
theorem dX12_planned_43 : decode cX12_planned 43 = .ok (.istore 4, 2) := by decide +kernel
theorem dX12_planned_45 : decode cX12_planned 45 = .ok (.aload_n 0, 1) := by decide +kernel
theorem dX12_planned_46 : decode cX12_planned 46 = .ok (.getfield 63, 3) := by decide +kernel
theorem dX12_planned_49 : decode cX12_planned 49 = .ok (.iconst 2, 1) := by decide +kernel
theorem dX12_planned_50 : decode cX12_planned 50 = .ok (.bipush 52, 2) := by decide +kernel
theorem dX12_planned_52 : decode cX12_planned 52 = .ok (.iload_n 1, 1) := by decide +kernel
theorem dX12_planned_53 : decode cX12_planned 53 = .ok (.imul, 1) := by decide +kernel
theorem dX12_planned_54 : decode cX12_planned 54 = .ok (.iload_n 2, 1) := by decide +kernel
theorem dX12_planned_55 : decode cX12_planned 55 = .ok (.iadd, 1) := by decide +kernel
theorem dX12_planned_56 : decode cX12_planned 56 = .ok (.imul, 1) := by decide +kernel
theorem dX12_planned_57 : decode cX12_planned 57 = .ok (.iaload, 1) := by decide +kernel
theorem dX12_planned_58 : decode cX12_planned 58 = .ok (.iconst (-1), 1) := by decide +kernel
theorem dX12_planned_59 : decode cX12_planned 59 = .ok (.if_icmp .eq 14, 3) := by decide +kernel
theorem dX12_planned_62 : decode cX12_planned 62 = .ok (.iload 4, 2) := by decide +kernel
theorem dX12_planned_64 : decode cX12_planned 64 = .ok (.iconst (-1), 1) := by decide +kernel
theorem dX12_planned_65 : decode cX12_planned 65 = .ok (.if_icmp .eq 8, 3) := by decide +kernel
theorem dX12_planned_68 : decode cX12_planned 68 = .ok (.iload_n 3, 1) := by decide +kernel
theorem dX12_planned_69 : decode cX12_planned 69 = .ok (.iconst 2, 1) := by decide +kernel
theorem dX12_planned_70 : decode cX12_planned 70 = .ok (.if_icmp .ge 6, 3) := by decide +kernel
theorem dX12_planned_73 : decode cX12_planned 73 = .ok (.iload 4, 2) := by decide +kernel
theorem dX12_planned_75 : decode cX12_planned 75 = .ok (.ireturn, 1) := by decide +kernel
theorem dX12_planned_76 : decode cX12_planned 76 = .ok (.sipush 336, 3) := by decide +kernel
theorem dX12_planned_79 : decode cX12_planned 79 = .ok (.iload_n 2, 1) := by decide +kernel
theorem dX12_planned_80 : decode cX12_planned 80 = .ok (.imul, 1) := by decide +kernel
theorem dX12_planned_81 : decode cX12_planned 81 = .ok (.aload_n 0, 1) := by decide +kernel
theorem dX12_planned_82 : decode cX12_planned 82 = .ok (.getfield 57, 3) := by decide +kernel
theorem dX12_planned_85 : decode cX12_planned 85 = .ok (.bipush 6, 2) := by decide +kernel
theorem dX12_planned_87 : decode cX12_planned 87 = .ok (.iload_n 1, 1) := by decide +kernel
theorem dX12_planned_88 : decode cX12_planned 88 = .ok (.imul, 1) := by decide +kernel
theorem dX12_planned_89 : decode cX12_planned 89 = .ok (.iload 4, 2) := by decide +kernel
theorem dX12_planned_91 : decode cX12_planned 91 = .ok (.iadd, 1) := by decide +kernel
theorem dX12_planned_92 : decode cX12_planned 92 = .ok (.iaload, 1) := by decide +kernel
theorem dX12_planned_93 : decode cX12_planned 93 = .ok (.iadd, 1) := by decide +kernel
theorem dX12_planned_94 : decode cX12_planned 94 = .ok (.ireturn, 1) := by decide +kernel
theorem dX12_comes_0 : decode cX12_comes 0 = .ok (.aload_n 0, 1) := by decide +kernel
theorem dX12_comes_1 : decode cX12_comes 1 = .ok (.iload_n 1, 1) := by decide +kernel
theorem dX12_comes_2 : decode cX12_comes 2 = .ok (.invokevirtual 139, 3) := by decide +kernel
theorem dX12_comes_5 : decode cX12_comes 5 = .ok (.ifCond .eq 44, 3) := by decide +kernel
theorem dX12_comes_8 : decode cX12_comes 8 = .ok (.aload_n 0, 1) := by decide +kernel
theorem dX12_comes_9 : decode cX12_comes 9 = .ok (.iload_n 2, 1) := by decide +kernel
theorem dX12_comes_10 : decode cX12_comes 10 = .ok (.invokevirtual 146, 3) := by decide +kernel
theorem dX12_comes_13 : decode cX12_comes 13 = .ok (.ifCond .eq 36, 3) := by decide +kernel
theorem dX12_comes_16 : decode cX12_comes 16 = .ok (.iload_n 3, 1) := by decide +kernel
theorem dX12_comes_17 : decode cX12_comes 17 = .ok (.invokestatic 149, 3) := by decide +kernel
theorem dX12_comes_20 : decode cX12_comes 20 = .ok (.ifCond .eq 29, 3) := by decide +kernel
theorem dX12_comes_23 : decode cX12_comes 23 = .ok (.aload_n 0, 1) := by decide +kernel
theorem dX12_comes_24 : decode cX12_comes 24 = .ok (.iload 4, 2) := by decide +kernel
theorem dX12_comes_26 : decode cX12_comes 26 = .ok (.invokevirtual 152, 3) := by decide +kernel
theorem dX12_comes_29 : decode cX12_comes 29 = .ok (.ifCond .eq 20, 3) := by decide +kernel
theorem dX12_comes_32 : decode cX12_comes 32 = .ok (.aload_n 0, 1) := by decide +kernel
theorem dX12_comes_33 : decode cX12_comes 33 = .ok (.getfield 63, 3) := by decide +kernel
theorem dX12_comes_36 : decode cX12_comes 36 = .ok (.iconst 2, 1) := by decide +kernel
theorem dX12_comes_37 : decode cX12_comes 37 = .ok (.bipush 52, 2) := by decide +kernel
theorem dX12_comes_39 : decode cX12_comes 39 = .ok (.iload_n 2, 1) := by decide +kernel
theorem dX12_comes_40 : decode cX12_comes 40 = .ok (.imul, 1) := by decide +kernel
theorem dX12_comes_41 : decode cX12_comes 41 = .ok (.iload_n 3, 1) := by decide +kernel
theorem dX12_comes_42 : decode cX12_comes 42 = .ok (.iadd, 1) := by decide +kernel
theorem dX12_comes_43 : decode cX12_comes 43 = .ok (.imul, 1) := by decide +kernel
theorem dX12_comes_44 : decode cX12_comes 44 = .ok (.iaload, 1) := by decide +kernel
theorem dX12_comes_45 : decode cX12_comes 45 = .ok (.iconst (-1), 1) := by decide +kernel
theorem dX12_comes_46 : decode cX12_comes 46 = .ok (.if_icmp .ne 5, 3) := by decide +kernel
theorem dX12_comes_49 : decode cX12_comes 49 = .ok (.iconst (-1), 1) := by decide +kernel
theorem dX12_comes_50 : decode cX12_comes 50 = .ok (.ireturn, 1) := by decide +kernel
theorem dX12_comes_51 : decode cX12_comes 51 = .ok (.aload_n 0, 1) := by decide +kernel
theorem dX12_comes_52 : decode cX12_comes 52 = .ok (.iload_n 3, 1) := by decide +kernel
theorem dX12_comes_53 : decode cX12_comes 53 = .ok (.iload 4, 2) := by decide +kernel
theorem dX12_comes_55 : decode cX12_comes 55 = .ok (.invokevirtual 214, 3) := by decide +kernel
theorem dX12_comes_58 : decode cX12_comes 58 = .ok (.aload_n 0, 1) := by decide +kernel
theorem dX12_comes_59 : decode cX12_comes 59 = .ok (.iload_n 2, 1) := by decide +kernel
theorem dX12_comes_60 : decode cX12_comes 60 = .ok (.iconst 1, 1) := by decide +kernel
theorem dX12_comes_61 : decode cX12_comes 61 = .ok (.iadd, 1) := by decide +kernel
theorem dX12_comes_62 : decode cX12_comes 62 = .ok (.invokevirtual 218, 3) := by decide +kernel
theorem dX12_comes_65 : decode cX12_comes 65 = .ok (.aload_n 0, 1) := by decide +kernel
theorem dX12_comes_66 : decode cX12_comes 66 = .ok (.getfield 72, 3) := by decide +kernel
theorem dX12_comes_69 : decode cX12_comes 69 = .ok (.bipush 12, 2) := by decide +kernel
theorem dX12_comes_71 : decode cX12_comes 71 = .ok (.iload_n 2, 1) := by decide +kernel
theorem dX12_comes_72 : decode cX12_comes 72 = .ok (.imul, 1) := by decide +kernel
theorem dX12_comes_73 : decode cX12_comes 73 = .ok (.iload_n 1, 1) := by decide +kernel
theorem dX12_comes_74 : decode cX12_comes 74 = .ok (.iadd, 1) := by decide +kernel
theorem dX12_comes_75 : decode cX12_comes 75 = .ok (.iaload, 1) := by decide +kernel
theorem dX12_comes_76 : decode cX12_comes 76 = .ok (.ireturn, 1) := by decide +kernel
theorem dX12_sum_0 : decode cX12_sum 0 = .ok (.aload_n 0, 1) := by decide +kernel
theorem dX12_sum_1 : decode cX12_sum 1 = .ok (.iload_n 1, 1) := by decide +kernel
theorem dX12_sum_2 : decode cX12_sum 2 = .ok (.invokevirtual 139, 3) := by decide +kernel
theorem dX12_sum_5 : decode cX12_sum 5 = .ok (.ifCond .eq 11, 3) := by decide +kernel
theorem dX12_sum_8 : decode cX12_sum 8 = .ok (.aload_n 0, 1) := by decide +kernel
theorem dX12_sum_9 : decode cX12_sum 9 = .ok (.iload_n 2, 1) := by decide +kernel
theorem dX12_sum_10 : decode cX12_sum 10 = .ok (.invokevirtual 152, 3) := by decide +kernel
theorem dX12_sum_13 : decode cX12_sum 13 = .ok (.ifCond .ne 5, 3) := by decide +kernel
theorem dX12_sum_16 : decode cX12_sum 16 = .ok (.iconst (-1), 1) := by decide +kernel
theorem dX12_sum_17 : decode cX12_sum 17 = .ok (.ireturn, 1) := by decide +kernel
theorem dX12_sum_18 : decode cX12_sum 18 = .ok (.iconst 0, 1) := by decide +kernel
theorem dX12_sum_19 : decode cX12_sum 19 = .ok (.istore_n 3, 1) := by decide +kernel
theorem dX12_sum_20 : decode cX12_sum 20 = .ok (.iconst 0, 1) := by decide +kernel
theorem dX12_sum_21 : decode cX12_sum 21 = .ok (.istore 4, 2) := by decide +kernel
theorem dX12_sum_23 : decode cX12_sum 23 = .ok (.iload 4, 2) := by decide +kernel
theorem dX12_sum_25 : decode cX12_sum 25 = .ok (.bipush 52, 2) := by decide +kernel
theorem dX12_sum_27 : decode cX12_sum 27 = .ok (.if_icmp .ge 141, 3) := by decide +kernel
theorem dX12_sum_30 : decode cX12_sum 30 = .ok (.aload_n 0, 1) := by decide +kernel
theorem dX12_sum_31 : decode cX12_sum 31 = .ok (.iload 4, 2) := by decide +kernel
theorem dX12_sum_33 : decode cX12_sum 33 = .ok (.iload_n 2, 1) := by decide +kernel
theorem dX12_sum_34 : decode cX12_sum 34 = .ok (.invokevirtual 214, 3) := by decide +kernel
theorem dX12_sum_37 : decode cX12_sum 37 = .ok (.iconst 0, 1) := by decide +kernel
theorem dX12_sum_38 : decode cX12_sum 38 = .ok (.istore 5, 2) := by decide +kernel
theorem dX12_sum_40 : decode cX12_sum 40 = .ok (.iconst 0, 1) := by decide +kernel
theorem dX12_sum_41 : decode cX12_sum 41 = .ok (.istore 6, 2) := by decide +kernel
theorem dX12_sum_43 : decode cX12_sum 43 = .ok (.iload 6, 2) := by decide +kernel
theorem dX12_sum_45 : decode cX12_sum 45 = .ok (.aload_n 0, 1) := by decide +kernel
theorem dX12_sum_46 : decode cX12_sum 46 = .ok (.getfield 126, 3) := by decide +kernel
theorem dX12_sum_49 : decode cX12_sum 49 = .ok (.if_icmp .ge 32, 3) := by decide +kernel
theorem dX12_sum_52 : decode cX12_sum 52 = .ok (.iload 5, 2) := by decide +kernel
theorem dX12_sum_54 : decode cX12_sum 54 = .ok (.ifCond .ne 14, 3) := by decide +kernel
theorem dX12_sum_57 : decode cX12_sum 57 = .ok (.aload_n 0, 1) := by decide +kernel
theorem dX12_sum_58 : decode cX12_sum 58 = .ok (.getfield 66, 3) := by decide +kernel
theorem dX12_sum_61 : decode cX12_sum 61 = .ok (.iload 6, 2) := by decide +kernel
theorem dX12_sum_63 : decode cX12_sum 63 = .ok (.iaload, 1) := by decide +kernel
theorem dX12_sum_64 : decode cX12_sum 64 = .ok (.iconst (-1), 1) := by decide +kernel
theorem dX12_sum_65 : decode cX12_sum 65 = .ok (.if_icmp .eq 7, 3) := by decide +kernel
theorem dX12_sum_68 : decode cX12_sum 68 = .ok (.iconst 1, 1) := by decide +kernel
theorem dX12_sum_69 : decode cX12_sum 69 = .ok (.goto 4, 3) := by decide +kernel
theorem dX12_sum_72 : decode cX12_sum 72 = .ok (.iconst 0, 1) := by decide +kernel
theorem dX12_sum_73 : decode cX12_sum 73 = .ok (.istore 5, 2) := by decide +kernel
theorem dX12_sum_75 : decode cX12_sum 75 = .ok (.iinc 6 1, 3) := by decide +kernel
theorem dX12_sum_78 : decode cX12_sum 78 = .ok (.goto (-35), 3) := by decide +kernel
theorem dX12_sum_81 : decode cX12_sum 81 = .ok (.iload 5, 2) := by decide +kernel
theorem dX12_sum_83 : decode cX12_sum 83 = .ok (.ifCond .ne 6, 3) := by decide +kernel
theorem dX12_sum_86 : decode cX12_sum 86 = .ok (.goto 76, 3) := by decide +kernel
theorem dX12_sum_89 : decode cX12_sum 89 = .ok (.aload_n 0, 1) := by decide +kernel
theorem dX12_sum_90 : decode cX12_sum 90 = .ok (.aload_n 0, 1) := by decide +kernel
theorem dX12_sum_91 : decode cX12_sum 91 = .ok (.getfield 126, 3) := by decide +kernel
theorem dX12_sum_94 : decode cX12_sum 94 = .ok (.invokevirtual 218, 3) := by decide +kernel
theorem dX12_sum_97 : decode cX12_sum 97 = .ok (.iconst 0, 1) := by decide +kernel
theorem dX12_sum_98 : decode cX12_sum 98 = .ok (.istore 6, 2) := by decide +kernel
theorem dX12_sum_100 : decode cX12_sum 100 = .ok (.iload 6, 2) := by decide +kernel
theorem dX12_sum_102 : decode cX12_sum 102 = .ok (.aload_n 0, 1) := by decide +kernel
theorem dX12_sum_103 : decode cX12_sum 103 = .ok (.getfield 126, 3) := by decide +kernel
theorem dX12_sum_106 : decode cX12_sum 106 = .ok (.if_icmp .ge 56, 3) := by decide +kernel
theorem dX12_sum_109 : decode cX12_sum 109 = .ok (.aload_n 0, 1) := by decide +kernel
theorem dX12_sum_110 : decode cX12_sum 110 = .ok (.getfield 66, 3) := by decide +kernel
theorem dX12_sum_113 : decode cX12_sum 113 = .ok (.iload 6, 2) := by decide +kernel
theorem dX12_sum_115 : decode cX12_sum 115 = .ok (.iaload, 1) := by decide +kernel
theorem dX12_sum_116 : decode cX12_sum 116 = .ok (.iconst (-1), 1) := by decide +kernel
theorem dX12_sum_117 : decode cX12_sum 117 = .ok (.if_icmp .eq 39, 3) := by decide +kernel
theorem dX12_sum_120 : decode cX12_sum 120 = .ok (.iload_n 3, 1) := by decide +kernel
theorem dX12_sum_121 : decode cX12_sum 121 = .ok (.aload_n 0, 1) := by decide +kernel
theorem dX12_sum_122 : decode cX12_sum 122 = .ok (.iload_n 1, 1) := by decide +kernel
theorem dX12_sum_123 : decode cX12_sum 123 = .ok (.iload 6, 2) := by decide +kernel
theorem dX12_sum_125 : decode cX12_sum 125 = .ok (.aload_n 0, 1) := by decide +kernel
theorem dX12_sum_126 : decode cX12_sum 126 = .ok (.getfield 66, 3) := by decide +kernel
theorem dX12_sum_129 : decode cX12_sum 129 = .ok (.iload 6, 2) := by decide +kernel
theorem dX12_sum_131 : decode cX12_sum 131 = .ok (.iaload, 1) := by decide +kernel
theorem dX12_sum_132 : decode cX12_sum 132 = .ok (.aload_n 0, 1) := by decide +kernel
theorem dX12_sum_133 : decode cX12_sum 133 = .ok (.getfield 69, 3) := by decide +kernel
theorem dX12_sum_136 : decode cX12_sum 136 = .ok (.iload 6, 2) := by decide +kernel
theorem dX12_sum_138 : decode cX12_sum 138 = .ok (.iaload, 1) := by decide +kernel
theorem dX12_sum_139 : decode cX12_sum 139 = .ok (.aload_n 0, 1) := by decide +kernel
theorem dX12_sum_140 : decode cX12_sum 140 = .ok (.getfield 72, 3) := by decide +kernel
theorem dX12_sum_143 : decode cX12_sum 143 = .ok (.bipush 12, 2) := by decide +kernel
theorem dX12_sum_145 : decode cX12_sum 145 = .ok (.iload 6, 2) := by decide +kernel
theorem dX12_sum_147 : decode cX12_sum 147 = .ok (.imul, 1) := by decide +kernel
theorem dX12_sum_148 : decode cX12_sum 148 = .ok (.iload_n 1, 1) := by decide +kernel
theorem dX12_sum_149 : decode cX12_sum 149 = .ok (.iadd, 1) := by decide +kernel
theorem dX12_sum_150 : decode cX12_sum 150 = .ok (.iaload, 1) := by decide +kernel
theorem dX12_sum_151 : decode cX12_sum 151 = .ok (.invokevirtual 230, 3) := by decide +kernel
theorem dX12_sum_154 : decode cX12_sum 154 = .ok (.iadd, 1) := by decide +kernel
theorem dX12_sum_155 : decode cX12_sum 155 = .ok (.istore_n 3, 1) := by decide +kernel
theorem dX12_sum_156 : decode cX12_sum 156 = .ok (.iinc 6 1, 3) := by decide +kernel
theorem dX12_sum_159 : decode cX12_sum 159 = .ok (.goto (-59), 3) := by decide +kernel
theorem dX12_sum_162 : decode cX12_sum 162 = .ok (.iinc 4 1, 3) := by decide +kernel
theorem dX12_sum_165 : decode cX12_sum 165 = .ok (.goto (-142), 3) := by decide +kernel
theorem dX12_sum_168 : decode cX12_sum 168 = .ok (.iload_n 3, 1) := by decide +kernel
theorem dX12_sum_169 : decode cX12_sum 169 = .ok (.ireturn, 1) := by decide +kernel
theorem dX12_isShifted_0 : decode cX12_isShifted 0 = .ok (.iconst 0, 1) := by decide +kernel
theorem dX12_isShifted_1 : decode cX12_isShifted 1 = .ok (.istore 5, 2) := by decide +kernel
theorem dX12_isShifted_3 : decode cX12_isShifted 3 = .ok (.iload 5, 2) := by decide +kernel
theorem dX12_isShifted_5 : decode cX12_isShifted 5 = .ok (.aload_n 0, 1) := by decide +kernel
theorem dX12_isShifted_6 : decode cX12_isShifted 6 = .ok (.getfield 123, 3) := by decide +kernel
theorem dX12_isShifted_9 : decode cX12_isShifted 9 = .ok (.if_icmp .ge 56, 3) := by decide +kernel
theorem dX12_isShifted_12 : decode cX12_isShifted 12 = .ok (.aload_n 0, 1) := by decide +kernel
theorem dX12_isShifted_13 : decode cX12_isShifted 13 = .ok (.getfield 60, 3) := by decide +kernel
theorem dX12_isShifted_16 : decode cX12_isShifted 16 = .ok (.bipush 12, 2) := by decide +kernel
theorem dX12_isShifted_18 : decode cX12_isShifted 18 = .ok (.iload_n 1, 1) := by decide +kernel
theorem dX12_isShifted_19 : decode cX12_isShifted 19 = .ok (.imul, 1) := by decide +kernel
theorem dX12_isShifted_20 : decode cX12_isShifted 20 = .ok (.iload 5, 2) := by decide +kernel
theorem dX12_isShifted_22 : decode cX12_isShifted 22 = .ok (.iadd, 1) := by decide +kernel
theorem dX12_isShifted_23 : decode cX12_isShifted 23 = .ok (.iaload, 1) := by decide +kernel
theorem dX12_isShifted_24 : decode cX12_isShifted 24 = .ok (.ifCond .le 35, 3) := by decide +kernel
theorem dX12_isShifted_27 : decode cX12_isShifted 27 = .ok (.aload_n 0, 1) := by decide +kernel
theorem dX12_isShifted_28 : decode cX12_isShifted 28 = .ok (.aload_n 0, 1) := by decide +kernel
theorem dX12_isShifted_29 : decode cX12_isShifted 29 = .ok (.getfield 17, 3) := by decide +kernel
theorem dX12_isShifted_32 : decode cX12_isShifted 32 = .ok (.iload 5, 2) := by decide +kernel
theorem dX12_isShifted_34 : decode cX12_isShifted 34 = .ok (.iaload, 1) := by decide +kernel
theorem dX12_isShifted_35 : decode cX12_isShifted 35 = .ok (.iload_n 2, 1) := by decide +kernel
theorem dX12_isShifted_36 : decode cX12_isShifted 36 = .ok (.iload_n 3, 1) := by decide +kernel
theorem dX12_isShifted_37 : decode cX12_isShifted 37 = .ok (.invokevirtual 156, 3) := by decide +kernel
theorem dX12_isShifted_40 : decode cX12_isShifted 40 = .ok (.aload_n 0, 1) := by decide +kernel
theorem dX12_isShifted_41 : decode cX12_isShifted 41 = .ok (.aload_n 0, 1) := by decide +kernel
theorem dX12_isShifted_42 : decode cX12_isShifted 42 = .ok (.getfield 17, 3) := by decide +kernel
theorem dX12_isShifted_45 : decode cX12_isShifted 45 = .ok (.iload 5, 2) := by decide +kernel
theorem dX12_isShifted_47 : decode cX12_isShifted 47 = .ok (.iaload, 1) := by decide +kernel
theorem dX12_isShifted_48 : decode cX12_isShifted 48 = .ok (.iload_n 2, 1) := by decide +kernel
theorem dX12_isShifted_49 : decode cX12_isShifted 49 = .ok (.iload 4, 2) := by decide +kernel
theorem dX12_isShifted_51 : decode cX12_isShifted 51 = .ok (.invokevirtual 156, 3) := by decide +kernel
theorem dX12_isShifted_54 : decode cX12_isShifted 54 = .ok (.if_icmp .eq 5, 3) := by decide +kernel
theorem dX12_isShifted_57 : decode cX12_isShifted 57 = .ok (.iconst 1, 1) := by decide +kernel
theorem dX12_isShifted_58 : decode cX12_isShifted 58 = .ok (.ireturn, 1) := by decide +kernel
theorem dX12_isShifted_59 : decode cX12_isShifted 59 = .ok (.iinc 5 1, 3) := by decide +kernel
theorem dX12_isShifted_62 : decode cX12_isShifted 62 = .ok (.goto (-59), 3) := by decide +kernel
theorem dX12_isShifted_65 : decode cX12_isShifted 65 = .ok (.iconst 0, 1) := by decide +kernel
theorem dX12_isShifted_66 : decode cX12_isShifted 66 = .ok (.ireturn, 1) := by decide +kernel
theorem dX12_shifted_0 : decode cX12_shifted 0 = .ok (.aload_n 0, 1) := by decide +kernel
theorem dX12_shifted_1 : decode cX12_shifted 1 = .ok (.iload_n 1, 1) := by decide +kernel
theorem dX12_shifted_2 : decode cX12_shifted 2 = .ok (.invokevirtual 152, 3) := by decide +kernel
theorem dX12_shifted_5 : decode cX12_shifted 5 = .ok (.ifCond .eq 11, 3) := by decide +kernel
theorem dX12_shifted_8 : decode cX12_shifted 8 = .ok (.aload_n 0, 1) := by decide +kernel
theorem dX12_shifted_9 : decode cX12_shifted 9 = .ok (.iload_n 2, 1) := by decide +kernel
theorem dX12_shifted_10 : decode cX12_shifted 10 = .ok (.invokevirtual 152, 3) := by decide +kernel
theorem dX12_shifted_13 : decode cX12_shifted 13 = .ok (.ifCond .ne 5, 3) := by decide +kernel
theorem dX12_shifted_16 : decode cX12_shifted 16 = .ok (.iconst (-1), 1) := by decide +kernel
theorem dX12_shifted_17 : decode cX12_shifted 17 = .ok (.ireturn, 1) := by decide +kernel
theorem dX12_shifted_18 : decode cX12_shifted 18 = .ok (.iconst 0, 1) := by decide +kernel
theorem dX12_shifted_19 : decode cX12_shifted 19 = .ok (.istore_n 3, 1) := by decide +kernel
theorem dX12_shifted_20 : decode cX12_shifted 20 = .ok (.iconst 0, 1) := by decide +kernel
theorem dX12_shifted_21 : decode cX12_shifted 21 = .ok (.istore 4, 2) := by decide +kernel
theorem dX12_shifted_23 : decode cX12_shifted 23 = .ok (.iload 4, 2) := by decide +kernel
theorem dX12_shifted_25 : decode cX12_shifted 25 = .ok (.aload_n 0, 1) := by decide +kernel
theorem dX12_shifted_26 : decode cX12_shifted 26 = .ok (.getfield 126, 3) := by decide +kernel
theorem dX12_shifted_29 : decode cX12_shifted 29 = .ok (.if_icmp .ge 100, 3) := by decide +kernel
theorem dX12_shifted_32 : decode cX12_shifted 32 = .ok (.iconst 0, 1) := by decide +kernel
theorem dX12_shifted_33 : decode cX12_shifted 33 = .ok (.istore 5, 2) := by decide +kernel
theorem dX12_shifted_35 : decode cX12_shifted 35 = .ok (.iload 5, 2) := by decide +kernel
theorem dX12_shifted_37 : decode cX12_shifted 37 = .ok (.bipush 52, 2) := by decide +kernel
theorem dX12_shifted_39 : decode cX12_shifted 39 = .ok (.if_icmp .ge 84, 3) := by decide +kernel
theorem dX12_shifted_42 : decode cX12_shifted 42 = .ok (.iconst 0, 1) := by decide +kernel
theorem dX12_shifted_43 : decode cX12_shifted 43 = .ok (.istore 6, 2) := by decide +kernel
theorem dX12_shifted_45 : decode cX12_shifted 45 = .ok (.iload 6, 2) := by decide +kernel
theorem dX12_shifted_47 : decode cX12_shifted 47 = .ok (.iconst 2, 1) := by decide +kernel
theorem dX12_shifted_48 : decode cX12_shifted 48 = .ok (.if_icmp .ge 69, 3) := by decide +kernel
theorem dX12_shifted_51 : decode cX12_shifted 51 = .ok (.aload_n 0, 1) := by decide +kernel
theorem dX12_shifted_52 : decode cX12_shifted 52 = .ok (.getfield 63, 3) := by decide +kernel
theorem dX12_shifted_55 : decode cX12_shifted 55 = .ok (.iconst 2, 1) := by decide +kernel
theorem dX12_shifted_56 : decode cX12_shifted 56 = .ok (.bipush 52, 2) := by decide +kernel
theorem dX12_shifted_58 : decode cX12_shifted 58 = .ok (.iload 4, 2) := by decide +kernel
theorem dX12_shifted_60 : decode cX12_shifted 60 = .ok (.imul, 1) := by decide +kernel
theorem dX12_shifted_61 : decode cX12_shifted 61 = .ok (.iload 5, 2) := by decide +kernel
theorem dX12_shifted_63 : decode cX12_shifted 63 = .ok (.iadd, 1) := by decide +kernel
theorem dX12_shifted_64 : decode cX12_shifted 64 = .ok (.imul, 1) := by decide +kernel
theorem dX12_shifted_65 : decode cX12_shifted 65 = .ok (.iload 6, 2) := by decide +kernel
theorem dX12_shifted_67 : decode cX12_shifted 67 = .ok (.iadd, 1) := by decide +kernel
theorem dX12_shifted_68 : decode cX12_shifted 68 = .ok (.iaload, 1) := by decide +kernel
theorem dX12_shifted_69 : decode cX12_shifted 69 = .ok (.istore 7, 2) := by decide +kernel
theorem dX12_shifted_71 : decode cX12_shifted 71 = .ok (.iload 7, 2) := by decide +kernel
theorem dX12_shifted_73 : decode cX12_shifted 73 = .ok (.iconst (-1), 1) := by decide +kernel
theorem dX12_shifted_74 : decode cX12_shifted 74 = .ok (.if_icmp .eq 37, 3) := by decide +kernel
theorem dX12_shifted_77 : decode cX12_shifted 77 = .ok (.aload_n 0, 1) := by decide +kernel
theorem dX12_shifted_78 : decode cX12_shifted 78 = .ok (.iload 4, 2) := by decide +kernel
theorem dX12_shifted_80 : decode cX12_shifted 80 = .ok (.sipush 336, 3) := by decide +kernel
theorem dX12_shifted_83 : decode cX12_shifted 83 = .ok (.iload 5, 2) := by decide +kernel
theorem dX12_shifted_85 : decode cX12_shifted 85 = .ok (.imul, 1) := by decide +kernel
theorem dX12_shifted_86 : decode cX12_shifted 86 = .ok (.aload_n 0, 1) := by decide +kernel
theorem dX12_shifted_87 : decode cX12_shifted 87 = .ok (.getfield 57, 3) := by decide +kernel
theorem dX12_shifted_90 : decode cX12_shifted 90 = .ok (.bipush 6, 2) := by decide +kernel
theorem dX12_shifted_92 : decode cX12_shifted 92 = .ok (.iload 4, 2) := by decide +kernel
theorem dX12_shifted_94 : decode cX12_shifted 94 = .ok (.imul, 1) := by decide +kernel
theorem dX12_shifted_95 : decode cX12_shifted 95 = .ok (.iload 7, 2) := by decide +kernel
theorem dX12_shifted_97 : decode cX12_shifted 97 = .ok (.iadd, 1) := by decide +kernel
theorem dX12_shifted_98 : decode cX12_shifted 98 = .ok (.iaload, 1) := by decide +kernel
theorem dX12_shifted_99 : decode cX12_shifted 99 = .ok (.iadd, 1) := by decide +kernel
theorem dX12_shifted_100 : decode cX12_shifted 100 = .ok (.iload_n 1, 1) := by decide +kernel
theorem dX12_shifted_101 : decode cX12_shifted 101 = .ok (.iload_n 2, 1) := by decide +kernel
theorem dX12_shifted_102 : decode cX12_shifted 102 = .ok (.invokevirtual 263, 3) := by decide +kernel
theorem dX12_shifted_105 : decode cX12_shifted 105 = .ok (.ifCond .eq 6, 3) := by decide +kernel
theorem dX12_shifted_108 : decode cX12_shifted 108 = .ok (.iinc 3 1, 3) := by decide +kernel
theorem dX12_shifted_111 : decode cX12_shifted 111 = .ok (.iinc 6 1, 3) := by decide +kernel
theorem dX12_shifted_114 : decode cX12_shifted 114 = .ok (.goto (-69), 3) := by decide +kernel
theorem dX12_shifted_117 : decode cX12_shifted 117 = .ok (.iinc 5 1, 3) := by decide +kernel
theorem dX12_shifted_120 : decode cX12_shifted 120 = .ok (.goto (-85), 3) := by decide +kernel
theorem dX12_shifted_123 : decode cX12_shifted 123 = .ok (.iinc 4 1, 3) := by decide +kernel
theorem dX12_shifted_126 : decode cX12_shifted 126 = .ok (.goto (-103), 3) := by decide +kernel
theorem dX12_shifted_129 : decode cX12_shifted 129 = .ok (.iload_n 3, 1) := by decide +kernel
theorem dX12_shifted_130 : decode cX12_shifted 130 = .ok (.ireturn, 1) := by decide +kernel
theorem dX12_count_0 : decode cX12_count 0 = .ok (.iload_n 1, 1) := by decide +kernel
theorem dX12_count_1 : decode cX12_count 1 = .ok (.tableswitch 89 0 4 #[35, 40, 45, 50, 55], 35) := by decide +kernel
theorem dX12_count_36 : decode cX12_count 36 = .ok (.aload_n 0, 1) := by decide +kernel
theorem dX12_count_37 : decode cX12_count 37 = .ok (.getfield 120, 3) := by decide +kernel
theorem dX12_count_40 : decode cX12_count 40 = .ok (.ireturn, 1) := by decide +kernel
theorem dX12_count_41 : decode cX12_count 41 = .ok (.aload_n 0, 1) := by decide +kernel
theorem dX12_count_42 : decode cX12_count 42 = .ok (.getfield 123, 3) := by decide +kernel
theorem dX12_count_45 : decode cX12_count 45 = .ok (.ireturn, 1) := by decide +kernel
theorem dX12_count_46 : decode cX12_count 46 = .ok (.aload_n 0, 1) := by decide +kernel
theorem dX12_count_47 : decode cX12_count 47 = .ok (.getfield 129, 3) := by decide +kernel
theorem dX12_count_50 : decode cX12_count 50 = .ok (.ireturn, 1) := by decide +kernel
theorem dX12_count_51 : decode cX12_count 51 = .ok (.aload_n 0, 1) := by decide +kernel
theorem dX12_count_52 : decode cX12_count 52 = .ok (.getfield 126, 3) := by decide +kernel
theorem dX12_count_55 : decode cX12_count 55 = .ok (.ireturn, 1) := by decide +kernel
theorem dX12_count_56 : decode cX12_count 56 = .ok (.iconst 0, 1) := by decide +kernel
theorem dX12_count_57 : decode cX12_count 57 = .ok (.istore_n 2, 1) := by decide +kernel
theorem dX12_count_58 : decode cX12_count 58 = .ok (.iconst 0, 1) := by decide +kernel
theorem dX12_count_59 : decode cX12_count 59 = .ok (.istore_n 3, 1) := by decide +kernel
theorem dX12_count_60 : decode cX12_count 60 = .ok (.iload_n 3, 1) := by decide +kernel
theorem dX12_count_61 : decode cX12_count 61 = .ok (.sipush 208, 3) := by decide +kernel
theorem dX12_count_64 : decode cX12_count 64 = .ok (.if_icmp .ge 24, 3) := by decide +kernel
theorem dX12_count_67 : decode cX12_count 67 = .ok (.aload_n 0, 1) := by decide +kernel
theorem dX12_count_68 : decode cX12_count 68 = .ok (.getfield 63, 3) := by decide +kernel
theorem dX12_count_71 : decode cX12_count 71 = .ok (.iconst 2, 1) := by decide +kernel
theorem dX12_count_72 : decode cX12_count 72 = .ok (.iload_n 3, 1) := by decide +kernel
theorem dX12_count_73 : decode cX12_count 73 = .ok (.imul, 1) := by decide +kernel
theorem dX12_count_74 : decode cX12_count 74 = .ok (.iaload, 1) := by decide +kernel
theorem dX12_count_75 : decode cX12_count 75 = .ok (.iconst (-1), 1) := by decide +kernel
theorem dX12_count_76 : decode cX12_count 76 = .ok (.if_icmp .eq 6, 3) := by decide +kernel
theorem dX12_count_79 : decode cX12_count 79 = .ok (.iinc 2 1, 3) := by decide +kernel
theorem dX12_count_82 : decode cX12_count 82 = .ok (.iinc 3 1, 3) := by decide +kernel
theorem dX12_count_85 : decode cX12_count 85 = .ok (.goto (-25), 3) := by decide +kernel
theorem dX12_count_88 : decode cX12_count 88 = .ok (.iload_n 2, 1) := by decide +kernel
theorem dX12_count_89 : decode cX12_count 89 = .ok (.ireturn, 1) := by decide +kernel
theorem dX12_count_90 : decode cX12_count 90 = .ok (.iconst (-1), 1) := by decide +kernel
theorem dX12_count_91 : decode cX12_count 91 = .ok (.ireturn, 1) := by decide +kernel
end
section
theorem dX11_init_0 : decode cX11_init 0 = .ok (.aload_n 0, 1) := by decide +kernel
theorem dX11_init_1 : decode cX11_init 1 = .ok (.invokespecial 1, 3) := by decide +kernel
theorem dX11_init_4 : decode cX11_init 4 = .ok (.aload_n 0, 1) := by decide +kernel
theorem dX11_init_5 : decode cX11_init 5 = .ok (.bipush 8, 2) := by decide +kernel
theorem dX11_init_7 : decode cX11_init 7 = .ok (.anewarray 9, 3) := by decide +kernel
theorem dX11_init_10 : decode cX11_init 10 = .ok (.putfield 11, 3) := by decide +kernel
theorem dX11_init_13 : decode cX11_init 13 = .ok (.aload_n 0, 1) := by decide +kernel
theorem dX11_init_14 : decode cX11_init 14 = .ok (.bipush 12, 2) := by decide +kernel
theorem dX11_init_16 : decode cX11_init 16 = .ok (.anewarray 15, 3) := by decide +kernel
theorem dX11_init_19 : decode cX11_init 19 = .ok (.putfield 17, 3) := by decide +kernel
theorem dX11_init_22 : decode cX11_init 22 = .ok (.aload_n 0, 1) := by decide +kernel
theorem dX11_init_23 : decode cX11_init 23 = .ok (.iconst 4, 1) := by decide +kernel
theorem dX11_init_24 : decode cX11_init 24 = .ok (.anewarray 21, 3) := by decide +kernel
theorem dX11_init_27 : decode cX11_init 27 = .ok (.putfield 23, 3) := by decide +kernel
theorem dX11_init_30 : decode cX11_init 30 = .ok (.aload_n 0, 1) := by decide +kernel
theorem dX11_init_31 : decode cX11_init 31 = .ok (.iconst 4, 1) := by decide +kernel
theorem dX11_init_32 : decode cX11_init 32 = .ok (.anewarray 27, 3) := by decide +kernel
theorem dX11_init_35 : decode cX11_init 35 = .ok (.putfield 29, 3) := by decide +kernel
theorem dX11_init_38 : decode cX11_init 38 = .ok (.iconst 0, 1) := by decide +kernel
theorem dX11_init_39 : decode cX11_init 39 = .ok (.istore_n 1, 1) := by decide +kernel
theorem dX11_init_40 : decode cX11_init 40 = .ok (.iload_n 1, 1) := by decide +kernel
theorem dX11_init_41 : decode cX11_init 41 = .ok (.iconst 4, 1) := by decide +kernel
theorem dX11_init_42 : decode cX11_init 42 = .ok (.if_icmp .ge 22, 3) := by decide +kernel
theorem dX11_init_45 : decode cX11_init 45 = .ok (.aload_n 0, 1) := by decide +kernel
theorem dX11_init_46 : decode cX11_init 46 = .ok (.getfield 29, 3) := by decide +kernel
theorem dX11_init_49 : decode cX11_init 49 = .ok (.iload_n 1, 1) := by decide +kernel
theorem dX11_init_50 : decode cX11_init 50 = .ok (.new 27, 3) := by decide +kernel
theorem dX11_init_53 : decode cX11_init 53 = .ok (.dup, 1) := by decide +kernel
theorem dX11_init_54 : decode cX11_init 54 = .ok (.invokespecial 33, 3) := by decide +kernel
theorem dX11_init_57 : decode cX11_init 57 = .ok (.aastore, 1) := by decide +kernel
theorem dX11_init_58 : decode cX11_init 58 = .ok (.iinc 1 1, 3) := by decide +kernel
theorem dX11_init_61 : decode cX11_init 61 = .ok (.goto (-21), 3) := by decide +kernel
theorem dX11_init_64 : decode cX11_init 64 = .ok (.aload_n 0, 1) := by decide +kernel
theorem dX11_init_65 : decode cX11_init 65 = .ok (.new 34, 3) := by decide +kernel
theorem dX11_init_68 : decode cX11_init 68 = .ok (.dup, 1) := by decide +kernel
theorem dX11_init_69 : decode cX11_init 69 = .ok (.invokespecial 36, 3) := by decide +kernel
theorem dX11_init_72 : decode cX11_init 72 = .ok (.putfield 37, 3) := by decide +kernel
theorem dX11_init_75 : decode cX11_init 75 = .ok (.aload_n 0, 1) := by decide +kernel
theorem dX11_init_76 : decode cX11_init 76 = .ok (.new 41, 3) := by decide +kernel
theorem dX11_init_79 : decode cX11_init 79 = .ok (.dup, 1) := by decide +kernel
theorem dX11_init_80 : decode cX11_init 80 = .ok (.invokespecial 43, 3) := by decide +kernel
theorem dX11_init_83 : decode cX11_init 83 = .ok (.putfield 44, 3) := by decide +kernel
theorem dX11_init_86 : decode cX11_init 86 = .ok (.aload_n 0, 1) := by decide +kernel
theorem dX11_init_87 : decode cX11_init 87 = .ok (.new 48, 3) := by decide +kernel
theorem dX11_init_90 : decode cX11_init 90 = .ok (.dup, 1) := by decide +kernel
theorem dX11_init_91 : decode cX11_init 91 = .ok (.invokespecial 50, 3) := by decide +kernel
theorem dX11_init_94 : decode cX11_init 94 = .ok (.putfield 51, 3) := by decide +kernel
theorem dX11_init_97 : decode cX11_init 97 = .ok (.aload_n 0, 1) := by decide +kernel
theorem dX11_init_98 : decode cX11_init 98 = .ok (.new 55, 3) := by decide +kernel
theorem dX11_init_101 : decode cX11_init 101 = .ok (.dup, 1) := by decide +kernel
theorem dX11_init_102 : decode cX11_init 102 = .ok (.invokespecial 57, 3) := by decide +kernel
theorem dX11_init_105 : decode cX11_init 105 = .ok (.putfield 58, 3) := by decide +kernel
theorem dX11_init_108 : decode cX11_init 108 = .ok (.aload_n 0, 1) := by decide +kernel
theorem dX11_init_109 : decode cX11_init 109 = .ok (.new 62, 3) := by decide +kernel
theorem dX11_init_112 : decode cX11_init 112 = .ok (.dup, 1) := by decide +kernel
theorem dX11_init_113 : decode cX11_init 113 = .ok (.invokespecial 64, 3) := by decide +kernel
theorem dX11_init_116 : decode cX11_init 116 = .ok (.putfield 65, 3) := by decide +kernel
theorem dX11_init_119 : decode cX11_init 119 = .ok (.return_, 1) := by decide +kernel
theorem dX11_land_0 : decode cX11_land 0 = .ok (.aload_n 0, 1) := by decide +kernel
theorem dX11_land_1 : decode cX11_land 1 = .ok (.getfield 69, 3) := by decide +kernel
theorem dX11_land_4 : decode cX11_land 4 = .ok (.bipush 8, 2) := by decide +kernel
theorem dX11_land_6 : decode cX11_land 6 = .ok (.if_icmp .ge 10, 3) := by decide +kernel
theorem dX11_land_9 : decode cX11_land 9 = .ok (.iload_n 1, 1) := by decide +kernel
theorem dX11_land_10 : decode cX11_land 10 = .ok (.invokestatic 73, 3) := by decide +kernel
theorem dX11_land_13 : decode cX11_land 13 = .ok (.ifCond .ne 5, 3) := by decide +kernel
theorem dX11_land_16 : decode cX11_land 16 = .ok (.iconst (-1), 1) := by decide +kernel
theorem dX11_land_17 : decode cX11_land 17 = .ok (.ireturn, 1) := by decide +kernel
theorem dX11_land_18 : decode cX11_land 18 = .ok (.aload_n 0, 1) := by decide +kernel
theorem dX11_land_19 : decode cX11_land 19 = .ok (.getfield 11, 3) := by decide +kernel
theorem dX11_land_22 : decode cX11_land 22 = .ok (.aload_n 0, 1) := by decide +kernel
theorem dX11_land_23 : decode cX11_land 23 = .ok (.getfield 69, 3) := by decide +kernel
theorem dX11_land_26 : decode cX11_land 26 = .ok (.new 9, 3) := by decide +kernel
theorem dX11_land_29 : decode cX11_land 29 = .ok (.dup, 1) := by decide +kernel
theorem dX11_land_30 : decode cX11_land 30 = .ok (.iload_n 1, 1) := by decide +kernel
theorem dX11_land_31 : decode cX11_land 31 = .ok (.invokespecial 77, 3) := by decide +kernel
theorem dX11_land_34 : decode cX11_land 34 = .ok (.aastore, 1) := by decide +kernel
theorem dX11_land_35 : decode cX11_land 35 = .ok (.aload_n 0, 1) := by decide +kernel
theorem dX11_land_36 : decode cX11_land 36 = .ok (.dup, 1) := by decide +kernel
theorem dX11_land_37 : decode cX11_land 37 = .ok (.getfield 69, 3) := by decide +kernel
theorem dX11_land_40 : decode cX11_land 40 = .ok (.dup_x1, 1) := by decide +kernel
theorem dX11_land_41 : decode cX11_land 41 = .ok (.iconst 1, 1) := by decide +kernel
theorem dX11_land_42 : decode cX11_land 42 = .ok (.iadd, 1) := by decide +kernel
theorem dX11_land_43 : decode cX11_land 43 = .ok (.putfield 69, 3) := by decide +kernel
theorem dX11_land_46 : decode cX11_land 46 = .ok (.ireturn, 1) := by decide +kernel
theorem dX11_person_0 : decode cX11_person 0 = .ok (.aload_n 0, 1) := by decide +kernel
theorem dX11_person_1 : decode cX11_person 1 = .ok (.iload_n 1, 1) := by decide +kernel
theorem dX11_person_2 : decode cX11_person 2 = .ok (.invokevirtual 80, 3) := by decide +kernel
theorem dX11_person_5 : decode cX11_person 5 = .ok (.astore_n 3, 1) := by decide +kernel
theorem dX11_person_6 : decode cX11_person 6 = .ok (.aload_n 0, 1) := by decide +kernel
theorem dX11_person_7 : decode cX11_person 7 = .ok (.getfield 84, 3) := by decide +kernel
theorem dX11_person_10 : decode cX11_person 10 = .ok (.bipush 12, 2) := by decide +kernel
theorem dX11_person_12 : decode cX11_person 12 = .ok (.if_icmp .ge 18, 3) := by decide +kernel
theorem dX11_person_15 : decode cX11_person 15 = .ok (.aload_n 3, 1) := by decide +kernel
theorem dX11_person_16 : decode cX11_person 16 = .ok (.ifnull 14, 3) := by decide +kernel
theorem dX11_person_19 : decode cX11_person 19 = .ok (.iload_n 2, 1) := by decide +kernel
theorem dX11_person_20 : decode cX11_person 20 = .ok (.ifCond .lt 10, 3) := by decide +kernel
theorem dX11_person_23 : decode cX11_person 23 = .ok (.iload_n 2, 1) := by decide +kernel
theorem dX11_person_24 : decode cX11_person 24 = .ok (.sipush 128, 3) := by decide +kernel
theorem dX11_person_27 : decode cX11_person 27 = .ok (.if_icmp .lt 5, 3) := by decide +kernel
theorem dX11_person_30 : decode cX11_person 30 = .ok (.iconst (-1), 1) := by decide +kernel
theorem dX11_person_31 : decode cX11_person 31 = .ok (.ireturn, 1) := by decide +kernel
theorem dX11_person_32 : decode cX11_person 32 = .ok (.aload_n 0, 1) := by decide +kernel
theorem dX11_person_33 : decode cX11_person 33 = .ok (.getfield 17, 3) := by decide +kernel
theorem dX11_person_36 : decode cX11_person 36 = .ok (.aload_n 0, 1) := by decide +kernel
theorem dX11_person_37 : decode cX11_person 37 = .ok (.getfield 84, 3) := by decide +kernel
theorem dX11_person_40 : decode cX11_person 40 = .ok (.new 15, 3) := by decide +kernel
theorem dX11_person_43 : decode cX11_person 43 = .ok (.dup, 1) := by decide +kernel
theorem dX11_person_44 : decode cX11_person 44 = .ok (.aload_n 3, 1) := by decide +kernel
theorem dX11_person_45 : decode cX11_person 45 = .ok (.iload_n 2, 1) := by decide +kernel
theorem dX11_person_46 : decode cX11_person 46 = .ok (.invokespecial 87, 3) := by decide +kernel
theorem dX11_person_49 : decode cX11_person 49 = .ok (.aastore, 1) := by decide +kernel
theorem dX11_person_50 : decode cX11_person 50 = .ok (.aload_n 0, 1) := by decide +kernel
theorem dX11_person_51 : decode cX11_person 51 = .ok (.dup, 1) := by decide +kernel
theorem dX11_person_52 : decode cX11_person 52 = .ok (.getfield 84, 3) := by decide +kernel
theorem dX11_person_55 : decode cX11_person 55 = .ok (.dup_x1, 1) := by decide +kernel
theorem dX11_person_56 : decode cX11_person 56 = .ok (.iconst 1, 1) := by decide +kernel
theorem dX11_person_57 : decode cX11_person 57 = .ok (.iadd, 1) := by decide +kernel
theorem dX11_person_58 : decode cX11_person 58 = .ok (.putfield 84, 3) := by decide +kernel
theorem dX11_person_61 : decode cX11_person 61 = .ok (.ireturn, 1) := by decide +kernel
theorem dX11_row_0 : decode cX11_row 0 = .ok (.aload_n 0, 1) := by decide +kernel
theorem dX11_row_1 : decode cX11_row 1 = .ok (.iload_n 1, 1) := by decide +kernel
theorem dX11_row_2 : decode cX11_row 2 = .ok (.invokevirtual 90, 3) := by decide +kernel
theorem dX11_row_5 : decode cX11_row 5 = .ok (.astore_n 3, 1) := by decide +kernel
theorem dX11_row_6 : decode cX11_row 6 = .ok (.aload_n 3, 1) := by decide +kernel
theorem dX11_row_7 : decode cX11_row 7 = .ok (.ifnull 18, 3) := by decide +kernel
theorem dX11_row_10 : decode cX11_row 10 = .ok (.iload_n 2, 1) := by decide +kernel
theorem dX11_row_11 : decode cX11_row 11 = .ok (.ifCond .eq 14, 3) := by decide +kernel
theorem dX11_row_14 : decode cX11_row 14 = .ok (.iload_n 2, 1) := by decide +kernel
theorem dX11_row_15 : decode cX11_row 15 = .ok (.iconst (-1), 1) := by decide +kernel
theorem dX11_row_16 : decode cX11_row 16 = .ok (.if_icmp .lt 9, 3) := by decide +kernel
theorem dX11_row_19 : decode cX11_row 19 = .ok (.iload_n 2, 1) := by decide +kernel
theorem dX11_row_20 : decode cX11_row 20 = .ok (.bipush 48, 2) := by decide +kernel
theorem dX11_row_22 : decode cX11_row 22 = .ok (.if_icmp .le 5, 3) := by decide +kernel
theorem dX11_row_25 : decode cX11_row 25 = .ok (.iconst 0, 1) := by decide +kernel
theorem dX11_row_26 : decode cX11_row 26 = .ok (.ireturn, 1) := by decide +kernel
theorem dX11_row_27 : decode cX11_row 27 = .ok (.aload_n 3, 1) := by decide +kernel
theorem dX11_row_28 : decode cX11_row 28 = .ok (.iload_n 2, 1) := by decide +kernel
theorem dX11_row_29 : decode cX11_row 29 = .ok (.iconst 0, 1) := by decide +kernel
theorem dX11_row_30 : decode cX11_row 30 = .ok (.invokestatic 94, 3) := by decide +kernel
theorem dX11_row_33 : decode cX11_row 33 = .ok (.invokevirtual 100, 3) := by decide +kernel
theorem dX11_row_36 : decode cX11_row 36 = .ok (.iconst 1, 1) := by decide +kernel
theorem dX11_row_37 : decode cX11_row 37 = .ok (.ireturn, 1) := by decide +kernel
theorem dX11_cell_0 : decode cX11_cell 0 = .ok (.aload_n 0, 1) := by decide +kernel
theorem dX11_cell_1 : decode cX11_cell 1 = .ok (.iload_n 1, 1) := by decide +kernel
theorem dX11_cell_2 : decode cX11_cell 2 = .ok (.invokevirtual 90, 3) := by decide +kernel
theorem dX11_cell_5 : decode cX11_cell 5 = .ok (.astore 4, 2) := by decide +kernel
theorem dX11_cell_7 : decode cX11_cell 7 = .ok (.aload 4, 2) := by decide +kernel
theorem dX11_cell_9 : decode cX11_cell 9 = .ok (.ifnull 27, 3) := by decide +kernel
theorem dX11_cell_12 : decode cX11_cell 12 = .ok (.iload_n 2, 1) := by decide +kernel
theorem dX11_cell_13 : decode cX11_cell 13 = .ok (.ifCond .lt 23, 3) := by decide +kernel
theorem dX11_cell_16 : decode cX11_cell 16 = .ok (.iload_n 2, 1) := by decide +kernel
theorem dX11_cell_17 : decode cX11_cell 17 = .ok (.aload 4, 2) := by decide +kernel
theorem dX11_cell_19 : decode cX11_cell 19 = .ok (.getfield 103, 3) := by decide +kernel
theorem dX11_cell_22 : decode cX11_cell 22 = .ok (.if_icmp .ge 14, 3) := by decide +kernel
theorem dX11_cell_25 : decode cX11_cell 25 = .ok (.iload_n 3, 1) := by decide +kernel
theorem dX11_cell_26 : decode cX11_cell 26 = .ok (.iconst (-1), 1) := by decide +kernel
theorem dX11_cell_27 : decode cX11_cell 27 = .ok (.if_icmp .lt 9, 3) := by decide +kernel
theorem dX11_cell_30 : decode cX11_cell 30 = .ok (.iload_n 3, 1) := by decide +kernel
theorem dX11_cell_31 : decode cX11_cell 31 = .ok (.bipush 100, 2) := by decide +kernel
theorem dX11_cell_33 : decode cX11_cell 33 = .ok (.if_icmp .le 5, 3) := by decide +kernel
theorem dX11_cell_36 : decode cX11_cell 36 = .ok (.iconst 0, 1) := by decide +kernel
theorem dX11_cell_37 : decode cX11_cell 37 = .ok (.ireturn, 1) := by decide +kernel
theorem dX11_cell_38 : decode cX11_cell 38 = .ok (.aload 4, 2) := by decide +kernel
theorem dX11_cell_40 : decode cX11_cell 40 = .ok (.getfield 106, 3) := by decide +kernel
theorem dX11_cell_43 : decode cX11_cell 43 = .ok (.iload_n 2, 1) := by decide +kernel
theorem dX11_cell_44 : decode cX11_cell 44 = .ok (.iload_n 3, 1) := by decide +kernel
theorem dX11_cell_45 : decode cX11_cell 45 = .ok (.i2b, 1) := by decide +kernel
theorem dX11_cell_46 : decode cX11_cell 46 = .ok (.bastore, 1) := by decide +kernel
theorem dX11_cell_47 : decode cX11_cell 47 = .ok (.iconst 1, 1) := by decide +kernel
theorem dX11_cell_48 : decode cX11_cell 48 = .ok (.ireturn, 1) := by decide +kernel
theorem dX11_series_0 : decode cX11_series 0 = .ok (.aload_n 0, 1) := by decide +kernel
theorem dX11_series_1 : decode cX11_series 1 = .ok (.iload_n 2, 1) := by decide +kernel
theorem dX11_series_2 : decode cX11_series 2 = .ok (.invokevirtual 110, 3) := by decide +kernel
theorem dX11_series_5 : decode cX11_series 5 = .ok (.astore 4, 2) := by decide +kernel
theorem dX11_series_7 : decode cX11_series 7 = .ok (.iload_n 2, 1) := by decide +kernel
theorem dX11_series_8 : decode cX11_series 8 = .ok (.iconst (-1), 1) := by decide +kernel
theorem dX11_series_9 : decode cX11_series 9 = .ok (.if_icmp .eq 8, 3) := by decide +kernel
theorem dX11_series_12 : decode cX11_series 12 = .ok (.aload 4, 2) := by decide +kernel
theorem dX11_series_14 : decode cX11_series 14 = .ok (.ifnull 7, 3) := by decide +kernel
theorem dX11_series_17 : decode cX11_series 17 = .ok (.iconst 1, 1) := by decide +kernel
theorem dX11_series_18 : decode cX11_series 18 = .ok (.goto 4, 3) := by decide +kernel
theorem dX11_series_21 : decode cX11_series 21 = .ok (.iconst 0, 1) := by decide +kernel
theorem dX11_series_22 : decode cX11_series 22 = .ok (.istore 5, 2) := by decide +kernel
theorem dX11_series_24 : decode cX11_series 24 = .ok (.iload_n 3, 1) := by decide +kernel
theorem dX11_series_25 : decode cX11_series 25 = .ok (.iconst (-1), 1) := by decide +kernel
theorem dX11_series_26 : decode cX11_series 26 = .ok (.if_icmp .eq 11, 3) := by decide +kernel
theorem dX11_series_29 : decode cX11_series 29 = .ok (.aload_n 0, 1) := by decide +kernel
theorem dX11_series_30 : decode cX11_series 30 = .ok (.iload_n 3, 1) := by decide +kernel
theorem dX11_series_31 : decode cX11_series 31 = .ok (.invokevirtual 90, 3) := by decide +kernel
theorem dX11_series_34 : decode cX11_series 34 = .ok (.ifnull 7, 3) := by decide +kernel
theorem dX11_series_37 : decode cX11_series 37 = .ok (.iconst 1, 1) := by decide +kernel
theorem dX11_series_38 : decode cX11_series 38 = .ok (.goto 4, 3) := by decide +kernel
theorem dX11_series_41 : decode cX11_series 41 = .ok (.iconst 0, 1) := by decide +kernel
theorem dX11_series_42 : decode cX11_series 42 = .ok (.istore 6, 2) := by decide +kernel
theorem dX11_series_44 : decode cX11_series 44 = .ok (.aload_n 0, 1) := by decide +kernel
theorem dX11_series_45 : decode cX11_series 45 = .ok (.getfield 114, 3) := by decide +kernel
theorem dX11_series_48 : decode cX11_series 48 = .ok (.iconst 4, 1) := by decide +kernel
theorem dX11_series_49 : decode cX11_series 49 = .ok (.if_icmp .ge 24, 3) := by decide +kernel
theorem dX11_series_52 : decode cX11_series 52 = .ok (.iload_n 1, 1) := by decide +kernel
theorem dX11_series_53 : decode cX11_series 53 = .ok (.iconst 1, 1) := by decide +kernel
theorem dX11_series_54 : decode cX11_series 54 = .ok (.if_icmp .lt 19, 3) := by decide +kernel
theorem dX11_series_57 : decode cX11_series 57 = .ok (.iload_n 1, 1) := by decide +kernel
theorem dX11_series_58 : decode cX11_series 58 = .ok (.bipush 6, 2) := by decide +kernel
theorem dX11_series_60 : decode cX11_series 60 = .ok (.if_icmp .gt 13, 3) := by decide +kernel
theorem dX11_series_63 : decode cX11_series 63 = .ok (.iload 5, 2) := by decide +kernel
theorem dX11_series_65 : decode cX11_series 65 = .ok (.ifCond .eq 8, 3) := by decide +kernel
theorem dX11_series_68 : decode cX11_series 68 = .ok (.iload 6, 2) := by decide +kernel
theorem dX11_series_70 : decode cX11_series 70 = .ok (.ifCond .ne 5, 3) := by decide +kernel
theorem dX11_series_73 : decode cX11_series 73 = .ok (.iconst (-1), 1) := by decide +kernel
theorem dX11_series_74 : decode cX11_series 74 = .ok (.ireturn, 1) := by decide +kernel
theorem dX11_series_75 : decode cX11_series 75 = .ok (.aload_n 0, 1) := by decide +kernel
theorem dX11_series_76 : decode cX11_series 76 = .ok (.getfield 23, 3) := by decide +kernel
theorem dX11_series_79 : decode cX11_series 79 = .ok (.aload_n 0, 1) := by decide +kernel
theorem dX11_series_80 : decode cX11_series 80 = .ok (.getfield 114, 3) := by decide +kernel
theorem dX11_series_83 : decode cX11_series 83 = .ok (.new 21, 3) := by decide +kernel
theorem dX11_series_86 : decode cX11_series 86 = .ok (.dup, 1) := by decide +kernel
theorem dX11_series_87 : decode cX11_series 87 = .ok (.aload_n 0, 1) := by decide +kernel
theorem dX11_series_88 : decode cX11_series 88 = .ok (.getfield 114, 3) := by decide +kernel
theorem dX11_series_91 : decode cX11_series 91 = .ok (.iload_n 1, 1) := by decide +kernel
theorem dX11_series_92 : decode cX11_series 92 = .ok (.aload 4, 2) := by decide +kernel
theorem dX11_series_94 : decode cX11_series 94 = .ok (.iload_n 3, 1) := by decide +kernel
theorem dX11_series_95 : decode cX11_series 95 = .ok (.invokespecial 117, 3) := by decide +kernel
theorem dX11_series_98 : decode cX11_series 98 = .ok (.aastore, 1) := by decide +kernel
theorem dX11_series_99 : decode cX11_series 99 = .ok (.aload_n 0, 1) := by decide +kernel
theorem dX11_series_100 : decode cX11_series 100 = .ok (.dup, 1) := by decide +kernel
theorem dX11_series_101 : decode cX11_series 101 = .ok (.getfield 114, 3) := by decide +kernel
theorem dX11_series_104 : decode cX11_series 104 = .ok (.dup_x1, 1) := by decide +kernel
theorem dX11_series_105 : decode cX11_series 105 = .ok (.iconst 1, 1) := by decide +kernel
theorem dX11_series_106 : decode cX11_series 106 = .ok (.iadd, 1) := by decide +kernel
theorem dX11_series_107 : decode cX11_series 107 = .ok (.putfield 114, 3) := by decide +kernel
theorem dX11_series_110 : decode cX11_series 110 = .ok (.ireturn, 1) := by decide +kernel
theorem dX11_option_0 : decode cX11_option 0 = .ok (.aload_n 0, 1) := by decide +kernel
theorem dX11_option_1 : decode cX11_option 1 = .ok (.iload_n 1, 1) := by decide +kernel
theorem dX11_option_2 : decode cX11_option 2 = .ok (.invokevirtual 110, 3) := by decide +kernel
theorem dX11_option_5 : decode cX11_option 5 = .ok (.astore_n 3, 1) := by decide +kernel
theorem dX11_option_6 : decode cX11_option 6 = .ok (.aload_n 3, 1) := by decide +kernel
theorem dX11_option_7 : decode cX11_option 7 = .ok (.ifnull 23, 3) := by decide +kernel
theorem dX11_option_10 : decode cX11_option 10 = .ok (.aload_n 3, 1) := by decide +kernel
theorem dX11_option_11 : decode cX11_option 11 = .ok (.getfield 120, 3) := by decide +kernel
theorem dX11_option_14 : decode cX11_option 14 = .ok (.bipush 6, 2) := by decide +kernel
theorem dX11_option_16 : decode cX11_option 16 = .ok (.if_icmp .ge 14, 3) := by decide +kernel
theorem dX11_option_19 : decode cX11_option 19 = .ok (.iload_n 2, 1) := by decide +kernel
theorem dX11_option_20 : decode cX11_option 20 = .ok (.ifCond .lt 10, 3) := by decide +kernel
theorem dX11_option_23 : decode cX11_option 23 = .ok (.iload_n 2, 1) := by decide +kernel
theorem dX11_option_24 : decode cX11_option 24 = .ok (.sipush 336, 3) := by decide +kernel
theorem dX11_option_27 : decode cX11_option 27 = .ok (.if_icmp .lt 5, 3) := by decide +kernel
theorem dX11_option_30 : decode cX11_option 30 = .ok (.iconst (-1), 1) := by decide +kernel
theorem dX11_option_31 : decode cX11_option 31 = .ok (.ireturn, 1) := by decide +kernel
theorem dX11_option_32 : decode cX11_option 32 = .ok (.aload_n 3, 1) := by decide +kernel
theorem dX11_option_33 : decode cX11_option 33 = .ok (.getfield 123, 3) := by decide +kernel
theorem dX11_option_36 : decode cX11_option 36 = .ok (.aload_n 3, 1) := by decide +kernel
theorem dX11_option_37 : decode cX11_option 37 = .ok (.getfield 120, 3) := by decide +kernel
theorem dX11_option_40 : decode cX11_option 40 = .ok (.iload_n 2, 1) := by decide +kernel
theorem dX11_option_41 : decode cX11_option 41 = .ok (.iastore, 1) := by decide +kernel
theorem dX11_option_42 : decode cX11_option 42 = .ok (.aload_n 3, 1) := by decide +kernel
theorem dX11_option_43 : decode cX11_option 43 = .ok (.dup, 1) := by decide +kernel
theorem dX11_option_44 : decode cX11_option 44 = .ok (.getfield 120, 3) := by decide +kernel
theorem dX11_option_47 : decode cX11_option 47 = .ok (.dup_x1, 1) := by decide +kernel
theorem dX11_option_48 : decode cX11_option 48 = .ok (.iconst 1, 1) := by decide +kernel
theorem dX11_option_49 : decode cX11_option 49 = .ok (.iadd, 1) := by decide +kernel
theorem dX11_option_50 : decode cX11_option 50 = .ok (.putfield 120, 3) := by decide +kernel
theorem dX11_option_53 : decode cX11_option 53 = .ok (.ireturn, 1) := by decide +kernel
theorem dX11_role_0 : decode cX11_role 0 = .ok (.aload_n 0, 1) := by decide +kernel
theorem dX11_role_1 : decode cX11_role 1 = .ok (.iload_n 1, 1) := by decide +kernel
theorem dX11_role_2 : decode cX11_role 2 = .ok (.invokevirtual 110, 3) := by decide +kernel
theorem dX11_role_5 : decode cX11_role 5 = .ok (.astore 4, 2) := by decide +kernel
theorem dX11_role_7 : decode cX11_role 7 = .ok (.aload 4, 2) := by decide +kernel
theorem dX11_role_9 : decode cX11_role 9 = .ok (.ifnull 21, 3) := by decide +kernel
theorem dX11_role_12 : decode cX11_role 12 = .ok (.aload_n 0, 1) := by decide +kernel
theorem dX11_role_13 : decode cX11_role 13 = .ok (.iload_n 2, 1) := by decide +kernel
theorem dX11_role_14 : decode cX11_role 14 = .ok (.invokevirtual 90, 3) := by decide +kernel
theorem dX11_role_17 : decode cX11_role 17 = .ok (.ifnull 13, 3) := by decide +kernel
theorem dX11_role_20 : decode cX11_role 20 = .ok (.iload_n 3, 1) := by decide +kernel
theorem dX11_role_21 : decode cX11_role 21 = .ok (.ifCond .lt 9, 3) := by decide +kernel
theorem dX11_role_24 : decode cX11_role 24 = .ok (.iload_n 3, 1) := by decide +kernel
theorem dX11_role_25 : decode cX11_role 25 = .ok (.bipush 6, 2) := by decide +kernel
theorem dX11_role_27 : decode cX11_role 27 = .ok (.if_icmp .lt 5, 3) := by decide +kernel
theorem dX11_role_30 : decode cX11_role 30 = .ok (.iconst 0, 1) := by decide +kernel
theorem dX11_role_31 : decode cX11_role 31 = .ok (.ireturn, 1) := by decide +kernel
theorem dX11_role_32 : decode cX11_role 32 = .ok (.aload 4, 2) := by decide +kernel
theorem dX11_role_34 : decode cX11_role 34 = .ok (.iload_n 2, 1) := by decide +kernel
theorem dX11_role_35 : decode cX11_role 35 = .ok (.iload_n 3, 1) := by decide +kernel
theorem dX11_role_36 : decode cX11_role 36 = .ok (.invokevirtual 127, 3) := by decide +kernel
theorem dX11_role_39 : decode cX11_role 39 = .ok (.iconst 1, 1) := by decide +kernel
theorem dX11_role_40 : decode cX11_role 40 = .ok (.ireturn, 1) := by decide +kernel
theorem dX11_count_0 : decode cX11_count 0 = .ok (.iload_n 1, 1) := by decide +kernel
theorem dX11_count_1 : decode cX11_count 1 = .ok (.tableswitch 60 0 4 #[35, 40, 45, 50, 55], 35) := by decide +kernel
theorem dX11_count_36 : decode cX11_count 36 = .ok (.aload_n 0, 1) := by decide +kernel
theorem dX11_count_37 : decode cX11_count 37 = .ok (.getfield 69, 3) := by decide +kernel
theorem dX11_count_40 : decode cX11_count 40 = .ok (.ireturn, 1) := by decide +kernel
theorem dX11_count_41 : decode cX11_count 41 = .ok (.aload_n 0, 1) := by decide +kernel
theorem dX11_count_42 : decode cX11_count 42 = .ok (.getfield 84, 3) := by decide +kernel
theorem dX11_count_45 : decode cX11_count 45 = .ok (.ireturn, 1) := by decide +kernel
theorem dX11_count_46 : decode cX11_count 46 = .ok (.aload_n 0, 1) := by decide +kernel
theorem dX11_count_47 : decode cX11_count 47 = .ok (.getfield 131, 3) := by decide +kernel
theorem dX11_count_50 : decode cX11_count 50 = .ok (.ireturn, 1) := by decide +kernel
theorem dX11_count_51 : decode cX11_count 51 = .ok (.aload_n 0, 1) := by decide +kernel
theorem dX11_count_52 : decode cX11_count 52 = .ok (.getfield 114, 3) := by decide +kernel
theorem dX11_count_55 : decode cX11_count 55 = .ok (.ireturn, 1) := by decide +kernel
theorem dX11_count_56 : decode cX11_count 56 = .ok (.aload_n 0, 1) := by decide +kernel
theorem dX11_count_57 : decode cX11_count 57 = .ok (.invokevirtual 134, 3) := by decide +kernel
theorem dX11_count_60 : decode cX11_count 60 = .ok (.ireturn, 1) := by decide +kernel
theorem dX11_count_61 : decode cX11_count 61 = .ok (.iconst (-1), 1) := by decide +kernel
theorem dX11_count_62 : decode cX11_count 62 = .ok (.ireturn, 1) := by decide +kernel
theorem dX11_change_0 : decode cX11_change 0 = .ok (.aload_n 0, 1) := by decide +kernel
theorem dX11_change_1 : decode cX11_change 1 = .ok (.iload_n 1, 1) := by decide +kernel
theorem dX11_change_2 : decode cX11_change 2 = .ok (.invokevirtual 80, 3) := by decide +kernel
theorem dX11_change_5 : decode cX11_change 5 = .ok (.astore 4, 2) := by decide +kernel
theorem dX11_change_7 : decode cX11_change 7 = .ok (.aload_n 0, 1) := by decide +kernel
theorem dX11_change_8 : decode cX11_change 8 = .ok (.getfield 131, 3) := by decide +kernel
theorem dX11_change_11 : decode cX11_change 11 = .ok (.sipush 400, 3) := by decide +kernel
theorem dX11_change_14 : decode cX11_change 14 = .ok (.if_icmp .ge 22, 3) := by decide +kernel
theorem dX11_change_17 : decode cX11_change 17 = .ok (.aload 4, 2) := by decide +kernel
theorem dX11_change_19 : decode cX11_change 19 = .ok (.ifnull 17, 3) := by decide +kernel
theorem dX11_change_22 : decode cX11_change 22 = .ok (.iload_n 2, 1) := by decide +kernel
theorem dX11_change_23 : decode cX11_change 23 = .ok (.invokestatic 138, 3) := by decide +kernel
theorem dX11_change_26 : decode cX11_change 26 = .ok (.ifCond .eq 10, 3) := by decide +kernel
theorem dX11_change_29 : decode cX11_change 29 = .ok (.iload_n 3, 1) := by decide +kernel
theorem dX11_change_30 : decode cX11_change 30 = .ok (.invokestatic 73, 3) := by decide +kernel
theorem dX11_change_33 : decode cX11_change 33 = .ok (.ifCond .ne 5, 3) := by decide +kernel
theorem dX11_change_36 : decode cX11_change 36 = .ok (.iconst (-1), 1) := by decide +kernel
theorem dX11_change_37 : decode cX11_change 37 = .ok (.ireturn, 1) := by decide +kernel
theorem dX11_change_38 : decode cX11_change 38 = .ok (.aload 4, 2) := by decide +kernel
theorem dX11_change_40 : decode cX11_change 40 = .ok (.new 141, 3) := by decide +kernel
theorem dX11_change_43 : decode cX11_change 43 = .ok (.dup, 1) := by decide +kernel
theorem dX11_change_44 : decode cX11_change 44 = .ok (.aload_n 0, 1) := by decide +kernel
theorem dX11_change_45 : decode cX11_change 45 = .ok (.getfield 131, 3) := by decide +kernel
theorem dX11_change_48 : decode cX11_change 48 = .ok (.iload_n 2, 1) := by decide +kernel
theorem dX11_change_49 : decode cX11_change 49 = .ok (.iload_n 3, 1) := by decide +kernel
theorem dX11_change_50 : decode cX11_change 50 = .ok (.iconst 0, 1) := by decide +kernel
theorem dX11_change_51 : decode cX11_change 51 = .ok (.aload 4, 2) := by decide +kernel
theorem dX11_change_53 : decode cX11_change 53 = .ok (.getfield 143, 3) := by decide +kernel
theorem dX11_change_56 : decode cX11_change 56 = .ok (.invokespecial 147, 3) := by decide +kernel
theorem dX11_change_59 : decode cX11_change 59 = .ok (.putfield 143, 3) := by decide +kernel
theorem dX11_change_62 : decode cX11_change 62 = .ok (.aload_n 0, 1) := by decide +kernel
theorem dX11_change_63 : decode cX11_change 63 = .ok (.dup, 1) := by decide +kernel
theorem dX11_change_64 : decode cX11_change 64 = .ok (.getfield 131, 3) := by decide +kernel
theorem dX11_change_67 : decode cX11_change 67 = .ok (.dup_x1, 1) := by decide +kernel
theorem dX11_change_68 : decode cX11_change 68 = .ok (.iconst 1, 1) := by decide +kernel
theorem dX11_change_69 : decode cX11_change 69 = .ok (.iadd, 1) := by decide +kernel
theorem dX11_change_70 : decode cX11_change 70 = .ok (.putfield 131, 3) := by decide +kernel
theorem dX11_change_73 : decode cX11_change 73 = .ok (.ireturn, 1) := by decide +kernel
theorem dX11_feast_0 : decode cX11_feast 0 = .ok (.aload_n 0, 1) := by decide +kernel
theorem dX11_feast_1 : decode cX11_feast 1 = .ok (.iload_n 1, 1) := by decide +kernel
theorem dX11_feast_2 : decode cX11_feast 2 = .ok (.invokevirtual 80, 3) := by decide +kernel
theorem dX11_feast_5 : decode cX11_feast 5 = .ok (.astore_n 3, 1) := by decide +kernel
theorem dX11_feast_6 : decode cX11_feast 6 = .ok (.aload_n 0, 1) := by decide +kernel
theorem dX11_feast_7 : decode cX11_feast 7 = .ok (.getfield 131, 3) := by decide +kernel
theorem dX11_feast_10 : decode cX11_feast 10 = .ok (.sipush 400, 3) := by decide +kernel
theorem dX11_feast_13 : decode cX11_feast 13 = .ok (.if_icmp .ge 18, 3) := by decide +kernel
theorem dX11_feast_16 : decode cX11_feast 16 = .ok (.aload_n 3, 1) := by decide +kernel
theorem dX11_feast_17 : decode cX11_feast 17 = .ok (.ifnull 14, 3) := by decide +kernel
theorem dX11_feast_20 : decode cX11_feast 20 = .ok (.iload_n 2, 1) := by decide +kernel
theorem dX11_feast_21 : decode cX11_feast 21 = .ok (.ifCond .lt 10, 3) := by decide +kernel
theorem dX11_feast_24 : decode cX11_feast 24 = .ok (.iload_n 2, 1) := by decide +kernel
theorem dX11_feast_25 : decode cX11_feast 25 = .ok (.sipush 364, 3) := by decide +kernel
theorem dX11_feast_28 : decode cX11_feast 28 = .ok (.if_icmp .lt 5, 3) := by decide +kernel
theorem dX11_feast_31 : decode cX11_feast 31 = .ok (.iconst (-1), 1) := by decide +kernel
theorem dX11_feast_32 : decode cX11_feast 32 = .ok (.ireturn, 1) := by decide +kernel
theorem dX11_feast_33 : decode cX11_feast 33 = .ok (.aload_n 3, 1) := by decide +kernel
theorem dX11_feast_34 : decode cX11_feast 34 = .ok (.new 141, 3) := by decide +kernel
theorem dX11_feast_37 : decode cX11_feast 37 = .ok (.dup, 1) := by decide +kernel
theorem dX11_feast_38 : decode cX11_feast 38 = .ok (.aload_n 0, 1) := by decide +kernel
theorem dX11_feast_39 : decode cX11_feast 39 = .ok (.getfield 131, 3) := by decide +kernel
theorem dX11_feast_42 : decode cX11_feast 42 = .ok (.iload_n 2, 1) := by decide +kernel
theorem dX11_feast_43 : decode cX11_feast 43 = .ok (.iload_n 2, 1) := by decide +kernel
theorem dX11_feast_44 : decode cX11_feast 44 = .ok (.iconst 0, 1) := by decide +kernel
theorem dX11_feast_45 : decode cX11_feast 45 = .ok (.aload_n 3, 1) := by decide +kernel
theorem dX11_feast_46 : decode cX11_feast 46 = .ok (.getfield 150, 3) := by decide +kernel
theorem dX11_feast_49 : decode cX11_feast 49 = .ok (.invokespecial 147, 3) := by decide +kernel
theorem dX11_feast_52 : decode cX11_feast 52 = .ok (.putfield 150, 3) := by decide +kernel
theorem dX11_feast_55 : decode cX11_feast 55 = .ok (.aload_n 0, 1) := by decide +kernel
theorem dX11_feast_56 : decode cX11_feast 56 = .ok (.dup, 1) := by decide +kernel
theorem dX11_feast_57 : decode cX11_feast 57 = .ok (.getfield 131, 3) := by decide +kernel
theorem dX11_feast_60 : decode cX11_feast 60 = .ok (.dup_x1, 1) := by decide +kernel
theorem dX11_feast_61 : decode cX11_feast 61 = .ok (.iconst 1, 1) := by decide +kernel
theorem dX11_feast_62 : decode cX11_feast 62 = .ok (.iadd, 1) := by decide +kernel
theorem dX11_feast_63 : decode cX11_feast 63 = .ok (.putfield 131, 3) := by decide +kernel
theorem dX11_feast_66 : decode cX11_feast 66 = .ok (.ireturn, 1) := by decide +kernel
theorem dX11_busy_0 : decode cX11_busy 0 = .ok (.aload_n 0, 1) := by decide +kernel
theorem dX11_busy_1 : decode cX11_busy 1 = .ok (.iload_n 1, 1) := by decide +kernel
theorem dX11_busy_2 : decode cX11_busy 2 = .ok (.invokevirtual 90, 3) := by decide +kernel
theorem dX11_busy_5 : decode cX11_busy 5 = .ok (.astore 5, 2) := by decide +kernel
theorem dX11_busy_7 : decode cX11_busy 7 = .ok (.aload_n 0, 1) := by decide +kernel
theorem dX11_busy_8 : decode cX11_busy 8 = .ok (.getfield 131, 3) := by decide +kernel
theorem dX11_busy_11 : decode cX11_busy 11 = .ok (.sipush 400, 3) := by decide +kernel
theorem dX11_busy_14 : decode cX11_busy 14 = .ok (.if_icmp .ge 24, 3) := by decide +kernel
theorem dX11_busy_17 : decode cX11_busy 17 = .ok (.aload 5, 2) := by decide +kernel
theorem dX11_busy_19 : decode cX11_busy 19 = .ok (.ifnull 19, 3) := by decide +kernel
theorem dX11_busy_22 : decode cX11_busy 22 = .ok (.iload_n 2, 1) := by decide +kernel
theorem dX11_busy_23 : decode cX11_busy 23 = .ok (.ifCond .lt 15, 3) := by decide +kernel
theorem dX11_busy_26 : decode cX11_busy 26 = .ok (.iload_n 2, 1) := by decide +kernel
theorem dX11_busy_27 : decode cX11_busy 27 = .ok (.iload_n 3, 1) := by decide +kernel
theorem dX11_busy_28 : decode cX11_busy 28 = .ok (.if_icmp .ge 10, 3) := by decide +kernel
theorem dX11_busy_31 : decode cX11_busy 31 = .ok (.iload_n 3, 1) := by decide +kernel
theorem dX11_busy_32 : decode cX11_busy 32 = .ok (.sipush 17472, 3) := by decide +kernel
theorem dX11_busy_35 : decode cX11_busy 35 = .ok (.if_icmp .le 5, 3) := by decide +kernel
theorem dX11_busy_38 : decode cX11_busy 38 = .ok (.iconst (-1), 1) := by decide +kernel
theorem dX11_busy_39 : decode cX11_busy 39 = .ok (.ireturn, 1) := by decide +kernel
theorem dX11_busy_40 : decode cX11_busy 40 = .ok (.aload 5, 2) := by decide +kernel
theorem dX11_busy_42 : decode cX11_busy 42 = .ok (.new 141, 3) := by decide +kernel
theorem dX11_busy_45 : decode cX11_busy 45 = .ok (.dup, 1) := by decide +kernel
theorem dX11_busy_46 : decode cX11_busy 46 = .ok (.aload_n 0, 1) := by decide +kernel
theorem dX11_busy_47 : decode cX11_busy 47 = .ok (.getfield 131, 3) := by decide +kernel
theorem dX11_busy_50 : decode cX11_busy 50 = .ok (.iload_n 2, 1) := by decide +kernel
theorem dX11_busy_51 : decode cX11_busy 51 = .ok (.iload_n 3, 1) := by decide +kernel
theorem dX11_busy_52 : decode cX11_busy 52 = .ok (.iload 4, 2) := by decide +kernel
theorem dX11_busy_54 : decode cX11_busy 54 = .ok (.aload 5, 2) := by decide +kernel
theorem dX11_busy_56 : decode cX11_busy 56 = .ok (.getfield 153, 3) := by decide +kernel
theorem dX11_busy_59 : decode cX11_busy 59 = .ok (.invokespecial 147, 3) := by decide +kernel
theorem dX11_busy_62 : decode cX11_busy 62 = .ok (.putfield 153, 3) := by decide +kernel
theorem dX11_busy_65 : decode cX11_busy 65 = .ok (.aload_n 0, 1) := by decide +kernel
theorem dX11_busy_66 : decode cX11_busy 66 = .ok (.dup, 1) := by decide +kernel
theorem dX11_busy_67 : decode cX11_busy 67 = .ok (.getfield 131, 3) := by decide +kernel
theorem dX11_busy_70 : decode cX11_busy 70 = .ok (.dup_x1, 1) := by decide +kernel
theorem dX11_busy_71 : decode cX11_busy 71 = .ok (.iconst 1, 1) := by decide +kernel
theorem dX11_busy_72 : decode cX11_busy 72 = .ok (.iadd, 1) := by decide +kernel
theorem dX11_busy_73 : decode cX11_busy 73 = .ok (.putfield 131, 3) := by decide +kernel
theorem dX11_busy_76 : decode cX11_busy 76 = .ok (.ireturn, 1) := by decide +kernel
theorem dX11_cant_0 : decode cX11_cant 0 = .ok (.aload_n 0, 1) := by decide +kernel
theorem dX11_cant_1 : decode cX11_cant 1 = .ok (.iload_n 2, 1) := by decide +kernel
theorem dX11_cant_2 : decode cX11_cant 2 = .ok (.invokevirtual 110, 3) := by decide +kernel
theorem dX11_cant_5 : decode cX11_cant 5 = .ok (.astore 4, 2) := by decide +kernel
theorem dX11_cant_7 : decode cX11_cant 7 = .ok (.aload_n 0, 1) := by decide +kernel
theorem dX11_cant_8 : decode cX11_cant 8 = .ok (.getfield 131, 3) := by decide +kernel
theorem dX11_cant_11 : decode cX11_cant 11 = .ok (.sipush 400, 3) := by decide +kernel
theorem dX11_cant_14 : decode cX11_cant 14 = .ok (.if_icmp .ge 23, 3) := by decide +kernel
theorem dX11_cant_17 : decode cX11_cant 17 = .ok (.aload_n 0, 1) := by decide +kernel
theorem dX11_cant_18 : decode cX11_cant 18 = .ok (.iload_n 1, 1) := by decide +kernel
theorem dX11_cant_19 : decode cX11_cant 19 = .ok (.invokevirtual 90, 3) := by decide +kernel
theorem dX11_cant_22 : decode cX11_cant 22 = .ok (.ifnull 15, 3) := by decide +kernel
theorem dX11_cant_25 : decode cX11_cant 25 = .ok (.aload 4, 2) := by decide +kernel
theorem dX11_cant_27 : decode cX11_cant 27 = .ok (.ifnull 10, 3) := by decide +kernel
theorem dX11_cant_30 : decode cX11_cant 30 = .ok (.iload_n 3, 1) := by decide +kernel
theorem dX11_cant_31 : decode cX11_cant 31 = .ok (.invokestatic 156, 3) := by decide +kernel
theorem dX11_cant_34 : decode cX11_cant 34 = .ok (.ifCond .ne 5, 3) := by decide +kernel
theorem dX11_cant_37 : decode cX11_cant 37 = .ok (.iconst (-1), 1) := by decide +kernel
theorem dX11_cant_38 : decode cX11_cant 38 = .ok (.ireturn, 1) := by decide +kernel
theorem dX11_cant_39 : decode cX11_cant 39 = .ok (.aload 4, 2) := by decide +kernel
theorem dX11_cant_41 : decode cX11_cant 41 = .ok (.new 141, 3) := by decide +kernel
theorem dX11_cant_44 : decode cX11_cant 44 = .ok (.dup, 1) := by decide +kernel
theorem dX11_cant_45 : decode cX11_cant 45 = .ok (.aload_n 0, 1) := by decide +kernel
theorem dX11_cant_46 : decode cX11_cant 46 = .ok (.getfield 131, 3) := by decide +kernel
theorem dX11_cant_49 : decode cX11_cant 49 = .ok (.iload_n 1, 1) := by decide +kernel
theorem dX11_cant_50 : decode cX11_cant 50 = .ok (.iload_n 3, 1) := by decide +kernel
theorem dX11_cant_51 : decode cX11_cant 51 = .ok (.iconst 0, 1) := by decide +kernel
theorem dX11_cant_52 : decode cX11_cant 52 = .ok (.aload 4, 2) := by decide +kernel
theorem dX11_cant_54 : decode cX11_cant 54 = .ok (.getfield 159, 3) := by decide +kernel
theorem dX11_cant_57 : decode cX11_cant 57 = .ok (.invokespecial 147, 3) := by decide +kernel
theorem dX11_cant_60 : decode cX11_cant 60 = .ok (.putfield 159, 3) := by decide +kernel
theorem dX11_cant_63 : decode cX11_cant 63 = .ok (.aload_n 0, 1) := by decide +kernel
theorem dX11_cant_64 : decode cX11_cant 64 = .ok (.dup, 1) := by decide +kernel
theorem dX11_cant_65 : decode cX11_cant 65 = .ok (.getfield 131, 3) := by decide +kernel
theorem dX11_cant_68 : decode cX11_cant 68 = .ok (.dup_x1, 1) := by decide +kernel
theorem dX11_cant_69 : decode cX11_cant 69 = .ok (.iconst 1, 1) := by decide +kernel
theorem dX11_cant_70 : decode cX11_cant 70 = .ok (.iadd, 1) := by decide +kernel
theorem dX11_cant_71 : decode cX11_cant 71 = .ok (.putfield 131, 3) := by decide +kernel
theorem dX11_cant_74 : decode cX11_cant 74 = .ok (.ireturn, 1) := by decide +kernel
theorem dX11_local_0 : decode cX11_local 0 = .ok (.aload_n 0, 1) := by decide +kernel
theorem dX11_local_1 : decode cX11_local 1 = .ok (.iload_n 1, 1) := by decide +kernel
theorem dX11_local_2 : decode cX11_local 2 = .ok (.invokevirtual 80, 3) := by decide +kernel
theorem dX11_local_5 : decode cX11_local 5 = .ok (.astore 5, 2) := by decide +kernel
theorem dX11_local_7 : decode cX11_local 7 = .ok (.aload 5, 2) := by decide +kernel
theorem dX11_local_9 : decode cX11_local 9 = .ok (.ifnull 18, 3) := by decide +kernel
theorem dX11_local_12 : decode cX11_local 12 = .ok (.iload_n 2, 1) := by decide +kernel
theorem dX11_local_13 : decode cX11_local 13 = .ok (.invokestatic 138, 3) := by decide +kernel
theorem dX11_local_16 : decode cX11_local 16 = .ok (.ifCond .eq 11, 3) := by decide +kernel
theorem dX11_local_19 : decode cX11_local 19 = .ok (.aload_n 0, 1) := by decide +kernel
theorem dX11_local_20 : decode cX11_local 20 = .ok (.iload_n 3, 1) := by decide +kernel
theorem dX11_local_21 : decode cX11_local 21 = .ok (.invokevirtual 162, 3) := by decide +kernel
theorem dX11_local_24 : decode cX11_local 24 = .ok (.ifCond .ne 6, 3) := by decide +kernel
theorem dX11_local_27 : decode cX11_local 27 = .ok (.ldc 165, 2) := by decide +kernel
theorem dX11_local_29 : decode cX11_local 29 = .ok (.ireturn, 1) := by decide +kernel
theorem dX11_local_30 : decode cX11_local 30 = .ok (.aload 5, 2) := by decide +kernel
theorem dX11_local_32 : decode cX11_local 32 = .ok (.iload_n 2, 1) := by decide +kernel
theorem dX11_local_33 : decode cX11_local 33 = .ok (.iload_n 3, 1) := by decide +kernel
theorem dX11_local_34 : decode cX11_local 34 = .ok (.invokevirtual 166, 3) := by decide +kernel
theorem dX11_local_37 : decode cX11_local 37 = .ok (.istore 6, 2) := by decide +kernel
theorem dX11_local_39 : decode cX11_local 39 = .ok (.iload_n 2, 1) := by decide +kernel
theorem dX11_local_40 : decode cX11_local 40 = .ok (.iload 6, 2) := by decide +kernel
theorem dX11_local_42 : decode cX11_local 42 = .ok (.iadd, 1) := by decide +kernel
theorem dX11_local_43 : decode cX11_local 43 = .ok (.bipush 48, 2) := by decide +kernel
theorem dX11_local_45 : decode cX11_local 45 = .ok (.invokestatic 169, 3) := by decide +kernel
theorem dX11_local_48 : decode cX11_local 48 = .ok (.istore 7, 2) := by decide +kernel
theorem dX11_local_50 : decode cX11_local 50 = .ok (.iload 4, 2) := by decide +kernel
theorem dX11_local_52 : decode cX11_local 52 = .ok (.tableswitch 56 0 3 #[32, 35, 45, 53], 32) := by decide +kernel
theorem dX11_local_84 : decode cX11_local 84 = .ok (.iload 7, 2) := by decide +kernel
theorem dX11_local_86 : decode cX11_local 86 = .ok (.ireturn, 1) := by decide +kernel
theorem dX11_local_87 : decode cX11_local 87 = .ok (.iload_n 2, 1) := by decide +kernel
theorem dX11_local_88 : decode cX11_local 88 = .ok (.iload 6, 2) := by decide +kernel
theorem dX11_local_90 : decode cX11_local 90 = .ok (.iadd, 1) := by decide +kernel
theorem dX11_local_91 : decode cX11_local 91 = .ok (.bipush 48, 2) := by decide +kernel
theorem dX11_local_93 : decode cX11_local 93 = .ok (.invokestatic 172, 3) := by decide +kernel
theorem dX11_local_96 : decode cX11_local 96 = .ok (.ireturn, 1) := by decide +kernel
theorem dX11_local_97 : decode cX11_local 97 = .ok (.iload 7, 2) := by decide +kernel
theorem dX11_local_99 : decode cX11_local 99 = .ok (.bipush 7, 2) := by decide +kernel
theorem dX11_local_101 : decode cX11_local 101 = .ok (.invokestatic 172, 3) := by decide +kernel
theorem dX11_local_104 : decode cX11_local 104 = .ok (.ireturn, 1) := by decide +kernel
theorem dX11_local_105 : decode cX11_local 105 = .ok (.iload 6, 2) := by decide +kernel
theorem dX11_local_107 : decode cX11_local 107 = .ok (.ireturn, 1) := by decide +kernel
theorem dX11_local_108 : decode cX11_local 108 = .ok (.ldc 165, 2) := by decide +kernel
theorem dX11_local_110 : decode cX11_local 110 = .ok (.ireturn, 1) := by decide +kernel
theorem dX11_when_0 : decode cX11_when 0 = .ok (.aload_n 0, 1) := by decide +kernel
theorem dX11_when_1 : decode cX11_when 1 = .ok (.iload_n 1, 1) := by decide +kernel
theorem dX11_when_2 : decode cX11_when 2 = .ok (.invokevirtual 80, 3) := by decide +kernel
theorem dX11_when_5 : decode cX11_when 5 = .ok (.astore 6, 2) := by decide +kernel
theorem dX11_when_7 : decode cX11_when 7 = .ok (.iload_n 2, 1) := by decide +kernel
theorem dX11_when_8 : decode cX11_when 8 = .ok (.iconst (-1), 1) := by decide +kernel
theorem dX11_when_9 : decode cX11_when 9 = .ok (.if_icmp .lt 24, 3) := by decide +kernel
theorem dX11_when_12 : decode cX11_when 12 = .ok (.iload_n 2, 1) := by decide +kernel
theorem dX11_when_13 : decode cX11_when 13 = .ok (.sipush 364, 3) := by decide +kernel
theorem dX11_when_16 : decode cX11_when 16 = .ok (.if_icmp .gt 17, 3) := by decide +kernel
theorem dX11_when_19 : decode cX11_when 19 = .ok (.iload_n 3, 1) := by decide +kernel
theorem dX11_when_20 : decode cX11_when 20 = .ok (.ifCond .lt 13, 3) := by decide +kernel
theorem dX11_when_23 : decode cX11_when 23 = .ok (.iload_n 3, 1) := by decide +kernel
theorem dX11_when_24 : decode cX11_when 24 = .ok (.bipush 48, 2) := by decide +kernel
theorem dX11_when_26 : decode cX11_when 26 = .ok (.if_icmp .ge 7, 3) := by decide +kernel
theorem dX11_when_29 : decode cX11_when 29 = .ok (.iconst 1, 1) := by decide +kernel
theorem dX11_when_30 : decode cX11_when 30 = .ok (.goto 4, 3) := by decide +kernel
theorem dX11_when_33 : decode cX11_when 33 = .ok (.iconst 0, 1) := by decide +kernel
theorem dX11_when_34 : decode cX11_when 34 = .ok (.istore 7, 2) := by decide +kernel
theorem dX11_when_36 : decode cX11_when 36 = .ok (.aload 6, 2) := by decide +kernel
theorem dX11_when_38 : decode cX11_when 38 = .ok (.ifnull 17, 3) := by decide +kernel
theorem dX11_when_41 : decode cX11_when 41 = .ok (.iload 7, 2) := by decide +kernel
theorem dX11_when_43 : decode cX11_when 43 = .ok (.ifCond .eq 12, 3) := by decide +kernel
theorem dX11_when_46 : decode cX11_when 46 = .ok (.aload_n 0, 1) := by decide +kernel
theorem dX11_when_47 : decode cX11_when 47 = .ok (.iload 4, 2) := by decide +kernel
theorem dX11_when_49 : decode cX11_when 49 = .ok (.invokevirtual 162, 3) := by decide +kernel
theorem dX11_when_52 : decode cX11_when 52 = .ok (.ifCond .ne 5, 3) := by decide +kernel
theorem dX11_when_55 : decode cX11_when 55 = .ok (.iconst (-1), 1) := by decide +kernel
theorem dX11_when_56 : decode cX11_when 56 = .ok (.ireturn, 1) := by decide +kernel
theorem dX11_when_57 : decode cX11_when 57 = .ok (.iload_n 2, 1) := by decide +kernel
theorem dX11_when_58 : decode cX11_when 58 = .ok (.bipush 48, 2) := by decide +kernel
theorem dX11_when_60 : decode cX11_when 60 = .ok (.imul, 1) := by decide +kernel
theorem dX11_when_61 : decode cX11_when 61 = .ok (.iload_n 3, 1) := by decide +kernel
theorem dX11_when_62 : decode cX11_when 62 = .ok (.iadd, 1) := by decide +kernel
theorem dX11_when_63 : decode cX11_when 63 = .ok (.istore 8, 2) := by decide +kernel
theorem dX11_when_65 : decode cX11_when 65 = .ok (.iconst 0, 1) := by decide +kernel
theorem dX11_when_66 : decode cX11_when 66 = .ok (.istore 9, 2) := by decide +kernel
theorem dX11_when_68 : decode cX11_when 68 = .ok (.iconst (-1), 1) := by decide +kernel
theorem dX11_when_69 : decode cX11_when 69 = .ok (.istore 10, 2) := by decide +kernel
theorem dX11_when_71 : decode cX11_when 71 = .ok (.iconst (-1), 1) := by decide +kernel
theorem dX11_when_72 : decode cX11_when 72 = .ok (.istore 11, 2) := by decide +kernel
theorem dX11_when_74 : decode cX11_when 74 = .ok (.iconst 0, 1) := by decide +kernel
theorem dX11_when_75 : decode cX11_when 75 = .ok (.iload 8, 2) := by decide +kernel
theorem dX11_when_77 : decode cX11_when 77 = .ok (.bipush 28, 2) := by decide +kernel
theorem dX11_when_79 : decode cX11_when 79 = .ok (.isub, 1) := by decide +kernel
theorem dX11_when_80 : decode cX11_when 80 = .ok (.invokestatic 94, 3) := by decide +kernel
theorem dX11_when_83 : decode cX11_when 83 = .ok (.istore 12, 2) := by decide +kernel
theorem dX11_when_85 : decode cX11_when 85 = .ok (.sipush 17471, 3) := by decide +kernel
theorem dX11_when_88 : decode cX11_when 88 = .ok (.iload 8, 2) := by decide +kernel
theorem dX11_when_90 : decode cX11_when 90 = .ok (.bipush (-24), 2) := by decide +kernel
theorem dX11_when_92 : decode cX11_when 92 = .ok (.isub, 1) := by decide +kernel
theorem dX11_when_93 : decode cX11_when 93 = .ok (.invokestatic 175, 3) := by decide +kernel
theorem dX11_when_96 : decode cX11_when 96 = .ok (.istore 13, 2) := by decide +kernel
theorem dX11_when_98 : decode cX11_when 98 = .ok (.iload 12, 2) := by decide +kernel
theorem dX11_when_100 : decode cX11_when 100 = .ok (.istore 14, 2) := by decide +kernel
theorem dX11_when_102 : decode cX11_when 102 = .ok (.iload 14, 2) := by decide +kernel
theorem dX11_when_104 : decode cX11_when 104 = .ok (.iload 13, 2) := by decide +kernel
theorem dX11_when_106 : decode cX11_when 106 = .ok (.if_icmp .gt 48, 3) := by decide +kernel
theorem dX11_when_109 : decode cX11_when 109 = .ok (.iload 14, 2) := by decide +kernel
theorem dX11_when_111 : decode cX11_when 111 = .ok (.aload 6, 2) := by decide +kernel
theorem dX11_when_113 : decode cX11_when 113 = .ok (.iload 14, 2) := by decide +kernel
theorem dX11_when_115 : decode cX11_when 115 = .ok (.iload 4, 2) := by decide +kernel
theorem dX11_when_117 : decode cX11_when 117 = .ok (.invokevirtual 166, 3) := by decide +kernel
theorem dX11_when_120 : decode cX11_when 120 = .ok (.iadd, 1) := by decide +kernel
theorem dX11_when_121 : decode cX11_when 121 = .ok (.iload 8, 2) := by decide +kernel
theorem dX11_when_123 : decode cX11_when 123 = .ok (.if_icmp .ne 25, 3) := by decide +kernel
theorem dX11_when_126 : decode cX11_when 126 = .ok (.iinc 9 1, 3) := by decide +kernel
theorem dX11_when_129 : decode cX11_when 129 = .ok (.iload 10, 2) := by decide +kernel
theorem dX11_when_131 : decode cX11_when 131 = .ok (.iconst (-1), 1) := by decide +kernel
theorem dX11_when_132 : decode cX11_when 132 = .ok (.if_icmp .ne 8, 3) := by decide +kernel
theorem dX11_when_135 : decode cX11_when 135 = .ok (.iload 14, 2) := by decide +kernel
theorem dX11_when_137 : decode cX11_when 137 = .ok (.goto 5, 3) := by decide +kernel
theorem dX11_when_140 : decode cX11_when 140 = .ok (.iload 10, 2) := by decide +kernel
theorem dX11_when_142 : decode cX11_when 142 = .ok (.istore 10, 2) := by decide +kernel
theorem dX11_when_144 : decode cX11_when 144 = .ok (.iload 14, 2) := by decide +kernel
theorem dX11_when_146 : decode cX11_when 146 = .ok (.istore 11, 2) := by decide +kernel
theorem dX11_when_148 : decode cX11_when 148 = .ok (.iinc 14 1, 3) := by decide +kernel
theorem dX11_when_151 : decode cX11_when 151 = .ok (.goto (-49), 3) := by decide +kernel
theorem dX11_when_154 : decode cX11_when 154 = .ok (.iload 5, 2) := by decide +kernel
theorem dX11_when_156 : decode cX11_when 156 = .ok (.tableswitch 37 0 2 #[28, 31, 34], 28) := by decide +kernel
theorem dX11_when_184 : decode cX11_when 184 = .ok (.iload 9, 2) := by decide +kernel
theorem dX11_when_186 : decode cX11_when 186 = .ok (.ireturn, 1) := by decide +kernel
theorem dX11_when_187 : decode cX11_when 187 = .ok (.iload 10, 2) := by decide +kernel
theorem dX11_when_189 : decode cX11_when 189 = .ok (.ireturn, 1) := by decide +kernel
theorem dX11_when_190 : decode cX11_when 190 = .ok (.iload 11, 2) := by decide +kernel
theorem dX11_when_192 : decode cX11_when 192 = .ok (.ireturn, 1) := by decide +kernel
theorem dX11_when_193 : decode cX11_when 193 = .ok (.iconst (-1), 1) := by decide +kernel
theorem dX11_when_194 : decode cX11_when 194 = .ok (.ireturn, 1) := by decide +kernel
theorem dX11_can_0 : decode cX11_can 0 = .ok (.aload_n 0, 1) := by decide +kernel
theorem dX11_can_1 : decode cX11_can 1 = .ok (.iload_n 1, 1) := by decide +kernel
theorem dX11_can_2 : decode cX11_can 2 = .ok (.invokevirtual 90, 3) := by decide +kernel
theorem dX11_can_5 : decode cX11_can 5 = .ok (.astore 5, 2) := by decide +kernel
theorem dX11_can_7 : decode cX11_can 7 = .ok (.aload 5, 2) := by decide +kernel
theorem dX11_can_9 : decode cX11_can 9 = .ok (.ifnull 20, 3) := by decide +kernel
theorem dX11_can_12 : decode cX11_can 12 = .ok (.iload_n 2, 1) := by decide +kernel
theorem dX11_can_13 : decode cX11_can 13 = .ok (.iload_n 3, 1) := by decide +kernel
theorem dX11_can_14 : decode cX11_can 14 = .ok (.invokestatic 178, 3) := by decide +kernel
theorem dX11_can_17 : decode cX11_can 17 = .ok (.ifCond .eq 12, 3) := by decide +kernel
theorem dX11_can_20 : decode cX11_can 20 = .ok (.aload_n 0, 1) := by decide +kernel
theorem dX11_can_21 : decode cX11_can 21 = .ok (.iload 4, 2) := by decide +kernel
theorem dX11_can_23 : decode cX11_can 23 = .ok (.invokevirtual 162, 3) := by decide +kernel
theorem dX11_can_26 : decode cX11_can 26 = .ok (.ifCond .ne 5, 3) := by decide +kernel
theorem dX11_can_29 : decode cX11_can 29 = .ok (.iconst (-1), 1) := by decide +kernel
theorem dX11_can_30 : decode cX11_can 30 = .ok (.ireturn, 1) := by decide +kernel
theorem dX11_can_31 : decode cX11_can 31 = .ok (.aload 5, 2) := by decide +kernel
theorem dX11_can_33 : decode cX11_can 33 = .ok (.iload_n 2, 1) := by decide +kernel
theorem dX11_can_34 : decode cX11_can 34 = .ok (.iload_n 3, 1) := by decide +kernel
theorem dX11_can_35 : decode cX11_can 35 = .ok (.iload 4, 2) := by decide +kernel
theorem dX11_can_37 : decode cX11_can 37 = .ok (.invokevirtual 182, 3) := by decide +kernel
theorem dX11_can_40 : decode cX11_can 40 = .ok (.ireturn, 1) := by decide +kernel
theorem dX11_cost_0 : decode cX11_cost 0 = .ok (.aload_n 0, 1) := by decide +kernel
theorem dX11_cost_1 : decode cX11_cost 1 = .ok (.iload_n 1, 1) := by decide +kernel
theorem dX11_cost_2 : decode cX11_cost 2 = .ok (.invokevirtual 90, 3) := by decide +kernel
theorem dX11_cost_5 : decode cX11_cost 5 = .ok (.astore 5, 2) := by decide +kernel
theorem dX11_cost_7 : decode cX11_cost 7 = .ok (.aload 5, 2) := by decide +kernel
theorem dX11_cost_9 : decode cX11_cost 9 = .ok (.ifnull 20, 3) := by decide +kernel
theorem dX11_cost_12 : decode cX11_cost 12 = .ok (.iload_n 2, 1) := by decide +kernel
theorem dX11_cost_13 : decode cX11_cost 13 = .ok (.iload_n 3, 1) := by decide +kernel
theorem dX11_cost_14 : decode cX11_cost 14 = .ok (.invokestatic 178, 3) := by decide +kernel
theorem dX11_cost_17 : decode cX11_cost 17 = .ok (.ifCond .eq 12, 3) := by decide +kernel
theorem dX11_cost_20 : decode cX11_cost 20 = .ok (.aload_n 0, 1) := by decide +kernel
theorem dX11_cost_21 : decode cX11_cost 21 = .ok (.iload 4, 2) := by decide +kernel
theorem dX11_cost_23 : decode cX11_cost 23 = .ok (.invokevirtual 162, 3) := by decide +kernel
theorem dX11_cost_26 : decode cX11_cost 26 = .ok (.ifCond .ne 5, 3) := by decide +kernel
theorem dX11_cost_29 : decode cX11_cost 29 = .ok (.iconst (-1), 1) := by decide +kernel
theorem dX11_cost_30 : decode cX11_cost 30 = .ok (.ireturn, 1) := by decide +kernel
theorem dX11_cost_31 : decode cX11_cost 31 = .ok (.aload 5, 2) := by decide +kernel
theorem dX11_cost_33 : decode cX11_cost 33 = .ok (.iload_n 2, 1) := by decide +kernel
theorem dX11_cost_34 : decode cX11_cost 34 = .ok (.iload_n 3, 1) := by decide +kernel
theorem dX11_cost_35 : decode cX11_cost 35 = .ok (.iload 4, 2) := by decide +kernel
theorem dX11_cost_37 : decode cX11_cost 37 = .ok (.invokevirtual 186, 3) := by decide +kernel
theorem dX11_cost_40 : decode cX11_cost 40 = .ok (.ireturn, 1) := by decide +kernel
theorem dX11_span_0 : decode cX11_span 0 = .ok (.aload_n 0, 1) := by decide +kernel
theorem dX11_span_1 : decode cX11_span 1 = .ok (.iload_n 1, 1) := by decide +kernel
theorem dX11_span_2 : decode cX11_span 2 = .ok (.invokevirtual 90, 3) := by decide +kernel
theorem dX11_span_5 : decode cX11_span 5 = .ok (.astore 4, 2) := by decide +kernel
theorem dX11_span_7 : decode cX11_span 7 = .ok (.aload 4, 2) := by decide +kernel
theorem dX11_span_9 : decode cX11_span 9 = .ok (.ifnull 18, 3) := by decide +kernel
theorem dX11_span_12 : decode cX11_span 12 = .ok (.iload_n 2, 1) := by decide +kernel
theorem dX11_span_13 : decode cX11_span 13 = .ok (.invokestatic 138, 3) := by decide +kernel
theorem dX11_span_16 : decode cX11_span 16 = .ok (.ifCond .eq 11, 3) := by decide +kernel
theorem dX11_span_19 : decode cX11_span 19 = .ok (.aload_n 0, 1) := by decide +kernel
theorem dX11_span_20 : decode cX11_span 20 = .ok (.iload_n 3, 1) := by decide +kernel
theorem dX11_span_21 : decode cX11_span 21 = .ok (.invokevirtual 162, 3) := by decide +kernel
theorem dX11_span_24 : decode cX11_span 24 = .ok (.ifCond .ne 5, 3) := by decide +kernel
theorem dX11_span_27 : decode cX11_span 27 = .ok (.iconst (-1), 1) := by decide +kernel
theorem dX11_span_28 : decode cX11_span 28 = .ok (.ireturn, 1) := by decide +kernel
theorem dX11_span_29 : decode cX11_span 29 = .ok (.aload 4, 2) := by decide +kernel
theorem dX11_span_31 : decode cX11_span 31 = .ok (.iload_n 2, 1) := by decide +kernel
theorem dX11_span_32 : decode cX11_span 32 = .ok (.iload_n 3, 1) := by decide +kernel
theorem dX11_span_33 : decode cX11_span 33 = .ok (.invokevirtual 189, 3) := by decide +kernel
theorem dX11_span_36 : decode cX11_span 36 = .ok (.astore 5, 2) := by decide +kernel
theorem dX11_span_38 : decode cX11_span 38 = .ok (.aload 5, 2) := by decide +kernel
theorem dX11_span_40 : decode cX11_span 40 = .ok (.ifnonnull 5, 3) := by decide +kernel
theorem dX11_span_43 : decode cX11_span 43 = .ok (.iconst (-1), 1) := by decide +kernel
theorem dX11_span_44 : decode cX11_span 44 = .ok (.ireturn, 1) := by decide +kernel
theorem dX11_span_45 : decode cX11_span 45 = .ok (.aload 5, 2) := by decide +kernel
theorem dX11_span_47 : decode cX11_span 47 = .ok (.getfield 193, 3) := by decide +kernel
theorem dX11_span_50 : decode cX11_span 50 = .ok (.ifCond .eq 8, 3) := by decide +kernel
theorem dX11_span_53 : decode cX11_span 53 = .ok (.bipush (-2), 2) := by decide +kernel
theorem dX11_span_55 : decode cX11_span 55 = .ok (.goto 8, 3) := by decide +kernel
theorem dX11_span_58 : decode cX11_span 58 = .ok (.aload 5, 2) := by decide +kernel
theorem dX11_span_60 : decode cX11_span 60 = .ok (.getfield 197, 3) := by decide +kernel
theorem dX11_span_63 : decode cX11_span 63 = .ok (.ireturn, 1) := by decide +kernel
theorem dX11_fits_0 : decode cX11_fits 0 = .ok (.aload_n 0, 1) := by decide +kernel
theorem dX11_fits_1 : decode cX11_fits 1 = .ok (.iload_n 1, 1) := by decide +kernel
theorem dX11_fits_2 : decode cX11_fits 2 = .ok (.invokevirtual 110, 3) := by decide +kernel
theorem dX11_fits_5 : decode cX11_fits 5 = .ok (.astore 6, 2) := by decide +kernel
theorem dX11_fits_7 : decode cX11_fits 7 = .ok (.aload 6, 2) := by decide +kernel
theorem dX11_fits_9 : decode cX11_fits 9 = .ok (.ifnull 19, 3) := by decide +kernel
theorem dX11_fits_12 : decode cX11_fits 12 = .ok (.iload_n 2, 1) := by decide +kernel
theorem dX11_fits_13 : decode cX11_fits 13 = .ok (.invokestatic 156, 3) := by decide +kernel
theorem dX11_fits_16 : decode cX11_fits 16 = .ok (.ifCond .eq 12, 3) := by decide +kernel
theorem dX11_fits_19 : decode cX11_fits 19 = .ok (.aload_n 0, 1) := by decide +kernel
theorem dX11_fits_20 : decode cX11_fits 20 = .ok (.iload 5, 2) := by decide +kernel
theorem dX11_fits_22 : decode cX11_fits 22 = .ok (.invokevirtual 162, 3) := by decide +kernel
theorem dX11_fits_25 : decode cX11_fits 25 = .ok (.ifCond .ne 5, 3) := by decide +kernel
theorem dX11_fits_28 : decode cX11_fits 28 = .ok (.iconst (-1), 1) := by decide +kernel
theorem dX11_fits_29 : decode cX11_fits 29 = .ok (.ireturn, 1) := by decide +kernel
theorem dX11_fits_30 : decode cX11_fits 30 = .ok (.aload 6, 2) := by decide +kernel
theorem dX11_fits_32 : decode cX11_fits 32 = .ok (.iload_n 3, 1) := by decide +kernel
theorem dX11_fits_33 : decode cX11_fits 33 = .ok (.iload 4, 2) := by decide +kernel
theorem dX11_fits_35 : decode cX11_fits 35 = .ok (.invokevirtual 200, 3) := by decide +kernel
theorem dX11_fits_38 : decode cX11_fits 38 = .ok (.istore 7, 2) := by decide +kernel
theorem dX11_fits_40 : decode cX11_fits 40 = .ok (.iload 7, 2) := by decide +kernel
theorem dX11_fits_42 : decode cX11_fits 42 = .ok (.iconst (-1), 1) := by decide +kernel
theorem dX11_fits_43 : decode cX11_fits 43 = .ok (.if_icmp .ne 5, 3) := by decide +kernel
theorem dX11_fits_46 : decode cX11_fits 46 = .ok (.iconst (-1), 1) := by decide +kernel
theorem dX11_fits_47 : decode cX11_fits 47 = .ok (.ireturn, 1) := by decide +kernel
theorem dX11_fits_48 : decode cX11_fits 48 = .ok (.aload_n 0, 1) := by decide +kernel
theorem dX11_fits_49 : decode cX11_fits 49 = .ok (.aload 6, 2) := by decide +kernel
theorem dX11_fits_51 : decode cX11_fits 51 = .ok (.iload_n 2, 1) := by decide +kernel
theorem dX11_fits_52 : decode cX11_fits 52 = .ok (.iload 5, 2) := by decide +kernel
theorem dX11_fits_54 : decode cX11_fits 54 = .ok (.invokevirtual 203, 3) := by decide +kernel
theorem dX11_fits_57 : decode cX11_fits 57 = .ok (.aload_n 0, 1) := by decide +kernel
theorem dX11_fits_58 : decode cX11_fits 58 = .ok (.getfield 29, 3) := by decide +kernel
theorem dX11_fits_61 : decode cX11_fits 61 = .ok (.aload 6, 2) := by decide +kernel
theorem dX11_fits_63 : decode cX11_fits 63 = .ok (.getfield 207, 3) := by decide +kernel
theorem dX11_fits_66 : decode cX11_fits 66 = .ok (.aaload, 1) := by decide +kernel
theorem dX11_fits_67 : decode cX11_fits 67 = .ok (.astore 8, 2) := by decide +kernel
theorem dX11_fits_69 : decode cX11_fits 69 = .ok (.aload 8, 2) := by decide +kernel
theorem dX11_fits_71 : decode cX11_fits 71 = .ok (.aload 6, 2) := by decide +kernel
theorem dX11_fits_73 : decode cX11_fits 73 = .ok (.aload 6, 2) := by decide +kernel
theorem dX11_fits_75 : decode cX11_fits 75 = .ok (.iload 7, 2) := by decide +kernel
theorem dX11_fits_77 : decode cX11_fits 77 = .ok (.invokevirtual 208, 3) := by decide +kernel
theorem dX11_fits_80 : decode cX11_fits 80 = .ok (.iload_n 2, 1) := by decide +kernel
theorem dX11_fits_81 : decode cX11_fits 81 = .ok (.iload 5, 2) := by decide +kernel
theorem dX11_fits_83 : decode cX11_fits 83 = .ok (.aload 6, 2) := by decide +kernel
theorem dX11_fits_85 : decode cX11_fits 85 = .ok (.invokevirtual 212, 3) := by decide +kernel
theorem dX11_fits_88 : decode cX11_fits 88 = .ok (.aload_n 0, 1) := by decide +kernel
theorem dX11_fits_89 : decode cX11_fits 89 = .ok (.getfield 17, 3) := by decide +kernel
theorem dX11_fits_92 : decode cX11_fits 92 = .ok (.invokevirtual 215, 3) := by decide +kernel
theorem dX11_fits_95 : decode cX11_fits 95 = .ok (.aload_n 0, 1) := by decide +kernel
theorem dX11_fits_96 : decode cX11_fits 96 = .ok (.getfield 44, 3) := by decide +kernel
theorem dX11_fits_99 : decode cX11_fits 99 = .ok (.aload 6, 2) := by decide +kernel
theorem dX11_fits_101 : decode cX11_fits 101 = .ok (.aload 8, 2) := by decide +kernel
theorem dX11_fits_103 : decode cX11_fits 103 = .ok (.aload_n 0, 1) := by decide +kernel
theorem dX11_fits_104 : decode cX11_fits 104 = .ok (.getfield 37, 3) := by decide +kernel
theorem dX11_fits_107 : decode cX11_fits 107 = .ok (.iload 7, 2) := by decide +kernel
theorem dX11_fits_109 : decode cX11_fits 109 = .ok (.invokevirtual 219, 3) := by decide +kernel
theorem dX11_fits_112 : decode cX11_fits 112 = .ok (.ifCond .eq 7, 3) := by decide +kernel
theorem dX11_fits_115 : decode cX11_fits 115 = .ok (.iconst 1, 1) := by decide +kernel
theorem dX11_fits_116 : decode cX11_fits 116 = .ok (.goto 4, 3) := by decide +kernel
theorem dX11_fits_119 : decode cX11_fits 119 = .ok (.iconst 0, 1) := by decide +kernel
theorem dX11_fits_120 : decode cX11_fits 120 = .ok (.ireturn, 1) := by decide +kernel
theorem dX11_plan_0 : decode cX11_plan 0 = .ok (.aload_n 0, 1) := by decide +kernel
theorem dX11_plan_1 : decode cX11_plan 1 = .ok (.iload_n 1, 1) := by decide +kernel
theorem dX11_plan_2 : decode cX11_plan 2 = .ok (.invokevirtual 110, 3) := by decide +kernel
theorem dX11_plan_5 : decode cX11_plan 5 = .ok (.astore 5, 2) := by decide +kernel
theorem dX11_plan_7 : decode cX11_plan 7 = .ok (.iload_n 2, 1) := by decide +kernel
theorem dX11_plan_8 : decode cX11_plan 8 = .ok (.ifCond .lt 18, 3) := by decide +kernel
theorem dX11_plan_11 : decode cX11_plan 11 = .ok (.iload_n 2, 1) := by decide +kernel
theorem dX11_plan_12 : decode cX11_plan 12 = .ok (.iload_n 3, 1) := by decide +kernel
theorem dX11_plan_13 : decode cX11_plan 13 = .ok (.if_icmp .ge 13, 3) := by decide +kernel
theorem dX11_plan_16 : decode cX11_plan 16 = .ok (.iload_n 3, 1) := by decide +kernel
theorem dX11_plan_17 : decode cX11_plan 17 = .ok (.bipush 52, 2) := by decide +kernel
theorem dX11_plan_19 : decode cX11_plan 19 = .ok (.if_icmp .gt 7, 3) := by decide +kernel
theorem dX11_plan_22 : decode cX11_plan 22 = .ok (.iconst 1, 1) := by decide +kernel
theorem dX11_plan_23 : decode cX11_plan 23 = .ok (.goto 4, 3) := by decide +kernel
theorem dX11_plan_26 : decode cX11_plan 26 = .ok (.iconst 0, 1) := by decide +kernel
theorem dX11_plan_27 : decode cX11_plan 27 = .ok (.istore 6, 2) := by decide +kernel
theorem dX11_plan_29 : decode cX11_plan 29 = .ok (.aload 5, 2) := by decide +kernel
theorem dX11_plan_31 : decode cX11_plan 31 = .ok (.ifnull 28, 3) := by decide +kernel
theorem dX11_plan_34 : decode cX11_plan 34 = .ok (.aload_n 0, 1) := by decide +kernel
theorem dX11_plan_35 : decode cX11_plan 35 = .ok (.iload 4, 2) := by decide +kernel
theorem dX11_plan_37 : decode cX11_plan 37 = .ok (.invokevirtual 162, 3) := by decide +kernel
theorem dX11_plan_40 : decode cX11_plan 40 = .ok (.ifCond .eq 19, 3) := by decide +kernel
theorem dX11_plan_43 : decode cX11_plan 43 = .ok (.iload 6, 2) := by decide +kernel
theorem dX11_plan_45 : decode cX11_plan 45 = .ok (.ifCond .eq 14, 3) := by decide +kernel
theorem dX11_plan_48 : decode cX11_plan 48 = .ok (.iload_n 3, 1) := by decide +kernel
theorem dX11_plan_49 : decode cX11_plan 49 = .ok (.iload_n 2, 1) := by decide +kernel
theorem dX11_plan_50 : decode cX11_plan 50 = .ok (.isub, 1) := by decide +kernel
theorem dX11_plan_51 : decode cX11_plan 51 = .ok (.aload 5, 2) := by decide +kernel
theorem dX11_plan_53 : decode cX11_plan 53 = .ok (.invokevirtual 223, 3) := by decide +kernel
theorem dX11_plan_56 : decode cX11_plan 56 = .ok (.if_icmp .le 6, 3) := by decide +kernel
theorem dX11_plan_59 : decode cX11_plan 59 = .ok (.bipush (-2), 2) := by decide +kernel
theorem dX11_plan_61 : decode cX11_plan 61 = .ok (.ireturn, 1) := by decide +kernel
theorem dX11_plan_62 : decode cX11_plan 62 = .ok (.aload_n 0, 1) := by decide +kernel
theorem dX11_plan_63 : decode cX11_plan 63 = .ok (.iconst 0, 1) := by decide +kernel
theorem dX11_plan_64 : decode cX11_plan 64 = .ok (.putfield 226, 3) := by decide +kernel
theorem dX11_plan_67 : decode cX11_plan 67 = .ok (.aload_n 0, 1) := by decide +kernel
theorem dX11_plan_68 : decode cX11_plan 68 = .ok (.getfield 29, 3) := by decide +kernel
theorem dX11_plan_71 : decode cX11_plan 71 = .ok (.aload 5, 2) := by decide +kernel
theorem dX11_plan_73 : decode cX11_plan 73 = .ok (.getfield 207, 3) := by decide +kernel
theorem dX11_plan_76 : decode cX11_plan 76 = .ok (.aaload, 1) := by decide +kernel
theorem dX11_plan_77 : decode cX11_plan 77 = .ok (.astore 7, 2) := by decide +kernel
theorem dX11_plan_79 : decode cX11_plan 79 = .ok (.aload_n 0, 1) := by decide +kernel
theorem dX11_plan_80 : decode cX11_plan 80 = .ok (.getfield 51, 3) := by decide +kernel
theorem dX11_plan_83 : decode cX11_plan 83 = .ok (.iload_n 3, 1) := by decide +kernel
theorem dX11_plan_84 : decode cX11_plan 84 = .ok (.iload_n 2, 1) := by decide +kernel
theorem dX11_plan_85 : decode cX11_plan 85 = .ok (.isub, 1) := by decide +kernel
theorem dX11_plan_86 : decode cX11_plan 86 = .ok (.aload_n 0, 1) := by decide +kernel
theorem dX11_plan_87 : decode cX11_plan 87 = .ok (.getfield 84, 3) := by decide +kernel
theorem dX11_plan_90 : decode cX11_plan 90 = .ok (.invokevirtual 229, 3) := by decide +kernel
theorem dX11_plan_93 : decode cX11_plan 93 = .ok (.iconst 0, 1) := by decide +kernel
theorem dX11_plan_94 : decode cX11_plan 94 = .ok (.istore 8, 2) := by decide +kernel
theorem dX11_plan_96 : decode cX11_plan 96 = .ok (.iload 8, 2) := by decide +kernel
theorem dX11_plan_98 : decode cX11_plan 98 = .ok (.iload_n 3, 1) := by decide +kernel
theorem dX11_plan_99 : decode cX11_plan 99 = .ok (.iload_n 2, 1) := by decide +kernel
theorem dX11_plan_100 : decode cX11_plan 100 = .ok (.isub, 1) := by decide +kernel
theorem dX11_plan_101 : decode cX11_plan 101 = .ok (.if_icmp .ge 89, 3) := by decide +kernel
theorem dX11_plan_104 : decode cX11_plan 104 = .ok (.aload_n 0, 1) := by decide +kernel
theorem dX11_plan_105 : decode cX11_plan 105 = .ok (.aload 5, 2) := by decide +kernel
theorem dX11_plan_107 : decode cX11_plan 107 = .ok (.iload_n 2, 1) := by decide +kernel
theorem dX11_plan_108 : decode cX11_plan 108 = .ok (.iload 8, 2) := by decide +kernel
theorem dX11_plan_110 : decode cX11_plan 110 = .ok (.iadd, 1) := by decide +kernel
theorem dX11_plan_111 : decode cX11_plan 111 = .ok (.iload 4, 2) := by decide +kernel
theorem dX11_plan_113 : decode cX11_plan 113 = .ok (.invokevirtual 203, 3) := by decide +kernel
theorem dX11_plan_116 : decode cX11_plan 116 = .ok (.aload 7, 2) := by decide +kernel
theorem dX11_plan_118 : decode cX11_plan 118 = .ok (.aload 5, 2) := by decide +kernel
theorem dX11_plan_120 : decode cX11_plan 120 = .ok (.aload 5, 2) := by decide +kernel
theorem dX11_plan_122 : decode cX11_plan 122 = .ok (.invokevirtual 232, 3) := by decide +kernel
theorem dX11_plan_125 : decode cX11_plan 125 = .ok (.iload_n 2, 1) := by decide +kernel
theorem dX11_plan_126 : decode cX11_plan 126 = .ok (.iload 8, 2) := by decide +kernel
theorem dX11_plan_128 : decode cX11_plan 128 = .ok (.iadd, 1) := by decide +kernel
theorem dX11_plan_129 : decode cX11_plan 129 = .ok (.iload 4, 2) := by decide +kernel
theorem dX11_plan_131 : decode cX11_plan 131 = .ok (.aload 5, 2) := by decide +kernel
theorem dX11_plan_133 : decode cX11_plan 133 = .ok (.invokevirtual 212, 3) := by decide +kernel
theorem dX11_plan_136 : decode cX11_plan 136 = .ok (.aload_n 0, 1) := by decide +kernel
theorem dX11_plan_137 : decode cX11_plan 137 = .ok (.getfield 17, 3) := by decide +kernel
theorem dX11_plan_140 : decode cX11_plan 140 = .ok (.invokevirtual 215, 3) := by decide +kernel
theorem dX11_plan_143 : decode cX11_plan 143 = .ok (.aload_n 0, 1) := by decide +kernel
theorem dX11_plan_144 : decode cX11_plan 144 = .ok (.getfield 51, 3) := by decide +kernel
theorem dX11_plan_147 : decode cX11_plan 147 = .ok (.iload 8, 2) := by decide +kernel
theorem dX11_plan_149 : decode cX11_plan 149 = .ok (.aload 5, 2) := by decide +kernel
theorem dX11_plan_151 : decode cX11_plan 151 = .ok (.aload 7, 2) := by decide +kernel
theorem dX11_plan_153 : decode cX11_plan 153 = .ok (.aload_n 0, 1) := by decide +kernel
theorem dX11_plan_154 : decode cX11_plan 154 = .ok (.getfield 37, 3) := by decide +kernel
theorem dX11_plan_157 : decode cX11_plan 157 = .ok (.invokevirtual 235, 3) := by decide +kernel
theorem dX11_plan_160 : decode cX11_plan 160 = .ok (.ifCond .ne 24, 3) := by decide +kernel
theorem dX11_plan_163 : decode cX11_plan 163 = .ok (.aload_n 0, 1) := by decide +kernel
theorem dX11_plan_164 : decode cX11_plan 164 = .ok (.aload_n 0, 1) := by decide +kernel
theorem dX11_plan_165 : decode cX11_plan 165 = .ok (.getfield 65, 3) := by decide +kernel
theorem dX11_plan_168 : decode cX11_plan 168 = .ok (.aload 5, 2) := by decide +kernel
theorem dX11_plan_170 : decode cX11_plan 170 = .ok (.aload 7, 2) := by decide +kernel
theorem dX11_plan_172 : decode cX11_plan 172 = .ok (.aload_n 0, 1) := by decide +kernel
theorem dX11_plan_173 : decode cX11_plan 173 = .ok (.getfield 37, 3) := by decide +kernel
theorem dX11_plan_176 : decode cX11_plan 176 = .ok (.invokevirtual 239, 3) := by decide +kernel
theorem dX11_plan_179 : decode cX11_plan 179 = .ok (.putfield 226, 3) := by decide +kernel
theorem dX11_plan_182 : decode cX11_plan 182 = .ok (.iconst (-1), 1) := by decide +kernel
theorem dX11_plan_183 : decode cX11_plan 183 = .ok (.ireturn, 1) := by decide +kernel
theorem dX11_plan_184 : decode cX11_plan 184 = .ok (.iinc 8 1, 3) := by decide +kernel
theorem dX11_plan_187 : decode cX11_plan 187 = .ok (.goto (-91), 3) := by decide +kernel
theorem dX11_plan_190 : decode cX11_plan 190 = .ok (.aload_n 0, 1) := by decide +kernel
theorem dX11_plan_191 : decode cX11_plan 191 = .ok (.getfield 51, 3) := by decide +kernel
theorem dX11_plan_194 : decode cX11_plan 194 = .ok (.invokevirtual 243, 3) := by decide +kernel
theorem dX11_plan_197 : decode cX11_plan 197 = .ok (.iconst 0, 1) := by decide +kernel
theorem dX11_plan_198 : decode cX11_plan 198 = .ok (.istore 8, 2) := by decide +kernel
theorem dX11_plan_200 : decode cX11_plan 200 = .ok (.iload 8, 2) := by decide +kernel
theorem dX11_plan_202 : decode cX11_plan 202 = .ok (.iload_n 3, 1) := by decide +kernel
theorem dX11_plan_203 : decode cX11_plan 203 = .ok (.iload_n 2, 1) := by decide +kernel
theorem dX11_plan_204 : decode cX11_plan 204 = .ok (.isub, 1) := by decide +kernel
theorem dX11_plan_205 : decode cX11_plan 205 = .ok (.if_icmp .ge 29, 3) := by decide +kernel
theorem dX11_plan_208 : decode cX11_plan 208 = .ok (.aload 5, 2) := by decide +kernel
theorem dX11_plan_210 : decode cX11_plan 210 = .ok (.getfield 246, 3) := by decide +kernel
theorem dX11_plan_213 : decode cX11_plan 213 = .ok (.iload_n 2, 1) := by decide +kernel
theorem dX11_plan_214 : decode cX11_plan 214 = .ok (.iload 8, 2) := by decide +kernel
theorem dX11_plan_216 : decode cX11_plan 216 = .ok (.iadd, 1) := by decide +kernel
theorem dX11_plan_217 : decode cX11_plan 217 = .ok (.aload_n 0, 1) := by decide +kernel
theorem dX11_plan_218 : decode cX11_plan 218 = .ok (.getfield 51, 3) := by decide +kernel
theorem dX11_plan_221 : decode cX11_plan 221 = .ok (.getfield 249, 3) := by decide +kernel
theorem dX11_plan_224 : decode cX11_plan 224 = .ok (.iload 8, 2) := by decide +kernel
theorem dX11_plan_226 : decode cX11_plan 226 = .ok (.iaload, 1) := by decide +kernel
theorem dX11_plan_227 : decode cX11_plan 227 = .ok (.iastore, 1) := by decide +kernel
theorem dX11_plan_228 : decode cX11_plan 228 = .ok (.iinc 8 1, 3) := by decide +kernel
theorem dX11_plan_231 : decode cX11_plan 231 = .ok (.goto (-31), 3) := by decide +kernel
theorem dX11_plan_234 : decode cX11_plan 234 = .ok (.aload_n 0, 1) := by decide +kernel
theorem dX11_plan_235 : decode cX11_plan 235 = .ok (.getfield 51, 3) := by decide +kernel
theorem dX11_plan_238 : decode cX11_plan 238 = .ok (.getfield 252, 3) := by decide +kernel
theorem dX11_plan_241 : decode cX11_plan 241 = .ok (.invokevirtual 256, 3) := by decide +kernel
theorem dX11_plan_244 : decode cX11_plan 244 = .ok (.ireturn, 1) := by decide +kernel
theorem dX11_stuck_0 : decode cX11_stuck 0 = .ok (.iload_n 1, 1) := by decide +kernel
theorem dX11_stuck_1 : decode cX11_stuck 1 = .ok (.istore_n 2, 1) := by decide +kernel
theorem dX11_stuck_2 : decode cX11_stuck 2 = .ok (.iconst 0, 1) := by decide +kernel
theorem dX11_stuck_3 : decode cX11_stuck 3 = .ok (.istore_n 3, 1) := by decide +kernel
theorem dX11_stuck_4 : decode cX11_stuck 4 = .ok (.iload_n 3, 1) := by decide +kernel
theorem dX11_stuck_5 : decode cX11_stuck 5 = .ok (.bipush 12, 2) := by decide +kernel
theorem dX11_stuck_7 : decode cX11_stuck 7 = .ok (.if_icmp .ge 29, 3) := by decide +kernel
theorem dX11_stuck_10 : decode cX11_stuck 10 = .ok (.aload_n 0, 1) := by decide +kernel
theorem dX11_stuck_11 : decode cX11_stuck 11 = .ok (.getfield 226, 3) := by decide +kernel
theorem dX11_stuck_14 : decode cX11_stuck 14 = .ok (.iload_n 3, 1) := by decide +kernel
theorem dX11_stuck_15 : decode cX11_stuck 15 = .ok (.invokestatic 261, 3) := by decide +kernel
theorem dX11_stuck_18 : decode cX11_stuck 18 = .ok (.ifCond .eq 12, 3) := by decide +kernel
theorem dX11_stuck_21 : decode cX11_stuck 21 = .ok (.iload_n 2, 1) := by decide +kernel
theorem dX11_stuck_22 : decode cX11_stuck 22 = .ok (.ifCond .ne 5, 3) := by decide +kernel
theorem dX11_stuck_25 : decode cX11_stuck 25 = .ok (.iload_n 3, 1) := by decide +kernel
theorem dX11_stuck_26 : decode cX11_stuck 26 = .ok (.ireturn, 1) := by decide +kernel
theorem dX11_stuck_27 : decode cX11_stuck 27 = .ok (.iinc 2 (-1), 3) := by decide +kernel
theorem dX11_stuck_30 : decode cX11_stuck 30 = .ok (.iinc 3 1, 3) := by decide +kernel
theorem dX11_stuck_33 : decode cX11_stuck 33 = .ok (.goto (-29), 3) := by decide +kernel
theorem dX11_stuck_36 : decode cX11_stuck 36 = .ok (.iconst (-1), 1) := by decide +kernel
theorem dX11_stuck_37 : decode cX11_stuck 37 = .ok (.ireturn, 1) := by decide +kernel
theorem dX11_move_0 : decode cX11_move 0 = .ok (.iload_n 1, 1) := by decide +kernel
theorem dX11_move_1 : decode cX11_move 1 = .ok (.invokestatic 156, 3) := by decide +kernel
theorem dX11_move_4 : decode cX11_move 4 = .ok (.ifCond .eq 11, 3) := by decide +kernel
theorem dX11_move_7 : decode cX11_move 7 = .ok (.aload_n 0, 1) := by decide +kernel
theorem dX11_move_8 : decode cX11_move 8 = .ok (.iload_n 2, 1) := by decide +kernel
theorem dX11_move_9 : decode cX11_move 9 = .ok (.invokevirtual 162, 3) := by decide +kernel
theorem dX11_move_12 : decode cX11_move 12 = .ok (.ifCond .ne 6, 3) := by decide +kernel
theorem dX11_move_15 : decode cX11_move 15 = .ok (.bipush (-2), 2) := by decide +kernel
theorem dX11_move_17 : decode cX11_move 17 = .ok (.ireturn, 1) := by decide +kernel
theorem dX11_move_18 : decode cX11_move 18 = .ok (.aload_n 0, 1) := by decide +kernel
theorem dX11_move_19 : decode cX11_move 19 = .ok (.getfield 58, 3) := by decide +kernel
theorem dX11_move_22 : decode cX11_move 22 = .ok (.aload_n 0, 1) := by decide +kernel
theorem dX11_move_23 : decode cX11_move 23 = .ok (.getfield 84, 3) := by decide +kernel
theorem dX11_move_26 : decode cX11_move 26 = .ok (.invokevirtual 264, 3) := by decide +kernel
theorem dX11_move_29 : decode cX11_move 29 = .ok (.iconst 0, 1) := by decide +kernel
theorem dX11_move_30 : decode cX11_move 30 = .ok (.istore_n 3, 1) := by decide +kernel
theorem dX11_move_31 : decode cX11_move 31 = .ok (.iload_n 3, 1) := by decide +kernel
theorem dX11_move_32 : decode cX11_move 32 = .ok (.aload_n 0, 1) := by decide +kernel
theorem dX11_move_33 : decode cX11_move 33 = .ok (.getfield 114, 3) := by decide +kernel
theorem dX11_move_36 : decode cX11_move 36 = .ok (.if_icmp .ge 77, 3) := by decide +kernel
theorem dX11_move_39 : decode cX11_move 39 = .ok (.aload_n 0, 1) := by decide +kernel
theorem dX11_move_40 : decode cX11_move 40 = .ok (.getfield 23, 3) := by decide +kernel
theorem dX11_move_43 : decode cX11_move 43 = .ok (.iload_n 3, 1) := by decide +kernel
theorem dX11_move_44 : decode cX11_move 44 = .ok (.aaload, 1) := by decide +kernel
theorem dX11_move_45 : decode cX11_move 45 = .ok (.astore 4, 2) := by decide +kernel
theorem dX11_move_47 : decode cX11_move 47 = .ok (.aload 4, 2) := by decide +kernel
theorem dX11_move_49 : decode cX11_move 49 = .ok (.getfield 246, 3) := by decide +kernel
theorem dX11_move_52 : decode cX11_move 52 = .ok (.iload_n 1, 1) := by decide +kernel
theorem dX11_move_53 : decode cX11_move 53 = .ok (.iaload, 1) := by decide +kernel
theorem dX11_move_54 : decode cX11_move 54 = .ok (.iconst (-1), 1) := by decide +kernel
theorem dX11_move_55 : decode cX11_move 55 = .ok (.if_icmp .eq 52, 3) := by decide +kernel
theorem dX11_move_58 : decode cX11_move 58 = .ok (.aload_n 0, 1) := by decide +kernel
theorem dX11_move_59 : decode cX11_move 59 = .ok (.getfield 29, 3) := by decide +kernel
theorem dX11_move_62 : decode cX11_move 62 = .ok (.iload_n 3, 1) := by decide +kernel
theorem dX11_move_63 : decode cX11_move 63 = .ok (.aaload, 1) := by decide +kernel
theorem dX11_move_64 : decode cX11_move 64 = .ok (.aload 4, 2) := by decide +kernel
theorem dX11_move_66 : decode cX11_move 66 = .ok (.aload 4, 2) := by decide +kernel
theorem dX11_move_68 : decode cX11_move 68 = .ok (.invokevirtual 232, 3) := by decide +kernel
theorem dX11_move_71 : decode cX11_move 71 = .ok (.iload_n 1, 1) := by decide +kernel
theorem dX11_move_72 : decode cX11_move 72 = .ok (.iload_n 2, 1) := by decide +kernel
theorem dX11_move_73 : decode cX11_move 73 = .ok (.aload 4, 2) := by decide +kernel
theorem dX11_move_75 : decode cX11_move 75 = .ok (.invokevirtual 212, 3) := by decide +kernel
theorem dX11_move_78 : decode cX11_move 78 = .ok (.aload_n 0, 1) := by decide +kernel
theorem dX11_move_79 : decode cX11_move 79 = .ok (.getfield 17, 3) := by decide +kernel
theorem dX11_move_82 : decode cX11_move 82 = .ok (.invokevirtual 215, 3) := by decide +kernel
theorem dX11_move_85 : decode cX11_move 85 = .ok (.aload_n 0, 1) := by decide +kernel
theorem dX11_move_86 : decode cX11_move 86 = .ok (.getfield 58, 3) := by decide +kernel
theorem dX11_move_89 : decode cX11_move 89 = .ok (.aload 4, 2) := by decide +kernel
theorem dX11_move_91 : decode cX11_move 91 = .ok (.aload_n 0, 1) := by decide +kernel
theorem dX11_move_92 : decode cX11_move 92 = .ok (.getfield 29, 3) := by decide +kernel
theorem dX11_move_95 : decode cX11_move 95 = .ok (.iload_n 3, 1) := by decide +kernel
theorem dX11_move_96 : decode cX11_move 96 = .ok (.aaload, 1) := by decide +kernel
theorem dX11_move_97 : decode cX11_move 97 = .ok (.aload 4, 2) := by decide +kernel
theorem dX11_move_99 : decode cX11_move 99 = .ok (.getfield 246, 3) := by decide +kernel
theorem dX11_move_102 : decode cX11_move 102 = .ok (.iload_n 1, 1) := by decide +kernel
theorem dX11_move_103 : decode cX11_move 103 = .ok (.iaload, 1) := by decide +kernel
theorem dX11_move_104 : decode cX11_move 104 = .ok (.invokevirtual 266, 3) := by decide +kernel
theorem dX11_move_107 : decode cX11_move 107 = .ok (.iinc 3 1, 3) := by decide +kernel
theorem dX11_move_110 : decode cX11_move 110 = .ok (.goto (-79), 3) := by decide +kernel
theorem dX11_move_113 : decode cX11_move 113 = .ok (.aload_n 0, 1) := by decide +kernel
theorem dX11_move_114 : decode cX11_move 114 = .ok (.getfield 58, 3) := by decide +kernel
theorem dX11_move_117 : decode cX11_move 117 = .ok (.invokevirtual 270, 3) := by decide +kernel
theorem dX11_move_120 : decode cX11_move 120 = .ok (.istore_n 3, 1) := by decide +kernel
theorem dX11_move_121 : decode cX11_move 121 = .ok (.iload_n 3, 1) := by decide +kernel
theorem dX11_move_122 : decode cX11_move 122 = .ok (.iconst (-1), 1) := by decide +kernel
theorem dX11_move_123 : decode cX11_move 123 = .ok (.if_icmp .eq 11, 3) := by decide +kernel
theorem dX11_move_126 : decode cX11_move 126 = .ok (.aload_n 0, 1) := by decide +kernel
theorem dX11_move_127 : decode cX11_move 127 = .ok (.getfield 58, 3) := by decide +kernel
theorem dX11_move_130 : decode cX11_move 130 = .ok (.iload_n 1, 1) := by decide +kernel
theorem dX11_move_131 : decode cX11_move 131 = .ok (.invokevirtual 272, 3) := by decide +kernel
theorem dX11_move_134 : decode cX11_move 134 = .ok (.iload_n 3, 1) := by decide +kernel
theorem dX11_move_135 : decode cX11_move 135 = .ok (.ireturn, 1) := by decide +kernel
theorem dX11_planned_0 : decode cX11_planned 0 = .ok (.aload_n 0, 1) := by decide +kernel
theorem dX11_planned_1 : decode cX11_planned 1 = .ok (.iload_n 1, 1) := by decide +kernel
theorem dX11_planned_2 : decode cX11_planned 2 = .ok (.invokevirtual 110, 3) := by decide +kernel
theorem dX11_planned_5 : decode cX11_planned 5 = .ok (.astore 4, 2) := by decide +kernel
theorem dX11_planned_7 : decode cX11_planned 7 = .ok (.aload 4, 2) := by decide +kernel
theorem dX11_planned_9 : decode cX11_planned 9 = .ok (.ifnull 21, 3) := by decide +kernel
theorem dX11_planned_12 : decode cX11_planned 12 = .ok (.iload_n 2, 1) := by decide +kernel
theorem dX11_planned_13 : decode cX11_planned 13 = .ok (.invokestatic 156, 3) := by decide +kernel
theorem dX11_planned_16 : decode cX11_planned 16 = .ok (.ifCond .eq 14, 3) := by decide +kernel
theorem dX11_planned_19 : decode cX11_planned 19 = .ok (.aload 4, 2) := by decide +kernel
theorem dX11_planned_21 : decode cX11_planned 21 = .ok (.getfield 246, 3) := by decide +kernel
theorem dX11_planned_24 : decode cX11_planned 24 = .ok (.iload_n 2, 1) := by decide +kernel
theorem dX11_planned_25 : decode cX11_planned 25 = .ok (.iaload, 1) := by decide +kernel
theorem dX11_planned_26 : decode cX11_planned 26 = .ok (.iconst (-1), 1) := by decide +kernel
theorem dX11_planned_27 : decode cX11_planned 27 = .ok (.if_icmp .ne 5, 3) := by decide +kernel
theorem dX11_planned_30 : decode cX11_planned 30 = .ok (.iconst (-1), 1) := by decide +kernel
theorem dX11_planned_31 : decode cX11_planned 31 = .ok (.ireturn, 1) := by decide +kernel
theorem dX11_planned_32 : decode cX11_planned 32 = .ok (.aload 4, 2) := by decide +kernel
theorem dX11_planned_34 : decode cX11_planned 34 = .ok (.aload 4, 2) := by decide +kernel
theorem dX11_planned_36 : decode cX11_planned 36 = .ok (.getfield 246, 3) := by decide +kernel
theorem dX11_planned_39 : decode cX11_planned 39 = .ok (.iload_n 2, 1) := by decide +kernel
theorem dX11_planned_40 : decode cX11_planned 40 = .ok (.iaload, 1) := by decide +kernel
theorem dX11_planned_41 : decode cX11_planned 41 = .ok (.invokevirtual 275, 3) := by decide +kernel
theorem dX11_planned_44 : decode cX11_planned 44 = .ok (.istore 5, 2) := by decide +kernel
theorem dX11_planned_46 : decode cX11_planned 46 = .ok (.aload 4, 2) := by decide +kernel
theorem dX11_planned_48 : decode cX11_planned 48 = .ok (.aload 4, 2) := by decide +kernel
theorem dX11_planned_50 : decode cX11_planned 50 = .ok (.getfield 246, 3) := by decide +kernel
theorem dX11_planned_53 : decode cX11_planned 53 = .ok (.iload_n 2, 1) := by decide +kernel
theorem dX11_planned_54 : decode cX11_planned 54 = .ok (.iaload, 1) := by decide +kernel
theorem dX11_planned_55 : decode cX11_planned 55 = .ok (.invokevirtual 278, 3) := by decide +kernel
theorem dX11_planned_58 : decode cX11_planned 58 = .ok (.istore 6, 2) := by decide +kernel
theorem dX11_planned_60 : decode cX11_planned 60 = .ok (.iload_n 3, 1) := by decide +kernel
theorem dX11_planned_61 : decode cX11_planned 61 = .ok (.tableswitch 55 0 3 #[31, 34, 37, 46], 31) := by decide +kernel
theorem dX11_planned_92 : decode cX11_planned 92 = .ok (.iload 5, 2) := by decide +kernel
theorem dX11_planned_94 : decode cX11_planned 94 = .ok (.ireturn, 1) := by decide +kernel
theorem dX11_planned_95 : decode cX11_planned 95 = .ok (.iload 6, 2) := by decide +kernel
theorem dX11_planned_97 : decode cX11_planned 97 = .ok (.ireturn, 1) := by decide +kernel
theorem dX11_planned_98 : decode cX11_planned 98 = .ok (.aload 4, 2) := by decide +kernel
theorem dX11_planned_100 : decode cX11_planned 100 = .ok (.iload 5, 2) := by decide +kernel
theorem dX11_planned_102 : decode cX11_planned 102 = .ok (.iload_n 2, 1) := by decide +kernel
theorem dX11_planned_103 : decode cX11_planned 103 = .ok (.invokevirtual 281, 3) := by decide +kernel
theorem dX11_planned_106 : decode cX11_planned 106 = .ok (.ireturn, 1) := by decide +kernel
theorem dX11_planned_107 : decode cX11_planned 107 = .ok (.aload 4, 2) := by decide +kernel
theorem dX11_planned_109 : decode cX11_planned 109 = .ok (.iload 6, 2) := by decide +kernel
theorem dX11_planned_111 : decode cX11_planned 111 = .ok (.iload_n 2, 1) := by decide +kernel
theorem dX11_planned_112 : decode cX11_planned 112 = .ok (.invokevirtual 281, 3) := by decide +kernel
theorem dX11_planned_115 : decode cX11_planned 115 = .ok (.ireturn, 1) := by decide +kernel
theorem dX11_planned_116 : decode cX11_planned 116 = .ok (.iconst (-1), 1) := by decide +kernel
theorem dX11_planned_117 : decode cX11_planned 117 = .ok (.ireturn, 1) := by decide +kernel
theorem dX11_comes_0 : decode cX11_comes 0 = .ok (.aload_n 0, 1) := by decide +kernel
theorem dX11_comes_1 : decode cX11_comes 1 = .ok (.iload_n 2, 1) := by decide +kernel
theorem dX11_comes_2 : decode cX11_comes 2 = .ok (.invokevirtual 110, 3) := by decide +kernel
theorem dX11_comes_5 : decode cX11_comes 5 = .ok (.astore 5, 2) := by decide +kernel
theorem dX11_comes_7 : decode cX11_comes 7 = .ok (.aload 5, 2) := by decide +kernel
theorem dX11_comes_9 : decode cX11_comes 9 = .ok (.ifnull 38, 3) := by decide +kernel
theorem dX11_comes_12 : decode cX11_comes 12 = .ok (.aload_n 0, 1) := by decide +kernel
theorem dX11_comes_13 : decode cX11_comes 13 = .ok (.iload_n 1, 1) := by decide +kernel
theorem dX11_comes_14 : decode cX11_comes 14 = .ok (.invokevirtual 90, 3) := by decide +kernel
theorem dX11_comes_17 : decode cX11_comes 17 = .ok (.ifnull 30, 3) := by decide +kernel
theorem dX11_comes_20 : decode cX11_comes 20 = .ok (.iload_n 3, 1) := by decide +kernel
theorem dX11_comes_21 : decode cX11_comes 21 = .ok (.invokestatic 156, 3) := by decide +kernel
theorem dX11_comes_24 : decode cX11_comes 24 = .ok (.ifCond .eq 23, 3) := by decide +kernel
theorem dX11_comes_27 : decode cX11_comes 27 = .ok (.aload_n 0, 1) := by decide +kernel
theorem dX11_comes_28 : decode cX11_comes 28 = .ok (.iload 4, 2) := by decide +kernel
theorem dX11_comes_30 : decode cX11_comes 30 = .ok (.invokevirtual 162, 3) := by decide +kernel
theorem dX11_comes_33 : decode cX11_comes 33 = .ok (.ifCond .eq 14, 3) := by decide +kernel
theorem dX11_comes_36 : decode cX11_comes 36 = .ok (.aload 5, 2) := by decide +kernel
theorem dX11_comes_38 : decode cX11_comes 38 = .ok (.getfield 246, 3) := by decide +kernel
theorem dX11_comes_41 : decode cX11_comes 41 = .ok (.iload_n 3, 1) := by decide +kernel
theorem dX11_comes_42 : decode cX11_comes 42 = .ok (.iaload, 1) := by decide +kernel
theorem dX11_comes_43 : decode cX11_comes 43 = .ok (.iconst (-1), 1) := by decide +kernel
theorem dX11_comes_44 : decode cX11_comes 44 = .ok (.if_icmp .ne 5, 3) := by decide +kernel
theorem dX11_comes_47 : decode cX11_comes 47 = .ok (.iconst (-1), 1) := by decide +kernel
theorem dX11_comes_48 : decode cX11_comes 48 = .ok (.ireturn, 1) := by decide +kernel
theorem dX11_comes_49 : decode cX11_comes 49 = .ok (.aload_n 0, 1) := by decide +kernel
theorem dX11_comes_50 : decode cX11_comes 50 = .ok (.getfield 37, 3) := by decide +kernel
theorem dX11_comes_53 : decode cX11_comes 53 = .ok (.invokevirtual 284, 3) := by decide +kernel
theorem dX11_comes_56 : decode cX11_comes 56 = .ok (.iconst 0, 1) := by decide +kernel
theorem dX11_comes_57 : decode cX11_comes 57 = .ok (.istore 6, 2) := by decide +kernel
theorem dX11_comes_59 : decode cX11_comes 59 = .ok (.iload 6, 2) := by decide +kernel
theorem dX11_comes_61 : decode cX11_comes 61 = .ok (.aload 5, 2) := by decide +kernel
theorem dX11_comes_63 : decode cX11_comes 63 = .ok (.getfield 207, 3) := by decide +kernel
theorem dX11_comes_66 : decode cX11_comes 66 = .ok (.if_icmp .gt 22, 3) := by decide +kernel
theorem dX11_comes_69 : decode cX11_comes 69 = .ok (.aload_n 0, 1) := by decide +kernel
theorem dX11_comes_70 : decode cX11_comes 70 = .ok (.iload 6, 2) := by decide +kernel
theorem dX11_comes_72 : decode cX11_comes 72 = .ok (.iload_n 3, 1) := by decide +kernel
theorem dX11_comes_73 : decode cX11_comes 73 = .ok (.iload 4, 2) := by decide +kernel
theorem dX11_comes_75 : decode cX11_comes 75 = .ok (.iconst 1, 1) := by decide +kernel
theorem dX11_comes_76 : decode cX11_comes 76 = .ok (.iload_n 1, 1) := by decide +kernel
theorem dX11_comes_77 : decode cX11_comes 77 = .ok (.ishl, 1) := by decide +kernel
theorem dX11_comes_78 : decode cX11_comes 78 = .ok (.invokevirtual 287, 3) := by decide +kernel
theorem dX11_comes_81 : decode cX11_comes 81 = .ok (.pop, 1) := by decide +kernel
theorem dX11_comes_82 : decode cX11_comes 82 = .ok (.iinc 6 1, 3) := by decide +kernel
theorem dX11_comes_85 : decode cX11_comes 85 = .ok (.goto (-26), 3) := by decide +kernel
theorem dX11_comes_88 : decode cX11_comes 88 = .ok (.aload_n 0, 1) := by decide +kernel
theorem dX11_comes_89 : decode cX11_comes 89 = .ok (.getfield 44, 3) := by decide +kernel
theorem dX11_comes_92 : decode cX11_comes 92 = .ok (.getfield 291, 3) := by decide +kernel
theorem dX11_comes_95 : decode cX11_comes 95 = .ok (.iload_n 1, 1) := by decide +kernel
theorem dX11_comes_96 : decode cX11_comes 96 = .ok (.invokestatic 261, 3) := by decide +kernel
theorem dX11_comes_99 : decode cX11_comes 99 = .ok (.ifCond .eq 7, 3) := by decide +kernel
theorem dX11_comes_102 : decode cX11_comes 102 = .ok (.iconst 1, 1) := by decide +kernel
theorem dX11_comes_103 : decode cX11_comes 103 = .ok (.goto 4, 3) := by decide +kernel
theorem dX11_comes_106 : decode cX11_comes 106 = .ok (.iconst 0, 1) := by decide +kernel
theorem dX11_comes_107 : decode cX11_comes 107 = .ok (.aload_n 0, 1) := by decide +kernel
theorem dX11_comes_108 : decode cX11_comes 108 = .ok (.getfield 44, 3) := by decide +kernel
theorem dX11_comes_111 : decode cX11_comes 111 = .ok (.getfield 294, 3) := by decide +kernel
theorem dX11_comes_114 : decode cX11_comes 114 = .ok (.iload_n 1, 1) := by decide +kernel
theorem dX11_comes_115 : decode cX11_comes 115 = .ok (.invokestatic 261, 3) := by decide +kernel
theorem dX11_comes_118 : decode cX11_comes 118 = .ok (.ifCond .eq 7, 3) := by decide +kernel
theorem dX11_comes_121 : decode cX11_comes 121 = .ok (.iconst 2, 1) := by decide +kernel
theorem dX11_comes_122 : decode cX11_comes 122 = .ok (.goto 4, 3) := by decide +kernel
theorem dX11_comes_125 : decode cX11_comes 125 = .ok (.iconst 0, 1) := by decide +kernel
theorem dX11_comes_126 : decode cX11_comes 126 = .ok (.iadd, 1) := by decide +kernel
theorem dX11_comes_127 : decode cX11_comes 127 = .ok (.ireturn, 1) := by decide +kernel
theorem dX11_sum_0 : decode cX11_sum 0 = .ok (.aload_n 0, 1) := by decide +kernel
theorem dX11_sum_1 : decode cX11_sum 1 = .ok (.iload_n 1, 1) := by decide +kernel
theorem dX11_sum_2 : decode cX11_sum 2 = .ok (.invokevirtual 90, 3) := by decide +kernel
theorem dX11_sum_5 : decode cX11_sum 5 = .ok (.ifnull 11, 3) := by decide +kernel
theorem dX11_sum_8 : decode cX11_sum 8 = .ok (.aload_n 0, 1) := by decide +kernel
theorem dX11_sum_9 : decode cX11_sum 9 = .ok (.iload_n 2, 1) := by decide +kernel
theorem dX11_sum_10 : decode cX11_sum 10 = .ok (.invokevirtual 162, 3) := by decide +kernel
theorem dX11_sum_13 : decode cX11_sum 13 = .ok (.ifCond .ne 5, 3) := by decide +kernel
theorem dX11_sum_16 : decode cX11_sum 16 = .ok (.iconst (-1), 1) := by decide +kernel
theorem dX11_sum_17 : decode cX11_sum 17 = .ok (.ireturn, 1) := by decide +kernel
theorem dX11_sum_18 : decode cX11_sum 18 = .ok (.iconst 0, 1) := by decide +kernel
theorem dX11_sum_19 : decode cX11_sum 19 = .ok (.istore_n 3, 1) := by decide +kernel
theorem dX11_sum_20 : decode cX11_sum 20 = .ok (.iconst 0, 1) := by decide +kernel
theorem dX11_sum_21 : decode cX11_sum 21 = .ok (.istore 4, 2) := by decide +kernel
theorem dX11_sum_23 : decode cX11_sum 23 = .ok (.iload 4, 2) := by decide +kernel
theorem dX11_sum_25 : decode cX11_sum 25 = .ok (.bipush 52, 2) := by decide +kernel
theorem dX11_sum_27 : decode cX11_sum 27 = .ok (.if_icmp .ge 67, 3) := by decide +kernel
theorem dX11_sum_30 : decode cX11_sum 30 = .ok (.aload_n 0, 1) := by decide +kernel
theorem dX11_sum_31 : decode cX11_sum 31 = .ok (.getfield 37, 3) := by decide +kernel
theorem dX11_sum_34 : decode cX11_sum 34 = .ok (.invokevirtual 284, 3) := by decide +kernel
theorem dX11_sum_37 : decode cX11_sum 37 = .ok (.iconst 0, 1) := by decide +kernel
theorem dX11_sum_38 : decode cX11_sum 38 = .ok (.istore 5, 2) := by decide +kernel
theorem dX11_sum_40 : decode cX11_sum 40 = .ok (.iload 5, 2) := by decide +kernel
theorem dX11_sum_42 : decode cX11_sum 42 = .ok (.aload_n 0, 1) := by decide +kernel
theorem dX11_sum_43 : decode cX11_sum 43 = .ok (.getfield 114, 3) := by decide +kernel
theorem dX11_sum_46 : decode cX11_sum 46 = .ok (.if_icmp .ge 42, 3) := by decide +kernel
theorem dX11_sum_49 : decode cX11_sum 49 = .ok (.aload_n 0, 1) := by decide +kernel
theorem dX11_sum_50 : decode cX11_sum 50 = .ok (.iload 5, 2) := by decide +kernel
theorem dX11_sum_52 : decode cX11_sum 52 = .ok (.iload 4, 2) := by decide +kernel
theorem dX11_sum_54 : decode cX11_sum 54 = .ok (.iload_n 2, 1) := by decide +kernel
theorem dX11_sum_55 : decode cX11_sum 55 = .ok (.iconst 1, 1) := by decide +kernel
theorem dX11_sum_56 : decode cX11_sum 56 = .ok (.iload_n 1, 1) := by decide +kernel
theorem dX11_sum_57 : decode cX11_sum 57 = .ok (.ishl, 1) := by decide +kernel
theorem dX11_sum_58 : decode cX11_sum 58 = .ok (.invokevirtual 287, 3) := by decide +kernel
theorem dX11_sum_61 : decode cX11_sum 61 = .ok (.ifCond .eq 21, 3) := by decide +kernel
theorem dX11_sum_64 : decode cX11_sum 64 = .ok (.iload_n 3, 1) := by decide +kernel
theorem dX11_sum_65 : decode cX11_sum 65 = .ok (.aload_n 0, 1) := by decide +kernel
theorem dX11_sum_66 : decode cX11_sum 66 = .ok (.getfield 44, 3) := by decide +kernel
theorem dX11_sum_69 : decode cX11_sum 69 = .ok (.aload_n 0, 1) := by decide +kernel
theorem dX11_sum_70 : decode cX11_sum 70 = .ok (.getfield 29, 3) := by decide +kernel
theorem dX11_sum_73 : decode cX11_sum 73 = .ok (.iload 5, 2) := by decide +kernel
theorem dX11_sum_75 : decode cX11_sum 75 = .ok (.aaload, 1) := by decide +kernel
theorem dX11_sum_76 : decode cX11_sum 76 = .ok (.iload_n 1, 1) := by decide +kernel
theorem dX11_sum_77 : decode cX11_sum 77 = .ok (.invokevirtual 297, 3) := by decide +kernel
theorem dX11_sum_80 : decode cX11_sum 80 = .ok (.iadd, 1) := by decide +kernel
theorem dX11_sum_81 : decode cX11_sum 81 = .ok (.istore_n 3, 1) := by decide +kernel
theorem dX11_sum_82 : decode cX11_sum 82 = .ok (.iinc 5 1, 3) := by decide +kernel
theorem dX11_sum_85 : decode cX11_sum 85 = .ok (.goto (-45), 3) := by decide +kernel
theorem dX11_sum_88 : decode cX11_sum 88 = .ok (.iinc 4 1, 3) := by decide +kernel
theorem dX11_sum_91 : decode cX11_sum 91 = .ok (.goto (-68), 3) := by decide +kernel
theorem dX11_sum_94 : decode cX11_sum 94 = .ok (.iload_n 3, 1) := by decide +kernel
theorem dX11_sum_95 : decode cX11_sum 95 = .ok (.ireturn, 1) := by decide +kernel
theorem dX11_shifted_0 : decode cX11_shifted 0 = .ok (.aload_n 0, 1) := by decide +kernel
theorem dX11_shifted_1 : decode cX11_shifted 1 = .ok (.iload_n 1, 1) := by decide +kernel
theorem dX11_shifted_2 : decode cX11_shifted 2 = .ok (.invokevirtual 162, 3) := by decide +kernel
theorem dX11_shifted_5 : decode cX11_shifted 5 = .ok (.ifCond .eq 11, 3) := by decide +kernel
theorem dX11_shifted_8 : decode cX11_shifted 8 = .ok (.aload_n 0, 1) := by decide +kernel
theorem dX11_shifted_9 : decode cX11_shifted 9 = .ok (.iload_n 2, 1) := by decide +kernel
theorem dX11_shifted_10 : decode cX11_shifted 10 = .ok (.invokevirtual 162, 3) := by decide +kernel
theorem dX11_shifted_13 : decode cX11_shifted 13 = .ok (.ifCond .ne 5, 3) := by decide +kernel
theorem dX11_shifted_16 : decode cX11_shifted 16 = .ok (.iconst (-1), 1) := by decide +kernel
theorem dX11_shifted_17 : decode cX11_shifted 17 = .ok (.ireturn, 1) := by decide +kernel
theorem dX11_shifted_18 : decode cX11_shifted 18 = .ok (.iconst 0, 1) := by decide +kernel
theorem dX11_shifted_19 : decode cX11_shifted 19 = .ok (.istore_n 3, 1) := by decide +kernel
theorem dX11_shifted_20 : decode cX11_shifted 20 = .ok (.iconst 0, 1) := by decide +kernel
theorem dX11_shifted_21 : decode cX11_shifted 21 = .ok (.istore 4, 2) := by decide +kernel
theorem dX11_shifted_23 : decode cX11_shifted 23 = .ok (.iload 4, 2) := by decide +kernel
theorem dX11_shifted_25 : decode cX11_shifted 25 = .ok (.aload_n 0, 1) := by decide +kernel
theorem dX11_shifted_26 : decode cX11_shifted 26 = .ok (.getfield 114, 3) := by decide +kernel
theorem dX11_shifted_29 : decode cX11_shifted 29 = .ok (.if_icmp .ge 116, 3) := by decide +kernel
theorem dX11_shifted_32 : decode cX11_shifted 32 = .ok (.aload_n 0, 1) := by decide +kernel
theorem dX11_shifted_33 : decode cX11_shifted 33 = .ok (.getfield 23, 3) := by decide +kernel
theorem dX11_shifted_36 : decode cX11_shifted 36 = .ok (.iload 4, 2) := by decide +kernel
theorem dX11_shifted_38 : decode cX11_shifted 38 = .ok (.aaload, 1) := by decide +kernel
theorem dX11_shifted_39 : decode cX11_shifted 39 = .ok (.astore 5, 2) := by decide +kernel
theorem dX11_shifted_41 : decode cX11_shifted 41 = .ok (.iconst 0, 1) := by decide +kernel
theorem dX11_shifted_42 : decode cX11_shifted 42 = .ok (.istore 6, 2) := by decide +kernel
theorem dX11_shifted_44 : decode cX11_shifted 44 = .ok (.iload 6, 2) := by decide +kernel
theorem dX11_shifted_46 : decode cX11_shifted 46 = .ok (.bipush 52, 2) := by decide +kernel
theorem dX11_shifted_48 : decode cX11_shifted 48 = .ok (.if_icmp .ge 91, 3) := by decide +kernel
theorem dX11_shifted_51 : decode cX11_shifted 51 = .ok (.aload 5, 2) := by decide +kernel
theorem dX11_shifted_53 : decode cX11_shifted 53 = .ok (.getfield 246, 3) := by decide +kernel
theorem dX11_shifted_56 : decode cX11_shifted 56 = .ok (.iload 6, 2) := by decide +kernel
theorem dX11_shifted_58 : decode cX11_shifted 58 = .ok (.iaload, 1) := by decide +kernel
theorem dX11_shifted_59 : decode cX11_shifted 59 = .ok (.istore 7, 2) := by decide +kernel
theorem dX11_shifted_61 : decode cX11_shifted 61 = .ok (.iload 7, 2) := by decide +kernel
theorem dX11_shifted_63 : decode cX11_shifted 63 = .ok (.iconst (-1), 1) := by decide +kernel
theorem dX11_shifted_64 : decode cX11_shifted 64 = .ok (.if_icmp .eq 69, 3) := by decide +kernel
theorem dX11_shifted_67 : decode cX11_shifted 67 = .ok (.iload_n 3, 1) := by decide +kernel
theorem dX11_shifted_68 : decode cX11_shifted 68 = .ok (.aload_n 0, 1) := by decide +kernel
theorem dX11_shifted_69 : decode cX11_shifted 69 = .ok (.aload 5, 2) := by decide +kernel
theorem dX11_shifted_71 : decode cX11_shifted 71 = .ok (.aload 5, 2) := by decide +kernel
theorem dX11_shifted_73 : decode cX11_shifted 73 = .ok (.aload 5, 2) := by decide +kernel
theorem dX11_shifted_75 : decode cX11_shifted 75 = .ok (.iload 7, 2) := by decide +kernel
theorem dX11_shifted_77 : decode cX11_shifted 77 = .ok (.invokevirtual 275, 3) := by decide +kernel
theorem dX11_shifted_80 : decode cX11_shifted 80 = .ok (.iload 6, 2) := by decide +kernel
theorem dX11_shifted_82 : decode cX11_shifted 82 = .ok (.invokevirtual 281, 3) := by decide +kernel
theorem dX11_shifted_85 : decode cX11_shifted 85 = .ok (.iload_n 1, 1) := by decide +kernel
theorem dX11_shifted_86 : decode cX11_shifted 86 = .ok (.iload_n 2, 1) := by decide +kernel
theorem dX11_shifted_87 : decode cX11_shifted 87 = .ok (.invokevirtual 301, 3) := by decide +kernel
theorem dX11_shifted_90 : decode cX11_shifted 90 = .ok (.ifCond .eq 7, 3) := by decide +kernel
theorem dX11_shifted_93 : decode cX11_shifted 93 = .ok (.iconst 1, 1) := by decide +kernel
theorem dX11_shifted_94 : decode cX11_shifted 94 = .ok (.goto 4, 3) := by decide +kernel
theorem dX11_shifted_97 : decode cX11_shifted 97 = .ok (.iconst 0, 1) := by decide +kernel
theorem dX11_shifted_98 : decode cX11_shifted 98 = .ok (.iadd, 1) := by decide +kernel
theorem dX11_shifted_99 : decode cX11_shifted 99 = .ok (.istore_n 3, 1) := by decide +kernel
theorem dX11_shifted_100 : decode cX11_shifted 100 = .ok (.iload_n 3, 1) := by decide +kernel
theorem dX11_shifted_101 : decode cX11_shifted 101 = .ok (.aload_n 0, 1) := by decide +kernel
theorem dX11_shifted_102 : decode cX11_shifted 102 = .ok (.aload 5, 2) := by decide +kernel
theorem dX11_shifted_104 : decode cX11_shifted 104 = .ok (.aload 5, 2) := by decide +kernel
theorem dX11_shifted_106 : decode cX11_shifted 106 = .ok (.aload 5, 2) := by decide +kernel
theorem dX11_shifted_108 : decode cX11_shifted 108 = .ok (.iload 7, 2) := by decide +kernel
theorem dX11_shifted_110 : decode cX11_shifted 110 = .ok (.invokevirtual 278, 3) := by decide +kernel
theorem dX11_shifted_113 : decode cX11_shifted 113 = .ok (.iload 6, 2) := by decide +kernel
theorem dX11_shifted_115 : decode cX11_shifted 115 = .ok (.invokevirtual 281, 3) := by decide +kernel
theorem dX11_shifted_118 : decode cX11_shifted 118 = .ok (.iload_n 1, 1) := by decide +kernel
theorem dX11_shifted_119 : decode cX11_shifted 119 = .ok (.iload_n 2, 1) := by decide +kernel
theorem dX11_shifted_120 : decode cX11_shifted 120 = .ok (.invokevirtual 301, 3) := by decide +kernel
theorem dX11_shifted_123 : decode cX11_shifted 123 = .ok (.ifCond .eq 7, 3) := by decide +kernel
theorem dX11_shifted_126 : decode cX11_shifted 126 = .ok (.iconst 1, 1) := by decide +kernel
theorem dX11_shifted_127 : decode cX11_shifted 127 = .ok (.goto 4, 3) := by decide +kernel
theorem dX11_shifted_130 : decode cX11_shifted 130 = .ok (.iconst 0, 1) := by decide +kernel
theorem dX11_shifted_131 : decode cX11_shifted 131 = .ok (.iadd, 1) := by decide +kernel
theorem dX11_shifted_132 : decode cX11_shifted 132 = .ok (.istore_n 3, 1) := by decide +kernel
theorem dX11_shifted_133 : decode cX11_shifted 133 = .ok (.iinc 6 1, 3) := by decide +kernel
theorem dX11_shifted_136 : decode cX11_shifted 136 = .ok (.goto (-92), 3) := by decide +kernel
theorem dX11_shifted_139 : decode cX11_shifted 139 = .ok (.iinc 4 1, 3) := by decide +kernel
theorem dX11_shifted_142 : decode cX11_shifted 142 = .ok (.goto (-119), 3) := by decide +kernel
theorem dX11_shifted_145 : decode cX11_shifted 145 = .ok (.iload_n 3, 1) := by decide +kernel
theorem dX11_shifted_146 : decode cX11_shifted 146 = .ok (.ireturn, 1) := by decide +kernel
theorem dX11_isOffset_0 : decode cX11_isOffset 0 = .ok (.iload_n 0, 1) := by decide +kernel
theorem dX11_isOffset_1 : decode cX11_isOffset 1 = .ok (.bipush (-24), 2) := by decide +kernel
theorem dX11_isOffset_3 : decode cX11_isOffset 3 = .ok (.if_icmp .lt 13, 3) := by decide +kernel
theorem dX11_isOffset_6 : decode cX11_isOffset 6 = .ok (.iload_n 0, 1) := by decide +kernel
theorem dX11_isOffset_7 : decode cX11_isOffset 7 = .ok (.bipush 28, 2) := by decide +kernel
theorem dX11_isOffset_9 : decode cX11_isOffset 9 = .ok (.if_icmp .gt 7, 3) := by decide +kernel
theorem dX11_isOffset_12 : decode cX11_isOffset 12 = .ok (.iconst 1, 1) := by decide +kernel
theorem dX11_isOffset_13 : decode cX11_isOffset 13 = .ok (.goto 4, 3) := by decide +kernel
theorem dX11_isOffset_16 : decode cX11_isOffset 16 = .ok (.iconst 0, 1) := by decide +kernel
theorem dX11_isOffset_17 : decode cX11_isOffset 17 = .ok (.ireturn, 1) := by decide +kernel
theorem dX11_isSlot_0 : decode cX11_isSlot 0 = .ok (.iload_n 0, 1) := by decide +kernel
theorem dX11_isSlot_1 : decode cX11_isSlot 1 = .ok (.ifCond .lt 14, 3) := by decide +kernel
theorem dX11_isSlot_4 : decode cX11_isSlot 4 = .ok (.iload_n 0, 1) := by decide +kernel
theorem dX11_isSlot_5 : decode cX11_isSlot 5 = .ok (.sipush 17472, 3) := by decide +kernel
theorem dX11_isSlot_8 : decode cX11_isSlot 8 = .ok (.if_icmp .ge 7, 3) := by decide +kernel
theorem dX11_isSlot_11 : decode cX11_isSlot 11 = .ok (.iconst 1, 1) := by decide +kernel
theorem dX11_isSlot_12 : decode cX11_isSlot 12 = .ok (.goto 4, 3) := by decide +kernel
theorem dX11_isSlot_15 : decode cX11_isSlot 15 = .ok (.iconst 0, 1) := by decide +kernel
theorem dX11_isSlot_16 : decode cX11_isSlot 16 = .ok (.ireturn, 1) := by decide +kernel
theorem dX11_isWeek_0 : decode cX11_isWeek 0 = .ok (.iload_n 0, 1) := by decide +kernel
theorem dX11_isWeek_1 : decode cX11_isWeek 1 = .ok (.ifCond .lt 13, 3) := by decide +kernel
theorem dX11_isWeek_4 : decode cX11_isWeek 4 = .ok (.iload_n 0, 1) := by decide +kernel
theorem dX11_isWeek_5 : decode cX11_isWeek 5 = .ok (.bipush 52, 2) := by decide +kernel
theorem dX11_isWeek_7 : decode cX11_isWeek 7 = .ok (.if_icmp .ge 7, 3) := by decide +kernel
theorem dX11_isWeek_10 : decode cX11_isWeek 10 = .ok (.iconst 1, 1) := by decide +kernel
theorem dX11_isWeek_11 : decode cX11_isWeek 11 = .ok (.goto 4, 3) := by decide +kernel
theorem dX11_isWeek_14 : decode cX11_isWeek 14 = .ok (.iconst 0, 1) := by decide +kernel
theorem dX11_isWeek_15 : decode cX11_isWeek 15 = .ok (.ireturn, 1) := by decide +kernel
theorem dX11_isStretch_0 : decode cX11_isStretch 0 = .ok (.iload_n 0, 1) := by decide +kernel
theorem dX11_isStretch_1 : decode cX11_isStretch 1 = .ok (.invokestatic 138, 3) := by decide +kernel
theorem dX11_isStretch_4 : decode cX11_isStretch 4 = .ok (.ifCond .eq 27, 3) := by decide +kernel
theorem dX11_isStretch_7 : decode cX11_isStretch 7 = .ok (.iload_n 1, 1) := by decide +kernel
theorem dX11_isStretch_8 : decode cX11_isStretch 8 = .ok (.iconst 1, 1) := by decide +kernel
theorem dX11_isStretch_9 : decode cX11_isStretch 9 = .ok (.if_icmp .lt 22, 3) := by decide +kernel
theorem dX11_isStretch_12 : decode cX11_isStretch 12 = .ok (.iload_n 1, 1) := by decide +kernel
theorem dX11_isStretch_13 : decode cX11_isStretch 13 = .ok (.bipush 6, 2) := by decide +kernel
theorem dX11_isStretch_15 : decode cX11_isStretch 15 = .ok (.if_icmp .gt 16, 3) := by decide +kernel
theorem dX11_isStretch_18 : decode cX11_isStretch 18 = .ok (.iload_n 0, 1) := by decide +kernel
theorem dX11_isStretch_19 : decode cX11_isStretch 19 = .ok (.iload_n 1, 1) := by decide +kernel
theorem dX11_isStretch_20 : decode cX11_isStretch 20 = .ok (.iadd, 1) := by decide +kernel
theorem dX11_isStretch_21 : decode cX11_isStretch 21 = .ok (.sipush 17472, 3) := by decide +kernel
theorem dX11_isStretch_24 : decode cX11_isStretch 24 = .ok (.if_icmp .gt 7, 3) := by decide +kernel
theorem dX11_isStretch_27 : decode cX11_isStretch 27 = .ok (.iconst 1, 1) := by decide +kernel
theorem dX11_isStretch_28 : decode cX11_isStretch 28 = .ok (.goto 4, 3) := by decide +kernel
theorem dX11_isStretch_31 : decode cX11_isStretch 31 = .ok (.iconst 0, 1) := by decide +kernel
theorem dX11_isStretch_32 : decode cX11_isStretch 32 = .ok (.ireturn, 1) := by decide +kernel
theorem dX11_isIn_0 : decode cX11_isIn 0 = .ok (.iload_n 0, 1) := by decide +kernel
theorem dX11_isIn_1 : decode cX11_isIn 1 = .ok (.iload_n 1, 1) := by decide +kernel
theorem dX11_isIn_2 : decode cX11_isIn 2 = .ok (.ishr, 1) := by decide +kernel
theorem dX11_isIn_3 : decode cX11_isIn 3 = .ok (.iconst 1, 1) := by decide +kernel
theorem dX11_isIn_4 : decode cX11_isIn 4 = .ok (.iand, 1) := by decide +kernel
theorem dX11_isIn_5 : decode cX11_isIn 5 = .ok (.ifCond .eq 7, 3) := by decide +kernel
theorem dX11_isIn_8 : decode cX11_isIn 8 = .ok (.iconst 1, 1) := by decide +kernel
theorem dX11_isIn_9 : decode cX11_isIn 9 = .ok (.goto 4, 3) := by decide +kernel
theorem dX11_isIn_12 : decode cX11_isIn 12 = .ok (.iconst 0, 1) := by decide +kernel
theorem dX11_isIn_13 : decode cX11_isIn 13 = .ok (.ireturn, 1) := by decide +kernel
theorem dX11_isKnown_0 : decode cX11_isKnown 0 = .ok (.iload_n 1, 1) := by decide +kernel
theorem dX11_isKnown_1 : decode cX11_isKnown 1 = .ok (.ifCond .lt 15, 3) := by decide +kernel
theorem dX11_isKnown_4 : decode cX11_isKnown 4 = .ok (.iload_n 1, 1) := by decide +kernel
theorem dX11_isKnown_5 : decode cX11_isKnown 5 = .ok (.aload_n 0, 1) := by decide +kernel
theorem dX11_isKnown_6 : decode cX11_isKnown 6 = .ok (.getfield 131, 3) := by decide +kernel
theorem dX11_isKnown_9 : decode cX11_isKnown 9 = .ok (.if_icmp .gt 7, 3) := by decide +kernel
theorem dX11_isKnown_12 : decode cX11_isKnown 12 = .ok (.iconst 1, 1) := by decide +kernel
theorem dX11_isKnown_13 : decode cX11_isKnown 13 = .ok (.goto 4, 3) := by decide +kernel
theorem dX11_isKnown_16 : decode cX11_isKnown 16 = .ok (.iconst 0, 1) := by decide +kernel
theorem dX11_isKnown_17 : decode cX11_isKnown 17 = .ok (.ireturn, 1) := by decide +kernel
theorem dX11_landAt_0 : decode cX11_landAt 0 = .ok (.iload_n 1, 1) := by decide +kernel
theorem dX11_landAt_1 : decode cX11_landAt 1 = .ok (.ifCond .lt 20, 3) := by decide +kernel
theorem dX11_landAt_4 : decode cX11_landAt 4 = .ok (.iload_n 1, 1) := by decide +kernel
theorem dX11_landAt_5 : decode cX11_landAt 5 = .ok (.aload_n 0, 1) := by decide +kernel
theorem dX11_landAt_6 : decode cX11_landAt 6 = .ok (.getfield 69, 3) := by decide +kernel
theorem dX11_landAt_9 : decode cX11_landAt 9 = .ok (.if_icmp .ge 12, 3) := by decide +kernel
theorem dX11_landAt_12 : decode cX11_landAt 12 = .ok (.aload_n 0, 1) := by decide +kernel
theorem dX11_landAt_13 : decode cX11_landAt 13 = .ok (.getfield 11, 3) := by decide +kernel
theorem dX11_landAt_16 : decode cX11_landAt 16 = .ok (.iload_n 1, 1) := by decide +kernel
theorem dX11_landAt_17 : decode cX11_landAt 17 = .ok (.aaload, 1) := by decide +kernel
theorem dX11_landAt_18 : decode cX11_landAt 18 = .ok (.goto 4, 3) := by decide +kernel
theorem dX11_landAt_21 : decode cX11_landAt 21 = .ok (.aconst_null, 1) := by decide +kernel
theorem dX11_landAt_22 : decode cX11_landAt 22 = .ok (.areturn, 1) := by decide +kernel
theorem dX11_personAt_0 : decode cX11_personAt 0 = .ok (.iload_n 1, 1) := by decide +kernel
theorem dX11_personAt_1 : decode cX11_personAt 1 = .ok (.ifCond .lt 20, 3) := by decide +kernel
theorem dX11_personAt_4 : decode cX11_personAt 4 = .ok (.iload_n 1, 1) := by decide +kernel
theorem dX11_personAt_5 : decode cX11_personAt 5 = .ok (.aload_n 0, 1) := by decide +kernel
theorem dX11_personAt_6 : decode cX11_personAt 6 = .ok (.getfield 84, 3) := by decide +kernel
theorem dX11_personAt_9 : decode cX11_personAt 9 = .ok (.if_icmp .ge 12, 3) := by decide +kernel
theorem dX11_personAt_12 : decode cX11_personAt 12 = .ok (.aload_n 0, 1) := by decide +kernel
theorem dX11_personAt_13 : decode cX11_personAt 13 = .ok (.getfield 17, 3) := by decide +kernel
theorem dX11_personAt_16 : decode cX11_personAt 16 = .ok (.iload_n 1, 1) := by decide +kernel
theorem dX11_personAt_17 : decode cX11_personAt 17 = .ok (.aaload, 1) := by decide +kernel
theorem dX11_personAt_18 : decode cX11_personAt 18 = .ok (.goto 4, 3) := by decide +kernel
theorem dX11_personAt_21 : decode cX11_personAt 21 = .ok (.aconst_null, 1) := by decide +kernel
theorem dX11_personAt_22 : decode cX11_personAt 22 = .ok (.areturn, 1) := by decide +kernel
theorem dX11_seriesAt_0 : decode cX11_seriesAt 0 = .ok (.iload_n 1, 1) := by decide +kernel
theorem dX11_seriesAt_1 : decode cX11_seriesAt 1 = .ok (.ifCond .lt 20, 3) := by decide +kernel
theorem dX11_seriesAt_4 : decode cX11_seriesAt 4 = .ok (.iload_n 1, 1) := by decide +kernel
theorem dX11_seriesAt_5 : decode cX11_seriesAt 5 = .ok (.aload_n 0, 1) := by decide +kernel
theorem dX11_seriesAt_6 : decode cX11_seriesAt 6 = .ok (.getfield 114, 3) := by decide +kernel
theorem dX11_seriesAt_9 : decode cX11_seriesAt 9 = .ok (.if_icmp .ge 12, 3) := by decide +kernel
theorem dX11_seriesAt_12 : decode cX11_seriesAt 12 = .ok (.aload_n 0, 1) := by decide +kernel
theorem dX11_seriesAt_13 : decode cX11_seriesAt 13 = .ok (.getfield 23, 3) := by decide +kernel
theorem dX11_seriesAt_16 : decode cX11_seriesAt 16 = .ok (.iload_n 1, 1) := by decide +kernel
theorem dX11_seriesAt_17 : decode cX11_seriesAt 17 = .ok (.aaload, 1) := by decide +kernel
theorem dX11_seriesAt_18 : decode cX11_seriesAt 18 = .ok (.goto 4, 3) := by decide +kernel
theorem dX11_seriesAt_21 : decode cX11_seriesAt 21 = .ok (.aconst_null, 1) := by decide +kernel
theorem dX11_seriesAt_22 : decode cX11_seriesAt 22 = .ok (.areturn, 1) := by decide +kernel
theorem dX11_meetingCount_0 : decode cX11_meetingCount 0 = .ok (.iconst 0, 1) := by decide +kernel
theorem dX11_meetingCount_1 : decode cX11_meetingCount 1 = .ok (.istore_n 1, 1) := by decide +kernel
theorem dX11_meetingCount_2 : decode cX11_meetingCount 2 = .ok (.iconst 0, 1) := by decide +kernel
theorem dX11_meetingCount_3 : decode cX11_meetingCount 3 = .ok (.istore_n 2, 1) := by decide +kernel
theorem dX11_meetingCount_4 : decode cX11_meetingCount 4 = .ok (.iload_n 2, 1) := by decide +kernel
theorem dX11_meetingCount_5 : decode cX11_meetingCount 5 = .ok (.aload_n 0, 1) := by decide +kernel
theorem dX11_meetingCount_6 : decode cX11_meetingCount 6 = .ok (.getfield 114, 3) := by decide +kernel
theorem dX11_meetingCount_9 : decode cX11_meetingCount 9 = .ok (.if_icmp .ge 46, 3) := by decide +kernel
theorem dX11_meetingCount_12 : decode cX11_meetingCount 12 = .ok (.iconst 0, 1) := by decide +kernel
theorem dX11_meetingCount_13 : decode cX11_meetingCount 13 = .ok (.istore_n 3, 1) := by decide +kernel
theorem dX11_meetingCount_14 : decode cX11_meetingCount 14 = .ok (.iload_n 3, 1) := by decide +kernel
theorem dX11_meetingCount_15 : decode cX11_meetingCount 15 = .ok (.bipush 52, 2) := by decide +kernel
theorem dX11_meetingCount_17 : decode cX11_meetingCount 17 = .ok (.if_icmp .ge 32, 3) := by decide +kernel
theorem dX11_meetingCount_20 : decode cX11_meetingCount 20 = .ok (.iload_n 1, 1) := by decide +kernel
theorem dX11_meetingCount_21 : decode cX11_meetingCount 21 = .ok (.aload_n 0, 1) := by decide +kernel
theorem dX11_meetingCount_22 : decode cX11_meetingCount 22 = .ok (.getfield 23, 3) := by decide +kernel
theorem dX11_meetingCount_25 : decode cX11_meetingCount 25 = .ok (.iload_n 2, 1) := by decide +kernel
theorem dX11_meetingCount_26 : decode cX11_meetingCount 26 = .ok (.aaload, 1) := by decide +kernel
theorem dX11_meetingCount_27 : decode cX11_meetingCount 27 = .ok (.getfield 246, 3) := by decide +kernel
theorem dX11_meetingCount_30 : decode cX11_meetingCount 30 = .ok (.iload_n 3, 1) := by decide +kernel
theorem dX11_meetingCount_31 : decode cX11_meetingCount 31 = .ok (.iaload, 1) := by decide +kernel
theorem dX11_meetingCount_32 : decode cX11_meetingCount 32 = .ok (.iconst (-1), 1) := by decide +kernel
theorem dX11_meetingCount_33 : decode cX11_meetingCount 33 = .ok (.if_icmp .ne 7, 3) := by decide +kernel
theorem dX11_meetingCount_36 : decode cX11_meetingCount 36 = .ok (.iconst 0, 1) := by decide +kernel
theorem dX11_meetingCount_37 : decode cX11_meetingCount 37 = .ok (.goto 4, 3) := by decide +kernel
theorem dX11_meetingCount_40 : decode cX11_meetingCount 40 = .ok (.iconst 1, 1) := by decide +kernel
theorem dX11_meetingCount_41 : decode cX11_meetingCount 41 = .ok (.iadd, 1) := by decide +kernel
theorem dX11_meetingCount_42 : decode cX11_meetingCount 42 = .ok (.istore_n 1, 1) := by decide +kernel
theorem dX11_meetingCount_43 : decode cX11_meetingCount 43 = .ok (.iinc 3 1, 3) := by decide +kernel
theorem dX11_meetingCount_46 : decode cX11_meetingCount 46 = .ok (.goto (-32), 3) := by decide +kernel
theorem dX11_meetingCount_49 : decode cX11_meetingCount 49 = .ok (.iinc 2 1, 3) := by decide +kernel
theorem dX11_meetingCount_52 : decode cX11_meetingCount 52 = .ok (.goto (-48), 3) := by decide +kernel
theorem dX11_meetingCount_55 : decode cX11_meetingCount 55 = .ok (.iload_n 1, 1) := by decide +kernel
theorem dX11_meetingCount_56 : decode cX11_meetingCount 56 = .ok (.ireturn, 1) := by decide +kernel
theorem dX11_isShifted_0 : decode cX11_isShifted 0 = .ok (.iload_n 2, 1) := by decide +kernel
theorem dX11_isShifted_1 : decode cX11_isShifted 1 = .ok (.iconst (-1), 1) := by decide +kernel
theorem dX11_isShifted_2 : decode cX11_isShifted 2 = .ok (.if_icmp .ne 5, 3) := by decide +kernel
theorem dX11_isShifted_5 : decode cX11_isShifted 5 = .ok (.iconst 0, 1) := by decide +kernel
theorem dX11_isShifted_6 : decode cX11_isShifted 6 = .ok (.ireturn, 1) := by decide +kernel
theorem dX11_isShifted_7 : decode cX11_isShifted 7 = .ok (.aload_n 1, 1) := by decide +kernel
theorem dX11_isShifted_8 : decode cX11_isShifted 8 = .ok (.invokevirtual 305, 3) := by decide +kernel
theorem dX11_isShifted_11 : decode cX11_isShifted 11 = .ok (.istore 5, 2) := by decide +kernel
theorem dX11_isShifted_13 : decode cX11_isShifted 13 = .ok (.iconst 0, 1) := by decide +kernel
theorem dX11_isShifted_14 : decode cX11_isShifted 14 = .ok (.istore 6, 2) := by decide +kernel
theorem dX11_isShifted_16 : decode cX11_isShifted 16 = .ok (.iload 6, 2) := by decide +kernel
theorem dX11_isShifted_18 : decode cX11_isShifted 18 = .ok (.aload_n 0, 1) := by decide +kernel
theorem dX11_isShifted_19 : decode cX11_isShifted 19 = .ok (.getfield 84, 3) := by decide +kernel
theorem dX11_isShifted_22 : decode cX11_isShifted 22 = .ok (.if_icmp .ge 51, 3) := by decide +kernel
theorem dX11_isShifted_25 : decode cX11_isShifted 25 = .ok (.aload_n 0, 1) := by decide +kernel
theorem dX11_isShifted_26 : decode cX11_isShifted 26 = .ok (.getfield 17, 3) := by decide +kernel
theorem dX11_isShifted_29 : decode cX11_isShifted 29 = .ok (.iload 6, 2) := by decide +kernel
theorem dX11_isShifted_31 : decode cX11_isShifted 31 = .ok (.aaload, 1) := by decide +kernel
theorem dX11_isShifted_32 : decode cX11_isShifted 32 = .ok (.getfield 308, 3) := by decide +kernel
theorem dX11_isShifted_35 : decode cX11_isShifted 35 = .ok (.astore 7, 2) := by decide +kernel
theorem dX11_isShifted_37 : decode cX11_isShifted 37 = .ok (.iload 5, 2) := by decide +kernel
theorem dX11_isShifted_39 : decode cX11_isShifted 39 = .ok (.iload 6, 2) := by decide +kernel
theorem dX11_isShifted_41 : decode cX11_isShifted 41 = .ok (.invokestatic 261, 3) := by decide +kernel
theorem dX11_isShifted_44 : decode cX11_isShifted 44 = .ok (.ifCond .eq 23, 3) := by decide +kernel
theorem dX11_isShifted_47 : decode cX11_isShifted 47 = .ok (.aload 7, 2) := by decide +kernel
theorem dX11_isShifted_49 : decode cX11_isShifted 49 = .ok (.iload_n 2, 1) := by decide +kernel
theorem dX11_isShifted_50 : decode cX11_isShifted 50 = .ok (.iload_n 3, 1) := by decide +kernel
theorem dX11_isShifted_51 : decode cX11_isShifted 51 = .ok (.invokevirtual 166, 3) := by decide +kernel
theorem dX11_isShifted_54 : decode cX11_isShifted 54 = .ok (.aload 7, 2) := by decide +kernel
theorem dX11_isShifted_56 : decode cX11_isShifted 56 = .ok (.iload_n 2, 1) := by decide +kernel
theorem dX11_isShifted_57 : decode cX11_isShifted 57 = .ok (.iload 4, 2) := by decide +kernel
theorem dX11_isShifted_59 : decode cX11_isShifted 59 = .ok (.invokevirtual 166, 3) := by decide +kernel
theorem dX11_isShifted_62 : decode cX11_isShifted 62 = .ok (.if_icmp .eq 5, 3) := by decide +kernel
theorem dX11_isShifted_65 : decode cX11_isShifted 65 = .ok (.iconst 1, 1) := by decide +kernel
theorem dX11_isShifted_66 : decode cX11_isShifted 66 = .ok (.ireturn, 1) := by decide +kernel
theorem dX11_isShifted_67 : decode cX11_isShifted 67 = .ok (.iinc 6 1, 3) := by decide +kernel
theorem dX11_isShifted_70 : decode cX11_isShifted 70 = .ok (.goto (-54), 3) := by decide +kernel
theorem dX11_isShifted_73 : decode cX11_isShifted 73 = .ok (.iconst 0, 1) := by decide +kernel
theorem dX11_isShifted_74 : decode cX11_isShifted 74 = .ok (.ireturn, 1) := by decide +kernel
theorem dX11_seatLesser_0 : decode cX11_seatLesser 0 = .ok (.aload_n 0, 1) := by decide +kernel
theorem dX11_seatLesser_1 : decode cX11_seatLesser 1 = .ok (.getfield 37, 3) := by decide +kernel
theorem dX11_seatLesser_4 : decode cX11_seatLesser 4 = .ok (.invokevirtual 284, 3) := by decide +kernel
theorem dX11_seatLesser_7 : decode cX11_seatLesser 7 = .ok (.iconst 0, 1) := by decide +kernel
theorem dX11_seatLesser_8 : decode cX11_seatLesser 8 = .ok (.istore 4, 2) := by decide +kernel
theorem dX11_seatLesser_10 : decode cX11_seatLesser 10 = .ok (.iload 4, 2) := by decide +kernel
theorem dX11_seatLesser_12 : decode cX11_seatLesser 12 = .ok (.aload_n 1, 1) := by decide +kernel
theorem dX11_seatLesser_13 : decode cX11_seatLesser 13 = .ok (.getfield 207, 3) := by decide +kernel
theorem dX11_seatLesser_16 : decode cX11_seatLesser 16 = .ok (.if_icmp .ge 22, 3) := by decide +kernel
theorem dX11_seatLesser_19 : decode cX11_seatLesser 19 = .ok (.aload_n 0, 1) := by decide +kernel
theorem dX11_seatLesser_20 : decode cX11_seatLesser 20 = .ok (.iload 4, 2) := by decide +kernel
theorem dX11_seatLesser_22 : decode cX11_seatLesser 22 = .ok (.iload_n 2, 1) := by decide +kernel
theorem dX11_seatLesser_23 : decode cX11_seatLesser 23 = .ok (.iload_n 3, 1) := by decide +kernel
theorem dX11_seatLesser_24 : decode cX11_seatLesser 24 = .ok (.aload_n 1, 1) := by decide +kernel
theorem dX11_seatLesser_25 : decode cX11_seatLesser 25 = .ok (.invokevirtual 212, 3) := by decide +kernel
theorem dX11_seatLesser_28 : decode cX11_seatLesser 28 = .ok (.invokevirtual 287, 3) := by decide +kernel
theorem dX11_seatLesser_31 : decode cX11_seatLesser 31 = .ok (.pop, 1) := by decide +kernel
theorem dX11_seatLesser_32 : decode cX11_seatLesser 32 = .ok (.iinc 4 1, 3) := by decide +kernel
theorem dX11_seatLesser_35 : decode cX11_seatLesser 35 = .ok (.goto (-25), 3) := by decide +kernel
theorem dX11_seatLesser_38 : decode cX11_seatLesser 38 = .ok (.return_, 1) := by decide +kernel
theorem dX11_seat_0 : decode cX11_seat 0 = .ok (.aload_n 0, 1) := by decide +kernel
theorem dX11_seat_1 : decode cX11_seat 1 = .ok (.getfield 23, 3) := by decide +kernel
theorem dX11_seat_4 : decode cX11_seat 4 = .ok (.iload_n 1, 1) := by decide +kernel
theorem dX11_seat_5 : decode cX11_seat 5 = .ok (.aaload, 1) := by decide +kernel
theorem dX11_seat_6 : decode cX11_seat 6 = .ok (.astore 5, 2) := by decide +kernel
theorem dX11_seat_8 : decode cX11_seat 8 = .ok (.aload 5, 2) := by decide +kernel
theorem dX11_seat_10 : decode cX11_seat 10 = .ok (.getfield 246, 3) := by decide +kernel
theorem dX11_seat_13 : decode cX11_seat 13 = .ok (.iload_n 2, 1) := by decide +kernel
theorem dX11_seat_14 : decode cX11_seat 14 = .ok (.iaload, 1) := by decide +kernel
theorem dX11_seat_15 : decode cX11_seat 15 = .ok (.istore 6, 2) := by decide +kernel
theorem dX11_seat_17 : decode cX11_seat 17 = .ok (.iload 6, 2) := by decide +kernel
theorem dX11_seat_19 : decode cX11_seat 19 = .ok (.iconst (-1), 1) := by decide +kernel
theorem dX11_seat_20 : decode cX11_seat 20 = .ok (.if_icmp .ne 5, 3) := by decide +kernel
theorem dX11_seat_23 : decode cX11_seat 23 = .ok (.iconst 0, 1) := by decide +kernel
theorem dX11_seat_24 : decode cX11_seat 24 = .ok (.ireturn, 1) := by decide +kernel
theorem dX11_seat_25 : decode cX11_seat 25 = .ok (.aload_n 0, 1) := by decide +kernel
theorem dX11_seat_26 : decode cX11_seat 26 = .ok (.getfield 29, 3) := by decide +kernel
theorem dX11_seat_29 : decode cX11_seat 29 = .ok (.iload_n 1, 1) := by decide +kernel
theorem dX11_seat_30 : decode cX11_seat 30 = .ok (.aaload, 1) := by decide +kernel
theorem dX11_seat_31 : decode cX11_seat 31 = .ok (.aload 5, 2) := by decide +kernel
theorem dX11_seat_33 : decode cX11_seat 33 = .ok (.aload 5, 2) := by decide +kernel
theorem dX11_seat_35 : decode cX11_seat 35 = .ok (.iload 6, 2) := by decide +kernel
theorem dX11_seat_37 : decode cX11_seat 37 = .ok (.invokevirtual 208, 3) := by decide +kernel
theorem dX11_seat_40 : decode cX11_seat 40 = .ok (.iload_n 2, 1) := by decide +kernel
theorem dX11_seat_41 : decode cX11_seat 41 = .ok (.iload_n 3, 1) := by decide +kernel
theorem dX11_seat_42 : decode cX11_seat 42 = .ok (.iload 4, 2) := by decide +kernel
theorem dX11_seat_44 : decode cX11_seat 44 = .ok (.aload 5, 2) := by decide +kernel
theorem dX11_seat_46 : decode cX11_seat 46 = .ok (.invokevirtual 212, 3) := by decide +kernel
theorem dX11_seat_49 : decode cX11_seat 49 = .ok (.iand, 1) := by decide +kernel
theorem dX11_seat_50 : decode cX11_seat 50 = .ok (.aload_n 0, 1) := by decide +kernel
theorem dX11_seat_51 : decode cX11_seat 51 = .ok (.getfield 17, 3) := by decide +kernel
theorem dX11_seat_54 : decode cX11_seat 54 = .ok (.invokevirtual 215, 3) := by decide +kernel
theorem dX11_seat_57 : decode cX11_seat 57 = .ok (.aload_n 0, 1) := by decide +kernel
theorem dX11_seat_58 : decode cX11_seat 58 = .ok (.getfield 44, 3) := by decide +kernel
theorem dX11_seat_61 : decode cX11_seat 61 = .ok (.aload 5, 2) := by decide +kernel
theorem dX11_seat_63 : decode cX11_seat 63 = .ok (.aload_n 0, 1) := by decide +kernel
theorem dX11_seat_64 : decode cX11_seat 64 = .ok (.getfield 29, 3) := by decide +kernel
theorem dX11_seat_67 : decode cX11_seat 67 = .ok (.iload_n 1, 1) := by decide +kernel
theorem dX11_seat_68 : decode cX11_seat 68 = .ok (.aaload, 1) := by decide +kernel
theorem dX11_seat_69 : decode cX11_seat 69 = .ok (.aload_n 0, 1) := by decide +kernel
theorem dX11_seat_70 : decode cX11_seat 70 = .ok (.getfield 37, 3) := by decide +kernel
theorem dX11_seat_73 : decode cX11_seat 73 = .ok (.iload 6, 2) := by decide +kernel
theorem dX11_seat_75 : decode cX11_seat 75 = .ok (.invokevirtual 312, 3) := by decide +kernel
theorem dX11_seat_78 : decode cX11_seat 78 = .ok (.aload_n 0, 1) := by decide +kernel
theorem dX11_seat_79 : decode cX11_seat 79 = .ok (.getfield 37, 3) := by decide +kernel
theorem dX11_seat_82 : decode cX11_seat 82 = .ok (.aload 5, 2) := by decide +kernel
theorem dX11_seat_84 : decode cX11_seat 84 = .ok (.aload_n 0, 1) := by decide +kernel
theorem dX11_seat_85 : decode cX11_seat 85 = .ok (.getfield 29, 3) := by decide +kernel
theorem dX11_seat_88 : decode cX11_seat 88 = .ok (.iload_n 1, 1) := by decide +kernel
theorem dX11_seat_89 : decode cX11_seat 89 = .ok (.aaload, 1) := by decide +kernel
theorem dX11_seat_90 : decode cX11_seat 90 = .ok (.aload_n 0, 1) := by decide +kernel
theorem dX11_seat_91 : decode cX11_seat 91 = .ok (.getfield 44, 3) := by decide +kernel
theorem dX11_seat_94 : decode cX11_seat 94 = .ok (.invokevirtual 315, 3) := by decide +kernel
theorem dX11_seat_97 : decode cX11_seat 97 = .ok (.iconst 1, 1) := by decide +kernel
theorem dX11_seat_98 : decode cX11_seat 98 = .ok (.ireturn, 1) := by decide +kernel
end
section
theorem dL_law_0 : decode cL_law 0 = .ok (.new 7, 3) := by decide +kernel
theorem dL_law_3 : decode cL_law 3 = .ok (.dup, 1) := by decide +kernel
theorem dL_law_4 : decode cL_law 4 = .ok (.invokespecial 9, 3) := by decide +kernel
theorem dL_law_7 : decode cL_law 7 = .ok (.astore_n 1, 1) := by decide +kernel
theorem dL_law_8 : decode cL_law 8 = .ok (.new 10, 3) := by decide +kernel
theorem dL_law_11 : decode cL_law 11 = .ok (.dup, 1) := by decide +kernel
theorem dL_law_12 : decode cL_law 12 = .ok (.invokespecial 12, 3) := by decide +kernel
theorem dL_law_15 : decode cL_law 15 = .ok (.astore_n 2, 1) := by decide +kernel
theorem dL_law_16 : decode cL_law 16 = .ok (.iconst 0, 1) := by decide +kernel
theorem dL_law_17 : decode cL_law 17 = .ok (.istore_n 3, 1) := by decide +kernel
theorem dL_law_18 : decode cL_law 18 = .ok (.iload_n 3, 1) := by decide +kernel
theorem dL_law_19 : decode cL_law 19 = .ok (.aload_n 0, 1) := by decide +kernel
theorem dL_law_20 : decode cL_law 20 = .ok (.arraylength, 1) := by decide +kernel
theorem dL_law_21 : decode cL_law 21 = .ok (.bipush 6, 2) := by decide +kernel
theorem dL_law_23 : decode cL_law 23 = .ok (.isub, 1) := by decide +kernel
theorem dL_law_24 : decode cL_law 24 = .ok (.if_icmp .gt 1191, 3) := by decide +kernel
theorem dL_law_27 : decode cL_law 27 = .ok (.aload_n 0, 1) := by decide +kernel
theorem dL_law_28 : decode cL_law 28 = .ok (.iload_n 3, 1) := by decide +kernel
theorem dL_law_29 : decode cL_law 29 = .ok (.iaload, 1) := by decide +kernel
theorem dL_law_30 : decode cL_law 30 = .ok (.bipush 31, 2) := by decide +kernel
theorem dL_law_32 : decode cL_law 32 = .ok (.iand, 1) := by decide +kernel
theorem dL_law_33 : decode cL_law 33 = .ok (.tableswitch 1176 0 24 #[115, 138, 171, 204, 247, 290, 323, 392, 435, 478, 511, 554, 607, 670, 723, 776, 819, 882, 935, 958, 991, 1034, 1087, 1120, 1153], 115) := by decide +kernel
theorem dL_law_148 : decode cL_law 148 = .ok (.aload_n 1, 1) := by decide +kernel
theorem dL_law_149 : decode cL_law 149 = .ok (.aload_n 0, 1) := by decide +kernel
theorem dL_law_150 : decode cL_law 150 = .ok (.iload_n 3, 1) := by decide +kernel
theorem dL_law_151 : decode cL_law 151 = .ok (.iconst 1, 1) := by decide +kernel
theorem dL_law_152 : decode cL_law 152 = .ok (.iadd, 1) := by decide +kernel
theorem dL_law_153 : decode cL_law 153 = .ok (.iaload, 1) := by decide +kernel
theorem dL_law_154 : decode cL_law 154 = .ok (.invokevirtual 13, 3) := by decide +kernel
theorem dL_law_157 : decode cL_law 157 = .ok (.aload_n 2, 1) := by decide +kernel
theorem dL_law_158 : decode cL_law 158 = .ok (.aload_n 0, 1) := by decide +kernel
theorem dL_law_159 : decode cL_law 159 = .ok (.iload_n 3, 1) := by decide +kernel
theorem dL_law_160 : decode cL_law 160 = .ok (.iconst 1, 1) := by decide +kernel
theorem dL_law_161 : decode cL_law 161 = .ok (.iadd, 1) := by decide +kernel
theorem dL_law_162 : decode cL_law 162 = .ok (.iaload, 1) := by decide +kernel
theorem dL_law_163 : decode cL_law 163 = .ok (.invokevirtual 17, 3) := by decide +kernel
theorem dL_law_166 : decode cL_law 166 = .ok (.if_icmp .eq 1043, 3) := by decide +kernel
theorem dL_law_169 : decode cL_law 169 = .ok (.iconst 0, 1) := by decide +kernel
theorem dL_law_170 : decode cL_law 170 = .ok (.ireturn, 1) := by decide +kernel
theorem dL_law_171 : decode cL_law 171 = .ok (.aload_n 1, 1) := by decide +kernel
theorem dL_law_172 : decode cL_law 172 = .ok (.aload_n 0, 1) := by decide +kernel
theorem dL_law_173 : decode cL_law 173 = .ok (.iload_n 3, 1) := by decide +kernel
theorem dL_law_174 : decode cL_law 174 = .ok (.iconst 1, 1) := by decide +kernel
theorem dL_law_175 : decode cL_law 175 = .ok (.iadd, 1) := by decide +kernel
theorem dL_law_176 : decode cL_law 176 = .ok (.iaload, 1) := by decide +kernel
theorem dL_law_177 : decode cL_law 177 = .ok (.aload_n 0, 1) := by decide +kernel
theorem dL_law_178 : decode cL_law 178 = .ok (.iload_n 3, 1) := by decide +kernel
theorem dL_law_179 : decode cL_law 179 = .ok (.iconst 2, 1) := by decide +kernel
theorem dL_law_180 : decode cL_law 180 = .ok (.iadd, 1) := by decide +kernel
theorem dL_law_181 : decode cL_law 181 = .ok (.iaload, 1) := by decide +kernel
theorem dL_law_182 : decode cL_law 182 = .ok (.invokevirtual 18, 3) := by decide +kernel
theorem dL_law_185 : decode cL_law 185 = .ok (.aload_n 2, 1) := by decide +kernel
theorem dL_law_186 : decode cL_law 186 = .ok (.aload_n 0, 1) := by decide +kernel
theorem dL_law_187 : decode cL_law 187 = .ok (.iload_n 3, 1) := by decide +kernel
theorem dL_law_188 : decode cL_law 188 = .ok (.iconst 1, 1) := by decide +kernel
theorem dL_law_189 : decode cL_law 189 = .ok (.iadd, 1) := by decide +kernel
theorem dL_law_190 : decode cL_law 190 = .ok (.iaload, 1) := by decide +kernel
theorem dL_law_191 : decode cL_law 191 = .ok (.aload_n 0, 1) := by decide +kernel
theorem dL_law_192 : decode cL_law 192 = .ok (.iload_n 3, 1) := by decide +kernel
theorem dL_law_193 : decode cL_law 193 = .ok (.iconst 2, 1) := by decide +kernel
theorem dL_law_194 : decode cL_law 194 = .ok (.iadd, 1) := by decide +kernel
theorem dL_law_195 : decode cL_law 195 = .ok (.iaload, 1) := by decide +kernel
theorem dL_law_196 : decode cL_law 196 = .ok (.invokevirtual 22, 3) := by decide +kernel
theorem dL_law_199 : decode cL_law 199 = .ok (.if_icmp .eq 1010, 3) := by decide +kernel
theorem dL_law_202 : decode cL_law 202 = .ok (.iconst 0, 1) := by decide +kernel
theorem dL_law_203 : decode cL_law 203 = .ok (.ireturn, 1) := by decide +kernel
theorem dL_law_204 : decode cL_law 204 = .ok (.aload_n 1, 1) := by decide +kernel
theorem dL_law_205 : decode cL_law 205 = .ok (.aload_n 0, 1) := by decide +kernel
theorem dL_law_206 : decode cL_law 206 = .ok (.iload_n 3, 1) := by decide +kernel
theorem dL_law_207 : decode cL_law 207 = .ok (.iconst 1, 1) := by decide +kernel
theorem dL_law_208 : decode cL_law 208 = .ok (.iadd, 1) := by decide +kernel
theorem dL_law_209 : decode cL_law 209 = .ok (.iaload, 1) := by decide +kernel
theorem dL_law_210 : decode cL_law 210 = .ok (.aload_n 0, 1) := by decide +kernel
theorem dL_law_211 : decode cL_law 211 = .ok (.iload_n 3, 1) := by decide +kernel
theorem dL_law_212 : decode cL_law 212 = .ok (.iconst 2, 1) := by decide +kernel
theorem dL_law_213 : decode cL_law 213 = .ok (.iadd, 1) := by decide +kernel
theorem dL_law_214 : decode cL_law 214 = .ok (.iaload, 1) := by decide +kernel
theorem dL_law_215 : decode cL_law 215 = .ok (.invokevirtual 23, 3) := by decide +kernel
theorem dL_law_218 : decode cL_law 218 = .ok (.aload_n 2, 1) := by decide +kernel
theorem dL_law_219 : decode cL_law 219 = .ok (.aload_n 0, 1) := by decide +kernel
theorem dL_law_220 : decode cL_law 220 = .ok (.iload_n 3, 1) := by decide +kernel
theorem dL_law_221 : decode cL_law 221 = .ok (.iconst 1, 1) := by decide +kernel
theorem dL_law_222 : decode cL_law 222 = .ok (.iadd, 1) := by decide +kernel
theorem dL_law_223 : decode cL_law 223 = .ok (.iaload, 1) := by decide +kernel
theorem dL_law_224 : decode cL_law 224 = .ok (.aload_n 0, 1) := by decide +kernel
theorem dL_law_225 : decode cL_law 225 = .ok (.iload_n 3, 1) := by decide +kernel
theorem dL_law_226 : decode cL_law 226 = .ok (.iconst 2, 1) := by decide +kernel
theorem dL_law_227 : decode cL_law 227 = .ok (.iadd, 1) := by decide +kernel
theorem dL_law_228 : decode cL_law 228 = .ok (.iaload, 1) := by decide +kernel
theorem dL_law_229 : decode cL_law 229 = .ok (.invokevirtual 27, 3) := by decide +kernel
theorem dL_law_232 : decode cL_law 232 = .ok (.if_icmp .eq 977, 3) := by decide +kernel
theorem dL_law_235 : decode cL_law 235 = .ok (.iconst 0, 1) := by decide +kernel
theorem dL_law_236 : decode cL_law 236 = .ok (.ireturn, 1) := by decide +kernel
theorem dL_law_237 : decode cL_law 237 = .ok (.aload_n 1, 1) := by decide +kernel
theorem dL_law_238 : decode cL_law 238 = .ok (.aload_n 0, 1) := by decide +kernel
theorem dL_law_239 : decode cL_law 239 = .ok (.iload_n 3, 1) := by decide +kernel
theorem dL_law_240 : decode cL_law 240 = .ok (.iconst 1, 1) := by decide +kernel
theorem dL_law_241 : decode cL_law 241 = .ok (.iadd, 1) := by decide +kernel
theorem dL_law_242 : decode cL_law 242 = .ok (.iaload, 1) := by decide +kernel
theorem dL_law_243 : decode cL_law 243 = .ok (.aload_n 0, 1) := by decide +kernel
theorem dL_law_244 : decode cL_law 244 = .ok (.iload_n 3, 1) := by decide +kernel
theorem dL_law_245 : decode cL_law 245 = .ok (.iconst 2, 1) := by decide +kernel
theorem dL_law_246 : decode cL_law 246 = .ok (.iadd, 1) := by decide +kernel
theorem dL_law_247 : decode cL_law 247 = .ok (.iaload, 1) := by decide +kernel
theorem dL_law_248 : decode cL_law 248 = .ok (.aload_n 0, 1) := by decide +kernel
theorem dL_law_249 : decode cL_law 249 = .ok (.iload_n 3, 1) := by decide +kernel
theorem dL_law_250 : decode cL_law 250 = .ok (.iconst 3, 1) := by decide +kernel
theorem dL_law_251 : decode cL_law 251 = .ok (.iadd, 1) := by decide +kernel
theorem dL_law_252 : decode cL_law 252 = .ok (.iaload, 1) := by decide +kernel
theorem dL_law_253 : decode cL_law 253 = .ok (.invokevirtual 28, 3) := by decide +kernel
theorem dL_law_256 : decode cL_law 256 = .ok (.aload_n 2, 1) := by decide +kernel
theorem dL_law_257 : decode cL_law 257 = .ok (.aload_n 0, 1) := by decide +kernel
theorem dL_law_258 : decode cL_law 258 = .ok (.iload_n 3, 1) := by decide +kernel
theorem dL_law_259 : decode cL_law 259 = .ok (.iconst 1, 1) := by decide +kernel
theorem dL_law_260 : decode cL_law 260 = .ok (.iadd, 1) := by decide +kernel
theorem dL_law_261 : decode cL_law 261 = .ok (.iaload, 1) := by decide +kernel
theorem dL_law_262 : decode cL_law 262 = .ok (.aload_n 0, 1) := by decide +kernel
theorem dL_law_263 : decode cL_law 263 = .ok (.iload_n 3, 1) := by decide +kernel
theorem dL_law_264 : decode cL_law 264 = .ok (.iconst 2, 1) := by decide +kernel
theorem dL_law_265 : decode cL_law 265 = .ok (.iadd, 1) := by decide +kernel
theorem dL_law_266 : decode cL_law 266 = .ok (.iaload, 1) := by decide +kernel
theorem dL_law_267 : decode cL_law 267 = .ok (.aload_n 0, 1) := by decide +kernel
theorem dL_law_268 : decode cL_law 268 = .ok (.iload_n 3, 1) := by decide +kernel
theorem dL_law_269 : decode cL_law 269 = .ok (.iconst 3, 1) := by decide +kernel
theorem dL_law_270 : decode cL_law 270 = .ok (.iadd, 1) := by decide +kernel
theorem dL_law_271 : decode cL_law 271 = .ok (.iaload, 1) := by decide +kernel
theorem dL_law_272 : decode cL_law 272 = .ok (.invokevirtual 32, 3) := by decide +kernel
theorem dL_law_275 : decode cL_law 275 = .ok (.if_icmp .eq 934, 3) := by decide +kernel
theorem dL_law_278 : decode cL_law 278 = .ok (.iconst 0, 1) := by decide +kernel
theorem dL_law_279 : decode cL_law 279 = .ok (.ireturn, 1) := by decide +kernel
theorem dL_law_280 : decode cL_law 280 = .ok (.aload_n 1, 1) := by decide +kernel
theorem dL_law_281 : decode cL_law 281 = .ok (.aload_n 0, 1) := by decide +kernel
theorem dL_law_282 : decode cL_law 282 = .ok (.iload_n 3, 1) := by decide +kernel
theorem dL_law_283 : decode cL_law 283 = .ok (.iconst 1, 1) := by decide +kernel
theorem dL_law_284 : decode cL_law 284 = .ok (.iadd, 1) := by decide +kernel
theorem dL_law_285 : decode cL_law 285 = .ok (.iaload, 1) := by decide +kernel
theorem dL_law_286 : decode cL_law 286 = .ok (.aload_n 0, 1) := by decide +kernel
theorem dL_law_287 : decode cL_law 287 = .ok (.iload_n 3, 1) := by decide +kernel
theorem dL_law_288 : decode cL_law 288 = .ok (.iconst 2, 1) := by decide +kernel
theorem dL_law_289 : decode cL_law 289 = .ok (.iadd, 1) := by decide +kernel
theorem dL_law_290 : decode cL_law 290 = .ok (.iaload, 1) := by decide +kernel
theorem dL_law_291 : decode cL_law 291 = .ok (.aload_n 0, 1) := by decide +kernel
theorem dL_law_292 : decode cL_law 292 = .ok (.iload_n 3, 1) := by decide +kernel
theorem dL_law_293 : decode cL_law 293 = .ok (.iconst 3, 1) := by decide +kernel
theorem dL_law_294 : decode cL_law 294 = .ok (.iadd, 1) := by decide +kernel
theorem dL_law_295 : decode cL_law 295 = .ok (.iaload, 1) := by decide +kernel
theorem dL_law_296 : decode cL_law 296 = .ok (.invokevirtual 33, 3) := by decide +kernel
theorem dL_law_299 : decode cL_law 299 = .ok (.aload_n 2, 1) := by decide +kernel
theorem dL_law_300 : decode cL_law 300 = .ok (.aload_n 0, 1) := by decide +kernel
theorem dL_law_301 : decode cL_law 301 = .ok (.iload_n 3, 1) := by decide +kernel
theorem dL_law_302 : decode cL_law 302 = .ok (.iconst 1, 1) := by decide +kernel
theorem dL_law_303 : decode cL_law 303 = .ok (.iadd, 1) := by decide +kernel
theorem dL_law_304 : decode cL_law 304 = .ok (.iaload, 1) := by decide +kernel
theorem dL_law_305 : decode cL_law 305 = .ok (.aload_n 0, 1) := by decide +kernel
theorem dL_law_306 : decode cL_law 306 = .ok (.iload_n 3, 1) := by decide +kernel
theorem dL_law_307 : decode cL_law 307 = .ok (.iconst 2, 1) := by decide +kernel
theorem dL_law_308 : decode cL_law 308 = .ok (.iadd, 1) := by decide +kernel
theorem dL_law_309 : decode cL_law 309 = .ok (.iaload, 1) := by decide +kernel
theorem dL_law_310 : decode cL_law 310 = .ok (.aload_n 0, 1) := by decide +kernel
theorem dL_law_311 : decode cL_law 311 = .ok (.iload_n 3, 1) := by decide +kernel
theorem dL_law_312 : decode cL_law 312 = .ok (.iconst 3, 1) := by decide +kernel
theorem dL_law_313 : decode cL_law 313 = .ok (.iadd, 1) := by decide +kernel
theorem dL_law_314 : decode cL_law 314 = .ok (.iaload, 1) := by decide +kernel
theorem dL_law_315 : decode cL_law 315 = .ok (.invokevirtual 37, 3) := by decide +kernel
theorem dL_law_318 : decode cL_law 318 = .ok (.if_icmp .eq 891, 3) := by decide +kernel
theorem dL_law_321 : decode cL_law 321 = .ok (.iconst 0, 1) := by decide +kernel
theorem dL_law_322 : decode cL_law 322 = .ok (.ireturn, 1) := by decide +kernel
theorem dL_law_323 : decode cL_law 323 = .ok (.aload_n 1, 1) := by decide +kernel
theorem dL_law_324 : decode cL_law 324 = .ok (.aload_n 0, 1) := by decide +kernel
theorem dL_law_325 : decode cL_law 325 = .ok (.iload_n 3, 1) := by decide +kernel
theorem dL_law_326 : decode cL_law 326 = .ok (.iconst 1, 1) := by decide +kernel
theorem dL_law_327 : decode cL_law 327 = .ok (.iadd, 1) := by decide +kernel
theorem dL_law_328 : decode cL_law 328 = .ok (.iaload, 1) := by decide +kernel
theorem dL_law_329 : decode cL_law 329 = .ok (.aload_n 0, 1) := by decide +kernel
theorem dL_law_330 : decode cL_law 330 = .ok (.iload_n 3, 1) := by decide +kernel
theorem dL_law_331 : decode cL_law 331 = .ok (.iconst 2, 1) := by decide +kernel
theorem dL_law_332 : decode cL_law 332 = .ok (.iadd, 1) := by decide +kernel
theorem dL_law_333 : decode cL_law 333 = .ok (.iaload, 1) := by decide +kernel
theorem dL_law_334 : decode cL_law 334 = .ok (.invokevirtual 38, 3) := by decide +kernel
theorem dL_law_337 : decode cL_law 337 = .ok (.aload_n 2, 1) := by decide +kernel
theorem dL_law_338 : decode cL_law 338 = .ok (.aload_n 0, 1) := by decide +kernel
theorem dL_law_339 : decode cL_law 339 = .ok (.iload_n 3, 1) := by decide +kernel
theorem dL_law_340 : decode cL_law 340 = .ok (.iconst 1, 1) := by decide +kernel
theorem dL_law_341 : decode cL_law 341 = .ok (.iadd, 1) := by decide +kernel
theorem dL_law_342 : decode cL_law 342 = .ok (.iaload, 1) := by decide +kernel
theorem dL_law_343 : decode cL_law 343 = .ok (.aload_n 0, 1) := by decide +kernel
theorem dL_law_344 : decode cL_law 344 = .ok (.iload_n 3, 1) := by decide +kernel
theorem dL_law_345 : decode cL_law 345 = .ok (.iconst 2, 1) := by decide +kernel
theorem dL_law_346 : decode cL_law 346 = .ok (.iadd, 1) := by decide +kernel
theorem dL_law_347 : decode cL_law 347 = .ok (.iaload, 1) := by decide +kernel
theorem dL_law_348 : decode cL_law 348 = .ok (.invokevirtual 41, 3) := by decide +kernel
theorem dL_law_351 : decode cL_law 351 = .ok (.if_icmp .eq 858, 3) := by decide +kernel
theorem dL_law_354 : decode cL_law 354 = .ok (.iconst 0, 1) := by decide +kernel
theorem dL_law_355 : decode cL_law 355 = .ok (.ireturn, 1) := by decide +kernel
theorem dL_law_356 : decode cL_law 356 = .ok (.aload_n 1, 1) := by decide +kernel
theorem dL_law_357 : decode cL_law 357 = .ok (.aload_n 0, 1) := by decide +kernel
theorem dL_law_358 : decode cL_law 358 = .ok (.iload_n 3, 1) := by decide +kernel
theorem dL_law_359 : decode cL_law 359 = .ok (.iconst 1, 1) := by decide +kernel
theorem dL_law_360 : decode cL_law 360 = .ok (.iadd, 1) := by decide +kernel
theorem dL_law_361 : decode cL_law 361 = .ok (.iaload, 1) := by decide +kernel
theorem dL_law_362 : decode cL_law 362 = .ok (.aload_n 0, 1) := by decide +kernel
theorem dL_law_363 : decode cL_law 363 = .ok (.iload_n 3, 1) := by decide +kernel
theorem dL_law_364 : decode cL_law 364 = .ok (.iconst 2, 1) := by decide +kernel
theorem dL_law_365 : decode cL_law 365 = .ok (.iadd, 1) := by decide +kernel
theorem dL_law_366 : decode cL_law 366 = .ok (.iaload, 1) := by decide +kernel
theorem dL_law_367 : decode cL_law 367 = .ok (.aload_n 0, 1) := by decide +kernel
theorem dL_law_368 : decode cL_law 368 = .ok (.iload_n 3, 1) := by decide +kernel
theorem dL_law_369 : decode cL_law 369 = .ok (.iconst 3, 1) := by decide +kernel
theorem dL_law_370 : decode cL_law 370 = .ok (.iadd, 1) := by decide +kernel
theorem dL_law_371 : decode cL_law 371 = .ok (.iaload, 1) := by decide +kernel
theorem dL_law_372 : decode cL_law 372 = .ok (.aload_n 0, 1) := by decide +kernel
theorem dL_law_373 : decode cL_law 373 = .ok (.iload_n 3, 1) := by decide +kernel
theorem dL_law_374 : decode cL_law 374 = .ok (.iconst 4, 1) := by decide +kernel
theorem dL_law_375 : decode cL_law 375 = .ok (.iadd, 1) := by decide +kernel
theorem dL_law_376 : decode cL_law 376 = .ok (.iaload, 1) := by decide +kernel
theorem dL_law_377 : decode cL_law 377 = .ok (.ifCond .eq 7, 3) := by decide +kernel
theorem dL_law_380 : decode cL_law 380 = .ok (.iconst 1, 1) := by decide +kernel
theorem dL_law_381 : decode cL_law 381 = .ok (.goto 4, 3) := by decide +kernel
theorem dL_law_384 : decode cL_law 384 = .ok (.iconst 0, 1) := by decide +kernel
theorem dL_law_385 : decode cL_law 385 = .ok (.invokevirtual 42, 3) := by decide +kernel
theorem dL_law_388 : decode cL_law 388 = .ok (.aload_n 2, 1) := by decide +kernel
theorem dL_law_389 : decode cL_law 389 = .ok (.aload_n 0, 1) := by decide +kernel
theorem dL_law_390 : decode cL_law 390 = .ok (.iload_n 3, 1) := by decide +kernel
theorem dL_law_391 : decode cL_law 391 = .ok (.iconst 1, 1) := by decide +kernel
theorem dL_law_392 : decode cL_law 392 = .ok (.iadd, 1) := by decide +kernel
theorem dL_law_393 : decode cL_law 393 = .ok (.iaload, 1) := by decide +kernel
theorem dL_law_394 : decode cL_law 394 = .ok (.aload_n 0, 1) := by decide +kernel
theorem dL_law_395 : decode cL_law 395 = .ok (.iload_n 3, 1) := by decide +kernel
theorem dL_law_396 : decode cL_law 396 = .ok (.iconst 2, 1) := by decide +kernel
theorem dL_law_397 : decode cL_law 397 = .ok (.iadd, 1) := by decide +kernel
theorem dL_law_398 : decode cL_law 398 = .ok (.iaload, 1) := by decide +kernel
theorem dL_law_399 : decode cL_law 399 = .ok (.aload_n 0, 1) := by decide +kernel
theorem dL_law_400 : decode cL_law 400 = .ok (.iload_n 3, 1) := by decide +kernel
theorem dL_law_401 : decode cL_law 401 = .ok (.iconst 3, 1) := by decide +kernel
theorem dL_law_402 : decode cL_law 402 = .ok (.iadd, 1) := by decide +kernel
theorem dL_law_403 : decode cL_law 403 = .ok (.iaload, 1) := by decide +kernel
theorem dL_law_404 : decode cL_law 404 = .ok (.aload_n 0, 1) := by decide +kernel
theorem dL_law_405 : decode cL_law 405 = .ok (.iload_n 3, 1) := by decide +kernel
theorem dL_law_406 : decode cL_law 406 = .ok (.iconst 4, 1) := by decide +kernel
theorem dL_law_407 : decode cL_law 407 = .ok (.iadd, 1) := by decide +kernel
theorem dL_law_408 : decode cL_law 408 = .ok (.iaload, 1) := by decide +kernel
theorem dL_law_409 : decode cL_law 409 = .ok (.ifCond .eq 7, 3) := by decide +kernel
theorem dL_law_412 : decode cL_law 412 = .ok (.iconst 1, 1) := by decide +kernel
theorem dL_law_413 : decode cL_law 413 = .ok (.goto 4, 3) := by decide +kernel
theorem dL_law_416 : decode cL_law 416 = .ok (.iconst 0, 1) := by decide +kernel
theorem dL_law_417 : decode cL_law 417 = .ok (.invokevirtual 46, 3) := by decide +kernel
theorem dL_law_420 : decode cL_law 420 = .ok (.if_icmp .eq 789, 3) := by decide +kernel
theorem dL_law_423 : decode cL_law 423 = .ok (.iconst 0, 1) := by decide +kernel
theorem dL_law_424 : decode cL_law 424 = .ok (.ireturn, 1) := by decide +kernel
theorem dL_law_425 : decode cL_law 425 = .ok (.aload_n 1, 1) := by decide +kernel
theorem dL_law_426 : decode cL_law 426 = .ok (.aload_n 0, 1) := by decide +kernel
theorem dL_law_427 : decode cL_law 427 = .ok (.iload_n 3, 1) := by decide +kernel
theorem dL_law_428 : decode cL_law 428 = .ok (.iconst 1, 1) := by decide +kernel
theorem dL_law_429 : decode cL_law 429 = .ok (.iadd, 1) := by decide +kernel
theorem dL_law_430 : decode cL_law 430 = .ok (.iaload, 1) := by decide +kernel
theorem dL_law_431 : decode cL_law 431 = .ok (.aload_n 0, 1) := by decide +kernel
theorem dL_law_432 : decode cL_law 432 = .ok (.iload_n 3, 1) := by decide +kernel
theorem dL_law_433 : decode cL_law 433 = .ok (.iconst 2, 1) := by decide +kernel
theorem dL_law_434 : decode cL_law 434 = .ok (.iadd, 1) := by decide +kernel
theorem dL_law_435 : decode cL_law 435 = .ok (.iaload, 1) := by decide +kernel
theorem dL_law_436 : decode cL_law 436 = .ok (.aload_n 0, 1) := by decide +kernel
theorem dL_law_437 : decode cL_law 437 = .ok (.iload_n 3, 1) := by decide +kernel
theorem dL_law_438 : decode cL_law 438 = .ok (.iconst 3, 1) := by decide +kernel
theorem dL_law_439 : decode cL_law 439 = .ok (.iadd, 1) := by decide +kernel
theorem dL_law_440 : decode cL_law 440 = .ok (.iaload, 1) := by decide +kernel
theorem dL_law_441 : decode cL_law 441 = .ok (.invokevirtual 47, 3) := by decide +kernel
theorem dL_law_444 : decode cL_law 444 = .ok (.aload_n 2, 1) := by decide +kernel
theorem dL_law_445 : decode cL_law 445 = .ok (.aload_n 0, 1) := by decide +kernel
theorem dL_law_446 : decode cL_law 446 = .ok (.iload_n 3, 1) := by decide +kernel
theorem dL_law_447 : decode cL_law 447 = .ok (.iconst 1, 1) := by decide +kernel
theorem dL_law_448 : decode cL_law 448 = .ok (.iadd, 1) := by decide +kernel
theorem dL_law_449 : decode cL_law 449 = .ok (.iaload, 1) := by decide +kernel
theorem dL_law_450 : decode cL_law 450 = .ok (.aload_n 0, 1) := by decide +kernel
theorem dL_law_451 : decode cL_law 451 = .ok (.iload_n 3, 1) := by decide +kernel
theorem dL_law_452 : decode cL_law 452 = .ok (.iconst 2, 1) := by decide +kernel
theorem dL_law_453 : decode cL_law 453 = .ok (.iadd, 1) := by decide +kernel
theorem dL_law_454 : decode cL_law 454 = .ok (.iaload, 1) := by decide +kernel
theorem dL_law_455 : decode cL_law 455 = .ok (.aload_n 0, 1) := by decide +kernel
theorem dL_law_456 : decode cL_law 456 = .ok (.iload_n 3, 1) := by decide +kernel
theorem dL_law_457 : decode cL_law 457 = .ok (.iconst 3, 1) := by decide +kernel
theorem dL_law_458 : decode cL_law 458 = .ok (.iadd, 1) := by decide +kernel
theorem dL_law_459 : decode cL_law 459 = .ok (.iaload, 1) := by decide +kernel
theorem dL_law_460 : decode cL_law 460 = .ok (.invokevirtual 50, 3) := by decide +kernel
theorem dL_law_463 : decode cL_law 463 = .ok (.if_icmp .eq 746, 3) := by decide +kernel
theorem dL_law_466 : decode cL_law 466 = .ok (.iconst 0, 1) := by decide +kernel
theorem dL_law_467 : decode cL_law 467 = .ok (.ireturn, 1) := by decide +kernel
theorem dL_law_468 : decode cL_law 468 = .ok (.aload_n 1, 1) := by decide +kernel
theorem dL_law_469 : decode cL_law 469 = .ok (.aload_n 0, 1) := by decide +kernel
theorem dL_law_470 : decode cL_law 470 = .ok (.iload_n 3, 1) := by decide +kernel
theorem dL_law_471 : decode cL_law 471 = .ok (.iconst 1, 1) := by decide +kernel
theorem dL_law_472 : decode cL_law 472 = .ok (.iadd, 1) := by decide +kernel
theorem dL_law_473 : decode cL_law 473 = .ok (.iaload, 1) := by decide +kernel
theorem dL_law_474 : decode cL_law 474 = .ok (.aload_n 0, 1) := by decide +kernel
theorem dL_law_475 : decode cL_law 475 = .ok (.iload_n 3, 1) := by decide +kernel
theorem dL_law_476 : decode cL_law 476 = .ok (.iconst 2, 1) := by decide +kernel
theorem dL_law_477 : decode cL_law 477 = .ok (.iadd, 1) := by decide +kernel
theorem dL_law_478 : decode cL_law 478 = .ok (.iaload, 1) := by decide +kernel
theorem dL_law_479 : decode cL_law 479 = .ok (.aload_n 0, 1) := by decide +kernel
theorem dL_law_480 : decode cL_law 480 = .ok (.iload_n 3, 1) := by decide +kernel
theorem dL_law_481 : decode cL_law 481 = .ok (.iconst 3, 1) := by decide +kernel
theorem dL_law_482 : decode cL_law 482 = .ok (.iadd, 1) := by decide +kernel
theorem dL_law_483 : decode cL_law 483 = .ok (.iaload, 1) := by decide +kernel
theorem dL_law_484 : decode cL_law 484 = .ok (.invokevirtual 51, 3) := by decide +kernel
theorem dL_law_487 : decode cL_law 487 = .ok (.aload_n 2, 1) := by decide +kernel
theorem dL_law_488 : decode cL_law 488 = .ok (.aload_n 0, 1) := by decide +kernel
theorem dL_law_489 : decode cL_law 489 = .ok (.iload_n 3, 1) := by decide +kernel
theorem dL_law_490 : decode cL_law 490 = .ok (.iconst 1, 1) := by decide +kernel
theorem dL_law_491 : decode cL_law 491 = .ok (.iadd, 1) := by decide +kernel
theorem dL_law_492 : decode cL_law 492 = .ok (.iaload, 1) := by decide +kernel
theorem dL_law_493 : decode cL_law 493 = .ok (.aload_n 0, 1) := by decide +kernel
theorem dL_law_494 : decode cL_law 494 = .ok (.iload_n 3, 1) := by decide +kernel
theorem dL_law_495 : decode cL_law 495 = .ok (.iconst 2, 1) := by decide +kernel
theorem dL_law_496 : decode cL_law 496 = .ok (.iadd, 1) := by decide +kernel
theorem dL_law_497 : decode cL_law 497 = .ok (.iaload, 1) := by decide +kernel
theorem dL_law_498 : decode cL_law 498 = .ok (.aload_n 0, 1) := by decide +kernel
theorem dL_law_499 : decode cL_law 499 = .ok (.iload_n 3, 1) := by decide +kernel
theorem dL_law_500 : decode cL_law 500 = .ok (.iconst 3, 1) := by decide +kernel
theorem dL_law_501 : decode cL_law 501 = .ok (.iadd, 1) := by decide +kernel
theorem dL_law_502 : decode cL_law 502 = .ok (.iaload, 1) := by decide +kernel
theorem dL_law_503 : decode cL_law 503 = .ok (.invokevirtual 54, 3) := by decide +kernel
theorem dL_law_506 : decode cL_law 506 = .ok (.if_icmp .eq 703, 3) := by decide +kernel
theorem dL_law_509 : decode cL_law 509 = .ok (.iconst 0, 1) := by decide +kernel
theorem dL_law_510 : decode cL_law 510 = .ok (.ireturn, 1) := by decide +kernel
theorem dL_law_511 : decode cL_law 511 = .ok (.aload_n 1, 1) := by decide +kernel
theorem dL_law_512 : decode cL_law 512 = .ok (.aload_n 0, 1) := by decide +kernel
theorem dL_law_513 : decode cL_law 513 = .ok (.iload_n 3, 1) := by decide +kernel
theorem dL_law_514 : decode cL_law 514 = .ok (.iconst 1, 1) := by decide +kernel
theorem dL_law_515 : decode cL_law 515 = .ok (.iadd, 1) := by decide +kernel
theorem dL_law_516 : decode cL_law 516 = .ok (.iaload, 1) := by decide +kernel
theorem dL_law_517 : decode cL_law 517 = .ok (.aload_n 0, 1) := by decide +kernel
theorem dL_law_518 : decode cL_law 518 = .ok (.iload_n 3, 1) := by decide +kernel
theorem dL_law_519 : decode cL_law 519 = .ok (.iconst 2, 1) := by decide +kernel
theorem dL_law_520 : decode cL_law 520 = .ok (.iadd, 1) := by decide +kernel
theorem dL_law_521 : decode cL_law 521 = .ok (.iaload, 1) := by decide +kernel
theorem dL_law_522 : decode cL_law 522 = .ok (.invokevirtual 55, 3) := by decide +kernel
theorem dL_law_525 : decode cL_law 525 = .ok (.aload_n 2, 1) := by decide +kernel
theorem dL_law_526 : decode cL_law 526 = .ok (.aload_n 0, 1) := by decide +kernel
theorem dL_law_527 : decode cL_law 527 = .ok (.iload_n 3, 1) := by decide +kernel
theorem dL_law_528 : decode cL_law 528 = .ok (.iconst 1, 1) := by decide +kernel
theorem dL_law_529 : decode cL_law 529 = .ok (.iadd, 1) := by decide +kernel
theorem dL_law_530 : decode cL_law 530 = .ok (.iaload, 1) := by decide +kernel
theorem dL_law_531 : decode cL_law 531 = .ok (.aload_n 0, 1) := by decide +kernel
theorem dL_law_532 : decode cL_law 532 = .ok (.iload_n 3, 1) := by decide +kernel
theorem dL_law_533 : decode cL_law 533 = .ok (.iconst 2, 1) := by decide +kernel
theorem dL_law_534 : decode cL_law 534 = .ok (.iadd, 1) := by decide +kernel
theorem dL_law_535 : decode cL_law 535 = .ok (.iaload, 1) := by decide +kernel
theorem dL_law_536 : decode cL_law 536 = .ok (.invokevirtual 58, 3) := by decide +kernel
theorem dL_law_539 : decode cL_law 539 = .ok (.if_icmp .eq 670, 3) := by decide +kernel
theorem dL_law_542 : decode cL_law 542 = .ok (.iconst 0, 1) := by decide +kernel
theorem dL_law_543 : decode cL_law 543 = .ok (.ireturn, 1) := by decide +kernel
theorem dL_law_544 : decode cL_law 544 = .ok (.aload_n 1, 1) := by decide +kernel
theorem dL_law_545 : decode cL_law 545 = .ok (.aload_n 0, 1) := by decide +kernel
theorem dL_law_546 : decode cL_law 546 = .ok (.iload_n 3, 1) := by decide +kernel
theorem dL_law_547 : decode cL_law 547 = .ok (.iconst 1, 1) := by decide +kernel
theorem dL_law_548 : decode cL_law 548 = .ok (.iadd, 1) := by decide +kernel
theorem dL_law_549 : decode cL_law 549 = .ok (.iaload, 1) := by decide +kernel
theorem dL_law_550 : decode cL_law 550 = .ok (.aload_n 0, 1) := by decide +kernel
theorem dL_law_551 : decode cL_law 551 = .ok (.iload_n 3, 1) := by decide +kernel
theorem dL_law_552 : decode cL_law 552 = .ok (.iconst 2, 1) := by decide +kernel
theorem dL_law_553 : decode cL_law 553 = .ok (.iadd, 1) := by decide +kernel
theorem dL_law_554 : decode cL_law 554 = .ok (.iaload, 1) := by decide +kernel
theorem dL_law_555 : decode cL_law 555 = .ok (.aload_n 0, 1) := by decide +kernel
theorem dL_law_556 : decode cL_law 556 = .ok (.iload_n 3, 1) := by decide +kernel
theorem dL_law_557 : decode cL_law 557 = .ok (.iconst 3, 1) := by decide +kernel
theorem dL_law_558 : decode cL_law 558 = .ok (.iadd, 1) := by decide +kernel
theorem dL_law_559 : decode cL_law 559 = .ok (.iaload, 1) := by decide +kernel
theorem dL_law_560 : decode cL_law 560 = .ok (.invokevirtual 59, 3) := by decide +kernel
theorem dL_law_563 : decode cL_law 563 = .ok (.aload_n 2, 1) := by decide +kernel
theorem dL_law_564 : decode cL_law 564 = .ok (.aload_n 0, 1) := by decide +kernel
theorem dL_law_565 : decode cL_law 565 = .ok (.iload_n 3, 1) := by decide +kernel
theorem dL_law_566 : decode cL_law 566 = .ok (.iconst 1, 1) := by decide +kernel
theorem dL_law_567 : decode cL_law 567 = .ok (.iadd, 1) := by decide +kernel
theorem dL_law_568 : decode cL_law 568 = .ok (.iaload, 1) := by decide +kernel
theorem dL_law_569 : decode cL_law 569 = .ok (.aload_n 0, 1) := by decide +kernel
theorem dL_law_570 : decode cL_law 570 = .ok (.iload_n 3, 1) := by decide +kernel
theorem dL_law_571 : decode cL_law 571 = .ok (.iconst 2, 1) := by decide +kernel
theorem dL_law_572 : decode cL_law 572 = .ok (.iadd, 1) := by decide +kernel
theorem dL_law_573 : decode cL_law 573 = .ok (.iaload, 1) := by decide +kernel
theorem dL_law_574 : decode cL_law 574 = .ok (.aload_n 0, 1) := by decide +kernel
theorem dL_law_575 : decode cL_law 575 = .ok (.iload_n 3, 1) := by decide +kernel
theorem dL_law_576 : decode cL_law 576 = .ok (.iconst 3, 1) := by decide +kernel
theorem dL_law_577 : decode cL_law 577 = .ok (.iadd, 1) := by decide +kernel
theorem dL_law_578 : decode cL_law 578 = .ok (.iaload, 1) := by decide +kernel
theorem dL_law_579 : decode cL_law 579 = .ok (.invokevirtual 62, 3) := by decide +kernel
theorem dL_law_582 : decode cL_law 582 = .ok (.if_icmp .eq 627, 3) := by decide +kernel
theorem dL_law_585 : decode cL_law 585 = .ok (.iconst 0, 1) := by decide +kernel
theorem dL_law_586 : decode cL_law 586 = .ok (.ireturn, 1) := by decide +kernel
theorem dL_law_587 : decode cL_law 587 = .ok (.aload_n 1, 1) := by decide +kernel
theorem dL_law_588 : decode cL_law 588 = .ok (.aload_n 0, 1) := by decide +kernel
theorem dL_law_589 : decode cL_law 589 = .ok (.iload_n 3, 1) := by decide +kernel
theorem dL_law_590 : decode cL_law 590 = .ok (.iconst 1, 1) := by decide +kernel
theorem dL_law_591 : decode cL_law 591 = .ok (.iadd, 1) := by decide +kernel
theorem dL_law_592 : decode cL_law 592 = .ok (.iaload, 1) := by decide +kernel
theorem dL_law_593 : decode cL_law 593 = .ok (.aload_n 0, 1) := by decide +kernel
theorem dL_law_594 : decode cL_law 594 = .ok (.iload_n 3, 1) := by decide +kernel
theorem dL_law_595 : decode cL_law 595 = .ok (.iconst 2, 1) := by decide +kernel
theorem dL_law_596 : decode cL_law 596 = .ok (.iadd, 1) := by decide +kernel
theorem dL_law_597 : decode cL_law 597 = .ok (.iaload, 1) := by decide +kernel
theorem dL_law_598 : decode cL_law 598 = .ok (.aload_n 0, 1) := by decide +kernel
theorem dL_law_599 : decode cL_law 599 = .ok (.iload_n 3, 1) := by decide +kernel
theorem dL_law_600 : decode cL_law 600 = .ok (.iconst 3, 1) := by decide +kernel
theorem dL_law_601 : decode cL_law 601 = .ok (.iadd, 1) := by decide +kernel
theorem dL_law_602 : decode cL_law 602 = .ok (.iaload, 1) := by decide +kernel
theorem dL_law_603 : decode cL_law 603 = .ok (.aload_n 0, 1) := by decide +kernel
theorem dL_law_604 : decode cL_law 604 = .ok (.iload_n 3, 1) := by decide +kernel
theorem dL_law_605 : decode cL_law 605 = .ok (.iconst 4, 1) := by decide +kernel
theorem dL_law_606 : decode cL_law 606 = .ok (.iadd, 1) := by decide +kernel
theorem dL_law_607 : decode cL_law 607 = .ok (.iaload, 1) := by decide +kernel
theorem dL_law_608 : decode cL_law 608 = .ok (.invokevirtual 63, 3) := by decide +kernel
theorem dL_law_611 : decode cL_law 611 = .ok (.aload_n 2, 1) := by decide +kernel
theorem dL_law_612 : decode cL_law 612 = .ok (.aload_n 0, 1) := by decide +kernel
theorem dL_law_613 : decode cL_law 613 = .ok (.iload_n 3, 1) := by decide +kernel
theorem dL_law_614 : decode cL_law 614 = .ok (.iconst 1, 1) := by decide +kernel
theorem dL_law_615 : decode cL_law 615 = .ok (.iadd, 1) := by decide +kernel
theorem dL_law_616 : decode cL_law 616 = .ok (.iaload, 1) := by decide +kernel
theorem dL_law_617 : decode cL_law 617 = .ok (.aload_n 0, 1) := by decide +kernel
theorem dL_law_618 : decode cL_law 618 = .ok (.iload_n 3, 1) := by decide +kernel
theorem dL_law_619 : decode cL_law 619 = .ok (.iconst 2, 1) := by decide +kernel
theorem dL_law_620 : decode cL_law 620 = .ok (.iadd, 1) := by decide +kernel
theorem dL_law_621 : decode cL_law 621 = .ok (.iaload, 1) := by decide +kernel
theorem dL_law_622 : decode cL_law 622 = .ok (.aload_n 0, 1) := by decide +kernel
theorem dL_law_623 : decode cL_law 623 = .ok (.iload_n 3, 1) := by decide +kernel
theorem dL_law_624 : decode cL_law 624 = .ok (.iconst 3, 1) := by decide +kernel
theorem dL_law_625 : decode cL_law 625 = .ok (.iadd, 1) := by decide +kernel
theorem dL_law_626 : decode cL_law 626 = .ok (.iaload, 1) := by decide +kernel
theorem dL_law_627 : decode cL_law 627 = .ok (.aload_n 0, 1) := by decide +kernel
theorem dL_law_628 : decode cL_law 628 = .ok (.iload_n 3, 1) := by decide +kernel
theorem dL_law_629 : decode cL_law 629 = .ok (.iconst 4, 1) := by decide +kernel
theorem dL_law_630 : decode cL_law 630 = .ok (.iadd, 1) := by decide +kernel
theorem dL_law_631 : decode cL_law 631 = .ok (.iaload, 1) := by decide +kernel
theorem dL_law_632 : decode cL_law 632 = .ok (.invokevirtual 67, 3) := by decide +kernel
theorem dL_law_635 : decode cL_law 635 = .ok (.if_icmp .eq 574, 3) := by decide +kernel
theorem dL_law_638 : decode cL_law 638 = .ok (.iconst 0, 1) := by decide +kernel
theorem dL_law_639 : decode cL_law 639 = .ok (.ireturn, 1) := by decide +kernel
theorem dL_law_640 : decode cL_law 640 = .ok (.aload_n 1, 1) := by decide +kernel
theorem dL_law_641 : decode cL_law 641 = .ok (.aload_n 0, 1) := by decide +kernel
theorem dL_law_642 : decode cL_law 642 = .ok (.iload_n 3, 1) := by decide +kernel
theorem dL_law_643 : decode cL_law 643 = .ok (.iconst 1, 1) := by decide +kernel
theorem dL_law_644 : decode cL_law 644 = .ok (.iadd, 1) := by decide +kernel
theorem dL_law_645 : decode cL_law 645 = .ok (.iaload, 1) := by decide +kernel
theorem dL_law_646 : decode cL_law 646 = .ok (.aload_n 0, 1) := by decide +kernel
theorem dL_law_647 : decode cL_law 647 = .ok (.iload_n 3, 1) := by decide +kernel
theorem dL_law_648 : decode cL_law 648 = .ok (.iconst 2, 1) := by decide +kernel
theorem dL_law_649 : decode cL_law 649 = .ok (.iadd, 1) := by decide +kernel
theorem dL_law_650 : decode cL_law 650 = .ok (.iaload, 1) := by decide +kernel
theorem dL_law_651 : decode cL_law 651 = .ok (.aload_n 0, 1) := by decide +kernel
theorem dL_law_652 : decode cL_law 652 = .ok (.iload_n 3, 1) := by decide +kernel
theorem dL_law_653 : decode cL_law 653 = .ok (.iconst 3, 1) := by decide +kernel
theorem dL_law_654 : decode cL_law 654 = .ok (.iadd, 1) := by decide +kernel
theorem dL_law_655 : decode cL_law 655 = .ok (.iaload, 1) := by decide +kernel
theorem dL_law_656 : decode cL_law 656 = .ok (.aload_n 0, 1) := by decide +kernel
theorem dL_law_657 : decode cL_law 657 = .ok (.iload_n 3, 1) := by decide +kernel
theorem dL_law_658 : decode cL_law 658 = .ok (.iconst 4, 1) := by decide +kernel
theorem dL_law_659 : decode cL_law 659 = .ok (.iadd, 1) := by decide +kernel
theorem dL_law_660 : decode cL_law 660 = .ok (.iaload, 1) := by decide +kernel
theorem dL_law_661 : decode cL_law 661 = .ok (.aload_n 0, 1) := by decide +kernel
theorem dL_law_662 : decode cL_law 662 = .ok (.iload_n 3, 1) := by decide +kernel
theorem dL_law_663 : decode cL_law 663 = .ok (.iconst 5, 1) := by decide +kernel
theorem dL_law_664 : decode cL_law 664 = .ok (.iadd, 1) := by decide +kernel
theorem dL_law_665 : decode cL_law 665 = .ok (.iaload, 1) := by decide +kernel
theorem dL_law_666 : decode cL_law 666 = .ok (.invokevirtual 68, 3) := by decide +kernel
theorem dL_law_669 : decode cL_law 669 = .ok (.aload_n 2, 1) := by decide +kernel
theorem dL_law_670 : decode cL_law 670 = .ok (.aload_n 0, 1) := by decide +kernel
theorem dL_law_671 : decode cL_law 671 = .ok (.iload_n 3, 1) := by decide +kernel
theorem dL_law_672 : decode cL_law 672 = .ok (.iconst 1, 1) := by decide +kernel
theorem dL_law_673 : decode cL_law 673 = .ok (.iadd, 1) := by decide +kernel
theorem dL_law_674 : decode cL_law 674 = .ok (.iaload, 1) := by decide +kernel
theorem dL_law_675 : decode cL_law 675 = .ok (.aload_n 0, 1) := by decide +kernel
theorem dL_law_676 : decode cL_law 676 = .ok (.iload_n 3, 1) := by decide +kernel
theorem dL_law_677 : decode cL_law 677 = .ok (.iconst 2, 1) := by decide +kernel
theorem dL_law_678 : decode cL_law 678 = .ok (.iadd, 1) := by decide +kernel
theorem dL_law_679 : decode cL_law 679 = .ok (.iaload, 1) := by decide +kernel
theorem dL_law_680 : decode cL_law 680 = .ok (.aload_n 0, 1) := by decide +kernel
theorem dL_law_681 : decode cL_law 681 = .ok (.iload_n 3, 1) := by decide +kernel
theorem dL_law_682 : decode cL_law 682 = .ok (.iconst 3, 1) := by decide +kernel
theorem dL_law_683 : decode cL_law 683 = .ok (.iadd, 1) := by decide +kernel
theorem dL_law_684 : decode cL_law 684 = .ok (.iaload, 1) := by decide +kernel
theorem dL_law_685 : decode cL_law 685 = .ok (.aload_n 0, 1) := by decide +kernel
theorem dL_law_686 : decode cL_law 686 = .ok (.iload_n 3, 1) := by decide +kernel
theorem dL_law_687 : decode cL_law 687 = .ok (.iconst 4, 1) := by decide +kernel
theorem dL_law_688 : decode cL_law 688 = .ok (.iadd, 1) := by decide +kernel
theorem dL_law_689 : decode cL_law 689 = .ok (.iaload, 1) := by decide +kernel
theorem dL_law_690 : decode cL_law 690 = .ok (.aload_n 0, 1) := by decide +kernel
theorem dL_law_691 : decode cL_law 691 = .ok (.iload_n 3, 1) := by decide +kernel
theorem dL_law_692 : decode cL_law 692 = .ok (.iconst 5, 1) := by decide +kernel
theorem dL_law_693 : decode cL_law 693 = .ok (.iadd, 1) := by decide +kernel
theorem dL_law_694 : decode cL_law 694 = .ok (.iaload, 1) := by decide +kernel
theorem dL_law_695 : decode cL_law 695 = .ok (.invokevirtual 72, 3) := by decide +kernel
theorem dL_law_698 : decode cL_law 698 = .ok (.if_icmp .eq 511, 3) := by decide +kernel
theorem dL_law_701 : decode cL_law 701 = .ok (.iconst 0, 1) := by decide +kernel
theorem dL_law_702 : decode cL_law 702 = .ok (.ireturn, 1) := by decide +kernel
theorem dL_law_703 : decode cL_law 703 = .ok (.aload_n 1, 1) := by decide +kernel
theorem dL_law_704 : decode cL_law 704 = .ok (.aload_n 0, 1) := by decide +kernel
theorem dL_law_705 : decode cL_law 705 = .ok (.iload_n 3, 1) := by decide +kernel
theorem dL_law_706 : decode cL_law 706 = .ok (.iconst 1, 1) := by decide +kernel
theorem dL_law_707 : decode cL_law 707 = .ok (.iadd, 1) := by decide +kernel
theorem dL_law_708 : decode cL_law 708 = .ok (.iaload, 1) := by decide +kernel
theorem dL_law_709 : decode cL_law 709 = .ok (.aload_n 0, 1) := by decide +kernel
theorem dL_law_710 : decode cL_law 710 = .ok (.iload_n 3, 1) := by decide +kernel
theorem dL_law_711 : decode cL_law 711 = .ok (.iconst 2, 1) := by decide +kernel
theorem dL_law_712 : decode cL_law 712 = .ok (.iadd, 1) := by decide +kernel
theorem dL_law_713 : decode cL_law 713 = .ok (.iaload, 1) := by decide +kernel
theorem dL_law_714 : decode cL_law 714 = .ok (.aload_n 0, 1) := by decide +kernel
theorem dL_law_715 : decode cL_law 715 = .ok (.iload_n 3, 1) := by decide +kernel
theorem dL_law_716 : decode cL_law 716 = .ok (.iconst 3, 1) := by decide +kernel
theorem dL_law_717 : decode cL_law 717 = .ok (.iadd, 1) := by decide +kernel
theorem dL_law_718 : decode cL_law 718 = .ok (.iaload, 1) := by decide +kernel
theorem dL_law_719 : decode cL_law 719 = .ok (.aload_n 0, 1) := by decide +kernel
theorem dL_law_720 : decode cL_law 720 = .ok (.iload_n 3, 1) := by decide +kernel
theorem dL_law_721 : decode cL_law 721 = .ok (.iconst 4, 1) := by decide +kernel
theorem dL_law_722 : decode cL_law 722 = .ok (.iadd, 1) := by decide +kernel
theorem dL_law_723 : decode cL_law 723 = .ok (.iaload, 1) := by decide +kernel
theorem dL_law_724 : decode cL_law 724 = .ok (.invokevirtual 73, 3) := by decide +kernel
theorem dL_law_727 : decode cL_law 727 = .ok (.aload_n 2, 1) := by decide +kernel
theorem dL_law_728 : decode cL_law 728 = .ok (.aload_n 0, 1) := by decide +kernel
theorem dL_law_729 : decode cL_law 729 = .ok (.iload_n 3, 1) := by decide +kernel
theorem dL_law_730 : decode cL_law 730 = .ok (.iconst 1, 1) := by decide +kernel
theorem dL_law_731 : decode cL_law 731 = .ok (.iadd, 1) := by decide +kernel
theorem dL_law_732 : decode cL_law 732 = .ok (.iaload, 1) := by decide +kernel
theorem dL_law_733 : decode cL_law 733 = .ok (.aload_n 0, 1) := by decide +kernel
theorem dL_law_734 : decode cL_law 734 = .ok (.iload_n 3, 1) := by decide +kernel
theorem dL_law_735 : decode cL_law 735 = .ok (.iconst 2, 1) := by decide +kernel
theorem dL_law_736 : decode cL_law 736 = .ok (.iadd, 1) := by decide +kernel
theorem dL_law_737 : decode cL_law 737 = .ok (.iaload, 1) := by decide +kernel
theorem dL_law_738 : decode cL_law 738 = .ok (.aload_n 0, 1) := by decide +kernel
theorem dL_law_739 : decode cL_law 739 = .ok (.iload_n 3, 1) := by decide +kernel
theorem dL_law_740 : decode cL_law 740 = .ok (.iconst 3, 1) := by decide +kernel
theorem dL_law_741 : decode cL_law 741 = .ok (.iadd, 1) := by decide +kernel
theorem dL_law_742 : decode cL_law 742 = .ok (.iaload, 1) := by decide +kernel
theorem dL_law_743 : decode cL_law 743 = .ok (.aload_n 0, 1) := by decide +kernel
theorem dL_law_744 : decode cL_law 744 = .ok (.iload_n 3, 1) := by decide +kernel
theorem dL_law_745 : decode cL_law 745 = .ok (.iconst 4, 1) := by decide +kernel
theorem dL_law_746 : decode cL_law 746 = .ok (.iadd, 1) := by decide +kernel
theorem dL_law_747 : decode cL_law 747 = .ok (.iaload, 1) := by decide +kernel
theorem dL_law_748 : decode cL_law 748 = .ok (.invokevirtual 76, 3) := by decide +kernel
theorem dL_law_751 : decode cL_law 751 = .ok (.if_icmp .eq 458, 3) := by decide +kernel
theorem dL_law_754 : decode cL_law 754 = .ok (.iconst 0, 1) := by decide +kernel
theorem dL_law_755 : decode cL_law 755 = .ok (.ireturn, 1) := by decide +kernel
theorem dL_law_756 : decode cL_law 756 = .ok (.aload_n 1, 1) := by decide +kernel
theorem dL_law_757 : decode cL_law 757 = .ok (.aload_n 0, 1) := by decide +kernel
theorem dL_law_758 : decode cL_law 758 = .ok (.iload_n 3, 1) := by decide +kernel
theorem dL_law_759 : decode cL_law 759 = .ok (.iconst 1, 1) := by decide +kernel
theorem dL_law_760 : decode cL_law 760 = .ok (.iadd, 1) := by decide +kernel
theorem dL_law_761 : decode cL_law 761 = .ok (.iaload, 1) := by decide +kernel
theorem dL_law_762 : decode cL_law 762 = .ok (.aload_n 0, 1) := by decide +kernel
theorem dL_law_763 : decode cL_law 763 = .ok (.iload_n 3, 1) := by decide +kernel
theorem dL_law_764 : decode cL_law 764 = .ok (.iconst 2, 1) := by decide +kernel
theorem dL_law_765 : decode cL_law 765 = .ok (.iadd, 1) := by decide +kernel
theorem dL_law_766 : decode cL_law 766 = .ok (.iaload, 1) := by decide +kernel
theorem dL_law_767 : decode cL_law 767 = .ok (.aload_n 0, 1) := by decide +kernel
theorem dL_law_768 : decode cL_law 768 = .ok (.iload_n 3, 1) := by decide +kernel
theorem dL_law_769 : decode cL_law 769 = .ok (.iconst 3, 1) := by decide +kernel
theorem dL_law_770 : decode cL_law 770 = .ok (.iadd, 1) := by decide +kernel
theorem dL_law_771 : decode cL_law 771 = .ok (.iaload, 1) := by decide +kernel
theorem dL_law_772 : decode cL_law 772 = .ok (.aload_n 0, 1) := by decide +kernel
theorem dL_law_773 : decode cL_law 773 = .ok (.iload_n 3, 1) := by decide +kernel
theorem dL_law_774 : decode cL_law 774 = .ok (.iconst 4, 1) := by decide +kernel
theorem dL_law_775 : decode cL_law 775 = .ok (.iadd, 1) := by decide +kernel
theorem dL_law_776 : decode cL_law 776 = .ok (.iaload, 1) := by decide +kernel
theorem dL_law_777 : decode cL_law 777 = .ok (.invokevirtual 77, 3) := by decide +kernel
theorem dL_law_780 : decode cL_law 780 = .ok (.aload_n 2, 1) := by decide +kernel
theorem dL_law_781 : decode cL_law 781 = .ok (.aload_n 0, 1) := by decide +kernel
theorem dL_law_782 : decode cL_law 782 = .ok (.iload_n 3, 1) := by decide +kernel
theorem dL_law_783 : decode cL_law 783 = .ok (.iconst 1, 1) := by decide +kernel
theorem dL_law_784 : decode cL_law 784 = .ok (.iadd, 1) := by decide +kernel
theorem dL_law_785 : decode cL_law 785 = .ok (.iaload, 1) := by decide +kernel
theorem dL_law_786 : decode cL_law 786 = .ok (.aload_n 0, 1) := by decide +kernel
theorem dL_law_787 : decode cL_law 787 = .ok (.iload_n 3, 1) := by decide +kernel
theorem dL_law_788 : decode cL_law 788 = .ok (.iconst 2, 1) := by decide +kernel
theorem dL_law_789 : decode cL_law 789 = .ok (.iadd, 1) := by decide +kernel
theorem dL_law_790 : decode cL_law 790 = .ok (.iaload, 1) := by decide +kernel
theorem dL_law_791 : decode cL_law 791 = .ok (.aload_n 0, 1) := by decide +kernel
theorem dL_law_792 : decode cL_law 792 = .ok (.iload_n 3, 1) := by decide +kernel
theorem dL_law_793 : decode cL_law 793 = .ok (.iconst 3, 1) := by decide +kernel
theorem dL_law_794 : decode cL_law 794 = .ok (.iadd, 1) := by decide +kernel
theorem dL_law_795 : decode cL_law 795 = .ok (.iaload, 1) := by decide +kernel
theorem dL_law_796 : decode cL_law 796 = .ok (.aload_n 0, 1) := by decide +kernel
theorem dL_law_797 : decode cL_law 797 = .ok (.iload_n 3, 1) := by decide +kernel
theorem dL_law_798 : decode cL_law 798 = .ok (.iconst 4, 1) := by decide +kernel
theorem dL_law_799 : decode cL_law 799 = .ok (.iadd, 1) := by decide +kernel
theorem dL_law_800 : decode cL_law 800 = .ok (.iaload, 1) := by decide +kernel
theorem dL_law_801 : decode cL_law 801 = .ok (.invokevirtual 80, 3) := by decide +kernel
theorem dL_law_804 : decode cL_law 804 = .ok (.if_icmp .eq 405, 3) := by decide +kernel
theorem dL_law_807 : decode cL_law 807 = .ok (.iconst 0, 1) := by decide +kernel
theorem dL_law_808 : decode cL_law 808 = .ok (.ireturn, 1) := by decide +kernel
theorem dL_law_809 : decode cL_law 809 = .ok (.aload_n 1, 1) := by decide +kernel
theorem dL_law_810 : decode cL_law 810 = .ok (.aload_n 0, 1) := by decide +kernel
theorem dL_law_811 : decode cL_law 811 = .ok (.iload_n 3, 1) := by decide +kernel
theorem dL_law_812 : decode cL_law 812 = .ok (.iconst 1, 1) := by decide +kernel
theorem dL_law_813 : decode cL_law 813 = .ok (.iadd, 1) := by decide +kernel
theorem dL_law_814 : decode cL_law 814 = .ok (.iaload, 1) := by decide +kernel
theorem dL_law_815 : decode cL_law 815 = .ok (.aload_n 0, 1) := by decide +kernel
theorem dL_law_816 : decode cL_law 816 = .ok (.iload_n 3, 1) := by decide +kernel
theorem dL_law_817 : decode cL_law 817 = .ok (.iconst 2, 1) := by decide +kernel
theorem dL_law_818 : decode cL_law 818 = .ok (.iadd, 1) := by decide +kernel
theorem dL_law_819 : decode cL_law 819 = .ok (.iaload, 1) := by decide +kernel
theorem dL_law_820 : decode cL_law 820 = .ok (.aload_n 0, 1) := by decide +kernel
theorem dL_law_821 : decode cL_law 821 = .ok (.iload_n 3, 1) := by decide +kernel
theorem dL_law_822 : decode cL_law 822 = .ok (.iconst 3, 1) := by decide +kernel
theorem dL_law_823 : decode cL_law 823 = .ok (.iadd, 1) := by decide +kernel
theorem dL_law_824 : decode cL_law 824 = .ok (.iaload, 1) := by decide +kernel
theorem dL_law_825 : decode cL_law 825 = .ok (.invokevirtual 81, 3) := by decide +kernel
theorem dL_law_828 : decode cL_law 828 = .ok (.aload_n 2, 1) := by decide +kernel
theorem dL_law_829 : decode cL_law 829 = .ok (.aload_n 0, 1) := by decide +kernel
theorem dL_law_830 : decode cL_law 830 = .ok (.iload_n 3, 1) := by decide +kernel
theorem dL_law_831 : decode cL_law 831 = .ok (.iconst 1, 1) := by decide +kernel
theorem dL_law_832 : decode cL_law 832 = .ok (.iadd, 1) := by decide +kernel
theorem dL_law_833 : decode cL_law 833 = .ok (.iaload, 1) := by decide +kernel
theorem dL_law_834 : decode cL_law 834 = .ok (.aload_n 0, 1) := by decide +kernel
theorem dL_law_835 : decode cL_law 835 = .ok (.iload_n 3, 1) := by decide +kernel
theorem dL_law_836 : decode cL_law 836 = .ok (.iconst 2, 1) := by decide +kernel
theorem dL_law_837 : decode cL_law 837 = .ok (.iadd, 1) := by decide +kernel
theorem dL_law_838 : decode cL_law 838 = .ok (.iaload, 1) := by decide +kernel
theorem dL_law_839 : decode cL_law 839 = .ok (.aload_n 0, 1) := by decide +kernel
theorem dL_law_840 : decode cL_law 840 = .ok (.iload_n 3, 1) := by decide +kernel
theorem dL_law_841 : decode cL_law 841 = .ok (.iconst 3, 1) := by decide +kernel
theorem dL_law_842 : decode cL_law 842 = .ok (.iadd, 1) := by decide +kernel
theorem dL_law_843 : decode cL_law 843 = .ok (.iaload, 1) := by decide +kernel
theorem dL_law_844 : decode cL_law 844 = .ok (.invokevirtual 84, 3) := by decide +kernel
theorem dL_law_847 : decode cL_law 847 = .ok (.if_icmp .eq 362, 3) := by decide +kernel
theorem dL_law_850 : decode cL_law 850 = .ok (.iconst 0, 1) := by decide +kernel
theorem dL_law_851 : decode cL_law 851 = .ok (.ireturn, 1) := by decide +kernel
theorem dL_law_852 : decode cL_law 852 = .ok (.aload_n 1, 1) := by decide +kernel
theorem dL_law_853 : decode cL_law 853 = .ok (.aload_n 0, 1) := by decide +kernel
theorem dL_law_854 : decode cL_law 854 = .ok (.iload_n 3, 1) := by decide +kernel
theorem dL_law_855 : decode cL_law 855 = .ok (.iconst 1, 1) := by decide +kernel
theorem dL_law_856 : decode cL_law 856 = .ok (.iadd, 1) := by decide +kernel
theorem dL_law_857 : decode cL_law 857 = .ok (.iaload, 1) := by decide +kernel
theorem dL_law_858 : decode cL_law 858 = .ok (.aload_n 0, 1) := by decide +kernel
theorem dL_law_859 : decode cL_law 859 = .ok (.iload_n 3, 1) := by decide +kernel
theorem dL_law_860 : decode cL_law 860 = .ok (.iconst 2, 1) := by decide +kernel
theorem dL_law_861 : decode cL_law 861 = .ok (.iadd, 1) := by decide +kernel
theorem dL_law_862 : decode cL_law 862 = .ok (.iaload, 1) := by decide +kernel
theorem dL_law_863 : decode cL_law 863 = .ok (.aload_n 0, 1) := by decide +kernel
theorem dL_law_864 : decode cL_law 864 = .ok (.iload_n 3, 1) := by decide +kernel
theorem dL_law_865 : decode cL_law 865 = .ok (.iconst 3, 1) := by decide +kernel
theorem dL_law_866 : decode cL_law 866 = .ok (.iadd, 1) := by decide +kernel
theorem dL_law_867 : decode cL_law 867 = .ok (.iaload, 1) := by decide +kernel
theorem dL_law_868 : decode cL_law 868 = .ok (.aload_n 0, 1) := by decide +kernel
theorem dL_law_869 : decode cL_law 869 = .ok (.iload_n 3, 1) := by decide +kernel
theorem dL_law_870 : decode cL_law 870 = .ok (.iconst 4, 1) := by decide +kernel
theorem dL_law_871 : decode cL_law 871 = .ok (.iadd, 1) := by decide +kernel
theorem dL_law_872 : decode cL_law 872 = .ok (.iaload, 1) := by decide +kernel
theorem dL_law_873 : decode cL_law 873 = .ok (.aload_n 0, 1) := by decide +kernel
theorem dL_law_874 : decode cL_law 874 = .ok (.iload_n 3, 1) := by decide +kernel
theorem dL_law_875 : decode cL_law 875 = .ok (.iconst 5, 1) := by decide +kernel
theorem dL_law_876 : decode cL_law 876 = .ok (.iadd, 1) := by decide +kernel
theorem dL_law_877 : decode cL_law 877 = .ok (.iaload, 1) := by decide +kernel
theorem dL_law_878 : decode cL_law 878 = .ok (.invokevirtual 85, 3) := by decide +kernel
theorem dL_law_881 : decode cL_law 881 = .ok (.aload_n 2, 1) := by decide +kernel
theorem dL_law_882 : decode cL_law 882 = .ok (.aload_n 0, 1) := by decide +kernel
theorem dL_law_883 : decode cL_law 883 = .ok (.iload_n 3, 1) := by decide +kernel
theorem dL_law_884 : decode cL_law 884 = .ok (.iconst 1, 1) := by decide +kernel
theorem dL_law_885 : decode cL_law 885 = .ok (.iadd, 1) := by decide +kernel
theorem dL_law_886 : decode cL_law 886 = .ok (.iaload, 1) := by decide +kernel
theorem dL_law_887 : decode cL_law 887 = .ok (.aload_n 0, 1) := by decide +kernel
theorem dL_law_888 : decode cL_law 888 = .ok (.iload_n 3, 1) := by decide +kernel
theorem dL_law_889 : decode cL_law 889 = .ok (.iconst 2, 1) := by decide +kernel
theorem dL_law_890 : decode cL_law 890 = .ok (.iadd, 1) := by decide +kernel
theorem dL_law_891 : decode cL_law 891 = .ok (.iaload, 1) := by decide +kernel
theorem dL_law_892 : decode cL_law 892 = .ok (.aload_n 0, 1) := by decide +kernel
theorem dL_law_893 : decode cL_law 893 = .ok (.iload_n 3, 1) := by decide +kernel
theorem dL_law_894 : decode cL_law 894 = .ok (.iconst 3, 1) := by decide +kernel
theorem dL_law_895 : decode cL_law 895 = .ok (.iadd, 1) := by decide +kernel
theorem dL_law_896 : decode cL_law 896 = .ok (.iaload, 1) := by decide +kernel
theorem dL_law_897 : decode cL_law 897 = .ok (.aload_n 0, 1) := by decide +kernel
theorem dL_law_898 : decode cL_law 898 = .ok (.iload_n 3, 1) := by decide +kernel
theorem dL_law_899 : decode cL_law 899 = .ok (.iconst 4, 1) := by decide +kernel
theorem dL_law_900 : decode cL_law 900 = .ok (.iadd, 1) := by decide +kernel
theorem dL_law_901 : decode cL_law 901 = .ok (.iaload, 1) := by decide +kernel
theorem dL_law_902 : decode cL_law 902 = .ok (.aload_n 0, 1) := by decide +kernel
theorem dL_law_903 : decode cL_law 903 = .ok (.iload_n 3, 1) := by decide +kernel
theorem dL_law_904 : decode cL_law 904 = .ok (.iconst 5, 1) := by decide +kernel
theorem dL_law_905 : decode cL_law 905 = .ok (.iadd, 1) := by decide +kernel
theorem dL_law_906 : decode cL_law 906 = .ok (.iaload, 1) := by decide +kernel
theorem dL_law_907 : decode cL_law 907 = .ok (.invokevirtual 88, 3) := by decide +kernel
theorem dL_law_910 : decode cL_law 910 = .ok (.if_icmp .eq 299, 3) := by decide +kernel
theorem dL_law_913 : decode cL_law 913 = .ok (.iconst 0, 1) := by decide +kernel
theorem dL_law_914 : decode cL_law 914 = .ok (.ireturn, 1) := by decide +kernel
theorem dL_law_915 : decode cL_law 915 = .ok (.aload_n 1, 1) := by decide +kernel
theorem dL_law_916 : decode cL_law 916 = .ok (.aload_n 0, 1) := by decide +kernel
theorem dL_law_917 : decode cL_law 917 = .ok (.iload_n 3, 1) := by decide +kernel
theorem dL_law_918 : decode cL_law 918 = .ok (.iconst 1, 1) := by decide +kernel
theorem dL_law_919 : decode cL_law 919 = .ok (.iadd, 1) := by decide +kernel
theorem dL_law_920 : decode cL_law 920 = .ok (.iaload, 1) := by decide +kernel
theorem dL_law_921 : decode cL_law 921 = .ok (.aload_n 0, 1) := by decide +kernel
theorem dL_law_922 : decode cL_law 922 = .ok (.iload_n 3, 1) := by decide +kernel
theorem dL_law_923 : decode cL_law 923 = .ok (.iconst 2, 1) := by decide +kernel
theorem dL_law_924 : decode cL_law 924 = .ok (.iadd, 1) := by decide +kernel
theorem dL_law_925 : decode cL_law 925 = .ok (.iaload, 1) := by decide +kernel
theorem dL_law_926 : decode cL_law 926 = .ok (.aload_n 0, 1) := by decide +kernel
theorem dL_law_927 : decode cL_law 927 = .ok (.iload_n 3, 1) := by decide +kernel
theorem dL_law_928 : decode cL_law 928 = .ok (.iconst 3, 1) := by decide +kernel
theorem dL_law_929 : decode cL_law 929 = .ok (.iadd, 1) := by decide +kernel
theorem dL_law_930 : decode cL_law 930 = .ok (.iaload, 1) := by decide +kernel
theorem dL_law_931 : decode cL_law 931 = .ok (.aload_n 0, 1) := by decide +kernel
theorem dL_law_932 : decode cL_law 932 = .ok (.iload_n 3, 1) := by decide +kernel
theorem dL_law_933 : decode cL_law 933 = .ok (.iconst 4, 1) := by decide +kernel
theorem dL_law_934 : decode cL_law 934 = .ok (.iadd, 1) := by decide +kernel
theorem dL_law_935 : decode cL_law 935 = .ok (.iaload, 1) := by decide +kernel
theorem dL_law_936 : decode cL_law 936 = .ok (.invokevirtual 89, 3) := by decide +kernel
theorem dL_law_939 : decode cL_law 939 = .ok (.aload_n 2, 1) := by decide +kernel
theorem dL_law_940 : decode cL_law 940 = .ok (.aload_n 0, 1) := by decide +kernel
theorem dL_law_941 : decode cL_law 941 = .ok (.iload_n 3, 1) := by decide +kernel
theorem dL_law_942 : decode cL_law 942 = .ok (.iconst 1, 1) := by decide +kernel
theorem dL_law_943 : decode cL_law 943 = .ok (.iadd, 1) := by decide +kernel
theorem dL_law_944 : decode cL_law 944 = .ok (.iaload, 1) := by decide +kernel
theorem dL_law_945 : decode cL_law 945 = .ok (.aload_n 0, 1) := by decide +kernel
theorem dL_law_946 : decode cL_law 946 = .ok (.iload_n 3, 1) := by decide +kernel
theorem dL_law_947 : decode cL_law 947 = .ok (.iconst 2, 1) := by decide +kernel
theorem dL_law_948 : decode cL_law 948 = .ok (.iadd, 1) := by decide +kernel
theorem dL_law_949 : decode cL_law 949 = .ok (.iaload, 1) := by decide +kernel
theorem dL_law_950 : decode cL_law 950 = .ok (.aload_n 0, 1) := by decide +kernel
theorem dL_law_951 : decode cL_law 951 = .ok (.iload_n 3, 1) := by decide +kernel
theorem dL_law_952 : decode cL_law 952 = .ok (.iconst 3, 1) := by decide +kernel
theorem dL_law_953 : decode cL_law 953 = .ok (.iadd, 1) := by decide +kernel
theorem dL_law_954 : decode cL_law 954 = .ok (.iaload, 1) := by decide +kernel
theorem dL_law_955 : decode cL_law 955 = .ok (.aload_n 0, 1) := by decide +kernel
theorem dL_law_956 : decode cL_law 956 = .ok (.iload_n 3, 1) := by decide +kernel
theorem dL_law_957 : decode cL_law 957 = .ok (.iconst 4, 1) := by decide +kernel
theorem dL_law_958 : decode cL_law 958 = .ok (.iadd, 1) := by decide +kernel
theorem dL_law_959 : decode cL_law 959 = .ok (.iaload, 1) := by decide +kernel
theorem dL_law_960 : decode cL_law 960 = .ok (.invokevirtual 92, 3) := by decide +kernel
theorem dL_law_963 : decode cL_law 963 = .ok (.if_icmp .eq 246, 3) := by decide +kernel
theorem dL_law_966 : decode cL_law 966 = .ok (.iconst 0, 1) := by decide +kernel
theorem dL_law_967 : decode cL_law 967 = .ok (.ireturn, 1) := by decide +kernel
theorem dL_law_968 : decode cL_law 968 = .ok (.aload_n 1, 1) := by decide +kernel
theorem dL_law_969 : decode cL_law 969 = .ok (.aload_n 0, 1) := by decide +kernel
theorem dL_law_970 : decode cL_law 970 = .ok (.iload_n 3, 1) := by decide +kernel
theorem dL_law_971 : decode cL_law 971 = .ok (.iconst 1, 1) := by decide +kernel
theorem dL_law_972 : decode cL_law 972 = .ok (.iadd, 1) := by decide +kernel
theorem dL_law_973 : decode cL_law 973 = .ok (.iaload, 1) := by decide +kernel
theorem dL_law_974 : decode cL_law 974 = .ok (.invokevirtual 93, 3) := by decide +kernel
theorem dL_law_977 : decode cL_law 977 = .ok (.aload_n 2, 1) := by decide +kernel
theorem dL_law_978 : decode cL_law 978 = .ok (.aload_n 0, 1) := by decide +kernel
theorem dL_law_979 : decode cL_law 979 = .ok (.iload_n 3, 1) := by decide +kernel
theorem dL_law_980 : decode cL_law 980 = .ok (.iconst 1, 1) := by decide +kernel
theorem dL_law_981 : decode cL_law 981 = .ok (.iadd, 1) := by decide +kernel
theorem dL_law_982 : decode cL_law 982 = .ok (.iaload, 1) := by decide +kernel
theorem dL_law_983 : decode cL_law 983 = .ok (.invokevirtual 96, 3) := by decide +kernel
theorem dL_law_986 : decode cL_law 986 = .ok (.if_icmp .eq 223, 3) := by decide +kernel
theorem dL_law_989 : decode cL_law 989 = .ok (.iconst 0, 1) := by decide +kernel
theorem dL_law_990 : decode cL_law 990 = .ok (.ireturn, 1) := by decide +kernel
theorem dL_law_991 : decode cL_law 991 = .ok (.aload_n 1, 1) := by decide +kernel
theorem dL_law_992 : decode cL_law 992 = .ok (.aload_n 0, 1) := by decide +kernel
theorem dL_law_993 : decode cL_law 993 = .ok (.iload_n 3, 1) := by decide +kernel
theorem dL_law_994 : decode cL_law 994 = .ok (.iconst 1, 1) := by decide +kernel
theorem dL_law_995 : decode cL_law 995 = .ok (.iadd, 1) := by decide +kernel
theorem dL_law_996 : decode cL_law 996 = .ok (.iaload, 1) := by decide +kernel
theorem dL_law_997 : decode cL_law 997 = .ok (.aload_n 0, 1) := by decide +kernel
theorem dL_law_998 : decode cL_law 998 = .ok (.iload_n 3, 1) := by decide +kernel
theorem dL_law_999 : decode cL_law 999 = .ok (.iconst 2, 1) := by decide +kernel
theorem dL_law_1000 : decode cL_law 1000 = .ok (.iadd, 1) := by decide +kernel
theorem dL_law_1001 : decode cL_law 1001 = .ok (.iaload, 1) := by decide +kernel
theorem dL_law_1002 : decode cL_law 1002 = .ok (.invokevirtual 97, 3) := by decide +kernel
theorem dL_law_1005 : decode cL_law 1005 = .ok (.aload_n 2, 1) := by decide +kernel
theorem dL_law_1006 : decode cL_law 1006 = .ok (.aload_n 0, 1) := by decide +kernel
theorem dL_law_1007 : decode cL_law 1007 = .ok (.iload_n 3, 1) := by decide +kernel
theorem dL_law_1008 : decode cL_law 1008 = .ok (.iconst 1, 1) := by decide +kernel
theorem dL_law_1009 : decode cL_law 1009 = .ok (.iadd, 1) := by decide +kernel
theorem dL_law_1010 : decode cL_law 1010 = .ok (.iaload, 1) := by decide +kernel
theorem dL_law_1011 : decode cL_law 1011 = .ok (.aload_n 0, 1) := by decide +kernel
theorem dL_law_1012 : decode cL_law 1012 = .ok (.iload_n 3, 1) := by decide +kernel
theorem dL_law_1013 : decode cL_law 1013 = .ok (.iconst 2, 1) := by decide +kernel
theorem dL_law_1014 : decode cL_law 1014 = .ok (.iadd, 1) := by decide +kernel
theorem dL_law_1015 : decode cL_law 1015 = .ok (.iaload, 1) := by decide +kernel
theorem dL_law_1016 : decode cL_law 1016 = .ok (.invokevirtual 100, 3) := by decide +kernel
theorem dL_law_1019 : decode cL_law 1019 = .ok (.if_icmp .eq 190, 3) := by decide +kernel
theorem dL_law_1022 : decode cL_law 1022 = .ok (.iconst 0, 1) := by decide +kernel
theorem dL_law_1023 : decode cL_law 1023 = .ok (.ireturn, 1) := by decide +kernel
theorem dL_law_1024 : decode cL_law 1024 = .ok (.aload_n 1, 1) := by decide +kernel
theorem dL_law_1025 : decode cL_law 1025 = .ok (.aload_n 0, 1) := by decide +kernel
theorem dL_law_1026 : decode cL_law 1026 = .ok (.iload_n 3, 1) := by decide +kernel
theorem dL_law_1027 : decode cL_law 1027 = .ok (.iconst 1, 1) := by decide +kernel
theorem dL_law_1028 : decode cL_law 1028 = .ok (.iadd, 1) := by decide +kernel
theorem dL_law_1029 : decode cL_law 1029 = .ok (.iaload, 1) := by decide +kernel
theorem dL_law_1030 : decode cL_law 1030 = .ok (.aload_n 0, 1) := by decide +kernel
theorem dL_law_1031 : decode cL_law 1031 = .ok (.iload_n 3, 1) := by decide +kernel
theorem dL_law_1032 : decode cL_law 1032 = .ok (.iconst 2, 1) := by decide +kernel
theorem dL_law_1033 : decode cL_law 1033 = .ok (.iadd, 1) := by decide +kernel
theorem dL_law_1034 : decode cL_law 1034 = .ok (.iaload, 1) := by decide +kernel
theorem dL_law_1035 : decode cL_law 1035 = .ok (.aload_n 0, 1) := by decide +kernel
theorem dL_law_1036 : decode cL_law 1036 = .ok (.iload_n 3, 1) := by decide +kernel
theorem dL_law_1037 : decode cL_law 1037 = .ok (.iconst 3, 1) := by decide +kernel
theorem dL_law_1038 : decode cL_law 1038 = .ok (.iadd, 1) := by decide +kernel
theorem dL_law_1039 : decode cL_law 1039 = .ok (.iaload, 1) := by decide +kernel
theorem dL_law_1040 : decode cL_law 1040 = .ok (.invokevirtual 101, 3) := by decide +kernel
theorem dL_law_1043 : decode cL_law 1043 = .ok (.aload_n 2, 1) := by decide +kernel
theorem dL_law_1044 : decode cL_law 1044 = .ok (.aload_n 0, 1) := by decide +kernel
theorem dL_law_1045 : decode cL_law 1045 = .ok (.iload_n 3, 1) := by decide +kernel
theorem dL_law_1046 : decode cL_law 1046 = .ok (.iconst 1, 1) := by decide +kernel
theorem dL_law_1047 : decode cL_law 1047 = .ok (.iadd, 1) := by decide +kernel
theorem dL_law_1048 : decode cL_law 1048 = .ok (.iaload, 1) := by decide +kernel
theorem dL_law_1049 : decode cL_law 1049 = .ok (.aload_n 0, 1) := by decide +kernel
theorem dL_law_1050 : decode cL_law 1050 = .ok (.iload_n 3, 1) := by decide +kernel
theorem dL_law_1051 : decode cL_law 1051 = .ok (.iconst 2, 1) := by decide +kernel
theorem dL_law_1052 : decode cL_law 1052 = .ok (.iadd, 1) := by decide +kernel
theorem dL_law_1053 : decode cL_law 1053 = .ok (.iaload, 1) := by decide +kernel
theorem dL_law_1054 : decode cL_law 1054 = .ok (.aload_n 0, 1) := by decide +kernel
theorem dL_law_1055 : decode cL_law 1055 = .ok (.iload_n 3, 1) := by decide +kernel
theorem dL_law_1056 : decode cL_law 1056 = .ok (.iconst 3, 1) := by decide +kernel
theorem dL_law_1057 : decode cL_law 1057 = .ok (.iadd, 1) := by decide +kernel
theorem dL_law_1058 : decode cL_law 1058 = .ok (.iaload, 1) := by decide +kernel
theorem dL_law_1059 : decode cL_law 1059 = .ok (.invokevirtual 104, 3) := by decide +kernel
theorem dL_law_1062 : decode cL_law 1062 = .ok (.if_icmp .eq 147, 3) := by decide +kernel
theorem dL_law_1065 : decode cL_law 1065 = .ok (.iconst 0, 1) := by decide +kernel
theorem dL_law_1066 : decode cL_law 1066 = .ok (.ireturn, 1) := by decide +kernel
theorem dL_law_1067 : decode cL_law 1067 = .ok (.aload_n 1, 1) := by decide +kernel
theorem dL_law_1068 : decode cL_law 1068 = .ok (.aload_n 0, 1) := by decide +kernel
theorem dL_law_1069 : decode cL_law 1069 = .ok (.iload_n 3, 1) := by decide +kernel
theorem dL_law_1070 : decode cL_law 1070 = .ok (.iconst 1, 1) := by decide +kernel
theorem dL_law_1071 : decode cL_law 1071 = .ok (.iadd, 1) := by decide +kernel
theorem dL_law_1072 : decode cL_law 1072 = .ok (.iaload, 1) := by decide +kernel
theorem dL_law_1073 : decode cL_law 1073 = .ok (.aload_n 0, 1) := by decide +kernel
theorem dL_law_1074 : decode cL_law 1074 = .ok (.iload_n 3, 1) := by decide +kernel
theorem dL_law_1075 : decode cL_law 1075 = .ok (.iconst 2, 1) := by decide +kernel
theorem dL_law_1076 : decode cL_law 1076 = .ok (.iadd, 1) := by decide +kernel
theorem dL_law_1077 : decode cL_law 1077 = .ok (.iaload, 1) := by decide +kernel
theorem dL_law_1078 : decode cL_law 1078 = .ok (.aload_n 0, 1) := by decide +kernel
theorem dL_law_1079 : decode cL_law 1079 = .ok (.iload_n 3, 1) := by decide +kernel
theorem dL_law_1080 : decode cL_law 1080 = .ok (.iconst 3, 1) := by decide +kernel
theorem dL_law_1081 : decode cL_law 1081 = .ok (.iadd, 1) := by decide +kernel
theorem dL_law_1082 : decode cL_law 1082 = .ok (.iaload, 1) := by decide +kernel
theorem dL_law_1083 : decode cL_law 1083 = .ok (.aload_n 0, 1) := by decide +kernel
theorem dL_law_1084 : decode cL_law 1084 = .ok (.iload_n 3, 1) := by decide +kernel
theorem dL_law_1085 : decode cL_law 1085 = .ok (.iconst 4, 1) := by decide +kernel
theorem dL_law_1086 : decode cL_law 1086 = .ok (.iadd, 1) := by decide +kernel
theorem dL_law_1087 : decode cL_law 1087 = .ok (.iaload, 1) := by decide +kernel
theorem dL_law_1088 : decode cL_law 1088 = .ok (.invokevirtual 105, 3) := by decide +kernel
theorem dL_law_1091 : decode cL_law 1091 = .ok (.aload_n 2, 1) := by decide +kernel
theorem dL_law_1092 : decode cL_law 1092 = .ok (.aload_n 0, 1) := by decide +kernel
theorem dL_law_1093 : decode cL_law 1093 = .ok (.iload_n 3, 1) := by decide +kernel
theorem dL_law_1094 : decode cL_law 1094 = .ok (.iconst 1, 1) := by decide +kernel
theorem dL_law_1095 : decode cL_law 1095 = .ok (.iadd, 1) := by decide +kernel
theorem dL_law_1096 : decode cL_law 1096 = .ok (.iaload, 1) := by decide +kernel
theorem dL_law_1097 : decode cL_law 1097 = .ok (.aload_n 0, 1) := by decide +kernel
theorem dL_law_1098 : decode cL_law 1098 = .ok (.iload_n 3, 1) := by decide +kernel
theorem dL_law_1099 : decode cL_law 1099 = .ok (.iconst 2, 1) := by decide +kernel
theorem dL_law_1100 : decode cL_law 1100 = .ok (.iadd, 1) := by decide +kernel
theorem dL_law_1101 : decode cL_law 1101 = .ok (.iaload, 1) := by decide +kernel
theorem dL_law_1102 : decode cL_law 1102 = .ok (.aload_n 0, 1) := by decide +kernel
theorem dL_law_1103 : decode cL_law 1103 = .ok (.iload_n 3, 1) := by decide +kernel
theorem dL_law_1104 : decode cL_law 1104 = .ok (.iconst 3, 1) := by decide +kernel
theorem dL_law_1105 : decode cL_law 1105 = .ok (.iadd, 1) := by decide +kernel
theorem dL_law_1106 : decode cL_law 1106 = .ok (.iaload, 1) := by decide +kernel
theorem dL_law_1107 : decode cL_law 1107 = .ok (.aload_n 0, 1) := by decide +kernel
theorem dL_law_1108 : decode cL_law 1108 = .ok (.iload_n 3, 1) := by decide +kernel
theorem dL_law_1109 : decode cL_law 1109 = .ok (.iconst 4, 1) := by decide +kernel
theorem dL_law_1110 : decode cL_law 1110 = .ok (.iadd, 1) := by decide +kernel
theorem dL_law_1111 : decode cL_law 1111 = .ok (.iaload, 1) := by decide +kernel
theorem dL_law_1112 : decode cL_law 1112 = .ok (.invokevirtual 108, 3) := by decide +kernel
theorem dL_law_1115 : decode cL_law 1115 = .ok (.if_icmp .eq 94, 3) := by decide +kernel
theorem dL_law_1118 : decode cL_law 1118 = .ok (.iconst 0, 1) := by decide +kernel
theorem dL_law_1119 : decode cL_law 1119 = .ok (.ireturn, 1) := by decide +kernel
theorem dL_law_1120 : decode cL_law 1120 = .ok (.aload_n 1, 1) := by decide +kernel
theorem dL_law_1121 : decode cL_law 1121 = .ok (.aload_n 0, 1) := by decide +kernel
theorem dL_law_1122 : decode cL_law 1122 = .ok (.iload_n 3, 1) := by decide +kernel
theorem dL_law_1123 : decode cL_law 1123 = .ok (.iconst 1, 1) := by decide +kernel
theorem dL_law_1124 : decode cL_law 1124 = .ok (.iadd, 1) := by decide +kernel
theorem dL_law_1125 : decode cL_law 1125 = .ok (.iaload, 1) := by decide +kernel
theorem dL_law_1126 : decode cL_law 1126 = .ok (.aload_n 0, 1) := by decide +kernel
theorem dL_law_1127 : decode cL_law 1127 = .ok (.iload_n 3, 1) := by decide +kernel
theorem dL_law_1128 : decode cL_law 1128 = .ok (.iconst 2, 1) := by decide +kernel
theorem dL_law_1129 : decode cL_law 1129 = .ok (.iadd, 1) := by decide +kernel
theorem dL_law_1130 : decode cL_law 1130 = .ok (.iaload, 1) := by decide +kernel
theorem dL_law_1131 : decode cL_law 1131 = .ok (.invokevirtual 109, 3) := by decide +kernel
theorem dL_law_1134 : decode cL_law 1134 = .ok (.aload_n 2, 1) := by decide +kernel
theorem dL_law_1135 : decode cL_law 1135 = .ok (.aload_n 0, 1) := by decide +kernel
theorem dL_law_1136 : decode cL_law 1136 = .ok (.iload_n 3, 1) := by decide +kernel
theorem dL_law_1137 : decode cL_law 1137 = .ok (.iconst 1, 1) := by decide +kernel
theorem dL_law_1138 : decode cL_law 1138 = .ok (.iadd, 1) := by decide +kernel
theorem dL_law_1139 : decode cL_law 1139 = .ok (.iaload, 1) := by decide +kernel
theorem dL_law_1140 : decode cL_law 1140 = .ok (.aload_n 0, 1) := by decide +kernel
theorem dL_law_1141 : decode cL_law 1141 = .ok (.iload_n 3, 1) := by decide +kernel
theorem dL_law_1142 : decode cL_law 1142 = .ok (.iconst 2, 1) := by decide +kernel
theorem dL_law_1143 : decode cL_law 1143 = .ok (.iadd, 1) := by decide +kernel
theorem dL_law_1144 : decode cL_law 1144 = .ok (.iaload, 1) := by decide +kernel
theorem dL_law_1145 : decode cL_law 1145 = .ok (.invokevirtual 112, 3) := by decide +kernel
theorem dL_law_1148 : decode cL_law 1148 = .ok (.if_icmp .eq 61, 3) := by decide +kernel
theorem dL_law_1151 : decode cL_law 1151 = .ok (.iconst 0, 1) := by decide +kernel
theorem dL_law_1152 : decode cL_law 1152 = .ok (.ireturn, 1) := by decide +kernel
theorem dL_law_1153 : decode cL_law 1153 = .ok (.aload_n 1, 1) := by decide +kernel
theorem dL_law_1154 : decode cL_law 1154 = .ok (.aload_n 0, 1) := by decide +kernel
theorem dL_law_1155 : decode cL_law 1155 = .ok (.iload_n 3, 1) := by decide +kernel
theorem dL_law_1156 : decode cL_law 1156 = .ok (.iconst 1, 1) := by decide +kernel
theorem dL_law_1157 : decode cL_law 1157 = .ok (.iadd, 1) := by decide +kernel
theorem dL_law_1158 : decode cL_law 1158 = .ok (.iaload, 1) := by decide +kernel
theorem dL_law_1159 : decode cL_law 1159 = .ok (.aload_n 0, 1) := by decide +kernel
theorem dL_law_1160 : decode cL_law 1160 = .ok (.iload_n 3, 1) := by decide +kernel
theorem dL_law_1161 : decode cL_law 1161 = .ok (.iconst 2, 1) := by decide +kernel
theorem dL_law_1162 : decode cL_law 1162 = .ok (.iadd, 1) := by decide +kernel
theorem dL_law_1163 : decode cL_law 1163 = .ok (.iaload, 1) := by decide +kernel
theorem dL_law_1164 : decode cL_law 1164 = .ok (.invokevirtual 113, 3) := by decide +kernel
theorem dL_law_1167 : decode cL_law 1167 = .ok (.aload_n 2, 1) := by decide +kernel
theorem dL_law_1168 : decode cL_law 1168 = .ok (.aload_n 0, 1) := by decide +kernel
theorem dL_law_1169 : decode cL_law 1169 = .ok (.iload_n 3, 1) := by decide +kernel
theorem dL_law_1170 : decode cL_law 1170 = .ok (.iconst 1, 1) := by decide +kernel
theorem dL_law_1171 : decode cL_law 1171 = .ok (.iadd, 1) := by decide +kernel
theorem dL_law_1172 : decode cL_law 1172 = .ok (.iaload, 1) := by decide +kernel
theorem dL_law_1173 : decode cL_law 1173 = .ok (.aload_n 0, 1) := by decide +kernel
theorem dL_law_1174 : decode cL_law 1174 = .ok (.iload_n 3, 1) := by decide +kernel
theorem dL_law_1175 : decode cL_law 1175 = .ok (.iconst 2, 1) := by decide +kernel
theorem dL_law_1176 : decode cL_law 1176 = .ok (.iadd, 1) := by decide +kernel
theorem dL_law_1177 : decode cL_law 1177 = .ok (.iaload, 1) := by decide +kernel
theorem dL_law_1178 : decode cL_law 1178 = .ok (.invokevirtual 116, 3) := by decide +kernel
theorem dL_law_1181 : decode cL_law 1181 = .ok (.if_icmp .eq 28, 3) := by decide +kernel
theorem dL_law_1184 : decode cL_law 1184 = .ok (.iconst 0, 1) := by decide +kernel
theorem dL_law_1185 : decode cL_law 1185 = .ok (.ireturn, 1) := by decide +kernel
theorem dL_law_1186 : decode cL_law 1186 = .ok (.aload_n 1, 1) := by decide +kernel
theorem dL_law_1187 : decode cL_law 1187 = .ok (.aload_n 0, 1) := by decide +kernel
theorem dL_law_1188 : decode cL_law 1188 = .ok (.iload_n 3, 1) := by decide +kernel
theorem dL_law_1189 : decode cL_law 1189 = .ok (.iconst 1, 1) := by decide +kernel
theorem dL_law_1190 : decode cL_law 1190 = .ok (.iadd, 1) := by decide +kernel
theorem dL_law_1191 : decode cL_law 1191 = .ok (.iaload, 1) := by decide +kernel
theorem dL_law_1192 : decode cL_law 1192 = .ok (.invokevirtual 117, 3) := by decide +kernel
theorem dL_law_1195 : decode cL_law 1195 = .ok (.aload_n 2, 1) := by decide +kernel
theorem dL_law_1196 : decode cL_law 1196 = .ok (.aload_n 0, 1) := by decide +kernel
theorem dL_law_1197 : decode cL_law 1197 = .ok (.iload_n 3, 1) := by decide +kernel
theorem dL_law_1198 : decode cL_law 1198 = .ok (.iconst 1, 1) := by decide +kernel
theorem dL_law_1199 : decode cL_law 1199 = .ok (.iadd, 1) := by decide +kernel
theorem dL_law_1200 : decode cL_law 1200 = .ok (.iaload, 1) := by decide +kernel
theorem dL_law_1201 : decode cL_law 1201 = .ok (.invokevirtual 120, 3) := by decide +kernel
theorem dL_law_1204 : decode cL_law 1204 = .ok (.if_icmp .eq 5, 3) := by decide +kernel
theorem dL_law_1207 : decode cL_law 1207 = .ok (.iconst 0, 1) := by decide +kernel
theorem dL_law_1208 : decode cL_law 1208 = .ok (.ireturn, 1) := by decide +kernel
theorem dL_law_1209 : decode cL_law 1209 = .ok (.iinc 3 6, 3) := by decide +kernel
theorem dL_law_1212 : decode cL_law 1212 = .ok (.goto (-1194), 3) := by decide +kernel
theorem dL_law_1215 : decode cL_law 1215 = .ok (.iconst 1, 1) := by decide +kernel
theorem dL_law_1216 : decode cL_law 1216 = .ok (.ireturn, 1) := by decide +kernel
end
section
/-! ===== THE WORLD BY NUMBERS: objects and arrays have numbers in the order of their making; a reference carries its kind ===== -/
/-- null, or (kind, n, id). kind 0: an object of class n of vwCl; 1, 2, 3: an array of int, boolean, byte of n places; 5: an array that was there before (n: which); 8 + c: an array of n references to objects of class c -/
abbrev aR : Type := Option (Nat × Nat × Nat)
abbrev aV : Type := Int32 ⊕ aR
/-- ints in fields, references in fields, ints in arrays, references in arrays, what each number is, how many there are -/
abbrev aH : Type := (Nat → Nat → Int32) × (Nat → Nat → aR) × (Nat → Nat → Int32) × (Nat → Nat → aR) × (Nat → Nat × Nat) × Nat
abbrev hI (h : aH) : Nat → Nat → Int32 := h.1
abbrev hR (h : aH) : Nat → Nat → aR := h.2.1
abbrev hA (h : aH) : Nat → Nat → Int32 := h.2.2.1
abbrev hQ (h : aH) : Nat → Nat → aR := h.2.2.2.1
abbrev hT (h : aH) : Nat → Nat × Nat := h.2.2.2.2.1
abbrev hN (h : aH) : Nat := h.2.2.2.2.2
def up2 {α : Type} (f : Nat → Nat → α) (i k : Nat) (v : α) : Nat → Nat → α := fun a b => if a = i ∧ b = k then v else f a b
def up1 {α : Type} (f : Nat → α) (i : Nat) (v : α) : Nat → α := fun a => if a = i then v else f a
def stI (h : aH) (i k : Nat) (v : Int32) : aH := (up2 (hI h) i k v, h.2)
def stR (h : aH) (i k : Nat) (v : aR) : aH := (h.1, up2 (hR h) i k v, h.2.2)
def stA (h : aH) (i k : Nat) (v : Int32) : aH := (h.1, h.2.1, up2 (hA h) i k v, h.2.2.2)
def stQ (h : aH) (i k : Nat) (v : aR) : aH := (h.1, h.2.1, h.2.2.1, up2 (hQ h) i k v, h.2.2.2.2)
/-- an array's contents all at once -/
def stAA (h : aH) (i : Nat) (f : Nat → Int32) : aH := (h.1, h.2.1, up1 (hA h) i f, h.2.2.2)
/-- one more, of this kind, all 0 and null -/
def stN (h : aH) (t : Nat × Nat) : aH := (up1 (hI h) (hN h) (fun _ => 0), up1 (hR h) (hN h) (fun _ => none), up1 (hA h) (hN h) (fun _ => 0), up1 (hQ h) (hN h) (fun _ => none), up1 (hT h) (hN h) t, hN h + 1)
/-- z0; the classes' numbers and slots; the array classes; where the outer arrays are; the script -/
abbrev eE : Type := Nat × va_G × (Nat → ClassId) × (Nat → Nat) × Nat × (Nat → Int32)
abbrev eZ (E : eE) : Nat := E.1
abbrev eD (E : eE) : va_G := E.2.1
abbrev eK (E : eE) : Nat → ClassId := E.2.2.1
abbrev eX (E : eE) : Nat → Nat := E.2.2.2.1
abbrev eL (E : eE) : Nat := E.2.2.2.2.1
abbrev eF (E : eE) : Nat → Int32 := E.2.2.2.2.2
def eA (E : eE) : Nat → Prop := fun q => eZ E ≤ q
def tb1 : List Int32 := [0, 0, 0, 0, 0, 1, 1, 1, 1, 2, 2, 2, 3, 3, 4]
def tb2 : List Int32 := [1, 2, 3, 4, 5, 2, 3, 4, 5, 3, 4, 5, 4, 5, 5]
def exL (E : eE) (w : Nat) : Nat := match w with
  | 0 => eL E
  | _ => 15
def exF (E : eE) (w : Nat) : Nat → Int32 := match w with
  | 0 => eF E
  | 1 => fun j => tb1.getD j 0
  | _ => fun j => tb2.getD j 0
def adr (E : eE) (q : Nat × Nat × Nat) : Nat := if q.1 = 5 then eX E q.2.1 else eZ E + q.2.2
def cvA (E : eE) (r : aR) : Option Nat := r.map (adr E)
def cv (E : eE) (v : aV) : Value := match v with
  | .inl x => .int x
  | .inr r => va_rf (cvA E r)
def tyC (c : Nat) : Nat → FieldType := match c with
  | 0 => tyX0 | 1 => tyX1 | 2 => tyX2 | 3 => tyX3 | 4 => tyX4 | 5 => tyX5 | 6 => tyX6 | 7 => tyX7 | 8 => tyX8 | 9 => tyX9 | 10 => tyX10 | 11 => tyX11 | _ => tyX12
def isRt (t : FieldType) : Bool := match t with
  | .int => false
  | .boolean => false
  | _ => true
def nfC (c : Nat) : Nat := match vwCl[c]? with
  | some q => q.2.2
  | none => 0
def fkR (c k : Nat) : Bool := isRt (tyC c k)
def cel (E : eE) (h : aH) (i : Nat) : va_E :=
  if (hT h i).1 = 0 then .inr ((hT h i).2, (List.range (nfC (hT h i).2)).map (fun k => if fkR (hT h i).2 k then va_rf (cvA E (hR h i k)) else .int (hI h i k)))
  else if (hT h i).1 < 8 then .inl (eK E (hT h i).1, (hT h i).2, .inl (hA h i))
  else .inl (eK E (hT h i).1, (hT h i).2, .inr (.inr (.inr (.inr (fun j => cvA E (hQ h i j))))))
def wl (E : eE) (h : aH) : va_W := (List.range (hN h)).map (fun i => (eZ E + i, cel E h i))
theorem wl_at (E : eE) (h : aH) {i : Nat} (hi : i < hN h) : (wl E h)[i]? = some (eZ E + i, cel E h i) := by
  simp [wl, hi]
theorem wl_lt {E : eE} {h : aH} {i : Nat} {q : Nat × va_E} (hq : (wl E h)[i]? = some q) : i < hN h ∧ q = (eZ E + i, cel E h i) := by
  have hi : i < (wl E h).length := (List.getElem?_eq_some_iff.mp hq).1
  have hi' : i < hN h := by simpa [wl] using hi
  rw [wl_at E h hi'] at hq
  exact ⟨hi', (Option.some.inj hq).symm⟩
theorem wl_set {E : eE} {h h' : aH} {i : Nat} {x : va_E} (hN' : hN h' = hN h) (hx : cel E h' i = x) (ho : ∀ j, j ≠ i → cel E h' j = cel E h j) : (wl E h).set i (eZ E + i, x) = wl E h' := by
  apply List.ext_getElem?
  intro j
  by_cases hj : j < hN h
  · by_cases e : i = j
    · subst e
      rw [List.getElem?_set_self (by simpa [wl] using hj), wl_at E h' (by omega), hx]
    · rw [List.getElem?_set_ne e, wl_at E h hj, wl_at E h' (by omega), ho j (fun q => e q.symm)]
  · rw [List.getElem?_eq_none (by simp [wl]; omega), List.getElem?_eq_none (by simp [wl]; omega)]
theorem wl_push {E : eE} {h h' : aH} {x : va_E} (hN' : hN h' = hN h + 1) (hx : cel E h' (hN h) = x) (ho : ∀ j, j < hN h → cel E h' j = cel E h j) : wl E h ++ [(eZ E + hN h, x)] = wl E h' := by
  unfold wl
  rw [hN', List.range_succ, List.map_append]
  congr 1
  · apply List.map_congr_left
    intro j hj
    rw [ho j (List.mem_range.mp hj)]
  · simp [hx]
theorem wl_D (E : eE) (h : aH) : va_D (eA E) (wl E h) := by
  refine ⟨fun i j p q hp hq e => ?_, fun k q hq => ?_⟩
  · obtain ⟨h1, rfl⟩ := wl_lt hp
    obtain ⟨h2, rfl⟩ := wl_lt hq
    dsimp only at e
    omega
  · obtain ⟨h1, rfl⟩ := wl_lt hq
    show eZ E ≤ eZ E + k
    omega
/-- a reference is what it says -/
def okR (h : aH) (r : aR) : Prop := ∀ q, r = some q → q.1 = 5 ∨ (q.2.2 < hN h ∧ hT h q.2.2 = (q.1, q.2.1))
def okV (h : aH) (v : aV) : Prop := ∀ r, v = .inr r → okR h r
def okS (h : aH) (st : List aV) : Prop := ∀ v ∈ st, okV h v
def okL (h : aH) (ls : List (Option aV)) : Prop := ∀ v, some v ∈ ls → okV h v
def okO (h : aH) (r : Option aV) : Prop := ∀ v, r = some v → okV h v
def wfH (h : aH) : Prop := (∀ i k, okR h (hR h i k)) ∧ ∀ i k, okR h (hQ h i k)
/-- more are there, the old ones are what they were -/
def exH (h h' : aH) : Prop := hN h ≤ hN h' ∧ ∀ i, i < hN h → hT h' i = hT h i
theorem exH.rf (h : aH) : exH h h := ⟨Nat.le_refl _, fun _ _ => rfl⟩
theorem exH.tr {a b c : aH} (h1 : exH a b) (h2 : exH b c) : exH a c := ⟨Nat.le_trans h1.1 h2.1, fun i hi => (h2.2 i (Nat.lt_of_lt_of_le hi h1.1)).trans (h1.2 i hi)⟩
theorem okR.ex {h h' : aH} {r : aR} (e : exH h h') (k : okR h r) : okR h' r := fun q hq => (k q hq).imp id (fun z => ⟨Nat.lt_of_lt_of_le z.1 e.1, (e.2 _ z.1).trans z.2⟩)
theorem okV.ex {h h' : aH} {v : aV} (e : exH h h') (k : okV h v) : okV h' v := fun r hr => (k r hr).ex e
theorem okS.ex {h h' : aH} {st : List aV} (e : exH h h') (k : okS h st) : okS h' st := fun v hv => (k v hv).ex e
theorem okL.ex {h h' : aH} {ls : List (Option aV)} (e : exH h h') (k : okL h ls) : okL h' ls := fun v hv => (k v hv).ex e
theorem okV.int (h : aH) (x : Int32) : okV h (.inl x) := fun r hr => by cases hr
theorem okV.null (h : aH) : okV h (.inr none) := fun r hr => by cases hr; intro q hq; cases hq
theorem okS.tl {h : aH} {v : aV} {st : List aV} (k : okS h (v :: st)) : okS h st := fun w hw => k w (List.mem_cons_of_mem _ hw)
theorem okS.hd {h : aH} {v : aV} {st : List aV} (k : okS h (v :: st)) : okV h v := k v List.mem_cons_self
theorem okS.cn {h : aH} {v : aV} {st : List aV} (a : okV h v) (k : okS h st) : okS h (v :: st) := fun w hw => (List.mem_cons.mp hw).elim (fun e => e ▸ a) (k w)
theorem okS.obj {h : aH} {a b i : Nat} {st : List aV} (k : okS h (.inr (some (a, b, i)) :: st)) (ha : a ≠ 5) : i < hN h ∧ hT h i = (a, b) := (k.hd _ rfl _ rfl).resolve_left ha
/-! the locals -/
def lvl (E : eE) (ls : List (Option aV)) : List (Nat × Value) := (List.range ls.length).filterMap (fun i => match ls[i]? with
  | some (some v) => some (i, cv E v)
  | _ => none)
def lsOK (E : eE) (lc : Array Slot) (n : Nat) (ls : List (Option aV)) : Prop := (lc.size = n ∧ ls.length = n) ∧ lv_wf lc ∧ ∀ (i : Nat) (v : aV), ls[i]? = some (some v) → lc[i]? = some (Slot.val (cv E v))
theorem cv_cat (E : eE) (v : aV) : (cv E v).category = 1 := by
  rcases v with x | (_ | q) <;> rfl
theorem lvl_mem {E : eE} {ls : List (Option aV)} {q : Nat × Value} (h : q ∈ lvl E ls) : ∃ v, ls[q.1]? = some (some v) ∧ q.2 = cv E v := by
  obtain ⟨i, -, hi⟩ := List.mem_filterMap.mp h
  split at hi
  · next v hv => cases hi; exact ⟨v, hv, rfl⟩
  · cases hi
theorem lvl_of {E : eE} {ls : List (Option aV)} {i : Nat} {v : aV} (h : ls[i]? = some (some v)) : (i, cv E v) ∈ lvl E ls := by
  refine List.mem_filterMap.mpr ⟨i, List.mem_range.mpr (List.getElem?_eq_some_iff.mp h).1, ?_⟩
  rw [h]
theorem lsOK.has {E : eE} {lc : Array Slot} {n : Nat} {ls : List (Option aV)} (h : lsOK E lc n ls) : lv_has lc n (lvl E ls) := ⟨h.1.1, h.2.1, fun q hq => by
  obtain ⟨v, h1, h2⟩ := lvl_mem hq
  rw [h2]
  exact h.2.2 _ _ h1⟩
theorem lsOK.set {E : eE} {lc : Array Slot} {n i : Nat} {ls : List (Option aV)} {v : aV} (hn : ls.length = n) (h : lv_has lc n ((i, cv E v) :: (lvl E ls).filter (fun q => !(q.1 == i) && !(q.1 + 1 == i && q.2.category == 2)))) : lsOK E lc n (ls.set i (some v)) := by
  refine ⟨⟨h.1, by simpa using hn⟩, h.2.1, fun j w hj => ?_⟩
  by_cases e : i = j
  · subst e
    have hi : i < ls.length := by
      have := (List.getElem?_eq_some_iff.mp hj).1
      simpa using this
    rw [List.getElem?_set_self hi] at hj
    cases hj
    exact h.2.2 (i, cv E v) List.mem_cons_self
  · rw [List.getElem?_set_ne e] at hj
    refine h.2.2 (j, cv E w) (List.mem_cons_of_mem _ (List.mem_filter.mpr ⟨lvl_of hj, ?_⟩))
    have h1 : (j == i) = false := by simp; omega
    simp [h1, cv_cat]
/-! what holds of the machine's tables, and of the heap -/
def kty (k : Nat) : FieldType := match k with
  | 1 => .int
  | 2 => .boolean
  | 3 => .byte
  | 12 => .object RX4
  | 14 => .object RX6
  | 16 => .object RX8
  | 17 => .object RX9
  | _ => .object RX10
def kinds : List Nat := [1, 2, 3, 12, 14, 16, 17, 18]
def tyE (E : eE) : List (ClassId × FieldType) := kinds.map (fun k => (eK E k, kty k))
def RepV (E : eE) (U : State) : Prop :=
  va_K (eD E) vwCl (tyE E) U ∧
  (∀ a i y b, Cond.methodLinkNest a i y b ∈ lw_tbl → va_Nw (.methodLinkNest a i y b) U) ∧
  (∀ a i b n d x, Cond.fieldLinkNest a i b n d x ∈ lw_tbl → va_Nw (.fieldLinkNest a i b n d x) U) ∧
  (∀ C, Cond.arrayOver (.object C) ∈ lw_tbl → va_AO C U) ∧
  (∀ w, w < 3 → va_T .int (eX E w) (exL E w) (fun j => .int (exF E w j)) (eA E) U U.heap) ∧
  va_Z "ClockCall" "FIRST_OF_PAIR" "[I" (.ref (eX E 1)) (eA E) U U.heap ∧
  va_Z "ClockCall" "SECOND_OF_PAIR" "[I" (.ref (eX E 2)) (eA E) U U.heap ∧ eL E ≤ 3072
def RepH (E : eE) (h : aH) (H : Heap) : Prop := H.size = eZ E + hN h ∧ va_P (eD E) vwCl (wl E h) H ∧ wfH h
theorem RepV.on {E : eE} {s U : State} {H : Heap} {locs : List Loc} (hV : RepV E s) (hS : va_S (eA E) s.heap H locs) (hW : s.WarmedH U.vm) (hU : U.heap = H) : RepV E U := by
  obtain ⟨h1, h2, h3, h4, h5, h6, h7, h8⟩ := hV
  refine ⟨va_K.moved hW.alike h1, fun a i y b hm => va_Nw.warmM hW (h2 a i y b hm), fun a i b n d x hm => va_Nw.warmF hW (h3 a i b n d x hm), fun C hm => (h4 C hm).moved hW.alike, fun w hw => ?_, ?_, ?_, h8⟩
  · rw [hU]; exact ((h5 w hw).kept hS.2.1).moved hW.alike
  · rw [hU]; exact (h6.kept hS.2.1).moved hW.alike
  · rw [hU]; exact (h7.kept hS.2.1).moved hW.alike
theorem RepV.calling {E : eE} {U : State} {g : JFrame} {mk : MethodId} {a : Array Value} (hV : RepV E U) : RepV E (U.calling g mk a) := by
  have al : U.vm.Alike (U.calling g mk a).vm := Vm.Alike.refl U.vm
  obtain ⟨h1, h2, h3, h4, h5, h6, h7, h8⟩ := hV
  exact ⟨va_K.moved al h1, fun a i y b hm => (h2 a i y b hm).same rfl rfl, fun a i b n d x hm => (h3 a i b n d x hm).same rfl rfl, fun C hm => (h4 C hm).moved al, fun w hw => (h5 w hw).moved al, h6.moved al, h7.moved al, h8⟩
theorem RepH.new {E : eE} {h : aH} {H H1 : Heap} {t : Nat × Nat} (hp : RepH E h H) (hz : H1.size = H.size + 1) (ho : ∀ q, q < H.size → H1[q]? = H[q]?) (hx : va_at (eD E) vwCl (eZ E + hN h, cel E (stN h t) (hN h)) H1) : RepH E (stN h t) H1 := by
  obtain ⟨a1, a2, a3, a4⟩ := hp
  refine ⟨by rw [hz, a1]; show _ = eZ E + (hN h + 1); omega, fun k q hq => ?_, ?_⟩
  · obtain ⟨hk, rfl⟩ := wl_lt hq
    have hk' : k < hN h + 1 := hk
    rcases Nat.lt_or_ge k (hN h) with g | g
    · have e : cel E (stN h t) k = cel E h k := by
        have hne : k ≠ h.2.2.2.2.2 := by show k ≠ hN h; omega
        simp [cel, stN, up1, hne, hI, hR, hA, hQ, hT, hN]
      rw [e]
      exact (a2 k _ (wl_at E h g)).kept (ho _ (by show eZ E + k < _; omega))
    · have e : k = hN h := by omega
      subst e
      exact hx
  · have e : exH h (stN h t) := ⟨Nat.le_succ _, fun i hi => by
      have hne : i ≠ h.2.2.2.2.2 := by show i ≠ hN h; omega
      simp [stN, up1, hne, hT, hN]⟩
    refine ⟨fun i k => ?_, fun i k => ?_⟩
    · by_cases hi : i = hN h
      · subst hi; intro q hq; simp [stN, up1, hR, hQ, hN] at hq
      · have : hR (stN h t) i k = hR h i k := by have hi : ¬ i = h.2.2.2.2.2 := hi; simp [stN, up1, hi, hR, hN]
        rw [this]; exact (a3 i k).ex e
    · by_cases hi : i = hN h
      · subst hi; intro q hq; simp [stN, up1, hR, hQ, hN] at hq
      · have : hQ (stN h t) i k = hQ h i k := by have hi : ¬ i = h.2.2.2.2.2 := hi; simp [stN, up1, hi, hQ, hN]
        rw [this]; exact (a4 i k).ex e
theorem RepH.set {E : eE} {h h' : aH} {H H1 : Heap} {i : Nat} (hp : RepH E h H) (hN' : hN h' = hN h) (ho : ∀ j, j ≠ i → cel E h' j = cel E h j) (hw : wfH h') (hz : H1.size = H.size) (hq : ∀ q, q ≠ eZ E + i → H1[q]? = H[q]?) (hx : i < hN h → va_at (eD E) vwCl (eZ E + i, cel E h' i) H1) : RepH E h' H1 := by
  obtain ⟨a1, a2, a3⟩ := hp
  refine ⟨by rw [hz, a1, hN'], fun k q hk => ?_, hw⟩
  obtain ⟨hk', rfl⟩ := wl_lt hk
  by_cases e : k = i
  · subst e
    exact hx (by omega)
  · rw [ho k e]
    exact (a2 k _ (wl_at E h (by omega))).kept (hq _ (by show eZ E + k ≠ eZ E + i; omega))
theorem cel_arr {E : eE} {h : aH} {i k n : Nat} (ht : hT h i = (k, n)) (h0 : k ≠ 0) (h8 : k < 8) : cel E h i = .inl (eK E k, n, .inl (hA h i)) := by
  simp [cel, ht, h0, h8]
theorem cel_refs {E : eE} {h : aH} {i k n : Nat} (ht : hT h i = (k, n)) (h8 : 8 ≤ k) : cel E h i = .inl (eK E k, n, .inr (.inr (.inr (.inr (fun j => cvA E (hQ h i j)))))) := by
  have h0 : k ≠ 0 := by omega
  have h9 : ¬ k < 8 := by omega
  simp [cel, ht, h0, h9]
def fls (E : eE) (h : aH) (i c : Nat) : List Value := (List.range (nfC c)).map (fun k => if fkR c k then va_rf (cvA E (hR h i k)) else .int (hI h i k))
theorem cel_obj {E : eE} {h : aH} {i c : Nat} (ht : hT h i = (0, c)) : cel E h i = .inr (c, fls E h i c) := by
  simp [cel, ht, fls]
theorem fls_at {E : eE} {h : aH} {i c k : Nat} (hk : k < nfC c) : (fls E h i c)[k]? = some (if fkR c k then va_rf (cvA E (hR h i k)) else .int (hI h i k)) := by
  simp [fls, hk]
theorem fls_len {E : eE} {h : aH} {i c : Nat} : (fls E h i c).length = nfC c := by simp [fls]
end
section
/-! ===== A METHOD'S WALK IN THE WORLD BY NUMBERS ===== -/
abbrev aM : Type := MethodName × ByteArray × Nat × Option FieldType
def retOK (M : aM) (r : Option aV) (pc : Nat) : Prop :=
  (r = none ∧ M.2.2.2 = none ∧ decode M.2.1 pc = .ok (.return_, 1)) ∨
  (∃ x ty, r = some (.inl x) ∧ M.2.2.2 = some ty ∧ narrow ty (.int x) = .int x ∧ decode M.2.1 pc = .ok (.ireturn, 1)) ∨
  (∃ q C, r = some (.inr q) ∧ M.2.2.2 = some (.object C) ∧ decode M.2.1 pc = .ok (.areturn, 1))
def Cx (E : eE) (M : aM) (d : Nat) (p : Program) (R : Room) (s : State) (m : MethodId) (args : Array Value) (meth : Method) (c : Code) : Prop :=
  p.tables.exec = Jvm.exec ∧ c.code = M.2.1 ∧ c.maxLocals = M.2.2.1 ∧ s.vm.findClass M.1.cls = some m.cls ∧ (∀ w ∈ tsG, w.before args s = true) ∧ (M.1.name = "<init>" → meth.name = "<init>") ∧ RepV E s ∧ eZ E ≤ s.heap.size ∧ d ≤ R.frames ∧ 64 * d ≤ R.locals
/-- from pc on, with these locals, this stack, this heap: the method comes to its return, with Q. d: how deep calls may go on; bc, bs: what may still be made -/
def Tot (l : Launch) (E : eE) (M : aM) (d bc bs pc : Nat) (ls : List (Option aV)) (st : List aV) (h : aH) (Q : Option aV → aH → Prop) : Prop :=
  ∀ (p : Program) (e : Env) (R : Room) (s : State) (m : MethodId) (args : Array Value) (below : List Frame) (meth : Method) (c : Code) (H : Heap) (locs : List Loc) (cells slots : Nat) (G : State → Prop) (lc : Array Slot),
    Cx E M d p R s m args meth c → RepH E h H → va_S (eA E) s.heap H locs → cells + bc ≤ R.cells → slots + bs ≤ R.slots →
    lsOK E lc M.2.2.1 ls → okL h ls → okS h st →
    (∀ (r : Option aV) (h' : aH) (H' : Heap) (locs' : List Loc) (cells' slots' pc' : Nat) (lc' : Array Slot), Q r h' → RepH E h' H' → va_S (eA E) s.heap H' locs' → cells' ≤ R.cells → slots' ≤ R.slots → exH h h' → okO h' r → retOK M r pc' →
      W p l e R s m args below meth c H' locs' cells' slots' G (F0 m pc' lc' ((r.map (cv E)).toList))) →
    W p l e R s m args below meth c H locs cells slots G (F0 m pc lc (st.map (cv E)))
/-- a method's contract -/
def Mt (l : Launch) (E : eE) (d mc ms : Nat) (M : aM) (args : List aV) (h : aH) (Q : Option aV → aH → Prop) : Prop :=
  Met l M.1 (.code M.1 M.2.1 M.2.2.1 M.2.2.2 :: tsG) { frames := d, cells := mc, slots := ms, locals := 64 * d }
    (fun v U => v = (args.map (cv E)).toArray ∧ RepH E h U.heap ∧ RepV E U ∧ okS h args)
    (fun _ st oc t => (∃ (r : Option aV) (h' : aH), oc = .returned (r.map (cv E)) ∧ Q r h' ∧ RepH E h' t.heap ∧ exH h h' ∧ okO h' r) ∧ va_F (eA E) st t) mc ms (eA E)
section RULES
variable {l : Launch} {E : eE} {M : aM} {d bc bs pc : Nat} {ls : List (Option aV)} {st : List aV} {h : aH} {Q : Option aV → aH → Prop}
theorem Tot.mono {Q' : Option aV → aH → Prop} (hq : ∀ r h', Q r h' → Q' r h') (k : Tot l E M d bc bs pc ls st h Q) : Tot l E M d bc bs pc ls st h Q' := by
  intro p e R s m args below meth c H locs cells slots G lc C hH hS hc hs hl hL hSt hret
  exact k p e R s m args below meth c H locs cells slots G lc C hH hS hc hs hl hL hSt (fun r h' H' locs' cells' slots' pc' lc' hQ => hret r h' H' locs' cells' slots' pc' lc' (hq r h' hQ))
theorem Tot.stk {st' : List aV} {pc' : Nat} (hok : okS h st → okS h st')
    (hw : ∀ {p : Program} {e : Env} {R : Room} {s : State} {m : MethodId} {args : Array Value} {below : List Frame} {meth : Method} {c : Code} {H : Heap} {locs : List Loc} {cells slots : Nat} {G : State → Prop} {lc : Array Slot}, p.tables.exec = Jvm.exec → c.code = M.2.1 → W p l e R s m args below meth c H locs cells slots G (F0 m pc' lc (st'.map (cv E))) → W p l e R s m args below meth c H locs cells slots G (F0 m pc lc (st.map (cv E))))
    (k : Tot l E M d bc bs pc' ls st' h Q) : Tot l E M d bc bs pc ls st h Q := by
  intro p e R s m args below meth c H locs cells slots G lc C hH hS hc hs hl hL hSt hret
  exact hw C.1 C.2.1 (k p e R s m args below meth c H locs cells slots G lc C hH hS hc hs hl hL (hok hSt) hret)
theorem z_iconst {n : Int} {v : Int32} (hd : decode M.2.1 pc = .ok (.iconst n, 1)) (hv : Int32.ofInt n = v) (k : Tot l E M d bc bs (pc + 1) ls (.inl v :: st) h Q) : Tot l E M d bc bs pc ls st h Q :=
  Tot.stk (fun o => okS.cn (okV.int _ _) o) (fun hx hb w => lv_iconst hx hb hd hv w) k
theorem z_bipush {n : Int} {v : Int32} (hd : decode M.2.1 pc = .ok (.bipush n, 2)) (hv : (Int8.ofInt n).toInt32 = v) (k : Tot l E M d bc bs (pc + 2) ls (.inl v :: st) h Q) : Tot l E M d bc bs pc ls st h Q :=
  Tot.stk (fun o => okS.cn (okV.int _ _) o) (fun hx hb w => lv_bipush hx hb hd hv w) k
theorem z_sipush {n : Int} {v : Int32} (hd : decode M.2.1 pc = .ok (.sipush n, 3)) (hv : (Int16.ofInt n).toInt32 = v) (k : Tot l E M d bc bs (pc + 3) ls (.inl v :: st) h Q) : Tot l E M d bc bs pc ls st h Q :=
  Tot.stk (fun o => okS.cn (okV.int _ _) o) (fun hx hb w => lv_sipush hx hb hd hv w) k
theorem z_null (hd : decode M.2.1 pc = .ok (.aconst_null, 1)) (k : Tot l E M d bc bs (pc + 1) ls (.inr none :: st) h Q) : Tot l E M d bc bs pc ls st h Q :=
  Tot.stk (fun o => okS.cn (okV.null _) o) (fun hx hb w => lv_null hx hb hd w) k
theorem z_iadd {x y : Int32} (hd : decode M.2.1 pc = .ok (.iadd, 1)) (k : Tot l E M d bc bs (pc + 1) ls (.inl (x + y) :: st) h Q) : Tot l E M d bc bs pc ls (.inl y :: .inl x :: st) h Q :=
  Tot.stk (fun o => okS.cn (okV.int _ _) o.tl.tl) (fun hx hb w => lv_iadd hx hb hd w) k
theorem z_isub {x y : Int32} (hd : decode M.2.1 pc = .ok (.isub, 1)) (k : Tot l E M d bc bs (pc + 1) ls (.inl (x - y) :: st) h Q) : Tot l E M d bc bs pc ls (.inl y :: .inl x :: st) h Q :=
  Tot.stk (fun o => okS.cn (okV.int _ _) o.tl.tl) (fun hx hb w => lv_isub hx hb hd w) k
theorem z_imul {x y : Int32} (hd : decode M.2.1 pc = .ok (.imul, 1)) (k : Tot l E M d bc bs (pc + 1) ls (.inl (x * y) :: st) h Q) : Tot l E M d bc bs pc ls (.inl y :: .inl x :: st) h Q :=
  Tot.stk (fun o => okS.cn (okV.int _ _) o.tl.tl) (fun hx hb w => lv_imul hx hb hd w) k
theorem z_iand {x y : Int32} (hd : decode M.2.1 pc = .ok (.iand, 1)) (k : Tot l E M d bc bs (pc + 1) ls (.inl (x &&& y) :: st) h Q) : Tot l E M d bc bs pc ls (.inl y :: .inl x :: st) h Q :=
  Tot.stk (fun o => okS.cn (okV.int _ _) o.tl.tl) (fun hx hb w => lv_iand hx hb hd w) k
theorem z_ior {x y : Int32} (hd : decode M.2.1 pc = .ok (.ior, 1)) (k : Tot l E M d bc bs (pc + 1) ls (.inl (x ||| y) :: st) h Q) : Tot l E M d bc bs pc ls (.inl y :: .inl x :: st) h Q :=
  Tot.stk (fun o => okS.cn (okV.int _ _) o.tl.tl) (fun hx hb w => lv_ior hx hb hd w) k
theorem z_ixor {x y : Int32} (hd : decode M.2.1 pc = .ok (.ixor, 1)) (k : Tot l E M d bc bs (pc + 1) ls (.inl (x ^^^ y) :: st) h Q) : Tot l E M d bc bs pc ls (.inl y :: .inl x :: st) h Q :=
  Tot.stk (fun o => okS.cn (okV.int _ _) o.tl.tl) (fun hx hb w => lv_ixor hx hb hd w) k
theorem z_idiv {x y : Int32} (hd : decode M.2.1 pc = .ok (.idiv, 1)) (hy : ¬ y = 0) (k : Tot l E M d bc bs (pc + 1) ls (.inl (x / y) :: st) h Q) : Tot l E M d bc bs pc ls (.inl y :: .inl x :: st) h Q :=
  Tot.stk (fun o => okS.cn (okV.int _ _) o.tl.tl) (fun hx hb w => lv_idiv hx hb hd hy w) k
theorem z_irem {x y : Int32} (hd : decode M.2.1 pc = .ok (.irem, 1)) (hy : ¬ y = 0) (k : Tot l E M d bc bs (pc + 1) ls (.inl (x - x / y * y) :: st) h Q) : Tot l E M d bc bs pc ls (.inl y :: .inl x :: st) h Q :=
  Tot.stk (fun o => okS.cn (okV.int _ _) o.tl.tl) (fun hx hb w => lv_irem hx hb hd hy w) k
theorem z_ineg {x : Int32} (hd : decode M.2.1 pc = .ok (.ineg, 1)) (k : Tot l E M d bc bs (pc + 1) ls (.inl (0 - x) :: st) h Q) : Tot l E M d bc bs pc ls (.inl x :: st) h Q :=
  Tot.stk (fun o => okS.cn (okV.int _ _) o.tl) (fun hx hb w => lv_ineg hx hb hd w) k
theorem z_ishl {x y : Int32} (hd : decode M.2.1 pc = .ok (.ishl, 1)) (k : Tot l E M d bc bs (pc + 1) ls (.inl (x <<< (y &&& 31)) :: st) h Q) : Tot l E M d bc bs pc ls (.inl y :: .inl x :: st) h Q :=
  Tot.stk (fun o => okS.cn (okV.int _ _) o.tl.tl) (fun hx hb w => lv_ishl hx hb hd w) k
theorem z_ishr {x y : Int32} (hd : decode M.2.1 pc = .ok (.ishr, 1)) (k : Tot l E M d bc bs (pc + 1) ls (.inl (x >>> (y &&& 31)) :: st) h Q) : Tot l E M d bc bs pc ls (.inl y :: .inl x :: st) h Q :=
  Tot.stk (fun o => okS.cn (okV.int _ _) o.tl.tl) (fun hx hb w => lv_ishr hx hb hd w) k
theorem z_iushr {x y : Int32} (hd : decode M.2.1 pc = .ok (.iushr, 1)) (k : Tot l E M d bc bs (pc + 1) ls (.inl (x.toUInt32 >>> (y.toUInt32 &&& Int32.toUInt32 31)).toInt32 :: st) h Q) : Tot l E M d bc bs pc ls (.inl y :: .inl x :: st) h Q :=
  Tot.stk (fun o => okS.cn (okV.int _ _) o.tl.tl) (fun hx hb w => lv_iushr hx hb hd rfl w) k
theorem z_i2b {x : Int32} (hd : decode M.2.1 pc = .ok (.i2b, 1)) (k : Tot l E M d bc bs (pc + 1) ls (.inl x.toInt8.toInt32 :: st) h Q) : Tot l E M d bc bs pc ls (.inl x :: st) h Q :=
  Tot.stk (fun o => okS.cn (okV.int _ _) o.tl) (fun hx hb w => lv_i2b hx hb hd rfl w) k
theorem z_dup {v : aV} (hd : decode M.2.1 pc = .ok (.dup, 1)) (k : Tot l E M d bc bs (pc + 1) ls (v :: v :: st) h Q) : Tot l E M d bc bs pc ls (v :: st) h Q :=
  Tot.stk (fun o => okS.cn o.hd o) (fun hx hb w => lv_dup hx hb hd (cv_cat E v) w) k
theorem z_pop {v : aV} (hd : decode M.2.1 pc = .ok (.pop, 1)) (k : Tot l E M d bc bs (pc + 1) ls st h Q) : Tot l E M d bc bs pc ls (v :: st) h Q :=
  Tot.stk (fun o => o.tl) (fun hx hb w => lv_pop hx hb hd (cv_cat E v) w) k
theorem z_dup_x1 {v u : aV} (hd : decode M.2.1 pc = .ok (.dup_x1, 1)) (k : Tot l E M d bc bs (pc + 1) ls (v :: u :: v :: st) h Q) : Tot l E M d bc bs pc ls (v :: u :: st) h Q :=
  Tot.stk (fun o => okS.cn o.hd (okS.cn o.tl.hd (okS.cn o.hd o.tl.tl))) (fun hx hb w => lv_dup_x1 hx hb hd (cv_cat E v) (cv_cat E u) w) k
theorem z_dup2 {v u : aV} (hd : decode M.2.1 pc = .ok (.dup2, 1)) (k : Tot l E M d bc bs (pc + 1) ls (v :: u :: v :: u :: st) h Q) : Tot l E M d bc bs pc ls (v :: u :: st) h Q :=
  Tot.stk (fun o => okS.cn o.hd (okS.cn o.tl.hd o)) (fun hx hb w => lv_dup2_11 hx hb hd (cv_cat E v) (cv_cat E u) w) k
theorem z_goto {off : Int} {tgt : Nat} (hd : decode M.2.1 pc = .ok (.goto off, 3)) (ht : (pc : Int) + off = (tgt : Int)) (k : Tot l E M d bc bs tgt ls st h Q) : Tot l E M d bc bs pc ls st h Q :=
  Tot.stk (fun o => o) (fun hx hb w => lv_goto hx hb hd ht w) k
theorem z_if_eq {x : Int32} {off : Int} {tgt : Nat} (hd : decode M.2.1 pc = .ok (.ifCond .eq off, 3)) (ht : (pc : Int) + off = (tgt : Int)) (kt : x = 0 → Tot l E M d bc bs tgt ls st h Q) (kf : ¬ x = 0 → Tot l E M d bc bs (pc + 3) ls st h Q) : Tot l E M d bc bs pc ls (.inl x :: st) h Q := by
  intro p e R s m args below meth c H locs cells slots G lc C hH hS hc hs hl hL hSt hret
  exact lv_if_eq C.1 C.2.1 hd ht (fun q => kt q p e R s m args below meth c H locs cells slots G lc C hH hS hc hs hl hL hSt.tl hret) (fun q => kf q p e R s m args below meth c H locs cells slots G lc C hH hS hc hs hl hL hSt.tl hret)
theorem z_icmp_eq {x y : Int32} {off : Int} {tgt : Nat} (hd : decode M.2.1 pc = .ok (.if_icmp .eq off, 3)) (ht : (pc : Int) + off = (tgt : Int)) (kt : x = y → Tot l E M d bc bs tgt ls st h Q) (kf : ¬ x = y → Tot l E M d bc bs (pc + 3) ls st h Q) : Tot l E M d bc bs pc ls (.inl y :: .inl x :: st) h Q := by
  intro p e R s m args below meth c H locs cells slots G lc C hH hS hc hs hl hL hSt hret
  exact lv_icmp_eq C.1 C.2.1 hd ht (fun q => kt q p e R s m args below meth c H locs cells slots G lc C hH hS hc hs hl hL hSt.tl.tl hret) (fun q => kf q p e R s m args below meth c H locs cells slots G lc C hH hS hc hs hl hL hSt.tl.tl hret)
theorem z_if_ne {x : Int32} {off : Int} {tgt : Nat} (hd : decode M.2.1 pc = .ok (.ifCond .ne off, 3)) (ht : (pc : Int) + off = (tgt : Int)) (kt : ¬ x = 0 → Tot l E M d bc bs tgt ls st h Q) (kf : x = 0 → Tot l E M d bc bs (pc + 3) ls st h Q) : Tot l E M d bc bs pc ls (.inl x :: st) h Q := by
  intro p e R s m args below meth c H locs cells slots G lc C hH hS hc hs hl hL hSt hret
  exact lv_if_ne C.1 C.2.1 hd ht (fun q => kt q p e R s m args below meth c H locs cells slots G lc C hH hS hc hs hl hL hSt.tl hret) (fun q => kf q p e R s m args below meth c H locs cells slots G lc C hH hS hc hs hl hL hSt.tl hret)
theorem z_icmp_ne {x y : Int32} {off : Int} {tgt : Nat} (hd : decode M.2.1 pc = .ok (.if_icmp .ne off, 3)) (ht : (pc : Int) + off = (tgt : Int)) (kt : ¬ x = y → Tot l E M d bc bs tgt ls st h Q) (kf : x = y → Tot l E M d bc bs (pc + 3) ls st h Q) : Tot l E M d bc bs pc ls (.inl y :: .inl x :: st) h Q := by
  intro p e R s m args below meth c H locs cells slots G lc C hH hS hc hs hl hL hSt hret
  exact lv_icmp_ne C.1 C.2.1 hd ht (fun q => kt q p e R s m args below meth c H locs cells slots G lc C hH hS hc hs hl hL hSt.tl.tl hret) (fun q => kf q p e R s m args below meth c H locs cells slots G lc C hH hS hc hs hl hL hSt.tl.tl hret)
theorem z_if_lt {x : Int32} {off : Int} {tgt : Nat} (hd : decode M.2.1 pc = .ok (.ifCond .lt off, 3)) (ht : (pc : Int) + off = (tgt : Int)) (kt : x < 0 → Tot l E M d bc bs tgt ls st h Q) (kf : ¬ x < 0 → Tot l E M d bc bs (pc + 3) ls st h Q) : Tot l E M d bc bs pc ls (.inl x :: st) h Q := by
  intro p e R s m args below meth c H locs cells slots G lc C hH hS hc hs hl hL hSt hret
  exact lv_if_lt C.1 C.2.1 hd ht (fun q => kt q p e R s m args below meth c H locs cells slots G lc C hH hS hc hs hl hL hSt.tl hret) (fun q => kf q p e R s m args below meth c H locs cells slots G lc C hH hS hc hs hl hL hSt.tl hret)
theorem z_icmp_lt {x y : Int32} {off : Int} {tgt : Nat} (hd : decode M.2.1 pc = .ok (.if_icmp .lt off, 3)) (ht : (pc : Int) + off = (tgt : Int)) (kt : x < y → Tot l E M d bc bs tgt ls st h Q) (kf : ¬ x < y → Tot l E M d bc bs (pc + 3) ls st h Q) : Tot l E M d bc bs pc ls (.inl y :: .inl x :: st) h Q := by
  intro p e R s m args below meth c H locs cells slots G lc C hH hS hc hs hl hL hSt hret
  exact lv_icmp_lt C.1 C.2.1 hd ht (fun q => kt q p e R s m args below meth c H locs cells slots G lc C hH hS hc hs hl hL hSt.tl.tl hret) (fun q => kf q p e R s m args below meth c H locs cells slots G lc C hH hS hc hs hl hL hSt.tl.tl hret)
theorem z_if_ge {x : Int32} {off : Int} {tgt : Nat} (hd : decode M.2.1 pc = .ok (.ifCond .ge off, 3)) (ht : (pc : Int) + off = (tgt : Int)) (kt : 0 ≤ x → Tot l E M d bc bs tgt ls st h Q) (kf : ¬ 0 ≤ x → Tot l E M d bc bs (pc + 3) ls st h Q) : Tot l E M d bc bs pc ls (.inl x :: st) h Q := by
  intro p e R s m args below meth c H locs cells slots G lc C hH hS hc hs hl hL hSt hret
  exact lv_if_ge C.1 C.2.1 hd ht (fun q => kt q p e R s m args below meth c H locs cells slots G lc C hH hS hc hs hl hL hSt.tl hret) (fun q => kf q p e R s m args below meth c H locs cells slots G lc C hH hS hc hs hl hL hSt.tl hret)
theorem z_icmp_ge {x y : Int32} {off : Int} {tgt : Nat} (hd : decode M.2.1 pc = .ok (.if_icmp .ge off, 3)) (ht : (pc : Int) + off = (tgt : Int)) (kt : y ≤ x → Tot l E M d bc bs tgt ls st h Q) (kf : ¬ y ≤ x → Tot l E M d bc bs (pc + 3) ls st h Q) : Tot l E M d bc bs pc ls (.inl y :: .inl x :: st) h Q := by
  intro p e R s m args below meth c H locs cells slots G lc C hH hS hc hs hl hL hSt hret
  exact lv_icmp_ge C.1 C.2.1 hd ht (fun q => kt q p e R s m args below meth c H locs cells slots G lc C hH hS hc hs hl hL hSt.tl.tl hret) (fun q => kf q p e R s m args below meth c H locs cells slots G lc C hH hS hc hs hl hL hSt.tl.tl hret)
theorem z_if_gt {x : Int32} {off : Int} {tgt : Nat} (hd : decode M.2.1 pc = .ok (.ifCond .gt off, 3)) (ht : (pc : Int) + off = (tgt : Int)) (kt : 0 < x → Tot l E M d bc bs tgt ls st h Q) (kf : ¬ 0 < x → Tot l E M d bc bs (pc + 3) ls st h Q) : Tot l E M d bc bs pc ls (.inl x :: st) h Q := by
  intro p e R s m args below meth c H locs cells slots G lc C hH hS hc hs hl hL hSt hret
  exact lv_if_gt C.1 C.2.1 hd ht (fun q => kt q p e R s m args below meth c H locs cells slots G lc C hH hS hc hs hl hL hSt.tl hret) (fun q => kf q p e R s m args below meth c H locs cells slots G lc C hH hS hc hs hl hL hSt.tl hret)
theorem z_icmp_gt {x y : Int32} {off : Int} {tgt : Nat} (hd : decode M.2.1 pc = .ok (.if_icmp .gt off, 3)) (ht : (pc : Int) + off = (tgt : Int)) (kt : y < x → Tot l E M d bc bs tgt ls st h Q) (kf : ¬ y < x → Tot l E M d bc bs (pc + 3) ls st h Q) : Tot l E M d bc bs pc ls (.inl y :: .inl x :: st) h Q := by
  intro p e R s m args below meth c H locs cells slots G lc C hH hS hc hs hl hL hSt hret
  exact lv_icmp_gt C.1 C.2.1 hd ht (fun q => kt q p e R s m args below meth c H locs cells slots G lc C hH hS hc hs hl hL hSt.tl.tl hret) (fun q => kf q p e R s m args below meth c H locs cells slots G lc C hH hS hc hs hl hL hSt.tl.tl hret)
theorem z_if_le {x : Int32} {off : Int} {tgt : Nat} (hd : decode M.2.1 pc = .ok (.ifCond .le off, 3)) (ht : (pc : Int) + off = (tgt : Int)) (kt : x ≤ 0 → Tot l E M d bc bs tgt ls st h Q) (kf : ¬ x ≤ 0 → Tot l E M d bc bs (pc + 3) ls st h Q) : Tot l E M d bc bs pc ls (.inl x :: st) h Q := by
  intro p e R s m args below meth c H locs cells slots G lc C hH hS hc hs hl hL hSt hret
  exact lv_if_le C.1 C.2.1 hd ht (fun q => kt q p e R s m args below meth c H locs cells slots G lc C hH hS hc hs hl hL hSt.tl hret) (fun q => kf q p e R s m args below meth c H locs cells slots G lc C hH hS hc hs hl hL hSt.tl hret)
theorem z_icmp_le {x y : Int32} {off : Int} {tgt : Nat} (hd : decode M.2.1 pc = .ok (.if_icmp .le off, 3)) (ht : (pc : Int) + off = (tgt : Int)) (kt : x ≤ y → Tot l E M d bc bs tgt ls st h Q) (kf : ¬ x ≤ y → Tot l E M d bc bs (pc + 3) ls st h Q) : Tot l E M d bc bs pc ls (.inl y :: .inl x :: st) h Q := by
  intro p e R s m args below meth c H locs cells slots G lc C hH hS hc hs hl hL hSt hret
  exact lv_icmp_le C.1 C.2.1 hd ht (fun q => kt q p e R s m args below meth c H locs cells slots G lc C hH hS hc hs hl hL hSt.tl.tl hret) (fun q => kf q p e R s m args below meth c H locs cells slots G lc C hH hS hc hs hl hL hSt.tl.tl hret)
theorem z_ifnull {r : aR} {off : Int} {tgt : Nat} (hd : decode M.2.1 pc = .ok (.ifnull off, 3)) (ht : (pc : Int) + off = (tgt : Int)) (kt : r = none → Tot l E M d bc bs tgt ls st h Q) (kf : ∀ q, r = some q → Tot l E M d bc bs (pc + 3) ls st h Q) : Tot l E M d bc bs pc ls (.inr r :: st) h Q := by
  intro p e R s m args below meth c H locs cells slots G lc C hH hS hc hs hl hL hSt hret
  cases r with
  | none => exact lv_ifnullN C.1 C.2.1 hd ht (kt rfl p e R s m args below meth c H locs cells slots G lc C hH hS hc hs hl hL hSt.tl hret)
  | some q => exact lv_ifnull C.1 C.2.1 hd (kf q rfl p e R s m args below meth c H locs cells slots G lc C hH hS hc hs hl hL hSt.tl hret)
theorem z_ifnonnull {r : aR} {off : Int} {tgt : Nat} (hd : decode M.2.1 pc = .ok (.ifnonnull off, 3)) (ht : (pc : Int) + off = (tgt : Int)) (kt : ∀ q, r = some q → Tot l E M d bc bs tgt ls st h Q) (kf : r = none → Tot l E M d bc bs (pc + 3) ls st h Q) : Tot l E M d bc bs pc ls (.inr r :: st) h Q := by
  intro p e R s m args below meth c H locs cells slots G lc C hH hS hc hs hl hL hSt hret
  cases r with
  | none => exact lv_ifnonnullN C.1 C.2.1 hd (kf rfl p e R s m args below meth c H locs cells slots G lc C hH hS hc hs hl hL hSt.tl hret)
  | some q => exact lv_ifnonnull C.1 C.2.1 hd ht (kt q rfl p e R s m args below meth c H locs cells slots G lc C hH hS hc hs hl hL hSt.tl hret)
theorem okL.at {i : Nat} {v : aV} (hL : okL h ls) (hi : ls[i]? = some (some v)) : okV h v := hL v (List.mem_of_getElem? hi)
theorem okL.set {i : Nat} {v : aV} (hL : okL h ls) (hv : okV h v) : okL h (ls.set i (some v)) := fun w hw => by
  rcases List.mem_or_eq_of_mem_set hw with q | q
  · exact hL w q
  · cases q; exact hv
theorem z_iload_n {k : Fin 4} {i : Nat} {x : Int32} (hd : decode M.2.1 pc = .ok (.iload_n k, 1)) (hi : (k : Nat) = i) (hv : ls[i]? = some (some (.inl x))) (k : Tot l E M d bc bs (pc + 1) ls (.inl x :: st) h Q) : Tot l E M d bc bs pc ls st h Q := by
  intro p e R s m args below meth c H locs cells slots G lc C hH hS hc hs hl hL hSt hret
  exact lv_iload_n C.1 C.2.1 hd hi (hl.2.2 i _ hv) (k p e R s m args below meth c H locs cells slots G lc C hH hS hc hs hl hL (okS.cn (okV.int _ _) hSt) hret)
theorem z_iload {i : Nat} {x : Int32} (hd : decode M.2.1 pc = .ok (.iload i, 2)) (hv : ls[i]? = some (some (.inl x))) (k : Tot l E M d bc bs (pc + 2) ls (.inl x :: st) h Q) : Tot l E M d bc bs pc ls st h Q := by
  intro p e R s m args below meth c H locs cells slots G lc C hH hS hc hs hl hL hSt hret
  exact lv_iload C.1 C.2.1 hd (hl.2.2 i _ hv) (k p e R s m args below meth c H locs cells slots G lc C hH hS hc hs hl hL (okS.cn (okV.int _ _) hSt) hret)
theorem z_aload_n {k : Fin 4} {i : Nat} {r : aR} (hd : decode M.2.1 pc = .ok (.aload_n k, 1)) (hi : (k : Nat) = i) (hv : ls[i]? = some (some (.inr r))) (k : Tot l E M d bc bs (pc + 1) ls (.inr r :: st) h Q) : Tot l E M d bc bs pc ls st h Q := by
  intro p e R s m args below meth c H locs cells slots G lc C hH hS hc hs hl hL hSt hret
  have w := k p e R s m args below meth c H locs cells slots G lc C hH hS hc hs hl hL (okS.cn (hL.at hv) hSt) hret
  cases r with
  | none => exact lv_aload_nN C.1 C.2.1 hd hi (hl.2.2 i _ hv) w
  | some q => exact lv_aload_n C.1 C.2.1 hd hi (hl.2.2 i _ hv) w
theorem z_aload {i : Nat} {r : aR} (hd : decode M.2.1 pc = .ok (.aload i, 2)) (hv : ls[i]? = some (some (.inr r))) (k : Tot l E M d bc bs (pc + 2) ls (.inr r :: st) h Q) : Tot l E M d bc bs pc ls st h Q := by
  intro p e R s m args below meth c H locs cells slots G lc C hH hS hc hs hl hL hSt hret
  have w := k p e R s m args below meth c H locs cells slots G lc C hH hS hc hs hl hL (okS.cn (hL.at hv) hSt) hret
  cases r with
  | none => exact lv_aloadN C.1 C.2.1 hd (hl.2.2 i _ hv) w
  | some q => exact lv_aload C.1 C.2.1 hd (hl.2.2 i _ hv) w
theorem z_istore_n {k : Fin 4} {i : Nat} {x : Int32} {ls' : List (Option aV)} (hd : decode M.2.1 pc = .ok (.istore_n k, 1)) (hi : (k : Nat) = i) (hn : Nat.blt i ls.length = true) (hls : ls.set i (some (.inl x)) = ls') (k : Tot l E M d bc bs (pc + 1) ls' st h Q) : Tot l E M d bc bs pc ls (.inl x :: st) h Q := by
  subst hls
  intro p e R s m args below meth c H locs cells slots G lc C hH hS hc hs hl hL hSt hret
  have hlt : i < M.2.2.1 := by rw [← hl.1.2]; exact Nat.le_of_ble_eq_true hn
  exact lv_istore_n C.1 C.2.1 hd hi hl.has hlt rfl (fun lc' hl' => k p e R s m args below meth c H locs cells slots G lc' C hH hS hc hs (lsOK.set (v := .inl x) hl.1.2 hl') (hL.set (okV.int _ _)) hSt.tl hret)
theorem z_istore {i : Nat} {x : Int32} {ls' : List (Option aV)} (hd : decode M.2.1 pc = .ok (.istore i, 2)) (hn : Nat.blt i ls.length = true) (hls : ls.set i (some (.inl x)) = ls') (k : Tot l E M d bc bs (pc + 2) ls' st h Q) : Tot l E M d bc bs pc ls (.inl x :: st) h Q := by
  subst hls
  intro p e R s m args below meth c H locs cells slots G lc C hH hS hc hs hl hL hSt hret
  have hlt : i < M.2.2.1 := by rw [← hl.1.2]; exact Nat.le_of_ble_eq_true hn
  exact lv_istore C.1 C.2.1 hd hl.has hlt rfl (fun lc' hl' => k p e R s m args below meth c H locs cells slots G lc' C hH hS hc hs (lsOK.set (v := .inl x) hl.1.2 hl') (hL.set (okV.int _ _)) hSt.tl hret)
theorem z_astore_n {k : Fin 4} {i : Nat} {r : aR} {ls' : List (Option aV)} (hd : decode M.2.1 pc = .ok (.astore_n k, 1)) (hi : (k : Nat) = i) (hn : Nat.blt i ls.length = true) (hls : ls.set i (some (.inr r)) = ls') (k : Tot l E M d bc bs (pc + 1) ls' st h Q) : Tot l E M d bc bs pc ls (.inr r :: st) h Q := by
  subst hls
  intro p e R s m args below meth c H locs cells slots G lc C hH hS hc hs hl hL hSt hret
  have hlt : i < M.2.2.1 := by rw [← hl.1.2]; exact Nat.le_of_ble_eq_true hn
  cases r with
  | none => exact lv_astore_nN C.1 C.2.1 hd hi hl.has hlt rfl (fun lc' hl' => k p e R s m args below meth c H locs cells slots G lc' C hH hS hc hs (lsOK.set (v := .inr none) hl.1.2 hl') (hL.set hSt.hd) hSt.tl hret)
  | some q => exact lv_astore_n C.1 C.2.1 hd hi hl.has hlt rfl (fun lc' hl' => k p e R s m args below meth c H locs cells slots G lc' C hH hS hc hs (lsOK.set (v := .inr (some q)) hl.1.2 hl') (hL.set hSt.hd) hSt.tl hret)
theorem z_astore {i : Nat} {r : aR} {ls' : List (Option aV)} (hd : decode M.2.1 pc = .ok (.astore i, 2)) (hn : Nat.blt i ls.length = true) (hls : ls.set i (some (.inr r)) = ls') (k : Tot l E M d bc bs (pc + 2) ls' st h Q) : Tot l E M d bc bs pc ls (.inr r :: st) h Q := by
  subst hls
  intro p e R s m args below meth c H locs cells slots G lc C hH hS hc hs hl hL hSt hret
  have hlt : i < M.2.2.1 := by rw [← hl.1.2]; exact Nat.le_of_ble_eq_true hn
  cases r with
  | none => exact lv_astoreN C.1 C.2.1 hd hl.has hlt rfl (fun lc' hl' => k p e R s m args below meth c H locs cells slots G lc' C hH hS hc hs (lsOK.set (v := .inr none) hl.1.2 hl') (hL.set hSt.hd) hSt.tl hret)
  | some q => exact lv_astore C.1 C.2.1 hd hl.has hlt rfl (fun lc' hl' => k p e R s m args below meth c H locs cells slots G lc' C hH hS hc hs (lsOK.set (v := .inr (some q)) hl.1.2 hl') (hL.set hSt.hd) hSt.tl hret)
theorem z_iinc {i : Nat} {n : Int} {x v : Int32} {ls' : List (Option aV)} (hd : decode M.2.1 pc = .ok (.iinc i n, 3)) (hx : ls[i]? = some (some (.inl x))) (hv : x + Int32.ofInt n = v) (hls : ls.set i (some (.inl v)) = ls') (k : Tot l E M d bc bs (pc + 3) ls' st h Q) : Tot l E M d bc bs pc ls st h Q := by
  subst hls
  intro p e R s m args below meth c H locs cells slots G lc C hH hS hc hs hl hL hSt hret
  have hlt : i < M.2.2.1 := by rw [← hl.1.2]; exact (List.getElem?_eq_some_iff.mp hx).1
  obtain ⟨j, hj⟩ := List.getElem?_of_mem (lvl_of (E := E) hx)
  exact lv_iinc C.1 C.2.1 hd hl.has hj hv hlt rfl (fun lc' hl' => k p e R s m args below meth c H locs cells slots G lc' C hH hS hc hs (lsOK.set (v := .inl v) hl.1.2 hl') (hL.set (okV.int _ _)) hSt hret)
/-! returns -/
theorem z_iret {x : Int32} {ty : FieldType} (hd : decode M.2.1 pc = .ok (.ireturn, 1)) (hr : M.2.2.2 = some ty) (hn : narrow ty (.int x) = .int x) (k : Q (some (.inl x)) h) : Tot l E M d bc bs pc ls [.inl x] h Q := by
  intro p e R s m args below meth c H locs cells slots G lc C hH hS hc hs hl hL hSt hret
  exact hret _ h H locs cells slots pc lc k hH hS (by omega) (by omega) (exH.rf h) (fun v e => by cases e; exact okV.int _ _) (Or.inr (Or.inl ⟨x, ty, rfl, hr, hn, hd⟩))
theorem z_aret {r : aR} {C : String} (hd : decode M.2.1 pc = .ok (.areturn, 1)) (hr : M.2.2.2 = some (.object C)) (k : Q (some (.inr r)) h) : Tot l E M d bc bs pc ls [.inr r] h Q := by
  intro p e R s m args below meth c H locs cells slots G lc Cc hH hS hc hs hl hL hSt hret
  exact hret _ h H locs cells slots pc lc k hH hS (by omega) (by omega) (exH.rf h) (fun v e => by cases e; exact hSt.hd) (Or.inr (Or.inr ⟨r, C, rfl, hr, hd⟩))
theorem z_ret (hd : decode M.2.1 pc = .ok (.return_, 1)) (hr : M.2.2.2 = none) (k : Q none h) : Tot l E M d bc bs pc ls [] h Q := by
  intro p e R s m args below meth c H locs cells slots G lc C hH hS hc hs hl hL hSt hret
  exact hret _ h H locs cells slots pc lc k hH hS (by omega) (by omega) (exH.rf h) (fun v e => by cases e) (Or.inl ⟨rfl, hr, hd⟩)
end RULES
end
section
/-! ===== fields, arrays, making ===== -/
theorem cl_in {c N : Nat} {C : String} {T : u_T} (h : vwCl[c]? = some (C, T, N)) : ∀ w ∈ u_ws C T N, w ∈ tsG := by
  have g : ∀ {n : Nat} {C : String} {T : u_T}, ∀ w ∈ u_ws C T n, goodWord w = true := by
    intro n C T w hw
    obtain ⟨k, -, rfl⟩ := List.mem_map.mp hw
    unfold u_lay
    split <;> rfl
  match c, h with
  | 0, h => cases h; exact fun w hw => tsG_of (inX0 w hw) (g w hw)
  | 1, h => cases h; exact fun w hw => tsG_of (inX1 w hw) (g w hw)
  | 2, h => cases h; exact fun w hw => tsG_of (inX2 w hw) (g w hw)
  | 3, h => cases h; exact fun w hw => tsG_of (inX3 w hw) (g w hw)
  | 4, h => cases h; exact fun w hw => tsG_of (inX4 w hw) (g w hw)
  | 5, h => cases h; exact fun w hw => tsG_of (inX5 w hw) (g w hw)
  | 6, h => cases h; exact fun w hw => tsG_of (inX6 w hw) (g w hw)
  | 7, h => cases h; exact fun w hw => tsG_of (inX7 w hw) (g w hw)
  | 8, h => cases h; exact fun w hw => tsG_of (inX8 w hw) (g w hw)
  | 9, h => cases h; exact fun w hw => tsG_of (inX9 w hw) (g w hw)
  | 10, h => cases h; exact fun w hw => tsG_of (inX10 w hw) (g w hw)
  | 11, h => cases h; exact fun w hw => tsG_of (inX11 w hw) (g w hw)
  | 12, h => cases h; exact fun w hw => tsG_of (inX12 w hw) (g w hw)
  | n + 13, h => simp [vwCl] at h
theorem cl_ty {c N : Nat} {C : String} {T : u_T} (h : vwCl[c]? = some (C, T, N)) : ∀ k, k < N → parseFieldDescriptor (T k).2.2.1 = some (tyC c k) := by
  match c, h with
  | 0, h => cases h; exact tyX0_ok
  | 1, h => cases h; exact tyX1_ok
  | 2, h => cases h; exact tyX2_ok
  | 3, h => cases h; exact tyX3_ok
  | 4, h => cases h; exact tyX4_ok
  | 5, h => cases h; exact tyX5_ok
  | 6, h => cases h; exact tyX6_ok
  | 7, h => cases h; exact tyX7_ok
  | 8, h => cases h; exact tyX8_ok
  | 9, h => cases h; exact tyX9_ok
  | 10, h => cases h; exact tyX10_ok
  | 11, h => cases h; exact tyX11_ok
  | 12, h => cases h; exact tyX12_ok
  | n + 13, h => simp [vwCl] at h
theorem cl_nm {c N : Nat} {C : String} {T : u_T} (h : vwCl[c]? = some (C, T, N)) : ∀ a, a < N → ∀ b, b < N → a ≠ b → (T a).2.1 ≠ (T b).2.1 := by
  match c, h with
  | 0, h => cases h; exact nmX0
  | 1, h => cases h; exact nmX1
  | 2, h => cases h; exact nmX2
  | 3, h => cases h; exact nmX3
  | 4, h => cases h; exact nmX4
  | 5, h => cases h; exact nmX5
  | 6, h => cases h; exact nmX6
  | 7, h => cases h; exact nmX7
  | 8, h => cases h; exact nmX8
  | 9, h => cases h; exact nmX9
  | 10, h => cases h; exact nmX10
  | 11, h => cases h; exact nmX11
  | 12, h => cases h; exact nmX12
  | n + 13, h => simp [vwCl] at h
theorem cl_df {c : Nat} (hc : c < 13) : ∀ k, k < nfC c → defaultValue (tyC c k) = if fkR c k then Value.null else .int 0 := by
  match c, hc with
  | 0, _ => decide +kernel
  | 1, _ => decide +kernel
  | 2, _ => decide +kernel
  | 3, _ => decide +kernel
  | 4, _ => decide +kernel
  | 5, _ => decide +kernel
  | 6, _ => decide +kernel
  | 7, _ => decide +kernel
  | 8, _ => decide +kernel
  | 9, _ => decide +kernel
  | 10, _ => decide +kernel
  | 11, _ => decide +kernel
  | 12, _ => decide +kernel
  | n + 13, h => omega
/-- a field's link -/
def fOK (C0 : String) (idx c k : Nat) : Prop := ∃ C T N, vwCl[c]? = some (C, T, N) ∧ k < N ∧ Cond.fieldLink C0 idx (T k).1 (T k).2.1 (T k).2.2.1 ∈ tsG
/-- it may be written: it isn't final, or this is its constructor -/
def fWr (M : aM) (c k : Nat) : Prop := ∃ C T N, vwCl[c]? = some (C, T, N) ∧ ((T k).2.2.2 = false ∨ ((T k).2.2.2 = true ∧ M.1.name = "<init>" ∧ (T k).1 = M.1.cls))
section PUT2
variable {p : Program} {l : Launch} {e : Env} {R : Room} {s : State} {m : MethodId} {args : Array Value} {below : List Frame} {meth : Method} {c : Code} {H : Heap} {locs : List Loc} {cells slots : Nat} {Q : State → Prop}
variable {cc : ByteArray} {pc : Nat} {ls : Array Slot} {rest : List Value} {D : va_G} {cl : List vw_C} {A : Nat → Prop} {a : Nat} {tys : List (ClassId × FieldType)} {H0 : Heap}
theorem va_put2 (hexec : p.tables.exec = Jvm.exec) (hb : c.code = cc) {own ref C : String} {T : u_T} {N ci index : Nat} {Ts : List Cond} (hts : ∀ w ∈ Ts, w.before args s = true) (hin : ∀ w ∈ u_ws C T N, w ∈ Ts) (ty0 : Nat → FieldType) (hty : ∀ k, k < N → parseFieldDescriptor (T k).2.2.1 = some (ty0 k)) (hnm : ∀ a, a < N → ∀ b, b < N → a ≠ b → (T a).2.1 ≠ (T b).2.1) (hown : s.vm.findClass own = some m.cls) (hK : va_K D cl tys s) (hS0 : va_S A H0 H locs) {fs : List Value} (he : va_at D cl (a, .inr (ci, fs)) H) (hAa : A a) (hc : cl[ci]? = some (C, T, N)) (k : Nat) (hk : k < N) (hlink : (Cond.fieldLink own index ref (T k).2.1 (T k).2.2.1).before args s = true) (hsame : ∀ x, s.fieldFound? (T k).1 (T k).2.1 (T k).2.2.1 = some x → s.fieldFound? ref (T k).2.1 (T k).2.2.1 = some x) (hfin : (T k).2.2.2 = false ∨ ((T k).2.2.2 = true ∧ meth.name = "<init>" ∧ (T k).1 = own)) {ty : FieldType} {v : Value} (hd : parseFieldDescriptor (T k).2.2.1 = some ty) (hn : narrow ty v = v) (hfit : fits ty v = true) (hl : k < fs.length)
    (hdg : decode cc pc = .ok (.putfield index, 3)) (kk : ∀ (H1 : Heap) (locs1 : List Loc), va_at D cl (a, .inr (ci, fs.set k v)) H1 → H1.size = H.size → (∀ q, q ≠ a → H1[q]? = H[q]?) → va_S A H0 H1 locs1 → W p l e R s m args below meth c H1 locs1 cells slots Q (F0 m (pc + 3) ls rest)) : W p l e R s m args below meth c H locs cells slots Q (F0 m pc ls (v :: .ref a :: rest)) := by
  have hap := va_apart (own := own) hts hin ty0 hty hnm hK hc
  obtain ⟨r, h1, cell, q1, q2, q3, q4⟩ := he
  have hr : r = (C, T, N) := Option.some.inj (h1.symm.trans hc)
  subst hr
  obtain ⟨hS, hfc, kC, hkC, hkind⟩ := hK.1 ci _ hc
  obtain ⟨cf, kf, fi, f, hi, hsl⟩ := hS k hk
  have hlay := hts _ (hin _ (u_in_lay hk))
  unfold u_lay at hlay
  have hst := (u_facts hfc hkC (u_lays hts hin hk) hi).1
  rcases hfin with hfin | ⟨hfin, hin2, hdecl⟩
  · rw [if_neg (by rw [hfin]; decide)] at hlay
    have h6 := u_store hfc hkC hkind hlay hi hd hn hfit
    refine W.putK hexec hb (f := f) ⟨hown, hlink, ⟨_, _, _, hsame _ hi⟩, hst⟩ (by rw [q2]; exact h6) q1 q3 (by rw [hsl]; exact k2_hasslot (q4 k hk)) rfl rfl hdg fun H' e1 e2 e3 => ?_
    rw [hsl] at e1 ⊢
    exact kk H' _ ⟨_, hc, t_OB.to (V := updV (vp_V fs) k v) ⟨_, e1, q2, q3, t_set q4 hap hk v⟩ (fun j _ => vp_updV_set hl v j)⟩ e2 e3 (hS0.put e2 e3 hAa)
  · rw [if_pos hfin] at hlay
    have hcf : m.cls = cf := by
      obtain ⟨_, _, c', _, _, _, -, -, hf', -, -, -, hown2, -⟩ := Cond.laysFinal_spec hlay
      have e1 : c' = cf := by have := hi.symm.trans hf'; simp at this; exact this.1.symm
      rw [hdecl] at hown2
      rw [← e1]; exact Option.some.inj (hown.symm.trans hown2)
    have h6 := u_fits hfc hkC hkind (Or.inr hlay) hi hd hn hfit
    refine W.putFinK hexec hb hown hlink (hsame _ hi) hst hcf hin2 (by rw [q2]; exact h6) q1 q3 (by rw [hsl]; exact k2_hasslot (q4 k hk)) rfl rfl hdg fun H' e1 e2 e3 => ?_
    rw [hsl] at e1 ⊢
    exact kk H' _ ⟨_, hc, t_OB.to (V := updV (vp_V fs) k v) ⟨_, e1, q2, q3, t_set q4 hap hk v⟩ (fun j _ => vp_updV_set hl v j)⟩ e2 e3 (hS0.put e2 e3 hAa)
end PUT2
theorem cel_congr {E : eE} {h h' : aH} {j : Nat} (h1 : hT h' j = hT h j) (h2 : hI h' j = hI h j) (h3 : hR h' j = hR h j) (h4 : hA h' j = hA h j) (h5 : hQ h' j = hQ h j) : cel E h' j = cel E h j := by
  unfold cel
  rw [h1, h2, h3, h4, h5]
theorem up2_ne {α : Type} {f : Nat → Nat → α} {i k j : Nat} {v : α} (hj : j ≠ i) : up2 f i k v j = f j := by
  funext b
  simp [up2, hj]
theorem up1_ne {α : Type} {f : Nat → α} {i j : Nat} {v : α} (hj : j ≠ i) : up1 f i v j = f j := by simp [up1, hj]
theorem stI_cel {E : eE} {h : aH} {i k : Nat} {v : Int32} : ∀ j, j ≠ i → cel E (stI h i k v) j = cel E h j := fun _ hj => cel_congr rfl (up2_ne hj) rfl rfl rfl
theorem stR_cel {E : eE} {h : aH} {i k : Nat} {v : aR} : ∀ j, j ≠ i → cel E (stR h i k v) j = cel E h j := fun _ hj => cel_congr rfl rfl (up2_ne hj) rfl rfl
theorem stA_cel {E : eE} {h : aH} {i k : Nat} {v : Int32} : ∀ j, j ≠ i → cel E (stA h i k v) j = cel E h j := fun _ hj => cel_congr rfl rfl rfl (up2_ne hj) rfl
theorem stQ_cel {E : eE} {h : aH} {i k : Nat} {v : aR} : ∀ j, j ≠ i → cel E (stQ h i k v) j = cel E h j := fun _ hj => cel_congr rfl rfl rfl rfl (up2_ne hj)
theorem stAA_cel {E : eE} {h : aH} {i : Nat} {f : Nat → Int32} : ∀ j, j ≠ i → cel E (stAA h i f) j = cel E h j := fun _ hj => cel_congr rfl rfl rfl (up1_ne hj) rfl
theorem wfH.stI {h : aH} {i k : Nat} {v : Int32} (w : wfH h) : wfH (stI h i k v) := w
theorem wfH.stA {h : aH} {i k : Nat} {v : Int32} (w : wfH h) : wfH (stA h i k v) := w
theorem wfH.stAA {h : aH} {i : Nat} {f : Nat → Int32} (w : wfH h) : wfH (stAA h i f) := w
theorem wfH.stR {h : aH} {i k : Nat} {v : aR} (w : wfH h) (hv : okR h v) : wfH (stR h i k v) := by
  refine ⟨fun a b => ?_, w.2⟩
  show okR h (up2 (hR h) i k v a b)
  unfold up2
  split
  · exact hv
  · exact w.1 a b
theorem wfH.stQ {h : aH} {i k : Nat} {v : aR} (w : wfH h) (hv : okR h v) : wfH (stQ h i k v) := by
  refine ⟨w.1, fun a b => ?_⟩
  show okR h (up2 (hQ h) i k v a b)
  unfold up2
  split
  · exact hv
  · exact w.2 a b
theorem stI_fls {E : eE} {h : aH} {o c k : Nat} {x : Int32} (hk : k < nfC c) (hf : fkR c k = false) : fls E (stI h o k x) o c = (fls E h o c).set k (.int x) := by
  apply List.ext_getElem?
  intro j
  by_cases hj : j < nfC c
  · rw [fls_at hj]
    by_cases e : k = j
    · subst e
      rw [List.getElem?_set_self (by rw [fls_len]; exact hk), hf]
      simp [stI, up2, hI]
    · rw [List.getElem?_set_ne e, fls_at hj]
      have e' : ¬ j = k := fun q => e q.symm
      simp [stI, up2, hI, hR, e']
  · rw [List.getElem?_eq_none (by rw [fls_len]; omega), List.getElem?_eq_none (by rw [List.length_set, fls_len]; omega)]
theorem stR_fls {E : eE} {h : aH} {o c k : Nat} {r : aR} (hk : k < nfC c) (hf : fkR c k = true) : fls E (stR h o k r) o c = (fls E h o c).set k (va_rf (cvA E r)) := by
  apply List.ext_getElem?
  intro j
  by_cases hj : j < nfC c
  · rw [fls_at hj]
    by_cases e : k = j
    · subst e
      rw [List.getElem?_set_self (by rw [fls_len]; exact hk), hf]
      simp [stR, up2, hR]
    · rw [List.getElem?_set_ne e, fls_at hj]
      have e' : ¬ j = k := fun q => e q.symm
      simp [stR, up2, hI, hR, e']
  · rw [List.getElem?_eq_none (by rw [fls_len]; omega), List.getElem?_eq_none (by rw [List.length_set, fls_len]; omega)]
section RULES2
variable {l : Launch} {E : eE} {M : aM} {d bc bs pc : Nat} {ls : List (Option aV)} {st : List aV} {h : aH} {Q : Option aV → aH → Prop}
theorem z_geti {idx c k o : Nat} (hd : decode M.2.1 pc = .ok (.getfield idx, 3)) (hf : fOK M.1.cls idx c k) (hk : fkR c k = false) (kk : Tot l E M d bc bs (pc + 3) ls (.inl (hI h o k) :: st) h Q) : Tot l E M d bc bs pc ls (.inr (some (0, c, o)) :: st) h Q := by
  obtain ⟨C, T, N, hc, hkN, hl0⟩ := hf
  intro p e R s m args below meth co H locs cells slots G lc Cc hH hS hce hsl hl hL hSt hret
  obtain ⟨ho, ht⟩ := hSt.obj (by decide)
  have he : (wl E h)[o]? = some (eZ E + o, .inr (c, fls E h o c)) := by rw [wl_at E h ho, cel_obj ht]
  have hnf : nfC c = N := by simp [nfC, hc]
  obtain ⟨hx, hb, hml, hown, hts, hnm, hV, hz, hfr, hlo⟩ := id Cc
  exact va_get (D := eD E) hx hb hts (cl_in hc) hown hV.1 hH.2.1 o he hc k hkN (hts _ hl0) (fun _ z => z) (by rw [fls_at (by omega), hk]; rfl) hd (kk p e R s m args below meth co H locs cells slots G lc Cc hH hS hce hsl hl hL (okS.cn (okV.int _ _) hSt.tl) hret)
theorem z_getr {idx c k o : Nat} (hd : decode M.2.1 pc = .ok (.getfield idx, 3)) (hf : fOK M.1.cls idx c k) (hk : fkR c k = true) (kk : Tot l E M d bc bs (pc + 3) ls (.inr (hR h o k) :: st) h Q) : Tot l E M d bc bs pc ls (.inr (some (0, c, o)) :: st) h Q := by
  obtain ⟨C, T, N, hc, hkN, hl0⟩ := hf
  intro p e R s m args below meth co H locs cells slots G lc Cc hH hS hce hsl hl hL hSt hret
  obtain ⟨ho, ht⟩ := hSt.obj (by decide)
  have he : (wl E h)[o]? = some (eZ E + o, .inr (c, fls E h o c)) := by rw [wl_at E h ho, cel_obj ht]
  have hnf : nfC c = N := by simp [nfC, hc]
  obtain ⟨hx, hb, hml, hown, hts, hnm, hV, hz, hfr, hlo⟩ := id Cc
  exact va_get (D := eD E) hx hb hts (cl_in hc) hown hV.1 hH.2.1 o he hc k hkN (hts _ hl0) (fun _ z => z) (by rw [fls_at (by omega), hk]; rfl) hd (kk p e R s m args below meth co H locs cells slots G lc Cc hH hS hce hsl hl hL (okS.cn (fun r hr => by cases hr; exact hH.2.2.1 o k) hSt.tl) hret)
theorem z_puti {idx c k o : Nat} {x : Int32} (hd : decode M.2.1 pc = .ok (.putfield idx, 3)) (hf : fOK M.1.cls idx c k) (hwr : fWr M c k) (hk : fkR c k = false) (hn : narrow (tyC c k) (.int x) = .int x) (hfit : fits (tyC c k) (.int x) = true) (kk : Tot l E M d bc bs (pc + 3) ls st (stI h o k x) Q) : Tot l E M d bc bs pc ls (.inl x :: .inr (some (0, c, o)) :: st) h Q := by
  obtain ⟨C, T, N, hc, hkN, hl0⟩ := hf
  intro p e R s m args below meth co H locs cells slots G lc Cc hH hS hce hsl hl hL hSt hret
  obtain ⟨ho, ht⟩ := hSt.tl.obj (by decide)
  have he := hH.2.1 o _ (wl_at E h ho)
  rw [cel_obj ht] at he
  have hnf : nfC c = N := by simp [nfC, hc]
  obtain ⟨C', T', N', hc', hw⟩ := hwr
  cases hc.symm.trans hc'
  obtain ⟨hx, hb, hml, hown, hts, hnm, hV, hz, hfr, hlo⟩ := id Cc
  refine va_put2 (D := eD E) (cl := vwCl) hx hb hts (cl_in hc) (tyC c) (cl_ty hc) (cl_nm hc) hown hV.1 hS he (show eZ E ≤ eZ E + o by omega) hc k hkN (hts _ hl0) (fun _ z => z) (hw.imp id (fun z => ⟨z.1, hnm z.2.1, z.2.2⟩)) (cl_ty hc k hkN) hn hfit (by rw [fls_len]; omega) hd (fun H1 locs1 ha hz1 hq1 hS1 => ?_)
  have hR1 : RepH E (stI h o k x) H1 := hH.set (i := o) rfl stI_cel hH.2.2.stI hz1 hq1 (fun _ => by
    have e : hT (stI h o k x) o = (0, c) := ht
    rw [cel_obj e, stI_fls (by omega) hk]
    exact ha)
  exact kk p e R s m args below meth co H1 locs1 cells slots G lc Cc hR1 hS1 hce hsl hl hL hSt.tl.tl hret
theorem z_putr {idx c k o : Nat} {r : aR} (hd : decode M.2.1 pc = .ok (.putfield idx, 3)) (hf : fOK M.1.cls idx c k) (hwr : fWr M c k) (hk : fkR c k = true) (hn : ∀ v : Option Nat, narrow (tyC c k) (va_rf v) = va_rf v ∧ fits (tyC c k) (va_rf v) = true) (kk : Tot l E M d bc bs (pc + 3) ls st (stR h o k r) Q) : Tot l E M d bc bs pc ls (.inr r :: .inr (some (0, c, o)) :: st) h Q := by
  obtain ⟨C, T, N, hc, hkN, hl0⟩ := hf
  intro p e R s m args below meth co H locs cells slots G lc Cc hH hS hce hsl hl hL hSt hret
  obtain ⟨ho, ht⟩ := hSt.tl.obj (by decide)
  have he := hH.2.1 o _ (wl_at E h ho)
  rw [cel_obj ht] at he
  have hnf : nfC c = N := by simp [nfC, hc]
  obtain ⟨C', T', N', hc', hw⟩ := hwr
  cases hc.symm.trans hc'
  obtain ⟨hx, hb, hml, hown, hts, hnm, hV, hz, hfr, hlo⟩ := id Cc
  refine va_put2 (D := eD E) (cl := vwCl) (v := va_rf (cvA E r)) hx hb hts (cl_in hc) (tyC c) (cl_ty hc) (cl_nm hc) hown hV.1 hS he (show eZ E ≤ eZ E + o by omega) hc k hkN (hts _ hl0) (fun _ z => z) (hw.imp id (fun z => ⟨z.1, hnm z.2.1, z.2.2⟩)) (cl_ty hc k hkN) (hn _).1 (hn _).2 (by rw [fls_len]; omega) hd (fun H1 locs1 ha hz1 hq1 hS1 => ?_)
  have hR1 : RepH E (stR h o k r) H1 := hH.set (i := o) rfl stR_cel (hH.2.2.stR (hSt.hd r rfl)) hz1 hq1 (fun _ => by
    have e : hT (stR h o k r) o = (0, c) := ht
    rw [cel_obj e, stR_fls (by omega) hk]
    exact ha)
  exact kk p e R s m args below meth co H1 locs1 cells slots G lc Cc hR1 hS1 hce hsl hl hL hSt.tl.tl hret
end RULES2
end
section
/-! ===== arrays ===== -/
def kpos (k : Nat) : Nat := match k with
  | 1 => 0 | 2 => 1 | 3 => 2 | 12 => 3 | 14 => 4 | 16 => 5 | 17 => 6 | _ => 7
theorem tyE_at {E : eE} {k : Nat} (hk : kinds[kpos k]? = some k) : (tyE E)[kpos k]? = some (eK E k, kty k) := by
  simp [tyE, hk]
theorem arr_put {cA : ClassId} {n a k : Nat} {F : Nat → Nat → Int32} {x : Int32} {v : Value} (hv : v = .int x) : (arrV cA n (fun j => .int (F a j))).setSlot k v = arrV cA n (fun j => .int (up2 F a k x a j)) := by
  subst hv
  rw [arrV_store]
  congr 1
  funext q
  by_cases hq : q = k
  · subst hq
    simp [updV, up2]
  · simp [updV, up2, hq]
section RULES3
variable {l : Launch} {E : eE} {M : aM} {d bc bs pc : Nat} {ls : List (Option aV)} {st : List aV} {h : aH} {Q : Option aV → aH → Prop}
theorem RepH.arr {H : Heap} (hH : RepH E h H) {a k n : Nat} (ho : a < hN h) (ht : hT h a = (k, n)) (h0 : k ≠ 0) (h8 : k < 8) : (wl E h)[a]? = some (eZ E + a, .inl (eK E k, n, .inl (hA h a))) := by rw [wl_at E h ho, cel_arr ht h0 h8]
theorem RepH.cellA {H : Heap} (hH : RepH E h H) {a k n : Nat} (ho : a < hN h) (ht : hT h a = (k, n)) (h0 : k ≠ 0) (h8 : k < 8) : H[eZ E + a]? = some (arrV (eK E k) n (fun j => .int (hA h a j))) := hH.2.1 a _ (hH.arr ho ht h0 h8)
theorem RepH.putA {H H1 : Heap} (hH : RepH E h H) {a k n j : Nat} {x : Int32} {v : Value} (ho : a < hN h) (ht : hT h a = (k, n)) (h0 : k ≠ 0) (h8 : k < 8) (hv : v = .int x) (e1 : H1[eZ E + a]? = some ((arrV (eK E k) n (fun j => .int (hA h a j))).setSlot j v)) (hz : H1.size = H.size) (hq : ∀ q, q ≠ eZ E + a → H1[q]? = H[q]?) : RepH E (stA h a j x) H1 := by
  refine hH.set (i := a) rfl stA_cel hH.2.2.stA hz hq (fun _ => ?_)
  have e : hT (stA h a j x) a = (k, n) := ht
  rw [cel_arr e h0 h8]
  show H1[eZ E + a]? = some (vp_cell _ _)
  rw [vp_cell_i, e1, arr_put hv]
  rfl
theorem z_iald {n a : Nat} {i : Int32} (hd : decode M.2.1 pc = .ok (.iaload, 1)) (hin : vp_in i n) (kk : Tot l E M d bc bs (pc + 1) ls (.inl (hA h a i.toNatClampNeg) :: st) h Q) : Tot l E M d bc bs pc ls (.inl i :: .inr (some (1, n, a)) :: st) h Q := by
  intro p e R s m args below meth co H locs cells slots G lc Cc hH hS hce hsl hl hL hSt hret
  obtain ⟨ho, ht⟩ := hSt.tl.obj (by decide)
  obtain ⟨hx, hb, hml, hown, hts, hnm, hV, hz, hfr, hlo⟩ := id Cc
  exact va_iald (D := eD E) hx hb hV.1 hH.2.1 a 0 (hH.arr ho ht (by decide) (by decide)) rfl hin hd (kk p e R s m args below meth co H locs cells slots G lc Cc hH hS hce hsl hl hL (okS.cn (okV.int _ _) hSt.tl.tl) hret)
theorem z_zald {n a : Nat} {i : Int32} (hd : decode M.2.1 pc = .ok (.baload, 1)) (hin : vp_in i n) (kk : Tot l E M d bc bs (pc + 1) ls (.inl (hA h a i.toNatClampNeg) :: st) h Q) : Tot l E M d bc bs pc ls (.inl i :: .inr (some (2, n, a)) :: st) h Q := by
  intro p e R s m args below meth co H locs cells slots G lc Cc hH hS hce hsl hl hL hSt hret
  obtain ⟨ho, ht⟩ := hSt.tl.obj (by decide)
  obtain ⟨hx, hb, hml, hown, hts, hnm, hV, hz, hfr, hlo⟩ := id Cc
  exact va_zald (D := eD E) hx hb hV.1 hH.2.1 a 1 (hH.arr ho ht (by decide) (by decide)) rfl hin hd (kk p e R s m args below meth co H locs cells slots G lc Cc hH hS hce hsl hl hL (okS.cn (okV.int _ _) hSt.tl.tl) hret)
theorem z_bald {n a : Nat} {i : Int32} (hd : decode M.2.1 pc = .ok (.baload, 1)) (hin : vp_in i n) (kk : Tot l E M d bc bs (pc + 1) ls (.inl (hA h a i.toNatClampNeg) :: st) h Q) : Tot l E M d bc bs pc ls (.inl i :: .inr (some (3, n, a)) :: st) h Q := by
  intro p e R s m args below meth co H locs cells slots G lc Cc hH hS hce hsl hl hL hSt hret
  obtain ⟨ho, ht⟩ := hSt.tl.obj (by decide)
  obtain ⟨hx, hb, hml, hown, hts, hnm, hV, hz, hfr, hlo⟩ := id Cc
  exact va_bald (D := eD E) hx hb hV.1 hH.2.1 a 2 (hH.arr ho ht (by decide) (by decide)) rfl hin hd (kk p e R s m args below meth co H locs cells slots G lc Cc hH hS hce hsl hl hL (okS.cn (okV.int _ _) hSt.tl.tl) hret)
theorem z_xald {w z : Nat} {i : Int32} (hd : decode M.2.1 pc = .ok (.iaload, 1)) (hw : Nat.blt w 3 = true) (hin : vp_in i (exL E w)) (kk : Tot l E M d bc bs (pc + 1) ls (.inl (exF E w i.toNatClampNeg) :: st) h Q) : Tot l E M d bc bs pc ls (.inl i :: .inr (some (5, w, z)) :: st) h Q := by
  intro p e R s m args below meth co H locs cells slots G lc Cc hH hS hce hsl hl hL hSt hret
  obtain ⟨hx, hb, hml, hown, hts, hnm, hV, hz, hfr, hlo⟩ := id Cc
  exact va_ti hx hb (hV.2.2.2.2.1 w (Nat.le_of_ble_eq_true hw)) hS hin rfl hd (kk p e R s m args below meth co H locs cells slots G lc Cc hH hS hce hsl hl hL (okS.cn (okV.int _ _) hSt.tl.tl) hret)
theorem z_xlen {w z : Nat} (hd : decode M.2.1 pc = .ok (.arraylength, 1)) (hw : Nat.blt w 3 = true) (kk : Tot l E M d bc bs (pc + 1) ls (.inl (nI (exL E w)) :: st) h Q) : Tot l E M d bc bs pc ls (.inr (some (5, w, z)) :: st) h Q := by
  intro p e R s m args below meth co H locs cells slots G lc Cc hH hS hce hsl hl hL hSt hret
  obtain ⟨hx, hb, hml, hown, hts, hnm, hV, hz, hfr, hlo⟩ := id Cc
  exact va_tlen hx hb (hV.2.2.2.2.1 w (Nat.le_of_ble_eq_true hw)) hS rfl hd (kk p e R s m args below meth co H locs cells slots G lc Cc hH hS hce hsl hl hL (okS.cn (okV.int _ _) hSt.tl) hret)
theorem z_alen {k n a : Nat} (hd : decode M.2.1 pc = .ok (.arraylength, 1)) (hk : kinds[kpos k]? = some k) (kk : Tot l E M d bc bs (pc + 1) ls (.inl (nI n) :: st) h Q) : Tot l E M d bc bs pc ls (.inr (some (k, n, a)) :: st) h Q := by
  intro p e R s m args below meth co H locs cells slots G lc Cc hH hS hce hsl hl hL hSt hret
  have hk5 : k ≠ 5 := by rintro rfl; revert hk; decide
  have hk0 : k ≠ 0 := by rintro rfl; revert hk; decide
  obtain ⟨ho, ht⟩ := hSt.obj hk5
  obtain ⟨hx, hb, hml, hown, hts, hnm, hV, hz, hfr, hlo⟩ := id Cc
  have ea : cv E (.inr (some (k, n, a))) = .ref (eZ E + a) := by simp [cv, cvA, adr, hk5, va_rf]
  rw [List.map_cons, ea]
  have w := kk p e R s m args below meth co H locs cells slots G lc Cc hH hS hce hsl hl hL (okS.cn (okV.int _ _) hSt.tl) hret
  rcases Nat.lt_or_ge k 8 with g | g
  · exact va_alen (D := eD E) hx hb hV.1 hH.2.1 a (kpos k) (hH.arr ho ht hk0 g) (tyE_at hk) rfl hd w
  · have he : (wl E h)[a]? = some (eZ E + a, .inl (eK E k, n, .inr (.inr (.inr (.inr (fun j => cvA E (hQ h a j))))))) := by rw [wl_at E h ho, cel_refs ht g]
    exact va_alen (D := eD E) hx hb hV.1 hH.2.1 a (kpos k) he (tyE_at hk) rfl hd w
theorem z_iast {n a : Nat} {i x : Int32} (hd : decode M.2.1 pc = .ok (.iastore, 1)) (hin : vp_in i n) (kk : Tot l E M d bc bs (pc + 1) ls st (stA h a i.toNatClampNeg x) Q) : Tot l E M d bc bs pc ls (.inl x :: .inl i :: .inr (some (1, n, a)) :: st) h Q := by
  intro p e R s m args below meth co H locs cells slots G lc Cc hH hS hce hsl hl hL hSt hret
  obtain ⟨ho, ht⟩ := hSt.tl.tl.obj (by decide)
  obtain ⟨hx, hb, hml, hown, hts, hnm, hV, hz, hfr, hlo⟩ := id Cc
  refine W.iast (a := eZ E + a) hx hb (hH.cellA ho ht (by decide) (by decide)) ((hV.1.2 0 _ rfl).1 n _) (fun q => by cases q) (by rw [arrV_size]; exact hin) rfl rfl hd fun H1 e1 z1 q1 => ?_
  exact kk p e R s m args below meth co H1 _ cells slots G lc Cc (hH.putA ho ht (by decide) (by decide) rfl e1 z1 q1) (hS.put z1 q1 (show eZ E ≤ eZ E + a by omega)) hce hsl hl hL hSt.tl.tl.tl hret
theorem z_zast {n a : Nat} {i x : Int32} (hd : decode M.2.1 pc = .ok (.bastore, 1)) (hin : vp_in i n) (kk : Tot l E M d bc bs (pc + 1) ls st (stA h a i.toNatClampNeg (vp_nar .boolean x)) Q) : Tot l E M d bc bs pc ls (.inl x :: .inl i :: .inr (some (2, n, a)) :: st) h Q := by
  intro p e R s m args below meth co H locs cells slots G lc Cc hH hS hce hsl hl hL hSt hret
  obtain ⟨ho, ht⟩ := hSt.tl.tl.obj (by decide)
  obtain ⟨hx, hb, hml, hown, hts, hnm, hV, hz, hfr, hlo⟩ := id Cc
  refine W.zast (a := eZ E + a) hx hb (hH.cellA ho ht (by decide) (by decide)) ((hV.1.2 1 _ rfl).1 n _) (fun q => by cases q) (by rw [arrV_size]; exact hin) rfl rfl hd fun H1 e1 z1 q1 => ?_
  exact kk p e R s m args below meth co H1 _ cells slots G lc Cc (hH.putA ho ht (by decide) (by decide) rfl e1 z1 q1) (hS.put z1 q1 (show eZ E ≤ eZ E + a by omega)) hce hsl hl hL hSt.tl.tl.tl hret
theorem z_bast {n a : Nat} {i x : Int32} (hd : decode M.2.1 pc = .ok (.bastore, 1)) (hin : vp_in i n) (kk : Tot l E M d bc bs (pc + 1) ls st (stA h a i.toNatClampNeg (vp_nar .byte x)) Q) : Tot l E M d bc bs pc ls (.inl x :: .inl i :: .inr (some (3, n, a)) :: st) h Q := by
  intro p e R s m args below meth co H locs cells slots G lc Cc hH hS hce hsl hl hL hSt hret
  obtain ⟨ho, ht⟩ := hSt.tl.tl.obj (by decide)
  obtain ⟨hx, hb, hml, hown, hts, hnm, hV, hz, hfr, hlo⟩ := id Cc
  refine W.bast (a := eZ E + a) hx hb (hH.cellA ho ht (by decide) (by decide)) ((hV.1.2 2 _ rfl).1 n _) (fun q => by cases q) (by rw [arrV_size]; exact hin) rfl rfl hd fun H1 e1 z1 q1 => ?_
  exact kk p e R s m args below meth co H1 _ cells slots G lc Cc (hH.putA ho ht (by decide) (by decide) rfl e1 z1 q1) (hS.put z1 q1 (show eZ E ≤ eZ E + a by omega)) hce hsl hl hL hSt.tl.tl.tl hret
theorem z_aald {k n a : Nat} {i : Int32} {C : String} (hd : decode M.2.1 pc = .ok (.aaload, 1)) (hk : kinds[kpos k]? = some k) (h8 : Nat.ble 8 k = true) (hC : kty k = .object C) (hin : vp_in i n) (kk : Tot l E M d bc bs (pc + 1) ls (.inr (hQ h a i.toNatClampNeg) :: st) h Q) : Tot l E M d bc bs pc ls (.inl i :: .inr (some (k, n, a)) :: st) h Q := by
  intro p e R s m args below meth co H locs cells slots G lc Cc hH hS hce hsl hl hL hSt hret
  have h8 := Nat.le_of_ble_eq_true h8
  have hk5 : k ≠ 5 := by omega
  obtain ⟨ho, ht⟩ := hSt.tl.obj hk5
  obtain ⟨hx, hb, hml, hown, hts, hnm, hV, hz, hfr, hlo⟩ := id Cc
  have ea : cv E (.inr (some (k, n, a))) = .ref (eZ E + a) := by simp [cv, cvA, adr, hk5, va_rf]
  rw [List.map_cons, List.map_cons, ea]
  exact va_aldq (D := eD E) (C := C) (f := fun j => cvA E (hQ h a j)) hx hb hV.1 hH.2.1 a (kpos k) (by rw [wl_at E h ho, cel_refs ht h8]) (by rw [tyE_at hk, hC]) hin hd (kk p e R s m args below meth co H locs cells slots G lc Cc hH hS hce hsl hl hL (okS.cn (fun r hr => by cases hr; exact hH.2.2.2 a _) hSt.tl.tl) hret)
theorem z_aast {k n a c o : Nat} {i : Int32} {r : vw_C} (hd : decode M.2.1 pc = .ok (.aastore, 1)) (hk : kinds[kpos k]? = some k) (h8 : Nat.ble 8 k = true) (hc : vwCl[c]? = some r) (hC : kty k = .object r.1) (hin : vp_in i n) (kk : Tot l E M d bc bs (pc + 1) ls st (stQ h a i.toNatClampNeg (some (0, c, o))) Q) : Tot l E M d bc bs pc ls (.inr (some (0, c, o)) :: .inl i :: .inr (some (k, n, a)) :: st) h Q := by
  intro p e R s m args below meth co H locs cells slots G lc Cc hH hS hce hsl hl hL hSt hret
  have h8 := Nat.le_of_ble_eq_true h8
  have hk5 : k ≠ 5 := by omega
  obtain ⟨ho, ht⟩ := hSt.tl.tl.obj hk5
  obtain ⟨ho', ht'⟩ := hSt.obj (by decide)
  obtain ⟨hx, hb, hml, hown, hts, hnm, hV, hz, hfr, hlo⟩ := id Cc
  have ea : cv E (.inr (some (k, n, a))) = .ref (eZ E + a) := by simp [cv, cvA, adr, hk5, va_rf]
  rw [List.map_cons, List.map_cons, List.map_cons, ea]
  have hcl := hH.2.1 a _ (wl_at E h ho)
  rw [cel_refs ht h8] at hcl
  have hcv := hH.2.1 o _ (wl_at E h ho')
  rw [cel_obj ht'] at hcv
  obtain ⟨r', hr', cellV, g1, g2, g3, -⟩ := hcv
  have hcls := (hV.1.1 c r hc).2
  have hRA := (hV.1.2 (kpos k) _ (tyE_at hk)).2
  rw [hC] at hRA
  obtain ⟨kA, comp, k1, k2, k3, -⟩ := hRA
  have hcomp : comp = (eD E).1 c := Option.some.inj (k3.symm.trans hcls.1)
  subst hcomp
  obtain ⟨kC, hkC, -⟩ := hcls.2
  have hlt : i.toNatClampNeg < n := Nat.not_le.mp fun q => hin (Or.inr q)
  refine W.aast (a := eZ E + a) hx hb hcl (fun q h => by cases h) (fun h => by cases h) k1 k2 rfl hkC ⟨fun q => hin (Or.inl q), by show _ < (arrV _ _ _).slots.size; rw [arrV_size]; exact hlt⟩ g1 (fun q h => by rw [g3] at h; cases h) (by rw [g2]; exact hkC) (by rw [g2]; exact va_assign hcls) rfl rfl hd fun H1 e1 z1 q1 => ?_
  have hR1 : RepH E (stQ h a i.toNatClampNeg (some (0, c, o))) H1 := by
    refine hH.set (i := a) rfl stQ_cel (hH.2.2.stQ (hSt.hd _ rfl)) z1 q1 (fun _ => ?_)
    have e : hT (stQ h a i.toNatClampNeg (some (0, c, o))) a = (k, n) := ht
    rw [cel_refs e h8]
    show H1[eZ E + a]? = some (vp_cell _ _)
    rw [e1, vp_cell_q, vp_cell_q, arrV_store]
    congr 2
    funext q
    by_cases hq : q = i.toNatClampNeg
    · subst hq
      simp [updV, stQ, up2, hQ, va_rf, cvA, adr]
    · simp [updV, stQ, up2, hQ, hq]
  exact kk p e R s m args below meth co H1 _ cells slots G lc Cc hR1 (hS.put z1 q1 (show eZ E ≤ eZ E + a by omega)) hce hsl hl hL hSt.tl.tl.tl hret
/-! making -/
theorem exH.new (h : aH) (t : Nat × Nat) : exH h (stN h t) := ⟨Nat.le_succ _, fun i hi => up1_ne (by omega)⟩
theorem okV.new (h : aH) (k n : Nat) : okV (stN h (k, n)) (.inr (some (k, n, hN h))) := fun r hr q hq => by
  cases hr
  cases hq
  exact Or.inr ⟨Nat.lt_succ_self _, by simp [stN, up1, hT, hN]⟩
theorem z_new {idx c N : Nat} {C : String} {T : u_T} (hd : decode M.2.1 pc = .ok (.new idx, 3)) (hc : vwCl[c]? = some (C, T, N)) (h1 : Cond.classLink M.1.cls idx C ∈ tsG) (h2 : Cond.instantiable C N ∈ tsG) (h3 : Cond.initialized C ∈ tsG) (kk : Tot l E M d bc bs (pc + 3) ls (.inr (some (0, c, hN h)) :: st) (stN h (0, c)) Q) : Tot l E M d (bc + 1) (bs + N) pc ls st h Q := by
  intro p e R s m args below meth co H locs cells slots G lc Cc hH hS hce hsl hl hL hSt hret
  obtain ⟨hx, hb, hml, hown, hts, hnm, hV, hz, hfr, hlo⟩ := id Cc
  have hKn := hV.1.1 c _ hc
  have hnf : nfC c = N := by simp [nfC, hc]
  refine W.newcK hx hb hown (hts _ h1) (hts _ h2) (hts _ h3) rfl hd (by omega) (by omega) hKn.2.1 hH.1 fun H1 kC hkC e1 z1 o1 => ?_
  have hR1 : RepH E (stN h (0, c)) H1 := by
    refine hH.new (by rw [z1, hH.1]) (fun q hq => o1 q (by rw [← hH.1]; exact hq)) ?_
    have e : hT (stN h (0, c)) (hN h) = (0, c) := by simp [stN, up1, hT, hN]
    rw [cel_obj e]
    refine ⟨_, hc, (u_born (tyC c) hts (cl_in hc) hKn hkC e1 (cl_ty hc)).to ?_⟩
    intro k hk
    have hc13 : c < 13 := by
      have := (List.getElem?_eq_some_iff.mp hc).1
      simpa [vwCl] using this
    rw [cl_df hc13 k (by rw [hnf]; exact hk)]
    show _ = (fls E (stN h (0, c)) (hN h) c).getD k .null
    rw [List.getD_eq_getElem?_getD, fls_at (by rw [hnf]; exact hk)]
    cases fkR c k <;> simp [stN, up1, hI, hR, hN, cvA, va_rf]
  have hS1 : va_S (eA E) s.heap H1 locs := ⟨Nat.le_trans hS.1 (by rw [z1, hH.1]; omega), fun q g1 g2 => (o1 q (by rw [← hH.1]; exact Nat.lt_of_lt_of_le g1 hS.1)).trans (hS.2.1 q g1 g2), hS.2.2⟩
  refine W.eq (g2 := F0 m (pc + 3) lc ((.inr (some (0, c, hN h)) :: st : List aV).map (cv E))) rfl ?_
  exact kk p e R s m args below meth co H1 locs (cells + 1) (slots + N) G lc Cc hR1 hS1 (by omega) (by omega) hl (hL.ex (exH.new h _)) (okS.cn (okV.new h _ _) (hSt.ex (exH.new h _))) (fun r h' H' locs' cells' slots' pc' lc' q1 q2 q3 q4 q5 q6 q7 q8 => hret r h' H' locs' cells' slots' pc' lc' q1 q2 q3 q4 q5 ((exH.new h _).tr q6) q7 q8)
theorem z_newa {k n : Nat} {x : Int32} {aty : ArrayType} (hd : decode M.2.1 pc = .ok (.newarray aty, 2)) (hty : newarray.typeOf aty = kty k) (hk : kinds[kpos k]? = some k) (h8 : Nat.blt k 8 = true) (hw : Cond.arrayClass (kty k) ∈ tsG) (hx0 : ¬ x < 0) (hxn : x.toNatClampNeg = n) (hby : n * componentBytes (kty k) ≤ 536870912) (hdf : defaultValue (kty k) = .int 0) (kk : Tot l E M d bc bs (pc + 2) ls (.inr (some (k, n, hN h)) :: st) (stN h (k, n)) Q) : Tot l E M d (bc + 1) (bs + n) pc ls (.inl x :: st) h Q := by
  intro p e R s m args below meth co H locs cells slots G lc Cc hH hS hce hsl hl hL hSt hret
  have h8 : k < 8 := Nat.le_of_ble_eq_true h8
  have hk5 : k ≠ 5 := by rintro rfl; revert hk; decide
  have hk0 : k ≠ 0 := by rintro rfl; revert hk; decide
  obtain ⟨hx, hb, hml, hown, hts, hnm, hV, hz, hfr, hlo⟩ := id Cc
  refine va_newaK hx hb (atype := aty) (by rw [hty]; exact hts _ hw) rfl hd rfl hx0 hxn (by rw [hty]; exact hby) (by omega) (by omega) hH.1 fun H1 cA e1 z1 o1 hAr hNm => ?_
  rw [hty] at e1 hNm
  have hcA : cA = eK E k := by
    have hRA := (hV.1.2 (kpos k) _ (tyE_at hk)).2
    have h123 : k = 1 ∨ k = 2 ∨ k = 3 := by
      have : k ∈ kinds := List.mem_of_getElem? hk
      simp [kinds] at this
      omega
    rcases h123 with rfl | rfl | rfl <;> exact Option.some.inj (hNm.symm.trans hRA)
  subst hcA
  have hR1 : RepH E (stN h (k, n)) H1 := by
    refine hH.new (by rw [z1, hH.1]) (fun q hq => o1 q (by rw [← hH.1]; exact hq)) ?_
    have e : hT (stN h (k, n)) (hN h) = (k, n) := by simp [stN, up1, hT, hN]
    rw [cel_arr e hk0 h8]
    show H1[eZ E + hN h]? = some (vp_cell _ _)
    rw [vp_cell_i, e1, hdf]
    congr 2
    funext j
    simp [stN, up1, hA, hN]
  have hS1 : va_S (eA E) s.heap H1 locs := ⟨Nat.le_trans hS.1 (by rw [z1, hH.1]; omega), fun q g1 g2 => (o1 q (by rw [← hH.1]; exact Nat.lt_of_lt_of_le g1 hS.1)).trans (hS.2.1 q g1 g2), hS.2.2⟩
  have ea : cv E (.inr (some (k, n, hN h))) = .ref (eZ E + hN h) := by simp [cv, cvA, adr, hk5, va_rf]
  have w := kk p e R s m args below meth co H1 locs (cells + 1) (slots + n) G lc Cc hR1 hS1 (by omega) (by omega) hl (hL.ex (exH.new h _)) (okS.cn (okV.new h _ _) (hSt.tl.ex (exH.new h _))) (fun r h' H' locs' cells' slots' pc' lc' q1 q2 q3 q4 q5 q6 q7 q8 => hret r h' H' locs' cells' slots' pc' lc' q1 q2 q3 q4 q5 ((exH.new h _).tr q6) q7 q8)
  rw [List.map_cons, ea] at w
  exact w
theorem z_anew {k n idx : Nat} {x : Int32} {C : String} (hd : decode M.2.1 pc = .ok (.anewarray idx, 3)) (hk : kinds[kpos k]? = some k) (h8 : Nat.ble 8 k = true) (hC : kty k = .object C) (h1 : Cond.classLink M.1.cls idx C ∈ tsG) (h2 : Cond.arrayOver (.object C) ∈ lw_tbl) (hx0 : ¬ x < 0) (hxn : x.toNatClampNeg = n) (hby : n * 4 ≤ 536870912) (kk : Tot l E M d bc bs (pc + 3) ls (.inr (some (k, n, hN h)) :: st) (stN h (k, n)) Q) : Tot l E M d (bc + 1) (bs + n) pc ls (.inl x :: st) h Q := by
  intro p e R s m args below meth co H locs cells slots G lc Cc hH hS hce hsl hl hL hSt hret
  have h8 := Nat.le_of_ble_eq_true h8
  have hk5 : k ≠ 5 := by omega
  obtain ⟨hx, hb, hml, hown, hts, hnm, hV, hz, hfr, hlo⟩ := id Cc
  subst hxn
  refine W.anew hx hb hown (hts _ h1) (va_AO.use (hV.2.2.2.1 C h2)) rfl hd rfl hx0 hby (by omega) (by omega) fun cA kA comp f1 f2 f3 f4 => ?_
  generalize hH1 : H.push ({ cls := cA, slots := Array.replicate x.toNatClampNeg .null, vm := .none } : Cell) = H1
  have z1 : H1.size = H.size + 1 := by rw [← hH1, Array.size_push]
  have e1 : H1[H.size]? = some (arrV cA x.toNatClampNeg (fun _ => .null)) := by rw [← hH1, Array.getElem?_push_size, ← arrV_new]
  have o1 : ∀ q : Nat, q < H.size → H1[q]? = H[q]? := fun q hq => by rw [← hH1, Array.getElem?_push, if_neg (Nat.ne_of_lt hq)]
  have hcA : cA = eK E k := by
    have hRA := (hV.1.2 (kpos k) _ (tyE_at hk)).2
    rw [hC] at hRA
    obtain ⟨_, _, -, -, -, k4⟩ := hRA
    exact Option.some.inj (f1.symm.trans k4)
  subst hcA
  have hR1 : RepH E (stN h (k, x.toNatClampNeg)) H1 := by
    refine hH.new z1 o1 ?_
    have e : hT (stN h (k, x.toNatClampNeg)) (hN h) = (k, x.toNatClampNeg) := by simp [stN, up1, hT, hN]
    rw [cel_refs e h8]
    show H1[eZ E + hN h]? = some (vp_cell _ _)
    rw [vp_cell_q, ← hH.1, e1]
    congr 2
    funext j
    simp [stN, up1, hQ, hN, cvA, va_rf]
  have hS1 : va_S (eA E) s.heap H1 locs := ⟨Nat.le_trans hS.1 (by omega), fun q g1 g2 => (o1 q (Nat.lt_of_lt_of_le g1 hS.1)).trans (hS.2.1 q g1 g2), hS.2.2⟩
  have ea : cv E (.inr (some (k, x.toNatClampNeg, hN h))) = .ref H.size := by simp [cv, cvA, adr, hk5, va_rf, hH.1]
  have w := kk p e R s m args below meth co H1 locs (cells + 1) (slots + x.toNatClampNeg) G lc Cc hR1 hS1 (by omega) (by omega) hl (hL.ex (exH.new h _)) (okS.cn (okV.new h _ _) (hSt.tl.ex (exH.new h _))) (fun r h' H' locs' cells' slots' pc' lc' q1 q2 q3 q4 q5 q6 q7 q8 => hret r h' H' locs' cells' slots' pc' lc' q1 q2 q3 q4 q5 ((exH.new h _).tr q6) q7 q8)
  rw [List.map_cons, ea] at w
  exact w
end RULES3
end
section
/-! ===== contracts and calls ===== -/
theorem fb_rng' (x : Int32) : -2147483648 ≤ x.toInt ∧ x.toInt < 2147483648 := ⟨Int32.le_toInt x, Int32.toInt_lt x⟩
section RULES4
variable {l : Launch} {E : eE} {M : aM} {d bc bs pc : Nat} {ls : List (Option aV)} {st : List aV} {h : aH} {Q : Option aV → aH → Prop}
def enL (args : List aV) (n : Nat) : List (Option aV) := args.map some ++ List.replicate (n - args.length) none
theorem lv_args_1 (E : eE) : ∀ (as : List aV) (i : Nat), ∀ j v, as[j]? = some v → (i + j, cv E v) ∈ lv_args i (as.map (cv E)) := by
  intro as
  induction as with
  | nil => intro i j v h; simp at h
  | cons a as ih =>
    intro i j v h
    rw [List.map_cons]
    unfold lv_args
    rw [if_neg (by rw [cv_cat]; decide)]
    cases j with
    | zero =>
      simp at h
      subst h
      exact List.mem_cons_self
    | succ j =>
      have := ih (i + 1) j v (by simpa using h)
      refine List.mem_cons_of_mem _ ?_
      rw [show i + (j + 1) = i + 1 + j by omega]
      exact this
theorem lg_sl_len (E : eE) (as : List aV) : (lg_sl (as.map (cv E))).length = as.length := by
  induction as with
  | nil => rfl
  | cons a as ih =>
    rw [List.map_cons]
    unfold lg_sl at ih ⊢
    rw [List.flatMap_cons, List.length_append, ih, if_neg (by rw [cv_cat]; decide)]
    simp
    omega
theorem enL_at {args : List aV} {n i : Nat} {v : aV} (hi : (enL args n)[i]? = some (some v)) : args[i]? = some v := by
  unfold enL at hi
  by_cases g : i < args.length
  · rw [List.getElem?_append_left (by simpa using g)] at hi
    simpa using hi
  · rw [List.getElem?_append_right (by simp; omega)] at hi
    have := List.mem_of_getElem? hi
    simp at this
/-- a contract out of a walk from the entry -/
theorem Mt.of {mc ms : Nat} {args : List aV} (hp : plainName M.1.cls = true) (hn : Nat.ble args.length M.2.2.1 = true) (hT : Tot l E M d mc ms 0 (enL args M.2.2.1) [] h Q) : Mt l E d mc ms M args h Q := by
  have hn := Nat.le_of_ble_eq_true hn
  refine Met.ofW (cc := M.2.1) (maxL := M.2.2.1) (ret := M.2.2.2) hp rfl ?_
  intro p e s m ag below meth c s₁ B hml hv
  obtain ⟨rfl, hH, hV, hok⟩ := hv
  have hts := atoms_spec (ws := .code M.1 M.2.1 M.2.2.1 M.2.2.2 :: tsG) B.pre
  have hown : s.vm.findClass M.1.cls = some m.cls := findClass_of_methodNamed B.named
  have hnm : M.1.name = "<init>" → meth.name = "<init>" := fun z => ((name_of_methodNamed B.named B.method).1).trans z
  have hlocks := B.notSynchronized
  have hl := lv_entry (args.map (cv E)) (n := M.2.2.1) (by rw [lg_sl_len]; exact hn)
  rw [lg_entry_eq]
  generalize ((lg_sl (args.map (cv E))) ++ List.replicate (M.2.2.1 - (lg_sl (args.map (cv E))).length) Slot.unset).toArray = lc at hl ⊢
  have hls : lsOK E lc M.2.2.1 (enL args M.2.2.1) := ⟨⟨hl.1, by simp [enL]; omega⟩, hl.2.1, fun i v hi => by
    have := hl.2.2 (0 + i, cv E v) (lv_args_1 E args 0 i v (enL_at hi))
    simpa using this⟩
  refine hT p e _ s m _ below meth c s.heap [] 0 0 _ lc ⟨B.exec, B.bytes, hml, hown, fun w hw => hts w (List.mem_cons_of_mem _ hw), hnm, hV, by rw [hH.1]; omega, Nat.le_refl d, Nat.le_refl _⟩ hH va_S.rf (by show 0 + mc ≤ mc; omega) (by show 0 + ms ≤ ms; omega) hls ?_ (fun v hv => by cases hv) ?_
  · intro v hv
    obtain ⟨i, hi⟩ := List.getElem?_of_mem hv
    exact hok v (List.mem_of_getElem? (enL_at hi))
  · intro r h' H' locs' cells' slots' pc' lc' hQ hH' hS' hc' hs' hex hokr hret
    refine W.widen (k := mc) (n := ms) hc' hs' ?_
    rcases hret with ⟨rfl, hr, hd⟩ | ⟨x, ty, rfl, hr, hn, hd⟩ | ⟨q, C, rfl, hr, hd⟩
    · exact W.vret B.exec B.bytes (B.returns.trans hr) (fun t ht hW => ⟨⟨none, h', rfl, hQ, by rw [ht]; exact hH', hex, hokr⟩, hS'.F ht⟩) hS'.2.2 hd
    · exact W.zret B.exec B.bytes (B.returns.trans hr) hn (fun t ht hW => ⟨⟨some (.inl x), h', rfl, hQ, by rw [ht]; exact hH', hex, hokr⟩, hS'.F ht⟩) hS'.2.2 hd
    · exact W.aret (v := cv E (.inr q)) B.exec B.bytes (B.returns.trans hr) (Or.inl ⟨C, rfl⟩) (by cases q with
        | none => exact Or.inl rfl
        | some a => exact Or.inr ⟨_, rfl⟩) (fun t ht hW => ⟨⟨some (.inr q), h', rfl, hQ, by rw [ht]; exact hH', hex, hokr⟩, hS'.F ht⟩) hS'.2.2 hd
theorem Mt.mono {mc ms : Nat} {args : List aV} {Q' : Option aV → aH → Prop} (hq : ∀ r h', Q r h' → Q' r h') (k : Mt l E d mc ms M args h Q) : Mt l E d mc ms M args h Q' := by
  intro p e ha hc hk s m ag below hf happ hP hT
  obtain ⟨n, o, h1, h2, h3, ⟨⟨r, h', e1, e2, e3⟩, e4⟩, h5⟩ := k p e ha hc hk s m ag below hf happ hP hT
  exact ⟨n, o, h1, h2, h3, ⟨⟨r, h', e1, hq _ _ e2, e3⟩, e4⟩, h5⟩
/-- what lies behind a call -/
theorem call_on {p : Program} {e : Env} {R : Room} {s : State} {m : MethodId} {args : Array Value} {below : List Frame} {meth : Method} {c : Code} {H : Heap} {locs : List Loc} {cells slots mc ms : Nat} {G : State → Prop} {lc : Array Slot} {st0 : List Value} {rest : List aV} {Q1 : Option aV → aH → Prop}
    (hr : va_Run p l e R s m args below meth c H locs cells slots mc ms (F0 m pc lc st0) (rest.map (cv E)) (fun st oc t => (∃ (r : Option aV) (h' : aH), oc = .returned (r.map (cv E)) ∧ Q1 r h' ∧ RepH E h' t.heap ∧ exH h h' ∧ okO h' r) ∧ va_F (eA E) st t) (eA E)) (hS : va_S (eA E) s.heap H locs)
    (kk : ∀ (r : Option aV) (h' : aH) (H1 : Heap) (locs1 : List Loc), Q1 r h' → RepH E h' H1 → exH h h' → okO h' r → va_S (eA E) s.heap H1 locs1 → W p l e R s m args below meth c H1 locs1 (cells + mc) (slots + ms) G (F0 m (pc + 3) lc ((r.toList ++ rest).map (cv E)))) : W p l e R s m args below meth c H locs cells slots G (F0 m pc lc st0) := by
  intro T hT X
  obtain ⟨v, st₀, t, T', L, h0, X', hL, e1, e2, ⟨⟨r, h', hv, hq, hR, hex, hok⟩, hz, hk⟩, stp⟩ := hr T hT X
  rw [h0] at hz hk
  have hv' : v = r.map (cv E) := by cases hv; rfl
  subst hv'
  obtain ⟨t2, a1, b1⟩ := kk r h' T'.heap (locs ++ L) hq (by rw [e1]; exact hR) hex hok
    ⟨Nat.le_trans hS.1 (by rw [e1]; exact hz), fun q h1 h2 => by rw [e1, hk q (Nat.lt_of_lt_of_le h1 hS.1) h2]; exact hS.2.1 q h1 h2, fun q hq => by
      rcases List.mem_append.mp hq with h | h
      · exact hS.2.2 q h
      · exact hL q h⟩ T' rfl X'
  refine ⟨t2, stp t2 ?_, b1⟩
  cases r <;> exact a1
/-- the callee's words -/
def cOK (Y : aM) (n : Nat) : Prop := Cond.code Y.1 Y.2.1 Y.2.2.1 Y.2.2.2 ∈ tsG ∧ Cond.initialized Y.1.cls ∈ tsG ∧ (Y.1.cls ≠ "java/lang/invoke/MethodHandle" ∧ Y.1.cls ≠ "java/lang/invoke/VarHandle" ∧ (parseMethodDescriptor Y.1.desc).map (fun d => d.parameters.length) = some n) ∧ Y.2.2.1 ≤ 40
theorem ws_good {Y : aM} {n : Nat} (hY : cOK Y n) : GoodIn tsG (.code Y.1 Y.2.1 Y.2.2.1 Y.2.2.2 :: tsG) := fun w hw => (List.mem_cons.mp hw).elim (fun e => by rw [e]; exact ⟨hY.1, good_of_word (tsG_all _ hY.1)⟩) (fun hw => ⟨hw, good_of_word (tsG_all w hw)⟩)
theorem pre_of {Y : aM} {As : List aV} {s : State} {H : Heap} {locs : List Loc} (hV : RepV E s) (hH : RepH E h H) (hS : va_S (eA E) s.heap H locs) (hok : okS h As) : PreS s H (fun v U => v = (As.map (cv E)).toArray ∧ RepH E h U.heap ∧ RepV E U ∧ okS h As) (As.map (cv E)) :=
  ⟨fun a U g mk q => ⟨q.1, q.2.1, q.2.2.1.calling, q.2.2.2⟩, fun U hU hW => ⟨rfl, by rw [hU]; exact hH, hV.on hS hW hU, hok⟩⟩
theorem rest_room {rest : List aV} (h8 : Nat.ble rest.length 8 = true) : ((rest.map (cv E)).map fun v => v.category).sum ≤ 8 := by
  have h8 := Nat.le_of_ble_eq_true h8
  have : ∀ r : List aV, ((r.map (cv E)).map fun v => v.category).sum = r.length := by
    intro r
    induction r with
    | nil => rfl
    | cons a r ih => rw [List.map_cons, List.map_cons, List.sum_cons, ih, cv_cat, List.length_cons]; omega
  rw [this]
  exact h8
theorem okS.app {a b : List aV} (h1 : okS h a) (h2 : okS h b) : okS h (a ++ b) := fun v hv => (List.mem_append.mp hv).elim (h1 v) (h2 v)
theorem okO.stk {r : Option aV} (hr : okO h r) : okS h r.toList := fun v hv => by
  cases r with
  | none => simp at hv
  | some w => simp at hv; exact hr v (by rw [hv])
theorem okS.rv {x : aV} {As rest : List aV} (k : okS h (As.reverse ++ x :: rest)) : okS h (x :: As) := fun v hv => by
  rcases List.mem_cons.mp hv with q | q
  · exact k v (List.mem_append_right _ (by rw [q]; exact List.mem_cons_self))
  · exact k v (List.mem_append_left _ (List.mem_reverse.mpr q))
theorem okS.rv0 {As rest : List aV} (k : okS h (As.reverse ++ rest)) : okS h As := fun v hv => k v (List.mem_append_left _ (List.mem_reverse.mpr hv))
theorem okS.rr {As rest : List aV} (k : okS h (As ++ rest)) : okS h rest := fun v hv => k v (List.mem_append_right _ hv)
variable {Y : aM} {n mc ms idx : Nat} {As rest : List aV} {Q1 : Option aV → aH → Prop}
/-- a call of an instance method, of a known class -/
theorem z_callV {c o : Nat} (hd : decode M.2.1 pc = .ok (.invokevirtual idx, 3)) (hY : cOK Y n) (hw : Cond.methodLink M.1.cls idx Y.1 ∈ tsG ∧ Cond.instanceMethod Y.1 ∈ tsG ∧ Cond.selects Y.1.cls Y.1 Y.1 ∈ tsG) (hc : ∃ T N, vwCl[c]? = some (Y.1.cls, T, N)) (hn : As.length = n) (h8 : Nat.ble rest.length 8 = true)
    (hM : Mt l E d mc ms Y (.inr (some (0, c, o)) :: As) h Q1) (kk : ∀ r h', Q1 r h' → exH h h' → Tot l E M (d + 1) bc bs (pc + 3) ls (r.toList ++ rest) h' Q) : Tot l E M (d + 1) (bc + mc) (bs + ms) pc ls (As.reverse ++ .inr (some (0, c, o)) :: rest) h Q := by
  intro p e R s m args below meth co H locs cells slots G lc Cc hH hS hce hsl hl hL hSt hret
  obtain ⟨hx, hb, hml, hown, hts, hnm, hV, hz, hfr, hlo⟩ := id Cc
  obtain ⟨T, N, hc⟩ := hc
  have hokA : okS h (.inr (some (0, c, o)) :: As) := okS.rv hSt
  obtain ⟨ho, ht⟩ := hokA.obj (by decide)
  have hrec := va_recv hV.1 hH.2.1 hc (show (wl E h)[o]? = some (eZ E + o, .inr (c, fls E h o c)) by rw [wl_at E h ho, cel_obj ht])
  have hp := pre_of (Y := Y) (As := .inr (some (0, c, o)) :: As) hV hH hS hokA
  have cb := callB_of (R := R) (s := s) (args := args) (rm := { frames := d, cells := mc, slots := ms, locals := 64 * d }) (own := M.1.cls) (index := idx) n hts (ws_good hY) rfl rfl rfl (hts _ hY.2.1) (hts _ hw.1) hY.2.2.1 ⟨hfr, by have := hY.2.2.2; show 8 + (Y.2.2.1 + 11) + 64 * d ≤ _; omega⟩
  have hst : (As.reverse ++ .inr (some (0, c, o)) :: rest).map (cv E) = (As.map (cv E)).reverse ++ .ref (eZ E + o) :: rest.map (cv E) := by
    rw [List.map_append, List.map_reverse, List.map_cons]; rfl
  rw [hst]
  refine call_on (Q1 := Q1) (h := h) (va_runV (As := As.map (cv E)) (rest := rest.map (cv E)) ⟨hx, hb, hml, hown, hts⟩ hM ⟨cb, hts _ hw.2.1, hts _ hw.2.2⟩ ⟨hp.1, hrec, hp.2⟩ rfl (by rw [List.length_map]; exact hn) hl.1.1 rfl (by show 2 * 0 + _ ≤ 8; have := rest_room (E := E) h8; omega) hd ⟨by omega, by omega⟩) hS (fun r h' H1 locs1 hq hR1 hex hok hS1 => ?_)
  exact kk r h' hq hex p e R s m args below meth co H1 locs1 (cells + mc) (slots + ms) G lc Cc hR1 hS1 (by omega) (by omega) hl (hL.ex hex) (okS.app hok.stk (okS.ex hex (okS.rr hSt).tl)) (fun r' h'' H' locs' cells' slots' pc' lc' q1 q2 q3 q4 q5 q6 q7 q8 => hret r' h'' H' locs' cells' slots' pc' lc' q1 q2 q3 q4 q5 (hex.tr q6) q7 q8)
/-- a call of a static method -/
theorem z_callS (hd : decode M.2.1 pc = .ok (.invokestatic idx, 3)) (hY : cOK Y n) (hw : Cond.methodLink M.1.cls idx Y.1 ∈ tsG ∧ Cond.static Y.1 ∈ tsG) (hn : As.length = n) (h8 : Nat.ble rest.length 8 = true)
    (hM : Mt l E d mc ms Y As h Q1) (kk : ∀ r h', Q1 r h' → exH h h' → Tot l E M (d + 1) bc bs (pc + 3) ls (r.toList ++ rest) h' Q) : Tot l E M (d + 1) (bc + mc) (bs + ms) pc ls (As.reverse ++ rest) h Q := by
  intro p e R s m args below meth co H locs cells slots G lc Cc hH hS hce hsl hl hL hSt hret
  obtain ⟨hx, hb, hml, hown, hts, hnm, hV, hz, hfr, hlo⟩ := id Cc
  have hokA : okS h As := okS.rv0 hSt
  have hp := pre_of (Y := Y) (As := As) hV hH hS hokA
  have cb := callB_of (R := R) (s := s) (args := args) (rm := { frames := d, cells := mc, slots := ms, locals := 64 * d }) (own := M.1.cls) (index := idx) n hts (ws_good hY) rfl rfl rfl (hts _ hY.2.1) (hts _ hw.1) hY.2.2.1 ⟨hfr, by have := hY.2.2.2; show 8 + (Y.2.2.1 + 11) + 64 * d ≤ _; omega⟩
  have hst : (As.reverse ++ rest).map (cv E) = (As.map (cv E)).reverse ++ rest.map (cv E) := by
    rw [List.map_append, List.map_reverse]
  rw [hst]
  refine call_on (Q1 := Q1) (h := h) (va_runS (As := As.map (cv E)) (rest := rest.map (cv E)) ⟨hx, hb, hml, hown, hts⟩ hM ⟨cb, hts _ hw.2⟩ hp rfl (by rw [List.length_map]; exact hn) hl.1.1 rfl (by show 2 * 0 + _ ≤ 8; have := rest_room (E := E) h8; omega) hd ⟨by omega, by omega⟩) hS (fun r h' H1 locs1 hq hR1 hex hok hS1 => ?_)
  exact kk r h' hq hex p e R s m args below meth co H1 locs1 (cells + mc) (slots + ms) G lc Cc hR1 hS1 (by omega) (by omega) hl (hL.ex hex) (okS.app hok.stk (okS.ex hex (okS.rr hSt))) (fun r' h'' H' locs' cells' slots' pc' lc' q1 q2 q3 q4 q5 q6 q7 q8 => hret r' h'' H' locs' cells' slots' pc' lc' q1 q2 q3 q4 q5 (hex.tr q6) q7 q8)
theorem z_callI {c o : Nat} (hd : decode M.2.1 pc = .ok (.invokespecial idx, 3)) (hY : cOK Y n) (hw : Cond.methodLink M.1.cls idx Y.1 ∈ tsG ∧ Cond.instanceMethod Y.1 ∈ tsG) (hin : Y.1.name = "<init>") (hrn : Y.2.2.2 = none) (hn : As.length = n) (h8 : Nat.ble rest.length 8 = true)
    (hM : Mt l E d mc ms Y (.inr (some (0, c, o)) :: As) h Q1) (kk : ∀ r h', Q1 r h' → exH h h' → Tot l E M (d + 1) bc bs (pc + 3) ls (r.toList ++ rest) h' Q) : Tot l E M (d + 1) (bc + mc) (bs + ms) pc ls (As.reverse ++ .inr (some (0, c, o)) :: rest) h Q := by
  obtain ⟨yn, yb, yl, yr⟩ := Y
  have hrn : yr = none := hrn
  subst hrn
  intro p e R s m args below meth co H locs cells slots G lc Cc hH hS hce hsl hl hL hSt hret
  obtain ⟨hx, hb, hml, hown, hts, hnm, hV, hz, hfr, hlo⟩ := id Cc
  have hokA : okS h (.inr (some (0, c, o)) :: As) := okS.rv hSt
  obtain ⟨ho, ht⟩ := hokA.obj (by decide)
  have hp := pre_of (Y := (yn, yb, yl, none)) (As := .inr (some (0, c, o)) :: As) hV hH hS hokA
  have cb := callB_of (R := R) (s := s) (args := args) (rm := { frames := d, cells := mc, slots := ms, locals := 64 * d }) (own := M.1.cls) (index := idx) n hts (ws_good hY) rfl rfl rfl (hts _ hY.2.1) (hts _ hw.1) hY.2.2.1 ⟨hfr, by have : yl ≤ 40 := hY.2.2.2; show 8 + (yl + 11) + 64 * d ≤ _; omega⟩
  have hst : (As.reverse ++ .inr (some (0, c, o)) :: rest).map (cv E) = (As.map (cv E)).reverse ++ .ref (eZ E + o) :: rest.map (cv E) := by
    rw [List.map_append, List.map_reverse, List.map_cons]; rfl
  rw [hst]
  refine call_on (Q1 := Q1) (h := h) (va_runI (As := As.map (cv E)) (rest := rest.map (cv E)) ⟨hx, hb, hml, hown, hts⟩ hM ⟨cb, hin, hts _ hw.2⟩ hp rfl (by rw [List.length_map]; exact hn) hl.1.1 rfl (by show 2 * 0 + _ ≤ 8; have := rest_room (E := E) h8; omega) hd ⟨by omega, by omega⟩) hS (fun r h' H1 locs1 hq hR1 hex hok hS1 => ?_)
  exact kk r h' hq hex p e R s m args below meth co H1 locs1 (cells + mc) (slots + ms) G lc Cc hR1 hS1 (by omega) (by omega) hl (hL.ex hex) (okS.app hok.stk (okS.ex hex (okS.rr hSt).tl)) (fun r' h'' H' locs' cells' slots' pc' lc' q1 q2 q3 q4 q5 q6 q7 q8 => hret r' h'' H' locs' cells' slots' pc' lc' q1 q2 q3 q4 q5 (hex.tr q6) q7 q8)
theorem z_callIN {c o : Nat} (hd : decode M.2.1 pc = .ok (.invokespecial idx, 3)) (hY : cOK Y n) (hw : Cond.methodLinkNest M.1.cls idx Y.1 "ClockCall" ∈ lw_tbl ∧ Cond.instanceMethod Y.1 ∈ tsG) (hin : Y.1.name = "<init>") (hrn : Y.2.2.2 = none) (hn : As.length = n) (h8 : Nat.ble rest.length 8 = true)
    (hM : Mt l E d mc ms Y (.inr (some (0, c, o)) :: As) h Q1) (kk : ∀ r h', Q1 r h' → exH h h' → Tot l E M (d + 1) bc bs (pc + 3) ls (r.toList ++ rest) h' Q) : Tot l E M (d + 1) (bc + mc) (bs + ms) pc ls (As.reverse ++ .inr (some (0, c, o)) :: rest) h Q := by
  obtain ⟨yn, yb, yl, yr⟩ := Y
  have hrn : yr = none := hrn
  subst hrn
  intro p e R s m args below meth co H locs cells slots G lc Cc hH hS hce hsl hl hL hSt hret
  obtain ⟨hx, hb, hml, hown, hts, hnm, hV, hz, hfr, hlo⟩ := id Cc
  have hokA : okS h (.inr (some (0, c, o)) :: As) := okS.rv hSt
  obtain ⟨ho, ht⟩ := hokA.obj (by decide)
  have hp := pre_of (Y := (yn, yb, yl, none)) (As := .inr (some (0, c, o)) :: As) hV hH hS hokA
  have cb := va_cnB (R := R) (host := "ClockCall") (s := s) (args := args) (rm := { frames := d, cells := mc, slots := ms, locals := 64 * d }) (own := M.1.cls) (index := idx) n hts (ws_good hY) rfl rfl rfl (hV.2.1 _ _ _ _ hw.1) (hts _ hY.2.1) hY.2.2.1 ⟨hfr, by have : yl ≤ 40 := hY.2.2.2; show 8 + (yl + 11) + 64 * d ≤ _; omega⟩
  have hst : (As.reverse ++ .inr (some (0, c, o)) :: rest).map (cv E) = (As.map (cv E)).reverse ++ .ref (eZ E + o) :: rest.map (cv E) := by
    rw [List.map_append, List.map_reverse, List.map_cons]; rfl
  rw [hst]
  refine call_on (Q1 := Q1) (h := h) (va_runIN (As := As.map (cv E)) (rest := rest.map (cv E)) ⟨hx, hb, hml, hown, hts⟩ hM ⟨cb, hin, hts _ hw.2⟩ hp rfl (by rw [List.length_map]; exact hn) hl.1.1 rfl (by show 2 * 0 + _ ≤ 8; have := rest_room (E := E) h8; omega) hd ⟨by omega, by omega⟩) hS (fun r h' H1 locs1 hq hR1 hex hok hS1 => ?_)
  exact kk r h' hq hex p e R s m args below meth co H1 locs1 (cells + mc) (slots + ms) G lc Cc hR1 hS1 (by omega) (by omega) hl (hL.ex hex) (okS.app hok.stk (okS.ex hex (okS.rr hSt).tl)) (fun r' h'' H' locs' cells' slots' pc' lc' q1 q2 q3 q4 q5 q6 q7 q8 => hret r' h'' H' locs' cells' slots' pc' lc' q1 q2 q3 q4 q5 (hex.tr q6) q7 q8)
/-- a call of a static method of a nest mate -/
theorem z_callSN (hd : decode M.2.1 pc = .ok (.invokestatic idx, 3)) (hY : cOK Y n) (hw : Cond.methodLinkNest M.1.cls idx Y.1 "ClockCall" ∈ lw_tbl ∧ Cond.static Y.1 ∈ tsG) (hn : As.length = n) (h8 : Nat.ble rest.length 8 = true)
    (hM : Mt l E d mc ms Y As h Q1) (kk : ∀ r h', Q1 r h' → exH h h' → Tot l E M (d + 1) bc bs (pc + 3) ls (r.toList ++ rest) h' Q) : Tot l E M (d + 1) (bc + mc) (bs + ms) pc ls (As.reverse ++ rest) h Q := by
  intro p e R s m args below meth co H locs cells slots G lc Cc hH hS hce hsl hl hL hSt hret
  obtain ⟨hx, hb, hml, hown, hts, hnm, hV, hz, hfr, hlo⟩ := id Cc
  have hokA : okS h As := okS.rv0 hSt
  have hp := pre_of (Y := Y) (As := As) hV hH hS hokA
  have cb := va_cnB (R := R) (host := "ClockCall") (s := s) (args := args) (rm := { frames := d, cells := mc, slots := ms, locals := 64 * d }) (own := M.1.cls) (index := idx) n hts (ws_good hY) rfl rfl rfl (hV.2.1 _ _ _ _ hw.1) (hts _ hY.2.1) hY.2.2.1 ⟨hfr, by have := hY.2.2.2; show 8 + (Y.2.2.1 + 11) + 64 * d ≤ _; omega⟩
  have hst : (As.reverse ++ rest).map (cv E) = (As.map (cv E)).reverse ++ rest.map (cv E) := by
    rw [List.map_append, List.map_reverse]
  rw [hst]
  refine call_on (Q1 := Q1) (h := h) (va_runSN (As := As.map (cv E)) (rest := rest.map (cv E)) ⟨hx, hb, hml, hown, hts⟩ hM ⟨cb, hts _ hw.2, trivial⟩ hp rfl (by rw [List.length_map]; exact hn) hl.1.1 rfl (by show 2 * 0 + _ ≤ 8; have := rest_room (E := E) h8; omega) hd ⟨by omega, by omega⟩) hS (fun r h' H1 locs1 hq hR1 hex hok hS1 => ?_)
  exact kk r h' hq hex p e R s m args below meth co H1 locs1 (cells + mc) (slots + ms) G lc Cc hR1 hS1 (by omega) (by omega) hl (hL.ex hex) (okS.app hok.stk (okS.ex hex (okS.rr hSt))) (fun r' h'' H' locs' cells' slots' pc' lc' q1 q2 q3 q4 q5 q6 q7 q8 => hret r' h'' H' locs' cells' slots' pc' lc' q1 q2 q3 q4 q5 (hex.tr q6) q7 q8)
/-- Object's own constructor -/
theorem z_obj {r : Nat × Nat × Nat} (hd : decode M.2.1 pc = .ok (.invokespecial idx, 3)) (hw : Cond.methodLink M.1.cls idx objectInit ∈ tsG) (hw2 : Cond.instanceMethod objectInit ∈ tsG) (hw3 : Cond.code objectInit ⟨#[0xb1]⟩ 1 none ∈ tsG) (h8 : Nat.ble st.length 8 = true) (kk : Tot l E M (d + 1) bc bs (pc + 3) ls st h Q) : Tot l E M (d + 1) bc bs pc ls (.inr (some r) :: st) h Q := by
  intro p e R s m args below meth co H locs cells slots G lc Cc hH hS hce hsl hl hL hSt hret
  obtain ⟨hx, hb, hml, hown, hts, hnm, hV, hz, hfr, hlo⟩ := id Cc
  exact W.objInit hx hb hown (hts _ hw) (hts _ hw2) (hts _ hw3) rfl (by rw [hml]; exact hl.1.1) rfl hd (by omega) (by show 2 * 0 + _ + 12 ≤ _; have := rest_room (E := E) h8; omega) (kk p e R s m args below meth co H locs cells slots G lc Cc hH hS hce hsl hl hL hSt.tl hret)
theorem z_ldc {v : Int32} (hd : decode M.2.1 pc = .ok (.ldc idx, 2)) (hw : Cond.constant M.1.cls idx v ∈ tsG) (kk : Tot l E M d bc bs (pc + 2) ls (.inl v :: st) h Q) : Tot l E M d bc bs pc ls st h Q := by
  intro p e R s m args below meth co H locs cells slots G lc Cc hH hS hce hsl hl hL hSt hret
  obtain ⟨hx, hb, hml, hown, hts, hnm, hV, hz, hfr, hlo⟩ := id Cc
  exact lv_ldc hx hb hown (hts _ hw) hd (kk p e R s m args below meth co H locs cells slots G lc Cc hH hS hce hsl hl hL (okS.cn (okV.int _ _) hSt) hret)
theorem z_ldcw {v : Int32} (hd : decode M.2.1 pc = .ok (.ldc_w idx, 3)) (hw : Cond.constant M.1.cls idx v ∈ tsG) (kk : Tot l E M d bc bs (pc + 3) ls (.inl v :: st) h Q) : Tot l E M d bc bs pc ls st h Q := by
  intro p e R s m args below meth co H locs cells slots G lc Cc hH hS hce hsl hl hL hSt hret
  obtain ⟨hx, hb, hml, hown, hts, hnm, hV, hz, hfr, hlo⟩ := id Cc
  exact lv_ldcw hx hb hown (hts _ hw) hd (kk p e R s m args below meth co H locs cells slots G lc Cc hH hS hce hsl hl hL (okS.cn (okV.int _ _) hSt) hret)
/-- the two tables of pairs -/
theorem z_gets1 (hd : decode M.2.1 pc = .ok (.getstatic idx, 3)) (hw : Cond.fieldLinkNest M.1.cls idx "ClockCall" "FIRST_OF_PAIR" "[I" "ClockCall" ∈ lw_tbl) (kk : Tot l E M d bc bs (pc + 3) ls (.inr (some (5, 1, 0)) :: st) h Q) : Tot l E M d bc bs pc ls st h Q := by
  intro p e R s m args below meth co H locs cells slots G lc Cc hH hS hce hsl hl hL hSt hret
  obtain ⟨hx, hb, hml, hown, hts, hnm, hV, hz, hfr, hlo⟩ := id Cc
  exact va_getsN hx hb hV.2.2.2.2.2.1 hS hown (va_Nw.use rfl (hV.2.2.1 _ _ _ _ _ _ hw)) (fun _ z => z) hd (kk p e R s m args below meth co H locs cells slots G lc Cc hH hS hce hsl hl hL (okS.cn (fun r hr q hq => by cases hr; cases hq; exact Or.inl rfl) hSt) hret)
theorem z_gets2 (hd : decode M.2.1 pc = .ok (.getstatic idx, 3)) (hw : Cond.fieldLinkNest M.1.cls idx "ClockCall" "SECOND_OF_PAIR" "[I" "ClockCall" ∈ lw_tbl) (kk : Tot l E M d bc bs (pc + 3) ls (.inr (some (5, 2, 0)) :: st) h Q) : Tot l E M d bc bs pc ls st h Q := by
  intro p e R s m args below meth co H locs cells slots G lc Cc hH hS hce hsl hl hL hSt hret
  obtain ⟨hx, hb, hml, hown, hts, hnm, hV, hz, hfr, hlo⟩ := id Cc
  exact va_getsN hx hb hV.2.2.2.2.2.2.1 hS hown (va_Nw.use rfl (hV.2.2.1 _ _ _ _ _ _ hw)) (fun _ z => z) hd (kk p e R s m args below meth co H locs cells slots G lc Cc hH hS hce hsl hl hL (okS.cn (fun r hr q hq => by cases hr; cases hq; exact Or.inl rfl) hSt) hret)
/-- a switch over 0 .. -/
def AllT (P : Nat → Nat → Prop) : List Nat → Nat → Prop
  | [], _ => True
  | t :: r, j => P j t ∧ AllT P r (j + 1)
theorem AllT.at {P : Nat → Nat → Prop} : ∀ {tg : List Nat} {i : Nat}, AllT P tg i → ∀ j t, tg[j]? = some t → P (i + j) t
  | [], _, _, j, t, h => by simp at h
  | a :: r, i, hA, 0, t, h => by simp at h; rw [← h]; exact hA.1
  | a :: r, i, hA, j + 1, t, h => by
    have := AllT.at hA.2 j t (by simpa using h)
    rw [show i + (j + 1) = i + 1 + j by omega]
    exact this
theorem z_table {x : Int32} {dflt hi : Int} {offs : Array Int} {len tgtD : Nat} (tg : List Nat) (hd : decode M.2.1 pc = .ok (.tableswitch dflt 0 hi offs, len)) (hsz : (tg.length : Int) = hi + 1) (hto : offs.toList.map (fun o => (pc : Int) + o) = tg.map (fun t : Nat => (t : Int))) (htD : (pc : Int) + dflt = (tgtD : Int))
    (kin : AllT (fun j t => x = nI j → Tot l E M d bc bs t ls st h Q) tg 0) (kout : (x.toInt < 0 ∨ hi < x.toInt) → Tot l E M d bc bs tgtD ls st h Q) : Tot l E M d bc bs pc ls (.inl x :: st) h Q := by
  intro p e R s m args below meth co H locs cells slots G lc Cc hH hS hce hsl hl hL hSt hret
  by_cases g : x.toInt < 0 ∨ hi < x.toInt
  · exact lv_tableOut Cc.1 Cc.2.1 hd g htD (kout g p e R s m args below meth co H locs cells slots G lc Cc hH hS hce hsl hl hL hSt.tl hret)
  · have g1 : ¬ x.toInt < 0 := fun q => g (Or.inl q)
    have g2 : ¬ hi < x.toInt := fun q => g (Or.inr q)
    obtain ⟨j, hj⟩ : ∃ j : Nat, x.toInt = (j : Int) := ⟨x.toInt.toNat, by omega⟩
    have hjl : j < tg.length := by omega
    have hx : x = nI j := by
      apply Int32.toInt_inj.mp
      rw [hj, nI_toInt]
      have := fb_rng' x
      omega
    have hol : j < offs.toList.length := by
      have := congrArg List.length hto
      simp at this
      simpa [this] using hjl
    have ho : offs[j]? = some (offs.toList[j]) := by
      rw [← Array.getElem?_toList, List.getElem?_eq_getElem hol]
    have ht : (pc : Int) + offs.toList[j] = ((tg[j] : Nat) : Int) := by
      have := congrArg (fun q => q[j]?) hto
      simp only [List.getElem?_map, List.getElem?_eq_getElem hol, List.getElem?_eq_getElem hjl, Option.map_some] at this
      exact Option.some.inj this
    have hk := (AllT.at kin j tg[j] (List.getElem?_eq_getElem hjl))
    rw [Nat.zero_add] at hk
    exact lv_tableIn Cc.1 Cc.2.1 hd g1 g2 (off := offs.toList[j]) (by rw [hj]; simpa using ho) ht (hk hx p e R s m args below meth co H locs cells slots G lc Cc hH hS hce hsl hl hL hSt.tl hret)
/-- System.arraycopy of ints -/
theorem z_copy {n0 n1 a0 a1 : Nat} {sp dp k : Int32} (hd : decode M.2.1 pc = .ok (.invokestatic idx, 3)) (hw : Cond.methodLink M.1.cls idx arraycopyName ∈ tsG ∧ Cond.native arraycopyName ∈ tsG ∧ Cond.static arraycopyName ∈ tsG ∧ Cond.initialized "java/lang/System" ∈ tsG) (h1 : ¬ sp < 0) (h2 : ¬ dp < 0) (h3 : ¬ k < 0) (h4 : sp.toNatClampNeg + k.toNatClampNeg ≤ n0) (h5 : dp.toNatClampNeg + k.toNatClampNeg ≤ n1) (h8 : Nat.ble st.length 8 = true)
    (kk : Tot l E M (d + 1) bc bs (pc + 3) ls st (stAA h a1 (va_cpy (hA h a0) (hA h a1) sp.toNatClampNeg dp.toNatClampNeg k.toNatClampNeg)) Q) : Tot l E M (d + 1) bc bs pc ls (.inl k :: .inl dp :: .inr (some (1, n1, a1)) :: .inl sp :: .inr (some (1, n0, a0)) :: st) h Q := by
  intro p e R s m args below meth co H locs cells slots G lc Cc hH hS hce hsl hl hL hSt hret
  obtain ⟨hx, hb, hml, hown, hts, hnm, hV, hz, hfr, hlo⟩ := id Cc
  obtain ⟨ho1, ht1⟩ := hSt.tl.tl.obj (by decide)
  obtain ⟨ho0, ht0⟩ := hSt.tl.tl.tl.tl.obj (by decide)
  have hc0 := hH.cellA ho0 ht0 (by decide) (by decide)
  have hc1 := hH.cellA ho1 ht1 (by decide) (by decide)
  have nn : ∀ z : Int32, ¬ z < 0 → z.toInt = (z.toNatClampNeg : Int) := by
    intro z hz
    have hz0 : (0 : Int) ≤ z.toInt := by
      have := Int32.not_lt.mp hz
      simpa using Int32.le_iff_toInt_le.mp this
    show z.toInt = ((z.toInt.toNat : Nat) : Int)
    omega
  have e9 : nativeFrameWords "java/lang/System" "arraycopy" 5 + 11 ≤ 50 := by decide +kernel
  intro T hTT X
  obtain ⟨-, k0, hk0, cm0, hkk0⟩ := (hV.1.2 0 _ rfl).1 n0 (fun j => .int (hA h a0 j))
  obtain ⟨-, k1, hk1, cm1, hkk1⟩ := (hV.1.2 0 _ rfl).1 n1 (fun j => .int (hA h a1 j))
  obtain ⟨vm', X', step⟩ := X.arraycopy hx hown (hts _ hw.1) (hts _ hw.2.1) (hts _ hw.2.2.1) (hts _ hw.2.2.2) (src := eZ E + a0) (dst := eZ E + a1) (cs := arrV (eK E 1) n0 (fun j => .int (hA h a0 j))) (cd := arrV (eK E 1) n1 (fun j => .int (hA h a1 j))) (srcPos := sp) (destPos := dp) (n := k) (by rw [hTT]; exact hc0) (by rw [hTT]; exact hc1)
    (fun _ h => by cases h) (fun _ h => by cases h) (fun h => by cases h) (fun h => by cases h) hk0 hk1 hkk0 hkk1 (by simp [kty, refKind]) h1 h2 h3
    (by rw [nn sp h1, nn k h3, arrV_size]; omega)
    (by rw [nn dp h2, nn k h3, arrV_size]; omega)
    (fun vm₁ _ i hi => by
      have e : (arrV (eK E 1) n0 (fun j => .int (hA h a0 j))).slots.getD (sp.toNatClampNeg + i) .null = .int (hA h a0 (sp.toNatClampNeg + i)) := by
        rw [Array.getD_eq_getD_getElem?, arrV_read _ _ (by omega)]
        rfl
      refine ⟨?_, ?_⟩
      · rw [e]
        rfl
      · rw [e]
        exact trivial)
    (g := F0 m pc lc (.int k :: .int dp :: .ref (eZ E + a1) :: .int sp :: .ref (eZ E + a0) :: st.map (cv E))) rfl (by rw [hml]; exact hl.1.1) (rest := st.map (cv E)) rfl (by rw [hb]; exact hd) (by omega) (by show 2 * 0 + _ + _ ≤ _; have := rest_room (E := E) h8; omega)
  have e1 : copied (arrV (eK E 1) n0 (fun j => .int (hA h a0 j))) (arrV (eK E 1) n1 (fun j => .int (hA h a1 j))) sp dp k = arrV (eK E 1) n1 (fun j => .int (va_cpy (hA h a0) (hA h a1) sp.toNatClampNeg dp.toNatClampNeg k.toNatClampNeg j)) := va_copied (fun z => .int z) (eK E 1) (eK E 1) (hA h a0) (hA h a1) h4
  rw [e1] at X' step
  have hl1 : eZ E + a1 < H.size := (Array.getElem?_eq_some_iff.mp hc1).1
  generalize hH1 : ((T.setVm vm').setCell (eZ E + a1) (arrV (eK E 1) n1 (fun j => .int (va_cpy (hA h a0) (hA h a1) sp.toNatClampNeg dp.toNatClampNeg k.toNatClampNeg j)))) = T1 at X' step
  have hheap : T1.heap = H.setIfInBounds (eZ E + a1) (arrV (eK E 1) n1 (fun j => .int (va_cpy (hA h a0) (hA h a1) sp.toNatClampNeg dp.toNatClampNeg k.toNatClampNeg j))) := by rw [← hH1, ← hTT]; rfl
  have oq : ∀ q : Nat, q ≠ eZ E + a1 → T1.heap[q]? = H[q]? := fun q hq => by rw [hheap]; simp [Array.getElem?_setIfInBounds, Ne.symm hq]
  have hzz : T1.heap.size = H.size := by rw [hheap]; simp
  have hR1 : RepH E (stAA h a1 (va_cpy (hA h a0) (hA h a1) sp.toNatClampNeg dp.toNatClampNeg k.toNatClampNeg)) T1.heap := by
    refine hH.set (i := a1) rfl stAA_cel hH.2.2.stAA hzz oq (fun _ => ?_)
    have e : hT (stAA h a1 (va_cpy (hA h a0) (hA h a1) sp.toNatClampNeg dp.toNatClampNeg k.toNatClampNeg)) a1 = (1, n1) := ht1
    rw [cel_arr e (by decide) (by decide)]
    show T1.heap[eZ E + a1]? = some (vp_cell _ _)
    rw [vp_cell_i, hheap]
    simp [Array.getElem?_setIfInBounds, hl1, stAA, up1, hA]
  obtain ⟨t, q1, q2⟩ := kk p e R s m args below meth co T1.heap _ cells slots G lc Cc hR1 ⟨by rw [hzz]; exact hS.1, fun q g1 g2 => by
      rw [oq q (fun e => g2 (by rw [e]; show eZ E ≤ _; omega))]
      exact hS.2.1 q g1 g2, fun q hq => by
      rcases List.mem_append.mp hq with h | h
      · exact hS.2.2 q h
      · obtain ⟨z, -, hz⟩ := List.mem_map.mp h
        rw [← hz]
        show eZ E ≤ _
        simp⟩ hce hsl hl hL hSt.tl.tl.tl.tl.tl hret T1 rfl X'
  exact ⟨t, step t q1, q2⟩
end RULES4
end
section
/-! THE CLAIM OUT OF ONE WALK OF THE LAW'S BODY. Your part is whole_start (and what it stands on); all else here is the same for every law, but numbers. -/
def R_law : String := "ClockCallLaw"
def lw_P (b : Addr) (xs : List Int32) (args : Array Value) (s : State) : Prop := args = #[.ref b] ∧ s.IntsAt b xs ∧ xs.length ≤ 3072 ∧ (Jvm.Cond.and given_1 narrow_1).before args s = true
def lw_Q (_ : Array Value) (s : State) (o : Outcome) (t : State) : Prop := o = .returned (some (.int 1)) ∧ Framed s o t [] 600000 7302250
def lw_Z (below : List Frame) (a : Array Value) (s : State) : State → Prop := fun t => ∃ o, t.status = .running ∧ Ended t below o ∧ lw_Q a s o t
/-- the law's own end, with 1 on the stack, nothing written that was there before, its room as the claim has it -/
theorem lw_ret {p : Program} {l : Launch} {e : Env} {s : State} {m : MethodId} {below : List Frame} {meth : Method} {c : Code} {b : Nat} (hx : p.tables.exec = Jvm.exec) (hb : c.code = code) (hr : meth.sig.returnType = ret) (hlocks : meth.locks = false) {pc : Nat} {H : Heap} {ls : Array Slot} (hdg : decode code pc = .ok (.ireturn, 1)) : W p l e room_1 s m #[Value.ref b] below meth c H [] 600000 7302250 (lw_Z below #[Value.ref b] s) (F0 m pc ls [.int 1]) := by
  intro T hT X
  obtain ⟨fs, hret, hrun, hended, hW, hframe⟩ := X.leave (v := some (.int 1)) (hlocks := hlocks) (fun h => by rw [hr] at h; cases h)
  have hmeth' : T.vm.method? m = some meth := X.method'
  refine ⟨T.setFrames fs, ?_, .returned (some (.int 1)), hrun, hended, rfl, ⟨_, rfl⟩, hW, hframe⟩
  jvm_step X.here [X.here.top, hx, hb, hdg, hmeth', hr, ret, narrow_b1]
  (try refine ⟨rfl, ?_⟩); (try refine ⟨rfl, ?_⟩)
  first | (intro acts; rw [hret _ acts rfl rfl rfl]) | rw [hret _ _ rfl rfl rfl]
  exact Steps.refl _
/-- what holds at the law's entry: the machine, the code, the tables' words (any of lw_tbl by 'hts w (by decide +kernel)'), the script of L ints xs at the cell b, what the Statement gives of the start (any of its parts by flat_of_before) -/
def lw_At (p : Program) (s : State) (m : MethodId) (meth : Method) (c : Code) (b L : Nat) (xs : Nat → Int32) : Prop :=
  p.tables.exec = Jvm.exec ∧ c.code = code ∧ meth.sig.returnType = ret ∧ c.maxLocals = 4 ∧ s.vm.findClass R_law = some m.cls ∧ (∀ w ∈ lw_tbl, w.before #[Value.ref b] s = true) ∧ va_X b L xs s s.heap ∧ b < s.heap.size ∧ meth.locks = false ∧ (Jvm.Cond.and given_1 narrow_1).before #[Value.ref b] s = true
def mL : aM := (yL_law, cL_law, 4, some .boolean)
def h00 : aH := (fun _ _ => 0, fun _ _ => none, fun _ _ => 0, fun _ _ => none, fun _ => (0, 0), 0)
def CNow (k : Nat) : Nat × String := match k with
  | 12 => (4, RX4) | 14 => (6, RX6) | 16 => (8, RX8) | 17 => (9, RX9) | _ => (10, RX10)
theorem known_cl {s : State} {args : Array Value} (hts : ∀ w ∈ lw_tbl, w.before args s = true) : ∀ (k : Nat), ∃ y : ClassId × (Nat → Nat), ∀ q, vwCl[k]? = some q → u_Kn s q.1 q.2.1 q.2.2 y.1 y.2 := by
  intro k
  match k with
  | 0 => obtain ⟨c, i, h⟩ := u_known (C := RX0) (T := TX0) (N := 4) (n := 4) hts inX0 (hts (.instantiable RX0 4) (by decide +kernel)); exact ⟨(c, i), fun q hq => by cases hq; exact h⟩
  | 1 => obtain ⟨c, i, h⟩ := u_known (C := RX1) (T := TX1) (N := 5) (n := 5) hts inX1 (hts (.instantiable RX1 5) (by decide +kernel)); exact ⟨(c, i), fun q hq => by cases hq; exact h⟩
  | 2 => obtain ⟨c, i, h⟩ := u_known (C := RX2) (T := TX2) (N := 4) (n := 4) hts inX2 (hts (.instantiable RX2 4) (by decide +kernel)); exact ⟨(c, i), fun q hq => by cases hq; exact h⟩
  | 3 => obtain ⟨c, i, h⟩ := u_known (C := RX3) (T := TX3) (N := 5) (n := 5) hts inX3 (hts (.instantiable RX3 5) (by decide +kernel)); exact ⟨(c, i), fun q hq => by cases hq; exact h⟩
  | 4 => obtain ⟨c, i, h⟩ := u_known (C := RX4) (T := TX4) (N := 3) (n := 3) hts inX4 (hts (.instantiable RX4 3) (by decide +kernel)); exact ⟨(c, i), fun q hq => by cases hq; exact h⟩
  | 5 => obtain ⟨c, i, h⟩ := u_known (C := RX5) (T := TX5) (N := 11) (n := 11) hts inX5 (hts (.instantiable RX5 11) (by decide +kernel)); exact ⟨(c, i), fun q hq => by cases hq; exact h⟩
  | 6 => obtain ⟨c, i, h⟩ := u_known (C := RX6) (T := TX6) (N := 5) (n := 5) hts inX6 (hts (.instantiable RX6 5) (by decide +kernel)); exact ⟨(c, i), fun q hq => by cases hq; exact h⟩
  | 7 => obtain ⟨c, i, h⟩ := u_known (C := RX7) (T := TX7) (N := 11) (n := 11) hts inX7 (hts (.instantiable RX7 11) (by decide +kernel)); exact ⟨(c, i), fun q hq => by cases hq; exact h⟩
  | 8 => obtain ⟨c, i, h⟩ := u_known (C := RX8) (T := TX8) (N := 6) (n := 6) hts inX8 (hts (.instantiable RX8 6) (by decide +kernel)); exact ⟨(c, i), fun q hq => by cases hq; exact h⟩
  | 9 => obtain ⟨c, i, h⟩ := u_known (C := RX9) (T := TX9) (N := 9) (n := 9) hts inX9 (hts (.instantiable RX9 9) (by decide +kernel)); exact ⟨(c, i), fun q hq => by cases hq; exact h⟩
  | 10 => obtain ⟨c, i, h⟩ := u_known (C := RX10) (T := TX10) (N := 3) (n := 3) hts inX10 (hts (.instantiable RX10 3) (by decide +kernel)); exact ⟨(c, i), fun q hq => by cases hq; exact h⟩
  | 11 => obtain ⟨c, i, h⟩ := u_known (C := RX11) (T := TX11) (N := 14) (n := 14) hts inX11 (hts (.instantiable RX11 14) (by decide +kernel)); exact ⟨(c, i), fun q hq => by cases hq; exact h⟩
  | 12 => obtain ⟨c, i, h⟩ := u_known (C := RX12) (T := TX12) (N := 43) (n := 43) hts inX12 (hts (.instantiable RX12 43) (by decide +kernel)); exact ⟨(c, i), fun q hq => by cases hq; exact h⟩
  | n + 13 => exact ⟨(0, fun _ => 0), fun q hq => by simp [vwCl] at hq⟩
theorem arr_ref {s : State} {args : Array Value} {C : String} (h : (Cond.arrayOver (.object C)).before args s = true) : ∃ cA : ClassId, ArrOfT s cA (.object C) ∧ va_RA s cA (.object C) := by
  obtain ⟨comp, c, k, h1, h2, h3, h4, h5⟩ := Cond.arrayOver_spec h
  exact ⟨c, fun n z => ⟨fun k h => (by cases h), k, h3, comp, h4⟩, k, comp, h3, h4, h1, h5⟩
theorem arr_prim {s : State} {args : Array Value} {t : FieldType} (h : (Cond.arrayClass t).before args s = true) : ∃ cA : ClassId, ArrOfT s cA t ∧ s.vm.findClass ("[" ++ t.toString) = some cA := by
  obtain ⟨c, k, comp, h1, h2, h3⟩ := Cond.arrayClass_spec h
  exact ⟨c, fun n z => ⟨fun k h => (by cases h), k, h2, comp, h3⟩, h1⟩
theorem tab_tb1 {s : State} {args : Array Value} (hf : ∀ c ∈ flatC (Jvm.Cond.and given_1 narrow_1), c.before args s = true) (hts : ∀ w ∈ lw_tbl, w.before args s = true) {A : Nat → Prop} (hA : ∀ a : Nat, a < s.heap.size → ¬ A a) : ∃ t : Nat, va_T .int t 15 (fun j => .int (tb1.getD j 0)) A s s.heap ∧ va_Z "ClockCall" "FIRST_OF_PAIR" "[I" (.ref t) A s s.heap := by
  have harr := hf (Cond.arrayOf (.static "ClockCall" "FIRST_OF_PAIR" "[I") .int) (by decide +kernel)
  have hlen := va_eqt (hf (Cond.eq (.length (.static "ClockCall" "FIRST_OF_PAIR" "[I")) (.int 15)) (by decide +kernel))
  have hel : ∀ j : Nat, j < 15 → (Term.elem (.static "ClockCall" "FIRST_OF_PAIR" "[I") (.int (Int32.ofNat j))).eval args s none [] s = some (.int (tb1.getD j 0)) := by
    intro j hj
    match j, hj with
    | 0, _ => exact va_eqt (hf (Cond.eq (.elem (.static "ClockCall" "FIRST_OF_PAIR" "[I") (.int 0)) (.int 0)) (by decide +kernel))
    | 1, _ => exact va_eqt (hf (Cond.eq (.elem (.static "ClockCall" "FIRST_OF_PAIR" "[I") (.int 1)) (.int 0)) (by decide +kernel))
    | 2, _ => exact va_eqt (hf (Cond.eq (.elem (.static "ClockCall" "FIRST_OF_PAIR" "[I") (.int 2)) (.int 0)) (by decide +kernel))
    | 3, _ => exact va_eqt (hf (Cond.eq (.elem (.static "ClockCall" "FIRST_OF_PAIR" "[I") (.int 3)) (.int 0)) (by decide +kernel))
    | 4, _ => exact va_eqt (hf (Cond.eq (.elem (.static "ClockCall" "FIRST_OF_PAIR" "[I") (.int 4)) (.int 0)) (by decide +kernel))
    | 5, _ => exact va_eqt (hf (Cond.eq (.elem (.static "ClockCall" "FIRST_OF_PAIR" "[I") (.int 5)) (.int 1)) (by decide +kernel))
    | 6, _ => exact va_eqt (hf (Cond.eq (.elem (.static "ClockCall" "FIRST_OF_PAIR" "[I") (.int 6)) (.int 1)) (by decide +kernel))
    | 7, _ => exact va_eqt (hf (Cond.eq (.elem (.static "ClockCall" "FIRST_OF_PAIR" "[I") (.int 7)) (.int 1)) (by decide +kernel))
    | 8, _ => exact va_eqt (hf (Cond.eq (.elem (.static "ClockCall" "FIRST_OF_PAIR" "[I") (.int 8)) (.int 1)) (by decide +kernel))
    | 9, _ => exact va_eqt (hf (Cond.eq (.elem (.static "ClockCall" "FIRST_OF_PAIR" "[I") (.int 9)) (.int 2)) (by decide +kernel))
    | 10, _ => exact va_eqt (hf (Cond.eq (.elem (.static "ClockCall" "FIRST_OF_PAIR" "[I") (.int 10)) (.int 2)) (by decide +kernel))
    | 11, _ => exact va_eqt (hf (Cond.eq (.elem (.static "ClockCall" "FIRST_OF_PAIR" "[I") (.int 11)) (.int 2)) (by decide +kernel))
    | 12, _ => exact va_eqt (hf (Cond.eq (.elem (.static "ClockCall" "FIRST_OF_PAIR" "[I") (.int 12)) (.int 3)) (by decide +kernel))
    | 13, _ => exact va_eqt (hf (Cond.eq (.elem (.static "ClockCall" "FIRST_OF_PAIR" "[I") (.int 13)) (.int 3)) (by decide +kernel))
    | 14, _ => exact va_eqt (hf (Cond.eq (.elem (.static "ClockCall" "FIRST_OF_PAIR" "[I") (.int 14)) (.int 4)) (by decide +kernel))
    | n + 15, h => omega
  obtain ⟨t, h1, h2⟩ := va_Tof (A := A) (by decide) harr hlen hel hA
  exact ⟨t, h2, va_Zref (hts (.laysStatic "ClockCall" "FIRST_OF_PAIR" "[I") (by decide +kernel)) (hts (.initialized "ClockCall") (by decide +kernel)) h1 hA⟩
theorem tab_tb2 {s : State} {args : Array Value} (hf : ∀ c ∈ flatC (Jvm.Cond.and given_1 narrow_1), c.before args s = true) (hts : ∀ w ∈ lw_tbl, w.before args s = true) {A : Nat → Prop} (hA : ∀ a : Nat, a < s.heap.size → ¬ A a) : ∃ t : Nat, va_T .int t 15 (fun j => .int (tb2.getD j 0)) A s s.heap ∧ va_Z "ClockCall" "SECOND_OF_PAIR" "[I" (.ref t) A s s.heap := by
  have harr := hf (Cond.arrayOf (.static "ClockCall" "SECOND_OF_PAIR" "[I") .int) (by decide +kernel)
  have hlen := va_eqt (hf (Cond.eq (.length (.static "ClockCall" "SECOND_OF_PAIR" "[I")) (.int 15)) (by decide +kernel))
  have hel : ∀ j : Nat, j < 15 → (Term.elem (.static "ClockCall" "SECOND_OF_PAIR" "[I") (.int (Int32.ofNat j))).eval args s none [] s = some (.int (tb2.getD j 0)) := by
    intro j hj
    match j, hj with
    | 0, _ => exact va_eqt (hf (Cond.eq (.elem (.static "ClockCall" "SECOND_OF_PAIR" "[I") (.int 0)) (.int 1)) (by decide +kernel))
    | 1, _ => exact va_eqt (hf (Cond.eq (.elem (.static "ClockCall" "SECOND_OF_PAIR" "[I") (.int 1)) (.int 2)) (by decide +kernel))
    | 2, _ => exact va_eqt (hf (Cond.eq (.elem (.static "ClockCall" "SECOND_OF_PAIR" "[I") (.int 2)) (.int 3)) (by decide +kernel))
    | 3, _ => exact va_eqt (hf (Cond.eq (.elem (.static "ClockCall" "SECOND_OF_PAIR" "[I") (.int 3)) (.int 4)) (by decide +kernel))
    | 4, _ => exact va_eqt (hf (Cond.eq (.elem (.static "ClockCall" "SECOND_OF_PAIR" "[I") (.int 4)) (.int 5)) (by decide +kernel))
    | 5, _ => exact va_eqt (hf (Cond.eq (.elem (.static "ClockCall" "SECOND_OF_PAIR" "[I") (.int 5)) (.int 2)) (by decide +kernel))
    | 6, _ => exact va_eqt (hf (Cond.eq (.elem (.static "ClockCall" "SECOND_OF_PAIR" "[I") (.int 6)) (.int 3)) (by decide +kernel))
    | 7, _ => exact va_eqt (hf (Cond.eq (.elem (.static "ClockCall" "SECOND_OF_PAIR" "[I") (.int 7)) (.int 4)) (by decide +kernel))
    | 8, _ => exact va_eqt (hf (Cond.eq (.elem (.static "ClockCall" "SECOND_OF_PAIR" "[I") (.int 8)) (.int 5)) (by decide +kernel))
    | 9, _ => exact va_eqt (hf (Cond.eq (.elem (.static "ClockCall" "SECOND_OF_PAIR" "[I") (.int 9)) (.int 3)) (by decide +kernel))
    | 10, _ => exact va_eqt (hf (Cond.eq (.elem (.static "ClockCall" "SECOND_OF_PAIR" "[I") (.int 10)) (.int 4)) (by decide +kernel))
    | 11, _ => exact va_eqt (hf (Cond.eq (.elem (.static "ClockCall" "SECOND_OF_PAIR" "[I") (.int 11)) (.int 5)) (by decide +kernel))
    | 12, _ => exact va_eqt (hf (Cond.eq (.elem (.static "ClockCall" "SECOND_OF_PAIR" "[I") (.int 12)) (.int 4)) (by decide +kernel))
    | 13, _ => exact va_eqt (hf (Cond.eq (.elem (.static "ClockCall" "SECOND_OF_PAIR" "[I") (.int 13)) (.int 5)) (by decide +kernel))
    | 14, _ => exact va_eqt (hf (Cond.eq (.elem (.static "ClockCall" "SECOND_OF_PAIR" "[I") (.int 14)) (.int 5)) (by decide +kernel))
    | n + 15, h => omega
  obtain ⟨t, h1, h2⟩ := va_Tof (A := A) (by decide) harr hlen hel hA
  exact ⟨t, h2, va_Zref (hts (.laysStatic "ClockCall" "SECOND_OF_PAIR" "[I") (by decide +kernel)) (hts (.initialized "ClockCall") (by decide +kernel)) h1 hA⟩
theorem start_of (hT : ∀ (l : Launch) (E : eE), eL E ≤ 3072 → Tot l E mL 100 600000 7302250 0 [some (.inr (some (5, 0, 0))), none, none, none] [] h00 (fun r _ => r = some (.inl 1)))
    {p : Program} {e : Env} {s : State} {m : MethodId} {below : List Frame} {meth : Method} {c : Code} (l : Launch) {b L : Nat} {xs : Nat → Int32} (hL : L ≤ 3072) (C0 : lw_At p s m meth c b L xs) : W p l e room_1 s m #[Value.ref b] below meth c s.heap [] 0 0 (lw_Z below #[Value.ref b] s) (entryFrame m ([Value.ref b] : List Value).toArray 4) := by
  obtain ⟨hx, hb, hr, hml, hown, hts, hX, hbl, hlocks, hgv⟩ := id C0
  have hf := flat_of_before _ hgv
  have hA : ∀ a : Nat, a < s.heap.size → ¬ (fun q => s.heap.size ≤ q) a := fun a h => Nat.not_le.mpr h
  obtain ⟨t1, hT1, hZ1⟩ := tab_tb1 hf hts hA
  obtain ⟨t2, hT2, hZ2⟩ := tab_tb2 hf hts hA
  obtain ⟨dK, hdK⟩ := Classical.skolem.mp (known_cl hts)
  have hck : ∀ k : Nat, ∃ cA : ClassId, k ∈ kinds → ArrOfT s cA (kty k) ∧ va_RA s cA (kty k) := by
    intro k
    by_cases hk : k ∈ kinds
    · have hk' : k = 1 ∨ k = 2 ∨ k = 3 ∨ k = 12 ∨ k = 14 ∨ k = 16 ∨ k = 17 ∨ k = 18 := by simpa [kinds] using hk
      rcases hk' with rfl | rfl | rfl | rfl | rfl | rfl | rfl | rfl
      · obtain ⟨cA, h1, h2⟩ := arr_prim (t := .int) (hts (.arrayClass .int) (by decide +kernel)); exact ⟨cA, fun _ => ⟨h1, h2⟩⟩
      · obtain ⟨cA, h1, h2⟩ := arr_prim (t := .boolean) (hts (.arrayClass .boolean) (by decide +kernel)); exact ⟨cA, fun _ => ⟨h1, h2⟩⟩
      · obtain ⟨cA, h1, h2⟩ := arr_prim (t := .byte) (hts (.arrayClass .byte) (by decide +kernel)); exact ⟨cA, fun _ => ⟨h1, h2⟩⟩
      · obtain ⟨cA, h1⟩ := arr_ref (C := RX4) (hts (.arrayOver (.object RX4)) (by decide +kernel)); exact ⟨cA, fun _ => h1⟩
      · obtain ⟨cA, h1⟩ := arr_ref (C := RX6) (hts (.arrayOver (.object RX6)) (by decide +kernel)); exact ⟨cA, fun _ => h1⟩
      · obtain ⟨cA, h1⟩ := arr_ref (C := RX8) (hts (.arrayOver (.object RX8)) (by decide +kernel)); exact ⟨cA, fun _ => h1⟩
      · obtain ⟨cA, h1⟩ := arr_ref (C := RX9) (hts (.arrayOver (.object RX9)) (by decide +kernel)); exact ⟨cA, fun _ => h1⟩
      · obtain ⟨cA, h1⟩ := arr_ref (C := RX10) (hts (.arrayOver (.object RX10)) (by decide +kernel)); exact ⟨cA, fun _ => h1⟩
    · exact ⟨0, fun h => absurd h hk⟩
  obtain ⟨cK, hcK⟩ := Classical.skolem.mp hck
  obtain ⟨E, hE⟩ : ∃ E : eE, E = (s.heap.size, (fun k => (dK k).1, fun k => (dK k).2), cK, (fun w => match w with | 0 => b | 1 => t1 | _ => t2), L, xs) := ⟨_, rfl⟩
  have hV : RepV E s := by
    subst hE
    refine ⟨⟨fun k q hq => hdK k q hq, fun j q hq => ?_⟩, fun a i y b hm => va_Nw.of rfl (hts _ hm), fun a i b n d x hm => va_Nw.of rfl (hts _ hm), fun C hm => hts _ hm, fun w hw => ?_, hZ1, hZ2, hL⟩
    · obtain ⟨k, hk, rfl⟩ := List.mem_map.mp (List.mem_of_getElem? hq)
      exact hcK k hk
    · match w, hw with
      | 0, _ =>
        obtain ⟨scr, g1, g2, g3, g4, g5⟩ := hX
        exact ⟨scr, g1, g2, g3, by rw [g4]; exact Nat.le_refl _, by rw [g4]; rfl, fun j hj => g5 j hj, hA b hbl⟩
      | 1, _ => exact hT1
      | 2, _ => exact hT2
      | n + 3, h => omega
  have hz : eZ E = s.heap.size := by rw [hE]
  have hH : RepH E h00 s.heap := ⟨by rw [hz]; rfl, fun k q hq => by simp [wl, h00, hN] at hq, ⟨fun i k q hq => (by cases hq), fun i k q hq => (by cases hq)⟩⟩
  have hl := lv_entry ([.ref b]) (n := 4) (Nat.le_of_ble_eq_true rfl)
  rw [lg_entry_eq]
  generalize (lg_sl ([.ref b]) ++ List.replicate (4 - (lg_sl ([.ref b])).length) Slot.unset).toArray = lc at hl ⊢
  have hl : lv_has lc 4 [(0, .ref b)] := hl
  have hX0 : eX E 0 = b := by rw [hE]; rfl
  refine hT l E (by rw [hE]; exact hL) p e room_1 s m #[Value.ref b] below meth c s.heap [] 0 0 _ lc ⟨hx, hb, hml, hown, fun w hw => hts w (tsG_sub w hw), ?_, hV, by rw [hz]; exact Nat.le_refl _, by decide, by decide⟩ hH va_S.rf (by decide) (by decide) ⟨⟨hl.1, rfl⟩, hl.2.1, fun i v hi => ?_⟩ ?_ (fun v hv => by cases hv) ?_
  · exact fun q => absurd q (by decide)
  · match i, hi with
    | 0, hi =>
      cases hi
      have := hl.2.2 (0, .ref b) List.mem_cons_self
      simpa [cv, cvA, adr, hX0, va_rf] using this
    | 1, hi => cases hi
    | 2, hi => cases hi
    | 3, hi => cases hi
    | n + 4, hi => simp at hi
  · intro v hv
    simp at hv
    subst hv
    intro r hr q hq
    cases hr
    cases hq
    exact Or.inl rfl
  · intro r h' H' locs' cells' slots' pc' lc' hQ hH' hS' hc' hs' hex hokr hret
    subst hQ
    rcases hret with ⟨q, -⟩ | ⟨x, ty, e1, e2, e3, hd⟩ | ⟨q, C, e1, -⟩
    · cases q
    · refine va_forget (fun q hq => by have := hS'.2.2 q hq; rw [← hz]; exact this) ?_
      refine W.widen (k := 600000) (n := 7302250) hc' hs' ?_
      exact lw_ret hx hb hr hlocks hd
    · cases e1
end
section
theorem law_all : ∀ (l : Launch) (E : eE), eL E ≤ 3072 → Tot l E mL 100 600000 7302250 0 [some (.inr (some (5, 0, 0))), none, none, none] [] h00 (fun r _ => r = some (.inl 1)) := sorry
end
section
theorem whole_start {p : Program} {e : Env} {s : State} {m : MethodId} {below : List Frame} {meth : Method} {c : Code} (l : Launch) {b L : Nat} {xs : Nat → Int32} (hL : L ≤ 3072) (C0 : lw_At p s m meth c b L xs) : W p l e room_1 s m #[Value.ref b] below meth c s.heap [] 0 0 (lw_Z below #[Value.ref b] s) (entryFrame m ([Value.ref b] : List Value).toArray 4) := start_of law_all l hL C0
set_option maxHeartbeats 4000000 in
theorem lw_walk (l : Launch) (b : Addr) (xs : List Int32) : MetFree l x (headSpec (Jvm.Cond.code x code maxLocals ret :: tables_1) room_1) (lw_P b xs) (fun _ _ _ _ _ => True) lw_Q := by
  refine MetFree.of_bodyS (code := code) (maxLocals := maxLocals) (ret := ret) (by decide) ?_ ?_
  · intro args s m h hn
    obtain ⟨meth, c, h1, h2, h3, h4, h5, h6, -, -⟩ := Cond.code_spec hn (atoms_spec (ws := Jvm.Cond.code x code maxLocals ret :: tables_1) h _ List.mem_cons_self)
    exact ⟨meth, c, h1, h2, h3, h4, h5, h6⟩
  · intro p e s m args below meth c s₁ B hml0 hP _
    obtain ⟨rfl, hx, hbd, hgv⟩ := hP
    obtain ⟨scr, harrAt, hlist, hof, hsmall⟩ := hx
    obtain ⟨hcb, hkn, -, -⟩ := State.arrayAt?_spec harrAt
    have hown : s.vm.findClass R_law = some m.cls := findClass_of_methodNamed B.named
    have hts0 : ∀ c ∈ (Jvm.Cond.code x code maxLocals ret :: tables_1), c.before #[Value.ref b] s = true := atoms_spec (ws := Jvm.Cond.code x code maxLocals ret :: tables_1) B.pre
    have hts : ∀ w ∈ lw_tbl, w.before #[Value.ref b] s = true := k2_hts_sels lw_privs (fun w hw => hts0 w (List.mem_cons_of_mem _ hw)) lw_privs_ok
    have hml : c.maxLocals = 4 := B.maxLocals_eq (hts0 _ List.mem_cons_self)
    have X₀ : Stand p l e room_1 s m #[Value.ref b] below meth c s₁ [] 0 0 := Stand.of_body B
    have hh0 : s₁.heap = s.heap := by rw [B.state]; rfl
    have hsz : scr.slots.size = xs.length := by rw [← Array.length_toList, hlist, List.length_map]
    have hval : ∀ j : Nat, j < xs.length → scr.slots[j]? = some (.int (xs.getD j 0)) := fun j hj => by
      rw [← Array.getElem?_toList, hlist]
      simp [hj]
    have hbl : b < s.heap.size := (Array.getElem?_eq_some_iff.mp hcb).1
    have hX : va_X b xs.length (fun j => xs.getD j 0) s s.heap := ⟨scr, hcb, hof, hkn, hsz, hval⟩
    have K : W p l e room_1 s m #[Value.ref b] below meth c s₁.heap [] 0 0 (lw_Z below #[Value.ref b] s) (entryFrame m ([Value.ref b] : List Value).toArray 4) := by
      rw [hh0]
      exact whole_start l hbd ⟨B.exec, B.bytes, B.returns, hml, hown, hts, hX, hbl, B.notSynchronized, hgv⟩
    obtain ⟨t, a1, o, b1, b2, b3⟩ := K s₁ rfl X₀
    exact ⟨t, o, a1, b1, b2, b3⟩
theorem lw_pre_spec {args : Array Value} {s : State} (h : (Jvm.Cond.and given_1 narrow_1).before args s = true) (hr : rest_1_c.before args s = true) : ∃ (b : Addr) (xs : List Int32), lw_P b xs args s := by
  have hs := flat_of_before _ h
  have hq := flat_of_before _ hr
  have hc : (Cond.count 1).before args s = true := hs _ (by decide +kernel)
  have harr : (Cond.arrayOf (.arg 0) .int).before args s = true := hs _ (by decide +kernel)
  have hle : (Cond.le (.length (.arg 0)) (.int 3072)).before args s = true := hs _ (by decide +kernel)
  have hlen : (Cond.isInt (.length (.arg 0))).before args s = true := hq _ (by decide +kernel)
  have hall : (Cond.all (.arg 0) (.isInt (.elem (.arg 0) (.index 0)))).before args s = true := hq _ (by decide +kernel)
  obtain ⟨b, xs, hb, hx⟩ := State.ints_of_pre rfl harr hlen hall
  have hsm : xs.length < 2 ^ 31 := hx.choose_spec.2.2.2
  have hev : (Term.length (.arg 0)).eval args s none [] s = some (.int xs.length.toInt32) := hx.length_eval hb
  have hv := Cond.le_ints hev (show (Term.int 3072).eval args s none [] s = some (.int 3072) from rfl)
  have hd : xs.length.toInt32 ≤ 3072 := by
    simpa [Cond.before, Cond.holds, hv] using hle
  have hN : xs.length ≤ 3072 := (Int32.ofNat_le_ofNat hsm (by decide)).mp (show Int32.ofNat xs.length ≤ Int32.ofNat 3072 from hd)
  exact ⟨b, xs, Cond.one_arg hc (show args[0]? = some (.ref b) from hb), hx, hN, h⟩
theorem lw_comes (l : Launch) : Comes l x (Jvm.Cond.code x code maxLocals ret :: tables_1) room_1 (fun tb e args s => Calls_1 tb e args s ∧ rest_1 tb e args s ∧ Pre_1 tb e args s)
    (fun _ _ args s o t => lw_Q args s o t) := by
  intro p e ha hc hk s m args below hf hfit hheap happ hpre
  obtain ⟨b, xs, hP⟩ := lw_pre_spec hpre.2.2 hpre.2.1
  obtain ⟨k, o, h1, h2, h3, hQ⟩ := lw_walk l b xs p e ha hc hk s m args below hf ((Spec.applies_iff_loose hf).mp happ).1 hP trivial
  exact ⟨k, o, h1, h2, h3, hQ⟩
theorem lw_frame {s t : State} {o : Outcome} {args : Array Value} (h : Framed s o t [] 600000 7302250) :
    Framed s o t (fieldLocs frame_1_writes args s ++ arrayLocs frame_1_arrays args s ++ staticLocs frame_1_statics s) 600000 7302250 := h
theorem lw_limb (L : Cond) (hL : ∀ (args : Array Value) (s t : State), L.after args s (.returned (some (.int 1))) t = true) :
    ArmFor flags0 classFile x code maxLocals ret World_1 tables_1 room_1 Calls_1 rest_1 Pre_1
      (fun tb e a s o t => postC L tb e a s o t ∧ Framed s o t (fieldLocs frame_1_writes a s ++ arrayLocs frame_1_arrays a s ++ staticLocs frame_1_statics s) 600000 7302250) := by
  intro l _ _ _ p e ha hc hk s m args below hf hfit hheap happ hpre
  obtain ⟨k, o, h1, h2, h3, rfl, hF⟩ := lw_comes l p e ha hc hk s m args below hf hfit hheap happ hpre
  exact ⟨k, _, h1, h2, h3, hL args s _, lw_frame hF⟩
theorem i_vc : Claimed_1_1 ∧ Claimed_1_2 := ⟨lw_limb limb_1_1 (fun args s t => by simp [limb_1_1, Cond.after, Cond.holds, Cond.value]), lw_limb limb_1_2 (fun args s t => Cond.after_iff.mpr (by
  first | (rw [show limb_1_2 = Cond.eq .result (.int 1) from rfl, Cond.eq_ints (x := 1) (y := 1) rfl rfl]; simp; done) | (simp [limb_1_2, Cond.value, Term.eval]; done)))⟩
end
