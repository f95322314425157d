theorem dX0_init_0 : decode cX0_init 0 = .ok (.aload_n 0, 1) := by decide +kernel
theorem dX0_init_1 : decode cX0_init 1 = .ok (.invokespecial 3, 3) := by decide +kernel
theorem dX0_init_4 : decode cX0_init 4 = .ok (.aload_n 0, 1) := by decide +kernel
theorem dX0_init_5 : decode cX0_init 5 = .ok (.new 9, 3) := by decide +kernel
theorem dX0_init_8 : decode cX0_init 8 = .ok (.dup, 1) := by decide +kernel
theorem dX0_init_9 : decode cX0_init 9 = .ok (.invokespecial 11, 3) := by decide +kernel
theorem dX0_init_12 : decode cX0_init 12 = .ok (.putfield 12, 3) := by decide +kernel
theorem dX0_init_15 : decode cX0_init 15 = .ok (.aload_n 0, 1) := by decide +kernel
theorem dX0_init_16 : decode cX0_init 16 = .ok (.bipush 12, 2) := by decide +kernel
theorem dX0_init_18 : decode cX0_init 18 = .ok (.newarray .int, 2) := by decide +kernel
theorem dX0_init_20 : decode cX0_init 20 = .ok (.putfield 18, 3) := by decide +kernel
theorem dX0_init_23 : decode cX0_init 23 = .ok (.aload_n 0, 1) := by decide +kernel
theorem dX0_init_24 : decode cX0_init 24 = .ok (.bipush 12, 2) := by decide +kernel
theorem dX0_init_26 : decode cX0_init 26 = .ok (.newarray .int, 2) := by decide +kernel
theorem dX0_init_28 : decode cX0_init 28 = .ok (.putfield 22, 3) := by decide +kernel
theorem dX0_init_31 : decode cX0_init 31 = .ok (.return_, 1) := by decide +kernel
theorem dX0_find_0 : decode cX0_find 0 = .ok (.iconst 0, 1) := by decide +kernel
theorem dX0_find_1 : decode cX0_find 1 = .ok (.istore 4, 2) := by decide +kernel
theorem dX0_find_3 : decode cX0_find 3 = .ok (.aload_n 0, 1) := by decide +kernel
theorem dX0_find_4 : decode cX0_find 4 = .ok (.aload_n 1, 1) := by decide +kernel
theorem dX0_find_5 : decode cX0_find 5 = .ok (.invokevirtual 25, 3) := by decide +kernel
theorem dX0_find_8 : decode cX0_find 8 = .ok (.iconst 0, 1) := by decide +kernel
theorem dX0_find_9 : decode cX0_find 9 = .ok (.istore 5, 2) := by decide +kernel
theorem dX0_find_11 : decode cX0_find 11 = .ok (.iload 5, 2) := by decide +kernel
theorem dX0_find_13 : decode cX0_find 13 = .ok (.aload_n 1, 1) := by decide +kernel
theorem dX0_find_14 : decode cX0_find 14 = .ok (.invokevirtual 29, 3) := by decide +kernel
theorem dX0_find_17 : decode cX0_find 17 = .ok (.if_icmp .ge 47, 3) := by decide +kernel
theorem dX0_find_20 : decode cX0_find 20 = .ok (.aload_n 1, 1) := by decide +kernel
theorem dX0_find_21 : decode cX0_find 21 = .ok (.aload_n 2, 1) := by decide +kernel
theorem dX0_find_22 : decode cX0_find 22 = .ok (.iload 5, 2) := by decide +kernel
theorem dX0_find_24 : decode cX0_find 24 = .ok (.invokestatic 35, 3) := by decide +kernel
theorem dX0_find_27 : decode cX0_find 27 = .ok (.ifCond .eq 31, 3) := by decide +kernel
theorem dX0_find_30 : decode cX0_find 30 = .ok (.iload 4, 2) := by decide +kernel
theorem dX0_find_32 : decode cX0_find 32 = .ok (.iconst 1, 1) := by decide +kernel
theorem dX0_find_33 : decode cX0_find 33 = .ok (.iload 5, 2) := by decide +kernel
theorem dX0_find_35 : decode cX0_find 35 = .ok (.ishl, 1) := by decide +kernel
theorem dX0_find_36 : decode cX0_find 36 = .ok (.ior, 1) := by decide +kernel
theorem dX0_find_37 : decode cX0_find 37 = .ok (.istore 4, 2) := by decide +kernel
theorem dX0_find_39 : decode cX0_find 39 = .ok (.aload_n 0, 1) := by decide +kernel
theorem dX0_find_40 : decode cX0_find 40 = .ok (.getfield 12, 3) := by decide +kernel
theorem dX0_find_43 : decode cX0_find 43 = .ok (.aload_n 1, 1) := by decide +kernel
theorem dX0_find_44 : decode cX0_find 44 = .ok (.aload_n 2, 1) := by decide +kernel
theorem dX0_find_45 : decode cX0_find 45 = .ok (.aload_n 3, 1) := by decide +kernel
theorem dX0_find_46 : decode cX0_find 46 = .ok (.iload 5, 2) := by decide +kernel
theorem dX0_find_48 : decode cX0_find 48 = .ok (.invokevirtual 39, 3) := by decide +kernel
theorem dX0_find_51 : decode cX0_find 51 = .ok (.aload_n 0, 1) := by decide +kernel
theorem dX0_find_52 : decode cX0_find 52 = .ok (.aload_n 1, 1) := by decide +kernel
theorem dX0_find_53 : decode cX0_find 53 = .ok (.iload 5, 2) := by decide +kernel
theorem dX0_find_55 : decode cX0_find 55 = .ok (.invokevirtual 43, 3) := by decide +kernel
theorem dX0_find_58 : decode cX0_find 58 = .ok (.iinc 5 1, 3) := by decide +kernel
theorem dX0_find_61 : decode cX0_find 61 = .ok (.goto (-50), 3) := by decide +kernel
theorem dX0_find_64 : decode cX0_find 64 = .ok (.aload_n 0, 1) := by decide +kernel
theorem dX0_find_65 : decode cX0_find 65 = .ok (.iload 4, 2) := by decide +kernel
theorem dX0_find_67 : decode cX0_find 67 = .ok (.invokevirtual 47, 3) := by decide +kernel
theorem dX0_find_70 : decode cX0_find 70 = .ok (.ireturn, 1) := by decide +kernel
theorem dX0_listSuspects_0 : decode cX0_listSuspects 0 = .ok (.aload_n 1, 1) := by decide +kernel
theorem dX0_listSuspects_1 : decode cX0_listSuspects 1 = .ok (.getfield 51, 3) := by decide +kernel
theorem dX0_listSuspects_4 : decode cX0_listSuspects 4 = .ok (.iconst 1, 1) := by decide +kernel
theorem dX0_listSuspects_5 : decode cX0_listSuspects 5 = .ok (.iaload, 1) := by decide +kernel
theorem dX0_listSuspects_6 : decode cX0_listSuspects 6 = .ok (.aload_n 1, 1) := by decide +kernel
theorem dX0_listSuspects_7 : decode cX0_listSuspects 7 = .ok (.invokevirtual 54, 3) := by decide +kernel
theorem dX0_listSuspects_10 : decode cX0_listSuspects 10 = .ok (.ior, 1) := by decide +kernel
theorem dX0_listSuspects_11 : decode cX0_listSuspects 11 = .ok (.istore_n 2, 1) := by decide +kernel
theorem dX0_listSuspects_12 : decode cX0_listSuspects 12 = .ok (.aload_n 0, 1) := by decide +kernel
theorem dX0_listSuspects_13 : decode cX0_listSuspects 13 = .ok (.iconst 0, 1) := by decide +kernel
theorem dX0_listSuspects_14 : decode cX0_listSuspects 14 = .ok (.putfield 57, 3) := by decide +kernel
theorem dX0_listSuspects_17 : decode cX0_listSuspects 17 = .ok (.iconst 0, 1) := by decide +kernel
theorem dX0_listSuspects_18 : decode cX0_listSuspects 18 = .ok (.istore_n 3, 1) := by decide +kernel
theorem dX0_listSuspects_19 : decode cX0_listSuspects 19 = .ok (.iload_n 3, 1) := by decide +kernel
theorem dX0_listSuspects_20 : decode cX0_listSuspects 20 = .ok (.bipush 12, 2) := by decide +kernel
theorem dX0_listSuspects_22 : decode cX0_listSuspects 22 = .ok (.if_icmp .ge 47, 3) := by decide +kernel
theorem dX0_listSuspects_25 : decode cX0_listSuspects 25 = .ok (.iload_n 2, 1) := by decide +kernel
theorem dX0_listSuspects_26 : decode cX0_listSuspects 26 = .ok (.iload_n 3, 1) := by decide +kernel
theorem dX0_listSuspects_27 : decode cX0_listSuspects 27 = .ok (.invokestatic 61, 3) := by decide +kernel
theorem dX0_listSuspects_30 : decode cX0_listSuspects 30 = .ok (.ifCond .eq 33, 3) := by decide +kernel
theorem dX0_listSuspects_33 : decode cX0_listSuspects 33 = .ok (.aload_n 0, 1) := by decide +kernel
theorem dX0_listSuspects_34 : decode cX0_listSuspects 34 = .ok (.getfield 18, 3) := by decide +kernel
theorem dX0_listSuspects_37 : decode cX0_listSuspects 37 = .ok (.aload_n 0, 1) := by decide +kernel
theorem dX0_listSuspects_38 : decode cX0_listSuspects 38 = .ok (.getfield 57, 3) := by decide +kernel
theorem dX0_listSuspects_41 : decode cX0_listSuspects 41 = .ok (.iload_n 3, 1) := by decide +kernel
theorem dX0_listSuspects_42 : decode cX0_listSuspects 42 = .ok (.iastore, 1) := by decide +kernel
theorem dX0_listSuspects_43 : decode cX0_listSuspects 43 = .ok (.aload_n 0, 1) := by decide +kernel
theorem dX0_listSuspects_44 : decode cX0_listSuspects 44 = .ok (.getfield 22, 3) := by decide +kernel
theorem dX0_listSuspects_47 : decode cX0_listSuspects 47 = .ok (.aload_n 0, 1) := by decide +kernel
theorem dX0_listSuspects_48 : decode cX0_listSuspects 48 = .ok (.getfield 57, 3) := by decide +kernel
theorem dX0_listSuspects_51 : decode cX0_listSuspects 51 = .ok (.iconst 0, 1) := by decide +kernel
theorem dX0_listSuspects_52 : decode cX0_listSuspects 52 = .ok (.iastore, 1) := by decide +kernel
theorem dX0_listSuspects_53 : decode cX0_listSuspects 53 = .ok (.aload_n 0, 1) := by decide +kernel
theorem dX0_listSuspects_54 : decode cX0_listSuspects 54 = .ok (.dup, 1) := by decide +kernel
theorem dX0_listSuspects_55 : decode cX0_listSuspects 55 = .ok (.getfield 57, 3) := by decide +kernel
theorem dX0_listSuspects_58 : decode cX0_listSuspects 58 = .ok (.iconst 1, 1) := by decide +kernel
theorem dX0_listSuspects_59 : decode cX0_listSuspects 59 = .ok (.iadd, 1) := by decide +kernel
theorem dX0_listSuspects_60 : decode cX0_listSuspects 60 = .ok (.putfield 57, 3) := by decide +kernel
theorem dX0_listSuspects_63 : decode cX0_listSuspects 63 = .ok (.iinc 3 1, 3) := by decide +kernel
theorem dX0_listSuspects_66 : decode cX0_listSuspects 66 = .ok (.goto (-47), 3) := by decide +kernel
theorem dX0_listSuspects_69 : decode cX0_listSuspects 69 = .ok (.return_, 1) := by decide +kernel
theorem dX0_noteHindered_0 : decode cX0_noteHindered 0 = .ok (.iconst 0, 1) := by decide +kernel
theorem dX0_noteHindered_1 : decode cX0_noteHindered 1 = .ok (.istore_n 3, 1) := by decide +kernel
theorem dX0_noteHindered_2 : decode cX0_noteHindered 2 = .ok (.iload_n 3, 1) := by decide +kernel
theorem dX0_noteHindered_3 : decode cX0_noteHindered 3 = .ok (.aload_n 0, 1) := by decide +kernel
theorem dX0_noteHindered_4 : decode cX0_noteHindered 4 = .ok (.getfield 57, 3) := by decide +kernel
theorem dX0_noteHindered_7 : decode cX0_noteHindered 7 = .ok (.if_icmp .ge 83, 3) := by decide +kernel
theorem dX0_noteHindered_10 : decode cX0_noteHindered 10 = .ok (.aload_n 0, 1) := by decide +kernel
theorem dX0_noteHindered_11 : decode cX0_noteHindered 11 = .ok (.getfield 18, 3) := by decide +kernel
theorem dX0_noteHindered_14 : decode cX0_noteHindered 14 = .ok (.iload_n 3, 1) := by decide +kernel
theorem dX0_noteHindered_15 : decode cX0_noteHindered 15 = .ok (.iaload, 1) := by decide +kernel
theorem dX0_noteHindered_16 : decode cX0_noteHindered 16 = .ok (.istore 4, 2) := by decide +kernel
theorem dX0_noteHindered_18 : decode cX0_noteHindered 18 = .ok (.iload 4, 2) := by decide +kernel
theorem dX0_noteHindered_20 : decode cX0_noteHindered 20 = .ok (.aload_n 1, 1) := by decide +kernel
theorem dX0_noteHindered_21 : decode cX0_noteHindered 21 = .ok (.getfield 65, 3) := by decide +kernel
theorem dX0_noteHindered_24 : decode cX0_noteHindered 24 = .ok (.if_icmp .ne 21, 3) := by decide +kernel
theorem dX0_noteHindered_27 : decode cX0_noteHindered 27 = .ok (.aload_n 0, 1) := by decide +kernel
theorem dX0_noteHindered_28 : decode cX0_noteHindered 28 = .ok (.getfield 12, 3) := by decide +kernel
theorem dX0_noteHindered_31 : decode cX0_noteHindered 31 = .ok (.getfield 68, 3) := by decide +kernel
theorem dX0_noteHindered_34 : decode cX0_noteHindered 34 = .ok (.aload_n 0, 1) := by decide +kernel
theorem dX0_noteHindered_35 : decode cX0_noteHindered 35 = .ok (.getfield 12, 3) := by decide +kernel
theorem dX0_noteHindered_38 : decode cX0_noteHindered 38 = .ok (.getfield 71, 3) := by decide +kernel
theorem dX0_noteHindered_41 : decode cX0_noteHindered 41 = .ok (.iand, 1) := by decide +kernel
theorem dX0_noteHindered_42 : decode cX0_noteHindered 42 = .ok (.goto 18, 3) := by decide +kernel
theorem dX0_noteHindered_45 : decode cX0_noteHindered 45 = .ok (.aload_n 0, 1) := by decide +kernel
theorem dX0_noteHindered_46 : decode cX0_noteHindered 46 = .ok (.getfield 12, 3) := by decide +kernel
theorem dX0_noteHindered_49 : decode cX0_noteHindered 49 = .ok (.getfield 68, 3) := by decide +kernel
theorem dX0_noteHindered_52 : decode cX0_noteHindered 52 = .ok (.aload_n 0, 1) := by decide +kernel
theorem dX0_noteHindered_53 : decode cX0_noteHindered 53 = .ok (.getfield 12, 3) := by decide +kernel
theorem dX0_noteHindered_56 : decode cX0_noteHindered 56 = .ok (.getfield 71, 3) := by decide +kernel
theorem dX0_noteHindered_59 : decode cX0_noteHindered 59 = .ok (.ior, 1) := by decide +kernel
theorem dX0_noteHindered_60 : decode cX0_noteHindered 60 = .ok (.istore 5, 2) := by decide +kernel
theorem dX0_noteHindered_62 : decode cX0_noteHindered 62 = .ok (.iload 5, 2) := by decide +kernel
theorem dX0_noteHindered_64 : decode cX0_noteHindered 64 = .ok (.iload 4, 2) := by decide +kernel
theorem dX0_noteHindered_66 : decode cX0_noteHindered 66 = .ok (.invokestatic 61, 3) := by decide +kernel
theorem dX0_noteHindered_69 : decode cX0_noteHindered 69 = .ok (.ifCond .ne 15, 3) := by decide +kernel
theorem dX0_noteHindered_72 : decode cX0_noteHindered 72 = .ok (.aload_n 0, 1) := by decide +kernel
theorem dX0_noteHindered_73 : decode cX0_noteHindered 73 = .ok (.getfield 22, 3) := by decide +kernel
theorem dX0_noteHindered_76 : decode cX0_noteHindered 76 = .ok (.iload_n 3, 1) := by decide +kernel
theorem dX0_noteHindered_77 : decode cX0_noteHindered 77 = .ok (.dup2, 1) := by decide +kernel
theorem dX0_noteHindered_78 : decode cX0_noteHindered 78 = .ok (.iaload, 1) := by decide +kernel
theorem dX0_noteHindered_79 : decode cX0_noteHindered 79 = .ok (.iconst 1, 1) := by decide +kernel
theorem dX0_noteHindered_80 : decode cX0_noteHindered 80 = .ok (.iload_n 2, 1) := by decide +kernel
theorem dX0_noteHindered_81 : decode cX0_noteHindered 81 = .ok (.ishl, 1) := by decide +kernel
theorem dX0_noteHindered_82 : decode cX0_noteHindered 82 = .ok (.ior, 1) := by decide +kernel
theorem dX0_noteHindered_83 : decode cX0_noteHindered 83 = .ok (.iastore, 1) := by decide +kernel
theorem dX0_noteHindered_84 : decode cX0_noteHindered 84 = .ok (.iinc 3 1, 3) := by decide +kernel
theorem dX0_noteHindered_87 : decode cX0_noteHindered 87 = .ok (.goto (-85), 3) := by decide +kernel
theorem dX0_noteHindered_90 : decode cX0_noteHindered 90 = .ok (.return_, 1) := by decide +kernel
theorem dX0_leastSet_0 : decode cX0_leastSet 0 = .ok (.iconst 1, 1) := by decide +kernel
theorem dX0_leastSet_1 : decode cX0_leastSet 1 = .ok (.aload_n 0, 1) := by decide +kernel
theorem dX0_leastSet_2 : decode cX0_leastSet 2 = .ok (.getfield 57, 3) := by decide +kernel
theorem dX0_leastSet_5 : decode cX0_leastSet 5 = .ok (.ishl, 1) := by decide +kernel
theorem dX0_leastSet_6 : decode cX0_leastSet 6 = .ok (.iconst 1, 1) := by decide +kernel
theorem dX0_leastSet_7 : decode cX0_leastSet 7 = .ok (.isub, 1) := by decide +kernel
theorem dX0_leastSet_8 : decode cX0_leastSet 8 = .ok (.istore_n 2, 1) := by decide +kernel
theorem dX0_leastSet_9 : decode cX0_leastSet 9 = .ok (.aload_n 0, 1) := by decide +kernel
theorem dX0_leastSet_10 : decode cX0_leastSet 10 = .ok (.iload_n 2, 1) := by decide +kernel
theorem dX0_leastSet_11 : decode cX0_leastSet 11 = .ok (.invokevirtual 74, 3) := by decide +kernel
theorem dX0_leastSet_14 : decode cX0_leastSet 14 = .ok (.iload_n 1, 1) := by decide +kernel
theorem dX0_leastSet_15 : decode cX0_leastSet 15 = .ok (.if_icmp .eq 5, 3) := by decide +kernel
theorem dX0_leastSet_18 : decode cX0_leastSet 18 = .ok (.iconst 0, 1) := by decide +kernel
theorem dX0_leastSet_19 : decode cX0_leastSet 19 = .ok (.ireturn, 1) := by decide +kernel
theorem dX0_leastSet_20 : decode cX0_leastSet 20 = .ok (.iload_n 2, 1) := by decide +kernel
theorem dX0_leastSet_21 : decode cX0_leastSet 21 = .ok (.iconst 1, 1) := by decide +kernel
theorem dX0_leastSet_22 : decode cX0_leastSet 22 = .ok (.isub, 1) := by decide +kernel
theorem dX0_leastSet_23 : decode cX0_leastSet 23 = .ok (.istore_n 3, 1) := by decide +kernel
theorem dX0_leastSet_24 : decode cX0_leastSet 24 = .ok (.iload_n 3, 1) := by decide +kernel
theorem dX0_leastSet_25 : decode cX0_leastSet 25 = .ok (.ifCond .lt 31, 3) := by decide +kernel
theorem dX0_leastSet_28 : decode cX0_leastSet 28 = .ok (.iload_n 3, 1) := by decide +kernel
theorem dX0_leastSet_29 : decode cX0_leastSet 29 = .ok (.invokestatic 77, 3) := by decide +kernel
theorem dX0_leastSet_32 : decode cX0_leastSet 32 = .ok (.iload_n 2, 1) := by decide +kernel
theorem dX0_leastSet_33 : decode cX0_leastSet 33 = .ok (.invokestatic 77, 3) := by decide +kernel
theorem dX0_leastSet_36 : decode cX0_leastSet 36 = .ok (.if_icmp .ge 14, 3) := by decide +kernel
theorem dX0_leastSet_39 : decode cX0_leastSet 39 = .ok (.aload_n 0, 1) := by decide +kernel
theorem dX0_leastSet_40 : decode cX0_leastSet 40 = .ok (.iload_n 3, 1) := by decide +kernel
theorem dX0_leastSet_41 : decode cX0_leastSet 41 = .ok (.invokevirtual 74, 3) := by decide +kernel
theorem dX0_leastSet_44 : decode cX0_leastSet 44 = .ok (.iload_n 1, 1) := by decide +kernel
theorem dX0_leastSet_45 : decode cX0_leastSet 45 = .ok (.if_icmp .ne 5, 3) := by decide +kernel
theorem dX0_leastSet_48 : decode cX0_leastSet 48 = .ok (.iload_n 3, 1) := by decide +kernel
theorem dX0_leastSet_49 : decode cX0_leastSet 49 = .ok (.istore_n 2, 1) := by decide +kernel
theorem dX0_leastSet_50 : decode cX0_leastSet 50 = .ok (.iinc 3 (-1), 3) := by decide +kernel
theorem dX0_leastSet_53 : decode cX0_leastSet 53 = .ok (.goto (-29), 3) := by decide +kernel
theorem dX0_leastSet_56 : decode cX0_leastSet 56 = .ok (.aload_n 0, 1) := by decide +kernel
theorem dX0_leastSet_57 : decode cX0_leastSet 57 = .ok (.iload_n 2, 1) := by decide +kernel
theorem dX0_leastSet_58 : decode cX0_leastSet 58 = .ok (.invokevirtual 82, 3) := by decide +kernel
theorem dX0_leastSet_61 : decode cX0_leastSet 61 = .ok (.ireturn, 1) := by decide +kernel
theorem dX0_hinderedBy_0 : decode cX0_hinderedBy 0 = .ok (.iconst 0, 1) := by decide +kernel
theorem dX0_hinderedBy_1 : decode cX0_hinderedBy 1 = .ok (.istore_n 2, 1) := by decide +kernel
theorem dX0_hinderedBy_2 : decode cX0_hinderedBy 2 = .ok (.iconst 0, 1) := by decide +kernel
theorem dX0_hinderedBy_3 : decode cX0_hinderedBy 3 = .ok (.istore_n 3, 1) := by decide +kernel
theorem dX0_hinderedBy_4 : decode cX0_hinderedBy 4 = .ok (.iload_n 3, 1) := by decide +kernel
theorem dX0_hinderedBy_5 : decode cX0_hinderedBy 5 = .ok (.aload_n 0, 1) := by decide +kernel
theorem dX0_hinderedBy_6 : decode cX0_hinderedBy 6 = .ok (.getfield 57, 3) := by decide +kernel
theorem dX0_hinderedBy_9 : decode cX0_hinderedBy 9 = .ok (.if_icmp .ge 33, 3) := by decide +kernel
theorem dX0_hinderedBy_12 : decode cX0_hinderedBy 12 = .ok (.iload_n 1, 1) := by decide +kernel
theorem dX0_hinderedBy_13 : decode cX0_hinderedBy 13 = .ok (.aload_n 0, 1) := by decide +kernel
theorem dX0_hinderedBy_14 : decode cX0_hinderedBy 14 = .ok (.getfield 57, 3) := by decide +kernel
theorem dX0_hinderedBy_17 : decode cX0_hinderedBy 17 = .ok (.iconst 1, 1) := by decide +kernel
theorem dX0_hinderedBy_18 : decode cX0_hinderedBy 18 = .ok (.isub, 1) := by decide +kernel
theorem dX0_hinderedBy_19 : decode cX0_hinderedBy 19 = .ok (.iload_n 3, 1) := by decide +kernel
theorem dX0_hinderedBy_20 : decode cX0_hinderedBy 20 = .ok (.isub, 1) := by decide +kernel
theorem dX0_hinderedBy_21 : decode cX0_hinderedBy 21 = .ok (.invokestatic 61, 3) := by decide +kernel
theorem dX0_hinderedBy_24 : decode cX0_hinderedBy 24 = .ok (.ifCond .eq 12, 3) := by decide +kernel
theorem dX0_hinderedBy_27 : decode cX0_hinderedBy 27 = .ok (.iload_n 2, 1) := by decide +kernel
theorem dX0_hinderedBy_28 : decode cX0_hinderedBy 28 = .ok (.aload_n 0, 1) := by decide +kernel
theorem dX0_hinderedBy_29 : decode cX0_hinderedBy 29 = .ok (.getfield 22, 3) := by decide +kernel
theorem dX0_hinderedBy_32 : decode cX0_hinderedBy 32 = .ok (.iload_n 3, 1) := by decide +kernel
theorem dX0_hinderedBy_33 : decode cX0_hinderedBy 33 = .ok (.iaload, 1) := by decide +kernel
theorem dX0_hinderedBy_34 : decode cX0_hinderedBy 34 = .ok (.ior, 1) := by decide +kernel
theorem dX0_hinderedBy_35 : decode cX0_hinderedBy 35 = .ok (.istore_n 2, 1) := by decide +kernel
theorem dX0_hinderedBy_36 : decode cX0_hinderedBy 36 = .ok (.iinc 3 1, 3) := by decide +kernel
theorem dX0_hinderedBy_39 : decode cX0_hinderedBy 39 = .ok (.goto (-35), 3) := by decide +kernel
theorem dX0_hinderedBy_42 : decode cX0_hinderedBy 42 = .ok (.iload_n 2, 1) := by decide +kernel
theorem dX0_hinderedBy_43 : decode cX0_hinderedBy 43 = .ok (.ireturn, 1) := by decide +kernel
theorem dX0_personsOf_0 : decode cX0_personsOf 0 = .ok (.iconst 0, 1) := by decide +kernel
theorem dX0_personsOf_1 : decode cX0_personsOf 1 = .ok (.istore_n 2, 1) := by decide +kernel
theorem dX0_personsOf_2 : decode cX0_personsOf 2 = .ok (.iconst 0, 1) := by decide +kernel
theorem dX0_personsOf_3 : decode cX0_personsOf 3 = .ok (.istore_n 3, 1) := by decide +kernel
theorem dX0_personsOf_4 : decode cX0_personsOf 4 = .ok (.iload_n 3, 1) := by decide +kernel
theorem dX0_personsOf_5 : decode cX0_personsOf 5 = .ok (.aload_n 0, 1) := by decide +kernel
theorem dX0_personsOf_6 : decode cX0_personsOf 6 = .ok (.getfield 57, 3) := by decide +kernel
theorem dX0_personsOf_9 : decode cX0_personsOf 9 = .ok (.if_icmp .ge 35, 3) := by decide +kernel
theorem dX0_personsOf_12 : decode cX0_personsOf 12 = .ok (.iload_n 1, 1) := by decide +kernel
theorem dX0_personsOf_13 : decode cX0_personsOf 13 = .ok (.aload_n 0, 1) := by decide +kernel
theorem dX0_personsOf_14 : decode cX0_personsOf 14 = .ok (.getfield 57, 3) := by decide +kernel
theorem dX0_personsOf_17 : decode cX0_personsOf 17 = .ok (.iconst 1, 1) := by decide +kernel
theorem dX0_personsOf_18 : decode cX0_personsOf 18 = .ok (.isub, 1) := by decide +kernel
theorem dX0_personsOf_19 : decode cX0_personsOf 19 = .ok (.iload_n 3, 1) := by decide +kernel
theorem dX0_personsOf_20 : decode cX0_personsOf 20 = .ok (.isub, 1) := by decide +kernel
theorem dX0_personsOf_21 : decode cX0_personsOf 21 = .ok (.invokestatic 61, 3) := by decide +kernel
theorem dX0_personsOf_24 : decode cX0_personsOf 24 = .ok (.ifCond .eq 14, 3) := by decide +kernel
theorem dX0_personsOf_27 : decode cX0_personsOf 27 = .ok (.iload_n 2, 1) := by decide +kernel
theorem dX0_personsOf_28 : decode cX0_personsOf 28 = .ok (.iconst 1, 1) := by decide +kernel
theorem dX0_personsOf_29 : decode cX0_personsOf 29 = .ok (.aload_n 0, 1) := by decide +kernel
theorem dX0_personsOf_30 : decode cX0_personsOf 30 = .ok (.getfield 18, 3) := by decide +kernel
theorem dX0_personsOf_33 : decode cX0_personsOf 33 = .ok (.iload_n 3, 1) := by decide +kernel
theorem dX0_personsOf_34 : decode cX0_personsOf 34 = .ok (.iaload, 1) := by decide +kernel
theorem dX0_personsOf_35 : decode cX0_personsOf 35 = .ok (.ishl, 1) := by decide +kernel
theorem dX0_personsOf_36 : decode cX0_personsOf 36 = .ok (.ior, 1) := by decide +kernel
theorem dX0_personsOf_37 : decode cX0_personsOf 37 = .ok (.istore_n 2, 1) := by decide +kernel
theorem dX0_personsOf_38 : decode cX0_personsOf 38 = .ok (.iinc 3 1, 3) := by decide +kernel
theorem dX0_personsOf_41 : decode cX0_personsOf 41 = .ok (.goto (-37), 3) := by decide +kernel
theorem dX0_personsOf_44 : decode cX0_personsOf 44 = .ok (.iload_n 2, 1) := by decide +kernel
theorem dX0_personsOf_45 : decode cX0_personsOf 45 = .ok (.ireturn, 1) := by decide +kernel
theorem dX1_init_0 : decode cX1_init 0 = .ok (.aload_n 0, 1) := by decide +kernel
theorem dX1_init_1 : decode cX1_init 1 = .ok (.invokespecial 3, 3) := by decide +kernel
theorem dX1_init_4 : decode cX1_init 4 = .ok (.aload_n 0, 1) := by decide +kernel
theorem dX1_init_5 : decode cX1_init 5 = .ok (.bipush 8, 2) := by decide +kernel
theorem dX1_init_7 : decode cX1_init 7 = .ok (.newarray .int, 2) := by decide +kernel
theorem dX1_init_9 : decode cX1_init 9 = .ok (.putfield 9, 3) := by decide +kernel
theorem dX1_init_12 : decode cX1_init 12 = .ok (.aload_n 0, 1) := by decide +kernel
theorem dX1_init_13 : decode cX1_init 13 = .ok (.bipush 8, 2) := by decide +kernel
theorem dX1_init_15 : decode cX1_init 15 = .ok (.newarray .int, 2) := by decide +kernel
theorem dX1_init_17 : decode cX1_init 17 = .ok (.putfield 15, 3) := by decide +kernel
theorem dX1_init_20 : decode cX1_init 20 = .ok (.aload_n 0, 1) := by decide +kernel
theorem dX1_init_21 : decode cX1_init 21 = .ok (.bipush 8, 2) := by decide +kernel
theorem dX1_init_23 : decode cX1_init 23 = .ok (.newarray .int, 2) := by decide +kernel
theorem dX1_init_25 : decode cX1_init 25 = .ok (.putfield 18, 3) := by decide +kernel
theorem dX1_init_28 : decode cX1_init 28 = .ok (.aload_n 0, 1) := by decide +kernel
theorem dX1_init_29 : decode cX1_init 29 = .ok (.iconst 4, 1) := by decide +kernel
theorem dX1_init_30 : decode cX1_init 30 = .ok (.newarray .int, 2) := by decide +kernel
theorem dX1_init_32 : decode cX1_init 32 = .ok (.putfield 21, 3) := by decide +kernel
theorem dX1_init_35 : decode cX1_init 35 = .ok (.return_, 1) := by decide +kernel
theorem dX1_clear_0 : decode cX1_clear 0 = .ok (.aload_n 0, 1) := by decide +kernel
theorem dX1_clear_1 : decode cX1_clear 1 = .ok (.iconst 0, 1) := by decide +kernel
theorem dX1_clear_2 : decode cX1_clear 2 = .ok (.putfield 24, 3) := by decide +kernel
theorem dX1_clear_5 : decode cX1_clear 5 = .ok (.aload_n 0, 1) := by decide +kernel
theorem dX1_clear_6 : decode cX1_clear 6 = .ok (.getfield 21, 3) := by decide +kernel
theorem dX1_clear_9 : decode cX1_clear 9 = .ok (.iconst 0, 1) := by decide +kernel
theorem dX1_clear_10 : decode cX1_clear 10 = .ok (.invokestatic 28, 3) := by decide +kernel
theorem dX1_clear_13 : decode cX1_clear 13 = .ok (.return_, 1) := by decide +kernel
theorem dX1_put_0 : decode cX1_put 0 = .ok (.aload_n 0, 1) := by decide +kernel
theorem dX1_put_1 : decode cX1_put 1 = .ok (.getfield 21, 3) := by decide +kernel
theorem dX1_put_4 : decode cX1_put 4 = .ok (.aload_n 1, 1) := by decide +kernel
theorem dX1_put_5 : decode cX1_put 5 = .ok (.getfield 34, 3) := by decide +kernel
theorem dX1_put_8 : decode cX1_put 8 = .ok (.iconst 0, 1) := by decide +kernel
theorem dX1_put_9 : decode cX1_put 9 = .ok (.iastore, 1) := by decide +kernel
theorem dX1_put_10 : decode cX1_put 10 = .ok (.aload_n 0, 1) := by decide +kernel
theorem dX1_put_11 : decode cX1_put 11 = .ok (.aload_n 1, 1) := by decide +kernel
theorem dX1_put_12 : decode cX1_put 12 = .ok (.aload_n 2, 1) := by decide +kernel
theorem dX1_put_13 : decode cX1_put 13 = .ok (.getfield 39, 3) := by decide +kernel
theorem dX1_put_16 : decode cX1_put 16 = .ok (.aload_n 3, 1) := by decide +kernel
theorem dX1_put_17 : decode cX1_put 17 = .ok (.getfield 44, 3) := by decide +kernel
theorem dX1_put_20 : decode cX1_put 20 = .ok (.iaload, 1) := by decide +kernel
theorem dX1_put_21 : decode cX1_put 21 = .ok (.aload_n 3, 1) := by decide +kernel
theorem dX1_put_22 : decode cX1_put 22 = .ok (.getfield 49, 3) := by decide +kernel
theorem dX1_put_25 : decode cX1_put 25 = .ok (.invokevirtual 52, 3) := by decide +kernel
theorem dX1_put_28 : decode cX1_put 28 = .ok (.aload_n 3, 1) := by decide +kernel
theorem dX1_put_29 : decode cX1_put 29 = .ok (.getfield 56, 3) := by decide +kernel
theorem dX1_put_32 : decode cX1_put 32 = .ok (.iconst (-1), 1) := by decide +kernel
theorem dX1_put_33 : decode cX1_put 33 = .ok (.if_icmp .eq 21, 3) := by decide +kernel
theorem dX1_put_36 : decode cX1_put 36 = .ok (.aload_n 0, 1) := by decide +kernel
theorem dX1_put_37 : decode cX1_put 37 = .ok (.aload_n 1, 1) := by decide +kernel
theorem dX1_put_38 : decode cX1_put 38 = .ok (.aload_n 2, 1) := by decide +kernel
theorem dX1_put_39 : decode cX1_put 39 = .ok (.getfield 39, 3) := by decide +kernel
theorem dX1_put_42 : decode cX1_put 42 = .ok (.aload_n 3, 1) := by decide +kernel
theorem dX1_put_43 : decode cX1_put 43 = .ok (.getfield 56, 3) := by decide +kernel
theorem dX1_put_46 : decode cX1_put 46 = .ok (.iaload, 1) := by decide +kernel
theorem dX1_put_47 : decode cX1_put 47 = .ok (.aload_n 3, 1) := by decide +kernel
theorem dX1_put_48 : decode cX1_put 48 = .ok (.getfield 59, 3) := by decide +kernel
theorem dX1_put_51 : decode cX1_put 51 = .ok (.invokevirtual 52, 3) := by decide +kernel
theorem dX1_put_54 : decode cX1_put 54 = .ok (.return_, 1) := by decide +kernel
theorem dX1_add_0 : decode cX1_add 0 = .ok (.aload_n 0, 1) := by decide +kernel
theorem dX1_add_1 : decode cX1_add 1 = .ok (.getfield 21, 3) := by decide +kernel
theorem dX1_add_4 : decode cX1_add 4 = .ok (.aload_n 1, 1) := by decide +kernel
theorem dX1_add_5 : decode cX1_add 5 = .ok (.getfield 34, 3) := by decide +kernel
theorem dX1_add_8 : decode cX1_add 8 = .ok (.aload_n 0, 1) := by decide +kernel
theorem dX1_add_9 : decode cX1_add 9 = .ok (.getfield 21, 3) := by decide +kernel
theorem dX1_add_12 : decode cX1_add 12 = .ok (.aload_n 1, 1) := by decide +kernel
theorem dX1_add_13 : decode cX1_add 13 = .ok (.getfield 34, 3) := by decide +kernel
theorem dX1_add_16 : decode cX1_add 16 = .ok (.iaload, 1) := by decide +kernel
theorem dX1_add_17 : decode cX1_add 17 = .ok (.iload_n 2, 1) := by decide +kernel
theorem dX1_add_18 : decode cX1_add 18 = .ok (.aload_n 1, 1) := by decide +kernel
theorem dX1_add_19 : decode cX1_add 19 = .ok (.getfield 62, 3) := by decide +kernel
theorem dX1_add_22 : decode cX1_add 22 = .ok (.iadd, 1) := by decide +kernel
theorem dX1_add_23 : decode cX1_add 23 = .ok (.invokestatic 65, 3) := by decide +kernel
theorem dX1_add_26 : decode cX1_add 26 = .ok (.iastore, 1) := by decide +kernel
theorem dX1_add_27 : decode cX1_add 27 = .ok (.aload_n 0, 1) := by decide +kernel
theorem dX1_add_28 : decode cX1_add 28 = .ok (.getfield 24, 3) := by decide +kernel
theorem dX1_add_31 : decode cX1_add 31 = .ok (.bipush 8, 2) := by decide +kernel
theorem dX1_add_33 : decode cX1_add 33 = .ok (.if_icmp .ge 48, 3) := by decide +kernel
theorem dX1_add_36 : decode cX1_add 36 = .ok (.aload_n 0, 1) := by decide +kernel
theorem dX1_add_37 : decode cX1_add 37 = .ok (.getfield 9, 3) := by decide +kernel
theorem dX1_add_40 : decode cX1_add 40 = .ok (.aload_n 0, 1) := by decide +kernel
theorem dX1_add_41 : decode cX1_add 41 = .ok (.getfield 24, 3) := by decide +kernel
theorem dX1_add_44 : decode cX1_add 44 = .ok (.iload_n 2, 1) := by decide +kernel
theorem dX1_add_45 : decode cX1_add 45 = .ok (.iastore, 1) := by decide +kernel
theorem dX1_add_46 : decode cX1_add 46 = .ok (.aload_n 0, 1) := by decide +kernel
theorem dX1_add_47 : decode cX1_add 47 = .ok (.getfield 15, 3) := by decide +kernel
theorem dX1_add_50 : decode cX1_add 50 = .ok (.aload_n 0, 1) := by decide +kernel
theorem dX1_add_51 : decode cX1_add 51 = .ok (.getfield 24, 3) := by decide +kernel
theorem dX1_add_54 : decode cX1_add 54 = .ok (.iload_n 2, 1) := by decide +kernel
theorem dX1_add_55 : decode cX1_add 55 = .ok (.aload_n 1, 1) := by decide +kernel
theorem dX1_add_56 : decode cX1_add 56 = .ok (.getfield 62, 3) := by decide +kernel
theorem dX1_add_59 : decode cX1_add 59 = .ok (.iadd, 1) := by decide +kernel
theorem dX1_add_60 : decode cX1_add 60 = .ok (.iastore, 1) := by decide +kernel
theorem dX1_add_61 : decode cX1_add 61 = .ok (.aload_n 0, 1) := by decide +kernel
theorem dX1_add_62 : decode cX1_add 62 = .ok (.getfield 18, 3) := by decide +kernel
theorem dX1_add_65 : decode cX1_add 65 = .ok (.aload_n 0, 1) := by decide +kernel
theorem dX1_add_66 : decode cX1_add 66 = .ok (.getfield 24, 3) := by decide +kernel
theorem dX1_add_69 : decode cX1_add 69 = .ok (.iload_n 3, 1) := by decide +kernel
theorem dX1_add_70 : decode cX1_add 70 = .ok (.iastore, 1) := by decide +kernel
theorem dX1_add_71 : decode cX1_add 71 = .ok (.aload_n 0, 1) := by decide +kernel
theorem dX1_add_72 : decode cX1_add 72 = .ok (.dup, 1) := by decide +kernel
theorem dX1_add_73 : decode cX1_add 73 = .ok (.getfield 24, 3) := by decide +kernel
theorem dX1_add_76 : decode cX1_add 76 = .ok (.iconst 1, 1) := by decide +kernel
theorem dX1_add_77 : decode cX1_add 77 = .ok (.iadd, 1) := by decide +kernel
theorem dX1_add_78 : decode cX1_add 78 = .ok (.putfield 24, 3) := by decide +kernel
theorem dX1_add_81 : decode cX1_add 81 = .ok (.return_, 1) := by decide +kernel
theorem dX1_engaged_0 : decode cX1_engaged 0 = .ok (.iconst 0, 1) := by decide +kernel
theorem dX1_engaged_1 : decode cX1_engaged 1 = .ok (.istore_n 3, 1) := by decide +kernel
theorem dX1_engaged_2 : decode cX1_engaged 2 = .ok (.iconst 0, 1) := by decide +kernel
theorem dX1_engaged_3 : decode cX1_engaged 3 = .ok (.istore 4, 2) := by decide +kernel
theorem dX1_engaged_5 : decode cX1_engaged 5 = .ok (.iload 4, 2) := by decide +kernel
theorem dX1_engaged_7 : decode cX1_engaged 7 = .ok (.aload_n 0, 1) := by decide +kernel
theorem dX1_engaged_8 : decode cX1_engaged 8 = .ok (.getfield 24, 3) := by decide +kernel
theorem dX1_engaged_11 : decode cX1_engaged 11 = .ok (.if_icmp .ge 41, 3) := by decide +kernel
theorem dX1_engaged_14 : decode cX1_engaged 14 = .ok (.aload_n 0, 1) := by decide +kernel
theorem dX1_engaged_15 : decode cX1_engaged 15 = .ok (.getfield 9, 3) := by decide +kernel
theorem dX1_engaged_18 : decode cX1_engaged 18 = .ok (.iload 4, 2) := by decide +kernel
theorem dX1_engaged_20 : decode cX1_engaged 20 = .ok (.iaload, 1) := by decide +kernel
theorem dX1_engaged_21 : decode cX1_engaged 21 = .ok (.iload_n 2, 1) := by decide +kernel
theorem dX1_engaged_22 : decode cX1_engaged 22 = .ok (.if_icmp .ge 24, 3) := by decide +kernel
theorem dX1_engaged_25 : decode cX1_engaged 25 = .ok (.iload_n 1, 1) := by decide +kernel
theorem dX1_engaged_26 : decode cX1_engaged 26 = .ok (.aload_n 0, 1) := by decide +kernel
theorem dX1_engaged_27 : decode cX1_engaged 27 = .ok (.getfield 15, 3) := by decide +kernel
theorem dX1_engaged_30 : decode cX1_engaged 30 = .ok (.iload 4, 2) := by decide +kernel
theorem dX1_engaged_32 : decode cX1_engaged 32 = .ok (.iaload, 1) := by decide +kernel
theorem dX1_engaged_33 : decode cX1_engaged 33 = .ok (.if_icmp .ge 13, 3) := by decide +kernel
theorem dX1_engaged_36 : decode cX1_engaged 36 = .ok (.iload_n 3, 1) := by decide +kernel
theorem dX1_engaged_37 : decode cX1_engaged 37 = .ok (.aload_n 0, 1) := by decide +kernel
theorem dX1_engaged_38 : decode cX1_engaged 38 = .ok (.getfield 18, 3) := by decide +kernel
theorem dX1_engaged_41 : decode cX1_engaged 41 = .ok (.iload 4, 2) := by decide +kernel
theorem dX1_engaged_43 : decode cX1_engaged 43 = .ok (.iaload, 1) := by decide +kernel
theorem dX1_engaged_44 : decode cX1_engaged 44 = .ok (.ior, 1) := by decide +kernel
theorem dX1_engaged_45 : decode cX1_engaged 45 = .ok (.istore_n 3, 1) := by decide +kernel
theorem dX1_engaged_46 : decode cX1_engaged 46 = .ok (.iinc 4 1, 3) := by decide +kernel
theorem dX1_engaged_49 : decode cX1_engaged 49 = .ok (.goto (-44), 3) := by decide +kernel
theorem dX1_engaged_52 : decode cX1_engaged 52 = .ok (.iload_n 3, 1) := by decide +kernel
theorem dX1_engaged_53 : decode cX1_engaged 53 = .ok (.ireturn, 1) := by decide +kernel
theorem dX2_init_0 : decode cX2_init 0 = .ok (.aload_n 0, 1) := by decide +kernel
theorem dX2_init_1 : decode cX2_init 1 = .ok (.invokespecial 3, 3) := by decide +kernel
theorem dX2_init_4 : decode cX2_init 4 = .ok (.aload_n 0, 1) := by decide +kernel
theorem dX2_init_5 : decode cX2_init 5 = .ok (.bipush 12, 2) := by decide +kernel
theorem dX2_init_7 : decode cX2_init 7 = .ok (.newarray .int, 2) := by decide +kernel
theorem dX2_init_9 : decode cX2_init 9 = .ok (.putfield 9, 3) := by decide +kernel
theorem dX2_init_12 : decode cX2_init 12 = .ok (.aload_n 0, 1) := by decide +kernel
theorem dX2_init_13 : decode cX2_init 13 = .ok (.bipush 12, 2) := by decide +kernel
theorem dX2_init_15 : decode cX2_init 15 = .ok (.newarray .int, 2) := by decide +kernel
theorem dX2_init_17 : decode cX2_init 17 = .ok (.putfield 15, 3) := by decide +kernel
theorem dX2_init_20 : decode cX2_init 20 = .ok (.return_, 1) := by decide +kernel
theorem dX2_begin_0 : decode cX2_begin 0 = .ok (.aload_n 0, 1) := by decide +kernel
theorem dX2_begin_1 : decode cX2_begin 1 = .ok (.iload_n 1, 1) := by decide +kernel
theorem dX2_begin_2 : decode cX2_begin 2 = .ok (.bipush 12, 2) := by decide +kernel
theorem dX2_begin_4 : decode cX2_begin 4 = .ok (.invokestatic 18, 3) := by decide +kernel
theorem dX2_begin_7 : decode cX2_begin 7 = .ok (.putfield 24, 3) := by decide +kernel
theorem dX2_begin_10 : decode cX2_begin 10 = .ok (.aload_n 0, 1) := by decide +kernel
theorem dX2_begin_11 : decode cX2_begin 11 = .ok (.iconst 0, 1) := by decide +kernel
theorem dX2_begin_12 : decode cX2_begin 12 = .ok (.putfield 28, 3) := by decide +kernel
theorem dX2_begin_15 : decode cX2_begin 15 = .ok (.return_, 1) := by decide +kernel
theorem dX2_isBetter_0 : decode cX2_isBetter 0 = .ok (.aload_n 0, 1) := by decide +kernel
theorem dX2_isBetter_1 : decode cX2_isBetter 1 = .ok (.getfield 28, 3) := by decide +kernel
theorem dX2_isBetter_4 : decode cX2_isBetter 4 = .ok (.ifCond .ne 5, 3) := by decide +kernel
theorem dX2_isBetter_7 : decode cX2_isBetter 7 = .ok (.iconst 1, 1) := by decide +kernel
theorem dX2_isBetter_8 : decode cX2_isBetter 8 = .ok (.ireturn, 1) := by decide +kernel
theorem dX2_isBetter_9 : decode cX2_isBetter 9 = .ok (.aload_n 1, 1) := by decide +kernel
theorem dX2_isBetter_10 : decode cX2_isBetter 10 = .ok (.iconst 0, 1) := by decide +kernel
theorem dX2_isBetter_11 : decode cX2_isBetter 11 = .ok (.aload_n 0, 1) := by decide +kernel
theorem dX2_isBetter_12 : decode cX2_isBetter 12 = .ok (.getfield 15, 3) := by decide +kernel
theorem dX2_isBetter_15 : decode cX2_isBetter 15 = .ok (.iconst 0, 1) := by decide +kernel
theorem dX2_isBetter_16 : decode cX2_isBetter 16 = .ok (.aload_n 0, 1) := by decide +kernel
theorem dX2_isBetter_17 : decode cX2_isBetter 17 = .ok (.getfield 24, 3) := by decide +kernel
theorem dX2_isBetter_20 : decode cX2_isBetter 20 = .ok (.invokestatic 32, 3) := by decide +kernel
theorem dX2_isBetter_23 : decode cX2_isBetter 23 = .ok (.iconst 0, 1) := by decide +kernel
theorem dX2_isBetter_24 : decode cX2_isBetter 24 = .ok (.istore_n 2, 1) := by decide +kernel
theorem dX2_isBetter_25 : decode cX2_isBetter 25 = .ok (.iload_n 2, 1) := by decide +kernel
theorem dX2_isBetter_26 : decode cX2_isBetter 26 = .ok (.aload_n 0, 1) := by decide +kernel
theorem dX2_isBetter_27 : decode cX2_isBetter 27 = .ok (.getfield 24, 3) := by decide +kernel
theorem dX2_isBetter_30 : decode cX2_isBetter 30 = .ok (.if_icmp .ge 54, 3) := by decide +kernel
theorem dX2_isBetter_33 : decode cX2_isBetter 33 = .ok (.aload_n 0, 1) := by decide +kernel
theorem dX2_isBetter_34 : decode cX2_isBetter 34 = .ok (.aload_n 0, 1) := by decide +kernel
theorem dX2_isBetter_35 : decode cX2_isBetter 35 = .ok (.getfield 15, 3) := by decide +kernel
theorem dX2_isBetter_38 : decode cX2_isBetter 38 = .ok (.iload_n 2, 1) := by decide +kernel
theorem dX2_isBetter_39 : decode cX2_isBetter 39 = .ok (.invokevirtual 38, 3) := by decide +kernel
theorem dX2_isBetter_42 : decode cX2_isBetter 42 = .ok (.aload_n 0, 1) := by decide +kernel
theorem dX2_isBetter_43 : decode cX2_isBetter 43 = .ok (.getfield 15, 3) := by decide +kernel
theorem dX2_isBetter_46 : decode cX2_isBetter 46 = .ok (.iload_n 2, 1) := by decide +kernel
theorem dX2_isBetter_47 : decode cX2_isBetter 47 = .ok (.iaload, 1) := by decide +kernel
theorem dX2_isBetter_48 : decode cX2_isBetter 48 = .ok (.aload_n 0, 1) := by decide +kernel
theorem dX2_isBetter_49 : decode cX2_isBetter 49 = .ok (.getfield 9, 3) := by decide +kernel
theorem dX2_isBetter_52 : decode cX2_isBetter 52 = .ok (.iload_n 2, 1) := by decide +kernel
theorem dX2_isBetter_53 : decode cX2_isBetter 53 = .ok (.iaload, 1) := by decide +kernel
theorem dX2_isBetter_54 : decode cX2_isBetter 54 = .ok (.if_icmp .eq 24, 3) := by decide +kernel
theorem dX2_isBetter_57 : decode cX2_isBetter 57 = .ok (.aload_n 0, 1) := by decide +kernel
theorem dX2_isBetter_58 : decode cX2_isBetter 58 = .ok (.getfield 15, 3) := by decide +kernel
theorem dX2_isBetter_61 : decode cX2_isBetter 61 = .ok (.iload_n 2, 1) := by decide +kernel
theorem dX2_isBetter_62 : decode cX2_isBetter 62 = .ok (.iaload, 1) := by decide +kernel
theorem dX2_isBetter_63 : decode cX2_isBetter 63 = .ok (.aload_n 0, 1) := by decide +kernel
theorem dX2_isBetter_64 : decode cX2_isBetter 64 = .ok (.getfield 9, 3) := by decide +kernel
theorem dX2_isBetter_67 : decode cX2_isBetter 67 = .ok (.iload_n 2, 1) := by decide +kernel
theorem dX2_isBetter_68 : decode cX2_isBetter 68 = .ok (.iaload, 1) := by decide +kernel
theorem dX2_isBetter_69 : decode cX2_isBetter 69 = .ok (.if_icmp .ge 7, 3) := by decide +kernel
theorem dX2_isBetter_72 : decode cX2_isBetter 72 = .ok (.iconst 1, 1) := by decide +kernel
theorem dX2_isBetter_73 : decode cX2_isBetter 73 = .ok (.goto 4, 3) := by decide +kernel
theorem dX2_isBetter_76 : decode cX2_isBetter 76 = .ok (.iconst 0, 1) := by decide +kernel
theorem dX2_isBetter_77 : decode cX2_isBetter 77 = .ok (.ireturn, 1) := by decide +kernel
theorem dX2_isBetter_78 : decode cX2_isBetter 78 = .ok (.iinc 2 1, 3) := by decide +kernel
theorem dX2_isBetter_81 : decode cX2_isBetter 81 = .ok (.goto (-56), 3) := by decide +kernel
theorem dX2_isBetter_84 : decode cX2_isBetter 84 = .ok (.iconst 0, 1) := by decide +kernel
theorem dX2_isBetter_85 : decode cX2_isBetter 85 = .ok (.ireturn, 1) := by decide +kernel
theorem dX2_keep_0 : decode cX2_keep 0 = .ok (.aload_n 0, 1) := by decide +kernel
theorem dX2_keep_1 : decode cX2_keep 1 = .ok (.iconst 1, 1) := by decide +kernel
theorem dX2_keep_2 : decode cX2_keep 2 = .ok (.putfield 28, 3) := by decide +kernel
theorem dX2_keep_5 : decode cX2_keep 5 = .ok (.aload_n 1, 1) := by decide +kernel
theorem dX2_keep_6 : decode cX2_keep 6 = .ok (.iconst 0, 1) := by decide +kernel
theorem dX2_keep_7 : decode cX2_keep 7 = .ok (.aload_n 0, 1) := by decide +kernel
theorem dX2_keep_8 : decode cX2_keep 8 = .ok (.getfield 9, 3) := by decide +kernel
theorem dX2_keep_11 : decode cX2_keep 11 = .ok (.iconst 0, 1) := by decide +kernel
theorem dX2_keep_12 : decode cX2_keep 12 = .ok (.aload_n 0, 1) := by decide +kernel
theorem dX2_keep_13 : decode cX2_keep 13 = .ok (.getfield 24, 3) := by decide +kernel
theorem dX2_keep_16 : decode cX2_keep 16 = .ok (.invokestatic 32, 3) := by decide +kernel
theorem dX2_keep_19 : decode cX2_keep 19 = .ok (.iconst 0, 1) := by decide +kernel
theorem dX2_keep_20 : decode cX2_keep 20 = .ok (.istore_n 2, 1) := by decide +kernel
theorem dX2_keep_21 : decode cX2_keep 21 = .ok (.iload_n 2, 1) := by decide +kernel
theorem dX2_keep_22 : decode cX2_keep 22 = .ok (.aload_n 0, 1) := by decide +kernel
theorem dX2_keep_23 : decode cX2_keep 23 = .ok (.getfield 24, 3) := by decide +kernel
theorem dX2_keep_26 : decode cX2_keep 26 = .ok (.if_icmp .ge 18, 3) := by decide +kernel
theorem dX2_keep_29 : decode cX2_keep 29 = .ok (.aload_n 0, 1) := by decide +kernel
theorem dX2_keep_30 : decode cX2_keep 30 = .ok (.aload_n 0, 1) := by decide +kernel
theorem dX2_keep_31 : decode cX2_keep 31 = .ok (.getfield 9, 3) := by decide +kernel
theorem dX2_keep_34 : decode cX2_keep 34 = .ok (.iload_n 2, 1) := by decide +kernel
theorem dX2_keep_35 : decode cX2_keep 35 = .ok (.invokevirtual 38, 3) := by decide +kernel
theorem dX2_keep_38 : decode cX2_keep 38 = .ok (.iinc 2 1, 3) := by decide +kernel
theorem dX2_keep_41 : decode cX2_keep 41 = .ok (.goto (-20), 3) := by decide +kernel
theorem dX2_keep_44 : decode cX2_keep 44 = .ok (.return_, 1) := by decide +kernel
theorem dX2_bringGreatest_0 : decode cX2_bringGreatest 0 = .ok (.iload_n 2, 1) := by decide +kernel
theorem dX2_bringGreatest_1 : decode cX2_bringGreatest 1 = .ok (.istore_n 3, 1) := by decide +kernel
theorem dX2_bringGreatest_2 : decode cX2_bringGreatest 2 = .ok (.iload_n 2, 1) := by decide +kernel
theorem dX2_bringGreatest_3 : decode cX2_bringGreatest 3 = .ok (.iconst 1, 1) := by decide +kernel
theorem dX2_bringGreatest_4 : decode cX2_bringGreatest 4 = .ok (.iadd, 1) := by decide +kernel
theorem dX2_bringGreatest_5 : decode cX2_bringGreatest 5 = .ok (.istore 4, 2) := by decide +kernel
theorem dX2_bringGreatest_7 : decode cX2_bringGreatest 7 = .ok (.iload 4, 2) := by decide +kernel
theorem dX2_bringGreatest_9 : decode cX2_bringGreatest 9 = .ok (.aload_n 0, 1) := by decide +kernel
theorem dX2_bringGreatest_10 : decode cX2_bringGreatest 10 = .ok (.getfield 24, 3) := by decide +kernel
theorem dX2_bringGreatest_13 : decode cX2_bringGreatest 13 = .ok (.if_icmp .ge 22, 3) := by decide +kernel
theorem dX2_bringGreatest_16 : decode cX2_bringGreatest 16 = .ok (.aload_n 1, 1) := by decide +kernel
theorem dX2_bringGreatest_17 : decode cX2_bringGreatest 17 = .ok (.iload 4, 2) := by decide +kernel
theorem dX2_bringGreatest_19 : decode cX2_bringGreatest 19 = .ok (.iaload, 1) := by decide +kernel
theorem dX2_bringGreatest_20 : decode cX2_bringGreatest 20 = .ok (.aload_n 1, 1) := by decide +kernel
theorem dX2_bringGreatest_21 : decode cX2_bringGreatest 21 = .ok (.iload_n 3, 1) := by decide +kernel
theorem dX2_bringGreatest_22 : decode cX2_bringGreatest 22 = .ok (.iaload, 1) := by decide +kernel
theorem dX2_bringGreatest_23 : decode cX2_bringGreatest 23 = .ok (.if_icmp .le 6, 3) := by decide +kernel
theorem dX2_bringGreatest_26 : decode cX2_bringGreatest 26 = .ok (.iload 4, 2) := by decide +kernel
theorem dX2_bringGreatest_28 : decode cX2_bringGreatest 28 = .ok (.istore_n 3, 1) := by decide +kernel
theorem dX2_bringGreatest_29 : decode cX2_bringGreatest 29 = .ok (.iinc 4 1, 3) := by decide +kernel
theorem dX2_bringGreatest_32 : decode cX2_bringGreatest 32 = .ok (.goto (-25), 3) := by decide +kernel
theorem dX2_bringGreatest_35 : decode cX2_bringGreatest 35 = .ok (.aload_n 1, 1) := by decide +kernel
theorem dX2_bringGreatest_36 : decode cX2_bringGreatest 36 = .ok (.iload_n 3, 1) := by decide +kernel
theorem dX2_bringGreatest_37 : decode cX2_bringGreatest 37 = .ok (.iaload, 1) := by decide +kernel
theorem dX2_bringGreatest_38 : decode cX2_bringGreatest 38 = .ok (.istore 4, 2) := by decide +kernel
theorem dX2_bringGreatest_40 : decode cX2_bringGreatest 40 = .ok (.aload_n 1, 1) := by decide +kernel
theorem dX2_bringGreatest_41 : decode cX2_bringGreatest 41 = .ok (.iload_n 3, 1) := by decide +kernel
theorem dX2_bringGreatest_42 : decode cX2_bringGreatest 42 = .ok (.aload_n 1, 1) := by decide +kernel
theorem dX2_bringGreatest_43 : decode cX2_bringGreatest 43 = .ok (.iload_n 2, 1) := by decide +kernel
theorem dX2_bringGreatest_44 : decode cX2_bringGreatest 44 = .ok (.iaload, 1) := by decide +kernel
theorem dX2_bringGreatest_45 : decode cX2_bringGreatest 45 = .ok (.iastore, 1) := by decide +kernel
theorem dX2_bringGreatest_46 : decode cX2_bringGreatest 46 = .ok (.aload_n 1, 1) := by decide +kernel
theorem dX2_bringGreatest_47 : decode cX2_bringGreatest 47 = .ok (.iload_n 2, 1) := by decide +kernel
theorem dX2_bringGreatest_48 : decode cX2_bringGreatest 48 = .ok (.iload 4, 2) := by decide +kernel
theorem dX2_bringGreatest_50 : decode cX2_bringGreatest 50 = .ok (.iastore, 1) := by decide +kernel
theorem dX2_bringGreatest_51 : decode cX2_bringGreatest 51 = .ok (.return_, 1) := by decide +kernel
theorem dX2_greatest_0 : decode cX2_greatest 0 = .ok (.aload_n 0, 1) := by decide +kernel
theorem dX2_greatest_1 : decode cX2_greatest 1 = .ok (.getfield 24, 3) := by decide +kernel
theorem dX2_greatest_4 : decode cX2_greatest 4 = .ok (.ifCond .ne 7, 3) := by decide +kernel
theorem dX2_greatest_7 : decode cX2_greatest 7 = .ok (.iconst 0, 1) := by decide +kernel
theorem dX2_greatest_8 : decode cX2_greatest 8 = .ok (.goto 9, 3) := by decide +kernel
theorem dX2_greatest_11 : decode cX2_greatest 11 = .ok (.aload_n 0, 1) := by decide +kernel
theorem dX2_greatest_12 : decode cX2_greatest 12 = .ok (.getfield 9, 3) := by decide +kernel
theorem dX2_greatest_15 : decode cX2_greatest 15 = .ok (.iconst 0, 1) := by decide +kernel
theorem dX2_greatest_16 : decode cX2_greatest 16 = .ok (.iaload, 1) := by decide +kernel
theorem dX2_greatest_17 : decode cX2_greatest 17 = .ok (.ireturn, 1) := by decide +kernel
theorem dX3_init_0 : decode cX3_init 0 = .ok (.aload_n 0, 1) := by decide +kernel
theorem dX3_init_1 : decode cX3_init 1 = .ok (.invokespecial 1, 3) := by decide +kernel
theorem dX3_init_4 : decode cX3_init 4 = .ok (.aload_n 0, 1) := by decide +kernel
theorem dX3_init_5 : decode cX3_init 5 = .ok (.iload_n 1, 1) := by decide +kernel
theorem dX3_init_6 : decode cX3_init 6 = .ok (.putfield 7, 3) := by decide +kernel
theorem dX3_init_9 : decode cX3_init 9 = .ok (.aload_n 0, 1) := by decide +kernel
theorem dX3_init_10 : decode cX3_init 10 = .ok (.iload_n 2, 1) := by decide +kernel
theorem dX3_init_11 : decode cX3_init 11 = .ok (.putfield 13, 3) := by decide +kernel
theorem dX3_init_14 : decode cX3_init 14 = .ok (.aload_n 0, 1) := by decide +kernel
theorem dX3_init_15 : decode cX3_init 15 = .ok (.iload_n 3, 1) := by decide +kernel
theorem dX3_init_16 : decode cX3_init 16 = .ok (.putfield 16, 3) := by decide +kernel
theorem dX3_init_19 : decode cX3_init 19 = .ok (.aload_n 0, 1) := by decide +kernel
theorem dX3_init_20 : decode cX3_init 20 = .ok (.iload 4, 2) := by decide +kernel
theorem dX3_init_22 : decode cX3_init 22 = .ok (.putfield 19, 3) := by decide +kernel
theorem dX3_init_25 : decode cX3_init 25 = .ok (.aload_n 0, 1) := by decide +kernel
theorem dX3_init_26 : decode cX3_init 26 = .ok (.aload 5, 2) := by decide +kernel
theorem dX3_init_28 : decode cX3_init 28 = .ok (.putfield 23, 3) := by decide +kernel
theorem dX3_init_31 : decode cX3_init 31 = .ok (.return_, 1) := by decide +kernel
theorem dX4_init_0 : decode cX4_init 0 = .ok (.aload_n 0, 1) := by decide +kernel
theorem dX4_init_1 : decode cX4_init 1 = .ok (.invokespecial 3, 3) := by decide +kernel
theorem dX4_init_4 : decode cX4_init 4 = .ok (.aload_n 0, 1) := by decide +kernel
theorem dX4_init_5 : decode cX4_init 5 = .ok (.iload_n 1, 1) := by decide +kernel
theorem dX4_init_6 : decode cX4_init 6 = .ok (.putfield 9, 3) := by decide +kernel
theorem dX4_init_9 : decode cX4_init 9 = .ok (.return_, 1) := by decide +kernel
theorem dX4_offsetAt_0 : decode cX4_offsetAt 0 = .ok (.aload_n 0, 1) := by decide +kernel
theorem dX4_offsetAt_1 : decode cX4_offsetAt 1 = .ok (.getfield 9, 3) := by decide +kernel
theorem dX4_offsetAt_4 : decode cX4_offsetAt 4 = .ok (.istore_n 3, 1) := by decide +kernel
theorem dX4_offsetAt_5 : decode cX4_offsetAt 5 = .ok (.iconst (-1), 1) := by decide +kernel
theorem dX4_offsetAt_6 : decode cX4_offsetAt 6 = .ok (.istore 4, 2) := by decide +kernel
theorem dX4_offsetAt_8 : decode cX4_offsetAt 8 = .ok (.aload_n 0, 1) := by decide +kernel
theorem dX4_offsetAt_9 : decode cX4_offsetAt 9 = .ok (.getfield 15, 3) := by decide +kernel
theorem dX4_offsetAt_12 : decode cX4_offsetAt 12 = .ok (.astore 5, 2) := by decide +kernel
theorem dX4_offsetAt_14 : decode cX4_offsetAt 14 = .ok (.aload 5, 2) := by decide +kernel
theorem dX4_offsetAt_16 : decode cX4_offsetAt 16 = .ok (.ifnull 54, 3) := by decide +kernel
theorem dX4_offsetAt_19 : decode cX4_offsetAt 19 = .ok (.aload 5, 2) := by decide +kernel
theorem dX4_offsetAt_21 : decode cX4_offsetAt 21 = .ok (.getfield 19, 3) := by decide +kernel
theorem dX4_offsetAt_24 : decode cX4_offsetAt 24 = .ok (.iload_n 2, 1) := by decide +kernel
theorem dX4_offsetAt_25 : decode cX4_offsetAt 25 = .ok (.if_icmp .ge 35, 3) := by decide +kernel
theorem dX4_offsetAt_28 : decode cX4_offsetAt 28 = .ok (.aload 5, 2) := by decide +kernel
theorem dX4_offsetAt_30 : decode cX4_offsetAt 30 = .ok (.getfield 24, 3) := by decide +kernel
theorem dX4_offsetAt_33 : decode cX4_offsetAt 33 = .ok (.iload_n 1, 1) := by decide +kernel
theorem dX4_offsetAt_34 : decode cX4_offsetAt 34 = .ok (.if_icmp .gt 26, 3) := by decide +kernel
theorem dX4_offsetAt_37 : decode cX4_offsetAt 37 = .ok (.aload 5, 2) := by decide +kernel
theorem dX4_offsetAt_39 : decode cX4_offsetAt 39 = .ok (.getfield 24, 3) := by decide +kernel
theorem dX4_offsetAt_42 : decode cX4_offsetAt 42 = .ok (.iload 4, 2) := by decide +kernel
theorem dX4_offsetAt_44 : decode cX4_offsetAt 44 = .ok (.if_icmp .le 16, 3) := by decide +kernel
theorem dX4_offsetAt_47 : decode cX4_offsetAt 47 = .ok (.aload 5, 2) := by decide +kernel
theorem dX4_offsetAt_49 : decode cX4_offsetAt 49 = .ok (.getfield 24, 3) := by decide +kernel
theorem dX4_offsetAt_52 : decode cX4_offsetAt 52 = .ok (.istore 4, 2) := by decide +kernel
theorem dX4_offsetAt_54 : decode cX4_offsetAt 54 = .ok (.aload 5, 2) := by decide +kernel
theorem dX4_offsetAt_56 : decode cX4_offsetAt 56 = .ok (.getfield 27, 3) := by decide +kernel
theorem dX4_offsetAt_59 : decode cX4_offsetAt 59 = .ok (.istore_n 3, 1) := by decide +kernel
theorem dX4_offsetAt_60 : decode cX4_offsetAt 60 = .ok (.aload 5, 2) := by decide +kernel
theorem dX4_offsetAt_62 : decode cX4_offsetAt 62 = .ok (.getfield 30, 3) := by decide +kernel
theorem dX4_offsetAt_65 : decode cX4_offsetAt 65 = .ok (.astore 5, 2) := by decide +kernel
theorem dX4_offsetAt_67 : decode cX4_offsetAt 67 = .ok (.goto (-53), 3) := by decide +kernel
theorem dX4_offsetAt_70 : decode cX4_offsetAt 70 = .ok (.iload_n 3, 1) := by decide +kernel
theorem dX4_offsetAt_71 : decode cX4_offsetAt 71 = .ok (.ireturn, 1) := by decide +kernel
theorem dX4_celebrates_0 : decode cX4_celebrates 0 = .ok (.aload_n 0, 1) := by decide +kernel
theorem dX4_celebrates_1 : decode cX4_celebrates 1 = .ok (.getfield 33, 3) := by decide +kernel
theorem dX4_celebrates_4 : decode cX4_celebrates 4 = .ok (.astore_n 3, 1) := by decide +kernel
theorem dX4_celebrates_5 : decode cX4_celebrates 5 = .ok (.aload_n 3, 1) := by decide +kernel
theorem dX4_celebrates_6 : decode cX4_celebrates 6 = .ok (.ifnull 29, 3) := by decide +kernel
theorem dX4_celebrates_9 : decode cX4_celebrates 9 = .ok (.aload_n 3, 1) := by decide +kernel
theorem dX4_celebrates_10 : decode cX4_celebrates 10 = .ok (.getfield 19, 3) := by decide +kernel
theorem dX4_celebrates_13 : decode cX4_celebrates 13 = .ok (.iload_n 2, 1) := by decide +kernel
theorem dX4_celebrates_14 : decode cX4_celebrates 14 = .ok (.if_icmp .ge 13, 3) := by decide +kernel
theorem dX4_celebrates_17 : decode cX4_celebrates 17 = .ok (.aload_n 3, 1) := by decide +kernel
theorem dX4_celebrates_18 : decode cX4_celebrates 18 = .ok (.getfield 24, 3) := by decide +kernel
theorem dX4_celebrates_21 : decode cX4_celebrates 21 = .ok (.iload_n 1, 1) := by decide +kernel
theorem dX4_celebrates_22 : decode cX4_celebrates 22 = .ok (.if_icmp .ne 5, 3) := by decide +kernel
theorem dX4_celebrates_25 : decode cX4_celebrates 25 = .ok (.iconst 1, 1) := by decide +kernel
theorem dX4_celebrates_26 : decode cX4_celebrates 26 = .ok (.ireturn, 1) := by decide +kernel
theorem dX4_celebrates_27 : decode cX4_celebrates 27 = .ok (.aload_n 3, 1) := by decide +kernel
theorem dX4_celebrates_28 : decode cX4_celebrates 28 = .ok (.getfield 30, 3) := by decide +kernel
theorem dX4_celebrates_31 : decode cX4_celebrates 31 = .ok (.astore_n 3, 1) := by decide +kernel
theorem dX4_celebrates_32 : decode cX4_celebrates 32 = .ok (.goto (-27), 3) := by decide +kernel
theorem dX4_celebrates_35 : decode cX4_celebrates 35 = .ok (.iconst 0, 1) := by decide +kernel
theorem dX4_celebrates_36 : decode cX4_celebrates 36 = .ok (.ireturn, 1) := by decide +kernel
theorem dX5_init_0 : decode cX5_init 0 = .ok (.aload_n 0, 1) := by decide +kernel
theorem dX5_init_1 : decode cX5_init 1 = .ok (.invokespecial 3, 3) := by decide +kernel
theorem dX5_init_4 : decode cX5_init 4 = .ok (.aload_n 0, 1) := by decide +kernel
theorem dX5_init_5 : decode cX5_init 5 = .ok (.new 9, 3) := by decide +kernel
theorem dX5_init_8 : decode cX5_init 8 = .ok (.dup, 1) := by decide +kernel
theorem dX5_init_9 : decode cX5_init 9 = .ok (.invokespecial 11, 3) := by decide +kernel
theorem dX5_init_12 : decode cX5_init 12 = .ok (.putfield 12, 3) := by decide +kernel
theorem dX5_init_15 : decode cX5_init 15 = .ok (.aload_n 0, 1) := by decide +kernel
theorem dX5_init_16 : decode cX5_init 16 = .ok (.new 18, 3) := by decide +kernel
theorem dX5_init_19 : decode cX5_init 19 = .ok (.dup, 1) := by decide +kernel
theorem dX5_init_20 : decode cX5_init 20 = .ok (.invokespecial 20, 3) := by decide +kernel
theorem dX5_init_23 : decode cX5_init 23 = .ok (.putfield 21, 3) := by decide +kernel
theorem dX5_init_26 : decode cX5_init 26 = .ok (.aload_n 0, 1) := by decide +kernel
theorem dX5_init_27 : decode cX5_init 27 = .ok (.iconst 4, 1) := by decide +kernel
theorem dX5_init_28 : decode cX5_init 28 = .ok (.anewarray 25, 3) := by decide +kernel
theorem dX5_init_31 : decode cX5_init 31 = .ok (.putfield 27, 3) := by decide +kernel
theorem dX5_init_34 : decode cX5_init 34 = .ok (.aload_n 0, 1) := by decide +kernel
theorem dX5_init_35 : decode cX5_init 35 = .ok (.iconst 4, 1) := by decide +kernel
theorem dX5_init_36 : decode cX5_init 36 = .ok (.anewarray 31, 3) := by decide +kernel
theorem dX5_init_39 : decode cX5_init 39 = .ok (.putfield 33, 3) := by decide +kernel
theorem dX5_init_42 : decode cX5_init 42 = .ok (.aload_n 0, 1) := by decide +kernel
theorem dX5_init_43 : decode cX5_init 43 = .ok (.iconst 4, 1) := by decide +kernel
theorem dX5_init_44 : decode cX5_init 44 = .ok (.anewarray 37, 3) := by decide +kernel
theorem dX5_init_47 : decode cX5_init 47 = .ok (.putfield 39, 3) := by decide +kernel
theorem dX5_init_50 : decode cX5_init 50 = .ok (.aload_n 0, 1) := by decide +kernel
theorem dX5_init_51 : decode cX5_init 51 = .ok (.iconst 4, 1) := by decide +kernel
theorem dX5_init_52 : decode cX5_init 52 = .ok (.newarray .int, 2) := by decide +kernel
theorem dX5_init_54 : decode cX5_init 54 = .ok (.putfield 43, 3) := by decide +kernel
theorem dX5_init_57 : decode cX5_init 57 = .ok (.aload_n 0, 1) := by decide +kernel
theorem dX5_init_58 : decode cX5_init 58 = .ok (.iconst 4, 1) := by decide +kernel
theorem dX5_init_59 : decode cX5_init 59 = .ok (.newarray .int, 2) := by decide +kernel
theorem dX5_init_61 : decode cX5_init 61 = .ok (.putfield 47, 3) := by decide +kernel
theorem dX5_init_64 : decode cX5_init 64 = .ok (.aload_n 0, 1) := by decide +kernel
theorem dX5_init_65 : decode cX5_init 65 = .ok (.iconst 4, 1) := by decide +kernel
theorem dX5_init_66 : decode cX5_init 66 = .ok (.newarray .int, 2) := by decide +kernel
theorem dX5_init_68 : decode cX5_init 68 = .ok (.putfield 50, 3) := by decide +kernel
theorem dX5_init_71 : decode cX5_init 71 = .ok (.aload_n 0, 1) := by decide +kernel
theorem dX5_init_72 : decode cX5_init 72 = .ok (.bipush 12, 2) := by decide +kernel
theorem dX5_init_74 : decode cX5_init 74 = .ok (.newarray .int, 2) := by decide +kernel
theorem dX5_init_76 : decode cX5_init 76 = .ok (.putfield 53, 3) := by decide +kernel
theorem dX5_init_79 : decode cX5_init 79 = .ok (.iconst 0, 1) := by decide +kernel
theorem dX5_init_80 : decode cX5_init 80 = .ok (.istore_n 1, 1) := by decide +kernel
theorem dX5_init_81 : decode cX5_init 81 = .ok (.iload_n 1, 1) := by decide +kernel
theorem dX5_init_82 : decode cX5_init 82 = .ok (.iconst 4, 1) := by decide +kernel
theorem dX5_init_83 : decode cX5_init 83 = .ok (.if_icmp .ge 22, 3) := by decide +kernel
theorem dX5_init_86 : decode cX5_init 86 = .ok (.aload_n 0, 1) := by decide +kernel
theorem dX5_init_87 : decode cX5_init 87 = .ok (.getfield 39, 3) := by decide +kernel
theorem dX5_init_90 : decode cX5_init 90 = .ok (.iload_n 1, 1) := by decide +kernel
theorem dX5_init_91 : decode cX5_init 91 = .ok (.new 37, 3) := by decide +kernel
theorem dX5_init_94 : decode cX5_init 94 = .ok (.dup, 1) := by decide +kernel
theorem dX5_init_95 : decode cX5_init 95 = .ok (.invokespecial 56, 3) := by decide +kernel
theorem dX5_init_98 : decode cX5_init 98 = .ok (.aastore, 1) := by decide +kernel
theorem dX5_init_99 : decode cX5_init 99 = .ok (.iinc 1 1, 3) := by decide +kernel
theorem dX5_init_102 : decode cX5_init 102 = .ok (.goto (-21), 3) := by decide +kernel
theorem dX5_init_105 : decode cX5_init 105 = .ok (.return_, 1) := by decide +kernel
theorem dX5_begin_0 : decode cX5_begin 0 = .ok (.aload_n 0, 1) := by decide +kernel
theorem dX5_begin_1 : decode cX5_begin 1 = .ok (.iload_n 1, 1) := by decide +kernel
theorem dX5_begin_2 : decode cX5_begin 2 = .ok (.bipush 12, 2) := by decide +kernel
theorem dX5_begin_4 : decode cX5_begin 4 = .ok (.invokestatic 57, 3) := by decide +kernel
theorem dX5_begin_7 : decode cX5_begin 7 = .ok (.putfield 63, 3) := by decide +kernel
theorem dX5_begin_10 : decode cX5_begin 10 = .ok (.aload_n 0, 1) := by decide +kernel
theorem dX5_begin_11 : decode cX5_begin 11 = .ok (.iconst 0, 1) := by decide +kernel
theorem dX5_begin_12 : decode cX5_begin 12 = .ok (.putfield 67, 3) := by decide +kernel
theorem dX5_begin_15 : decode cX5_begin 15 = .ok (.aload_n 0, 1) := by decide +kernel
theorem dX5_begin_16 : decode cX5_begin 16 = .ok (.getfield 21, 3) := by decide +kernel
theorem dX5_begin_19 : decode cX5_begin 19 = .ok (.invokevirtual 70, 3) := by decide +kernel
theorem dX5_begin_22 : decode cX5_begin 22 = .ok (.aload_n 0, 1) := by decide +kernel
theorem dX5_begin_23 : decode cX5_begin 23 = .ok (.getfield 12, 3) := by decide +kernel
theorem dX5_begin_26 : decode cX5_begin 26 = .ok (.aload_n 0, 1) := by decide +kernel
theorem dX5_begin_27 : decode cX5_begin 27 = .ok (.getfield 63, 3) := by decide +kernel
theorem dX5_begin_30 : decode cX5_begin 30 = .ok (.invokevirtual 73, 3) := by decide +kernel
theorem dX5_begin_33 : decode cX5_begin 33 = .ok (.aload_n 0, 1) := by decide +kernel
theorem dX5_begin_34 : decode cX5_begin 34 = .ok (.getfield 53, 3) := by decide +kernel
theorem dX5_begin_37 : decode cX5_begin 37 = .ok (.iconst 0, 1) := by decide +kernel
theorem dX5_begin_38 : decode cX5_begin 38 = .ok (.invokestatic 77, 3) := by decide +kernel
theorem dX5_begin_41 : decode cX5_begin 41 = .ok (.return_, 1) := by decide +kernel
theorem dX5_add_0 : decode cX5_add 0 = .ok (.aload_n 0, 1) := by decide +kernel
theorem dX5_add_1 : decode cX5_add 1 = .ok (.getfield 67, 3) := by decide +kernel
theorem dX5_add_4 : decode cX5_add 4 = .ok (.iconst 4, 1) := by decide +kernel
theorem dX5_add_5 : decode cX5_add 5 = .ok (.if_icmp .ge 43, 3) := by decide +kernel
theorem dX5_add_8 : decode cX5_add 8 = .ok (.aload_n 0, 1) := by decide +kernel
theorem dX5_add_9 : decode cX5_add 9 = .ok (.getfield 27, 3) := by decide +kernel
theorem dX5_add_12 : decode cX5_add 12 = .ok (.aload_n 0, 1) := by decide +kernel
theorem dX5_add_13 : decode cX5_add 13 = .ok (.getfield 67, 3) := by decide +kernel
theorem dX5_add_16 : decode cX5_add 16 = .ok (.aload_n 1, 1) := by decide +kernel
theorem dX5_add_17 : decode cX5_add 17 = .ok (.aastore, 1) := by decide +kernel
theorem dX5_add_18 : decode cX5_add 18 = .ok (.aload_n 0, 1) := by decide +kernel
theorem dX5_add_19 : decode cX5_add 19 = .ok (.getfield 33, 3) := by decide +kernel
theorem dX5_add_22 : decode cX5_add 22 = .ok (.aload_n 0, 1) := by decide +kernel
theorem dX5_add_23 : decode cX5_add 23 = .ok (.getfield 67, 3) := by decide +kernel
theorem dX5_add_26 : decode cX5_add 26 = .ok (.aload_n 2, 1) := by decide +kernel
theorem dX5_add_27 : decode cX5_add 27 = .ok (.aastore, 1) := by decide +kernel
theorem dX5_add_28 : decode cX5_add 28 = .ok (.aload_n 0, 1) := by decide +kernel
theorem dX5_add_29 : decode cX5_add 29 = .ok (.getfield 43, 3) := by decide +kernel
theorem dX5_add_32 : decode cX5_add 32 = .ok (.aload_n 0, 1) := by decide +kernel
theorem dX5_add_33 : decode cX5_add 33 = .ok (.getfield 67, 3) := by decide +kernel
theorem dX5_add_36 : decode cX5_add 36 = .ok (.iload_n 3, 1) := by decide +kernel
theorem dX5_add_37 : decode cX5_add 37 = .ok (.iastore, 1) := by decide +kernel
theorem dX5_add_38 : decode cX5_add 38 = .ok (.aload_n 0, 1) := by decide +kernel
theorem dX5_add_39 : decode cX5_add 39 = .ok (.dup, 1) := by decide +kernel
theorem dX5_add_40 : decode cX5_add 40 = .ok (.getfield 67, 3) := by decide +kernel
theorem dX5_add_43 : decode cX5_add 43 = .ok (.iconst 1, 1) := by decide +kernel
theorem dX5_add_44 : decode cX5_add 44 = .ok (.iadd, 1) := by decide +kernel
theorem dX5_add_45 : decode cX5_add 45 = .ok (.putfield 67, 3) := by decide +kernel
theorem dX5_add_48 : decode cX5_add 48 = .ok (.return_, 1) := by decide +kernel
theorem dX5_findBest_0 : decode cX5_findBest 0 = .ok (.iconst 0, 1) := by decide +kernel
theorem dX5_findBest_1 : decode cX5_findBest 1 = .ok (.istore_n 1, 1) := by decide +kernel
theorem dX5_findBest_2 : decode cX5_findBest 2 = .ok (.iload_n 1, 1) := by decide +kernel
theorem dX5_findBest_3 : decode cX5_findBest 3 = .ok (.aload_n 0, 1) := by decide +kernel
theorem dX5_findBest_4 : decode cX5_findBest 4 = .ok (.getfield 67, 3) := by decide +kernel
theorem dX5_findBest_7 : decode cX5_findBest 7 = .ok (.if_icmp .gt 27, 3) := by decide +kernel
theorem dX5_findBest_10 : decode cX5_findBest 10 = .ok (.aload_n 0, 1) := by decide +kernel
theorem dX5_findBest_11 : decode cX5_findBest 11 = .ok (.iconst 0, 1) := by decide +kernel
theorem dX5_findBest_12 : decode cX5_findBest 12 = .ok (.iload_n 1, 1) := by decide +kernel
theorem dX5_findBest_13 : decode cX5_findBest 13 = .ok (.invokevirtual 83, 3) := by decide +kernel
theorem dX5_findBest_16 : decode cX5_findBest 16 = .ok (.aload_n 0, 1) := by decide +kernel
theorem dX5_findBest_17 : decode cX5_findBest 17 = .ok (.getfield 12, 3) := by decide +kernel
theorem dX5_findBest_20 : decode cX5_findBest 20 = .ok (.getfield 87, 3) := by decide +kernel
theorem dX5_findBest_23 : decode cX5_findBest 23 = .ok (.ifCond .eq 5, 3) := by decide +kernel
theorem dX5_findBest_26 : decode cX5_findBest 26 = .ok (.iload_n 1, 1) := by decide +kernel
theorem dX5_findBest_27 : decode cX5_findBest 27 = .ok (.ireturn, 1) := by decide +kernel
theorem dX5_findBest_28 : decode cX5_findBest 28 = .ok (.iinc 1 1, 3) := by decide +kernel
theorem dX5_findBest_31 : decode cX5_findBest 31 = .ok (.goto (-29), 3) := by decide +kernel
theorem dX5_findBest_34 : decode cX5_findBest 34 = .ok (.iconst (-1), 1) := by decide +kernel
theorem dX5_findBest_35 : decode cX5_findBest 35 = .ok (.ireturn, 1) := by decide +kernel
theorem dX5_settle_0 : decode cX5_settle 0 = .ok (.iconst 0, 1) := by decide +kernel
theorem dX5_settle_1 : decode cX5_settle 1 = .ok (.istore_n 2, 1) := by decide +kernel
theorem dX5_settle_2 : decode cX5_settle 2 = .ok (.iload_n 2, 1) := by decide +kernel
theorem dX5_settle_3 : decode cX5_settle 3 = .ok (.aload_n 0, 1) := by decide +kernel
theorem dX5_settle_4 : decode cX5_settle 4 = .ok (.getfield 67, 3) := by decide +kernel
theorem dX5_settle_7 : decode cX5_settle 7 = .ok (.if_icmp .ge 26, 3) := by decide +kernel
theorem dX5_settle_10 : decode cX5_settle 10 = .ok (.aload_n 0, 1) := by decide +kernel
theorem dX5_settle_11 : decode cX5_settle 11 = .ok (.getfield 27, 3) := by decide +kernel
theorem dX5_settle_14 : decode cX5_settle 14 = .ok (.iload_n 2, 1) := by decide +kernel
theorem dX5_settle_15 : decode cX5_settle 15 = .ok (.aaload, 1) := by decide +kernel
theorem dX5_settle_16 : decode cX5_settle 16 = .ok (.getfield 91, 3) := by decide +kernel
theorem dX5_settle_19 : decode cX5_settle 19 = .ok (.iload_n 1, 1) := by decide +kernel
theorem dX5_settle_20 : decode cX5_settle 20 = .ok (.aload_n 0, 1) := by decide +kernel
theorem dX5_settle_21 : decode cX5_settle 21 = .ok (.getfield 50, 3) := by decide +kernel
theorem dX5_settle_24 : decode cX5_settle 24 = .ok (.iload_n 2, 1) := by decide +kernel
theorem dX5_settle_25 : decode cX5_settle 25 = .ok (.iaload, 1) := by decide +kernel
theorem dX5_settle_26 : decode cX5_settle 26 = .ok (.iastore, 1) := by decide +kernel
theorem dX5_settle_27 : decode cX5_settle 27 = .ok (.iinc 2 1, 3) := by decide +kernel
theorem dX5_settle_30 : decode cX5_settle 30 = .ok (.goto (-28), 3) := by decide +kernel
theorem dX5_settle_33 : decode cX5_settle 33 = .ok (.return_, 1) := by decide +kernel
theorem dX5_search_0 : decode cX5_search 0 = .ok (.aload_n 0, 1) := by decide +kernel
theorem dX5_search_1 : decode cX5_search 1 = .ok (.getfield 12, 3) := by decide +kernel
theorem dX5_search_4 : decode cX5_search 4 = .ok (.aload_n 0, 1) := by decide +kernel
theorem dX5_search_5 : decode cX5_search 5 = .ok (.getfield 53, 3) := by decide +kernel
theorem dX5_search_8 : decode cX5_search 8 = .ok (.invokevirtual 94, 3) := by decide +kernel
theorem dX5_search_11 : decode cX5_search 11 = .ok (.ifCond .ne 4, 3) := by decide +kernel
theorem dX5_search_14 : decode cX5_search 14 = .ok (.return_, 1) := by decide +kernel
theorem dX5_search_15 : decode cX5_search 15 = .ok (.iload_n 1, 1) := by decide +kernel
theorem dX5_search_16 : decode cX5_search 16 = .ok (.aload_n 0, 1) := by decide +kernel
theorem dX5_search_17 : decode cX5_search 17 = .ok (.getfield 67, 3) := by decide +kernel
theorem dX5_search_20 : decode cX5_search 20 = .ok (.if_icmp .lt 32, 3) := by decide +kernel
theorem dX5_search_23 : decode cX5_search 23 = .ok (.aload_n 0, 1) := by decide +kernel
theorem dX5_search_24 : decode cX5_search 24 = .ok (.getfield 12, 3) := by decide +kernel
theorem dX5_search_27 : decode cX5_search 27 = .ok (.aload_n 0, 1) := by decide +kernel
theorem dX5_search_28 : decode cX5_search 28 = .ok (.getfield 53, 3) := by decide +kernel
theorem dX5_search_31 : decode cX5_search 31 = .ok (.invokevirtual 98, 3) := by decide +kernel
theorem dX5_search_34 : decode cX5_search 34 = .ok (.aload_n 0, 1) := by decide +kernel
theorem dX5_search_35 : decode cX5_search 35 = .ok (.getfield 47, 3) := by decide +kernel
theorem dX5_search_38 : decode cX5_search 38 = .ok (.iconst 0, 1) := by decide +kernel
theorem dX5_search_39 : decode cX5_search 39 = .ok (.aload_n 0, 1) := by decide +kernel
theorem dX5_search_40 : decode cX5_search 40 = .ok (.getfield 50, 3) := by decide +kernel
theorem dX5_search_43 : decode cX5_search 43 = .ok (.iconst 0, 1) := by decide +kernel
theorem dX5_search_44 : decode cX5_search 44 = .ok (.aload_n 0, 1) := by decide +kernel
theorem dX5_search_45 : decode cX5_search 45 = .ok (.getfield 67, 3) := by decide +kernel
theorem dX5_search_48 : decode cX5_search 48 = .ok (.invokestatic 102, 3) := by decide +kernel
theorem dX5_search_51 : decode cX5_search 51 = .ok (.return_, 1) := by decide +kernel
theorem dX5_search_52 : decode cX5_search 52 = .ok (.iconst 0, 1) := by decide +kernel
theorem dX5_search_53 : decode cX5_search 53 = .ok (.istore_n 3, 1) := by decide +kernel
theorem dX5_search_54 : decode cX5_search 54 = .ok (.iload_n 3, 1) := by decide +kernel
theorem dX5_search_55 : decode cX5_search 55 = .ok (.aload_n 0, 1) := by decide +kernel
theorem dX5_search_56 : decode cX5_search 56 = .ok (.getfield 27, 3) := by decide +kernel
theorem dX5_search_59 : decode cX5_search 59 = .ok (.iload_n 1, 1) := by decide +kernel
theorem dX5_search_60 : decode cX5_search 60 = .ok (.aaload, 1) := by decide +kernel
theorem dX5_search_61 : decode cX5_search 61 = .ok (.invokevirtual 108, 3) := by decide +kernel
theorem dX5_search_64 : decode cX5_search 64 = .ok (.if_icmp .ge 87, 3) := by decide +kernel
theorem dX5_search_67 : decode cX5_search 67 = .ok (.iload_n 3, 1) := by decide +kernel
theorem dX5_search_68 : decode cX5_search 68 = .ok (.aload_n 0, 1) := by decide +kernel
theorem dX5_search_69 : decode cX5_search 69 = .ok (.getfield 43, 3) := by decide +kernel
theorem dX5_search_72 : decode cX5_search 72 = .ok (.iload_n 1, 1) := by decide +kernel
theorem dX5_search_73 : decode cX5_search 73 = .ok (.iaload, 1) := by decide +kernel
theorem dX5_search_74 : decode cX5_search 74 = .ok (.if_icmp .ne 7, 3) := by decide +kernel
theorem dX5_search_77 : decode cX5_search 77 = .ok (.iload_n 2, 1) := by decide +kernel
theorem dX5_search_78 : decode cX5_search 78 = .ok (.goto 6, 3) := by decide +kernel
theorem dX5_search_81 : decode cX5_search 81 = .ok (.iload_n 2, 1) := by decide +kernel
theorem dX5_search_82 : decode cX5_search 82 = .ok (.iconst 1, 1) := by decide +kernel
theorem dX5_search_83 : decode cX5_search 83 = .ok (.isub, 1) := by decide +kernel
theorem dX5_search_84 : decode cX5_search 84 = .ok (.istore 4, 2) := by decide +kernel
theorem dX5_search_86 : decode cX5_search 86 = .ok (.iload 4, 2) := by decide +kernel
theorem dX5_search_88 : decode cX5_search 88 = .ok (.ifCond .lt 57, 3) := by decide +kernel
theorem dX5_search_91 : decode cX5_search 91 = .ok (.iload 4, 2) := by decide +kernel
theorem dX5_search_93 : decode cX5_search 93 = .ok (.aload_n 0, 1) := by decide +kernel
theorem dX5_search_94 : decode cX5_search 94 = .ok (.getfield 67, 3) := by decide +kernel
theorem dX5_search_97 : decode cX5_search 97 = .ok (.iload_n 1, 1) := by decide +kernel
theorem dX5_search_98 : decode cX5_search 98 = .ok (.isub, 1) := by decide +kernel
theorem dX5_search_99 : decode cX5_search 99 = .ok (.if_icmp .ge 46, 3) := by decide +kernel
theorem dX5_search_102 : decode cX5_search 102 = .ok (.aload_n 0, 1) := by decide +kernel
theorem dX5_search_103 : decode cX5_search 103 = .ok (.getfield 39, 3) := by decide +kernel
theorem dX5_search_106 : decode cX5_search 106 = .ok (.iload_n 1, 1) := by decide +kernel
theorem dX5_search_107 : decode cX5_search 107 = .ok (.aaload, 1) := by decide +kernel
theorem dX5_search_108 : decode cX5_search 108 = .ok (.aload_n 0, 1) := by decide +kernel
theorem dX5_search_109 : decode cX5_search 109 = .ok (.getfield 27, 3) := by decide +kernel
theorem dX5_search_112 : decode cX5_search 112 = .ok (.iload_n 1, 1) := by decide +kernel
theorem dX5_search_113 : decode cX5_search 113 = .ok (.aaload, 1) := by decide +kernel
theorem dX5_search_114 : decode cX5_search 114 = .ok (.aload_n 0, 1) := by decide +kernel
theorem dX5_search_115 : decode cX5_search 115 = .ok (.getfield 33, 3) := by decide +kernel
theorem dX5_search_118 : decode cX5_search 118 = .ok (.iload_n 1, 1) := by decide +kernel
theorem dX5_search_119 : decode cX5_search 119 = .ok (.aaload, 1) := by decide +kernel
theorem dX5_search_120 : decode cX5_search 120 = .ok (.aload_n 0, 1) := by decide +kernel
theorem dX5_search_121 : decode cX5_search 121 = .ok (.getfield 21, 3) := by decide +kernel
theorem dX5_search_124 : decode cX5_search 124 = .ok (.iload_n 3, 1) := by decide +kernel
theorem dX5_search_125 : decode cX5_search 125 = .ok (.invokevirtual 112, 3) := by decide +kernel
theorem dX5_search_128 : decode cX5_search 128 = .ok (.ifCond .eq 17, 3) := by decide +kernel
theorem dX5_search_131 : decode cX5_search 131 = .ok (.aload_n 0, 1) := by decide +kernel
theorem dX5_search_132 : decode cX5_search 132 = .ok (.getfield 47, 3) := by decide +kernel
theorem dX5_search_135 : decode cX5_search 135 = .ok (.iload_n 1, 1) := by decide +kernel
theorem dX5_search_136 : decode cX5_search 136 = .ok (.iload_n 3, 1) := by decide +kernel
theorem dX5_search_137 : decode cX5_search 137 = .ok (.iastore, 1) := by decide +kernel
theorem dX5_search_138 : decode cX5_search 138 = .ok (.aload_n 0, 1) := by decide +kernel
theorem dX5_search_139 : decode cX5_search 139 = .ok (.iload_n 1, 1) := by decide +kernel
theorem dX5_search_140 : decode cX5_search 140 = .ok (.iload 4, 2) := by decide +kernel
theorem dX5_search_142 : decode cX5_search 142 = .ok (.invokevirtual 116, 3) := by decide +kernel
theorem dX5_search_145 : decode cX5_search 145 = .ok (.iinc 3 1, 3) := by decide +kernel
theorem dX5_search_148 : decode cX5_search 148 = .ok (.goto (-94), 3) := by decide +kernel
theorem dX5_search_151 : decode cX5_search 151 = .ok (.return_, 1) := by decide +kernel
theorem dX5_searchBehind_0 : decode cX5_searchBehind 0 = .ok (.aload_n 0, 1) := by decide +kernel
theorem dX5_searchBehind_1 : decode cX5_searchBehind 1 = .ok (.getfield 21, 3) := by decide +kernel
theorem dX5_searchBehind_4 : decode cX5_searchBehind 4 = .ok (.getfield 119, 3) := by decide +kernel
theorem dX5_searchBehind_7 : decode cX5_searchBehind 7 = .ok (.istore_n 3, 1) := by decide +kernel
theorem dX5_searchBehind_8 : decode cX5_searchBehind 8 = .ok (.aload_n 0, 1) := by decide +kernel
theorem dX5_searchBehind_9 : decode cX5_searchBehind 9 = .ok (.getfield 21, 3) := by decide +kernel
theorem dX5_searchBehind_12 : decode cX5_searchBehind 12 = .ok (.aload_n 0, 1) := by decide +kernel
theorem dX5_searchBehind_13 : decode cX5_searchBehind 13 = .ok (.getfield 27, 3) := by decide +kernel
theorem dX5_searchBehind_16 : decode cX5_searchBehind 16 = .ok (.iload_n 1, 1) := by decide +kernel
theorem dX5_searchBehind_17 : decode cX5_searchBehind 17 = .ok (.aaload, 1) := by decide +kernel
theorem dX5_searchBehind_18 : decode cX5_searchBehind 18 = .ok (.aload_n 0, 1) := by decide +kernel
theorem dX5_searchBehind_19 : decode cX5_searchBehind 19 = .ok (.getfield 33, 3) := by decide +kernel
theorem dX5_searchBehind_22 : decode cX5_searchBehind 22 = .ok (.iload_n 1, 1) := by decide +kernel
theorem dX5_searchBehind_23 : decode cX5_searchBehind 23 = .ok (.aaload, 1) := by decide +kernel
theorem dX5_searchBehind_24 : decode cX5_searchBehind 24 = .ok (.aload_n 0, 1) := by decide +kernel
theorem dX5_searchBehind_25 : decode cX5_searchBehind 25 = .ok (.getfield 39, 3) := by decide +kernel
theorem dX5_searchBehind_28 : decode cX5_searchBehind 28 = .ok (.iload_n 1, 1) := by decide +kernel
theorem dX5_searchBehind_29 : decode cX5_searchBehind 29 = .ok (.aaload, 1) := by decide +kernel
theorem dX5_searchBehind_30 : decode cX5_searchBehind 30 = .ok (.invokevirtual 120, 3) := by decide +kernel
theorem dX5_searchBehind_33 : decode cX5_searchBehind 33 = .ok (.aload_n 0, 1) := by decide +kernel
theorem dX5_searchBehind_34 : decode cX5_searchBehind 34 = .ok (.iload_n 1, 1) := by decide +kernel
theorem dX5_searchBehind_35 : decode cX5_searchBehind 35 = .ok (.iconst 1, 1) := by decide +kernel
theorem dX5_searchBehind_36 : decode cX5_searchBehind 36 = .ok (.invokevirtual 124, 3) := by decide +kernel
theorem dX5_searchBehind_39 : decode cX5_searchBehind 39 = .ok (.aload_n 0, 1) := by decide +kernel
theorem dX5_searchBehind_40 : decode cX5_searchBehind 40 = .ok (.iload_n 1, 1) := by decide +kernel
theorem dX5_searchBehind_41 : decode cX5_searchBehind 41 = .ok (.iconst 1, 1) := by decide +kernel
theorem dX5_searchBehind_42 : decode cX5_searchBehind 42 = .ok (.iadd, 1) := by decide +kernel
theorem dX5_searchBehind_43 : decode cX5_searchBehind 43 = .ok (.iload_n 2, 1) := by decide +kernel
theorem dX5_searchBehind_44 : decode cX5_searchBehind 44 = .ok (.invokevirtual 83, 3) := by decide +kernel
theorem dX5_searchBehind_47 : decode cX5_searchBehind 47 = .ok (.aload_n 0, 1) := by decide +kernel
theorem dX5_searchBehind_48 : decode cX5_searchBehind 48 = .ok (.iload_n 1, 1) := by decide +kernel
theorem dX5_searchBehind_49 : decode cX5_searchBehind 49 = .ok (.iconst (-1), 1) := by decide +kernel
theorem dX5_searchBehind_50 : decode cX5_searchBehind 50 = .ok (.invokevirtual 124, 3) := by decide +kernel
theorem dX5_searchBehind_53 : decode cX5_searchBehind 53 = .ok (.aload_n 0, 1) := by decide +kernel
theorem dX5_searchBehind_54 : decode cX5_searchBehind 54 = .ok (.getfield 21, 3) := by decide +kernel
theorem dX5_searchBehind_57 : decode cX5_searchBehind 57 = .ok (.iload_n 3, 1) := by decide +kernel
theorem dX5_searchBehind_58 : decode cX5_searchBehind 58 = .ok (.putfield 119, 3) := by decide +kernel
theorem dX5_searchBehind_61 : decode cX5_searchBehind 61 = .ok (.return_, 1) := by decide +kernel
theorem dX5_charge_0 : decode cX5_charge 0 = .ok (.iconst 0, 1) := by decide +kernel
theorem dX5_charge_1 : decode cX5_charge 1 = .ok (.istore_n 3, 1) := by decide +kernel
theorem dX5_charge_2 : decode cX5_charge 2 = .ok (.iload_n 3, 1) := by decide +kernel
theorem dX5_charge_3 : decode cX5_charge 3 = .ok (.aload_n 0, 1) := by decide +kernel
theorem dX5_charge_4 : decode cX5_charge 4 = .ok (.getfield 63, 3) := by decide +kernel
theorem dX5_charge_7 : decode cX5_charge 7 = .ok (.if_icmp .ge 36, 3) := by decide +kernel
theorem dX5_charge_10 : decode cX5_charge 10 = .ok (.aload_n 0, 1) := by decide +kernel
theorem dX5_charge_11 : decode cX5_charge 11 = .ok (.getfield 53, 3) := by decide +kernel
theorem dX5_charge_14 : decode cX5_charge 14 = .ok (.iload_n 3, 1) := by decide +kernel
theorem dX5_charge_15 : decode cX5_charge 15 = .ok (.dup2, 1) := by decide +kernel
theorem dX5_charge_16 : decode cX5_charge 16 = .ok (.iaload, 1) := by decide +kernel
theorem dX5_charge_17 : decode cX5_charge 17 = .ok (.iload_n 2, 1) := by decide +kernel
theorem dX5_charge_18 : decode cX5_charge 18 = .ok (.aload_n 0, 1) := by decide +kernel
theorem dX5_charge_19 : decode cX5_charge 19 = .ok (.getfield 39, 3) := by decide +kernel
theorem dX5_charge_22 : decode cX5_charge 22 = .ok (.iload_n 1, 1) := by decide +kernel
theorem dX5_charge_23 : decode cX5_charge 23 = .ok (.aaload, 1) := by decide +kernel
theorem dX5_charge_24 : decode cX5_charge 24 = .ok (.aload_n 0, 1) := by decide +kernel
theorem dX5_charge_25 : decode cX5_charge 25 = .ok (.getfield 33, 3) := by decide +kernel
theorem dX5_charge_28 : decode cX5_charge 28 = .ok (.iload_n 1, 1) := by decide +kernel
theorem dX5_charge_29 : decode cX5_charge 29 = .ok (.aaload, 1) := by decide +kernel
theorem dX5_charge_30 : decode cX5_charge 30 = .ok (.iload_n 3, 1) := by decide +kernel
theorem dX5_charge_31 : decode cX5_charge 31 = .ok (.invokevirtual 127, 3) := by decide +kernel
theorem dX5_charge_34 : decode cX5_charge 34 = .ok (.imul, 1) := by decide +kernel
theorem dX5_charge_35 : decode cX5_charge 35 = .ok (.iadd, 1) := by decide +kernel
theorem dX5_charge_36 : decode cX5_charge 36 = .ok (.iastore, 1) := by decide +kernel
theorem dX5_charge_37 : decode cX5_charge 37 = .ok (.iinc 3 1, 3) := by decide +kernel
theorem dX5_charge_40 : decode cX5_charge 40 = .ok (.goto (-38), 3) := by decide +kernel
theorem dX5_charge_43 : decode cX5_charge 43 = .ok (.return_, 1) := by decide +kernel
theorem dX6_init_0 : decode cX6_init 0 = .ok (.aload_n 0, 1) := by decide +kernel
theorem dX6_init_1 : decode cX6_init 1 = .ok (.invokespecial 3, 3) := by decide +kernel
theorem dX6_init_4 : decode cX6_init 4 = .ok (.aload_n 0, 1) := by decide +kernel
theorem dX6_init_5 : decode cX6_init 5 = .ok (.aload_n 1, 1) := by decide +kernel
theorem dX6_init_6 : decode cX6_init 6 = .ok (.putfield 9, 3) := by decide +kernel
theorem dX6_init_9 : decode cX6_init 9 = .ok (.aload_n 0, 1) := by decide +kernel
theorem dX6_init_10 : decode cX6_init 10 = .ok (.iload_n 2, 1) := by decide +kernel
theorem dX6_init_11 : decode cX6_init 11 = .ok (.putfield 15, 3) := by decide +kernel
theorem dX6_init_14 : decode cX6_init 14 = .ok (.aload_n 0, 1) := by decide +kernel
theorem dX6_init_15 : decode cX6_init 15 = .ok (.bipush 48, 2) := by decide +kernel
theorem dX6_init_17 : decode cX6_init 17 = .ok (.newarray .byte, 2) := by decide +kernel
theorem dX6_init_19 : decode cX6_init 19 = .ok (.putfield 19, 3) := by decide +kernel
theorem dX6_init_22 : decode cX6_init 22 = .ok (.return_, 1) := by decide +kernel
theorem dX6_clearCells_0 : decode cX6_clearCells 0 = .ok (.aload_n 0, 1) := by decide +kernel
theorem dX6_clearCells_1 : decode cX6_clearCells 1 = .ok (.iload_n 1, 1) := by decide +kernel
theorem dX6_clearCells_2 : decode cX6_clearCells 2 = .ok (.putfield 23, 3) := by decide +kernel
theorem dX6_clearCells_5 : decode cX6_clearCells 5 = .ok (.aload_n 0, 1) := by decide +kernel
theorem dX6_clearCells_6 : decode cX6_clearCells 6 = .ok (.getfield 19, 3) := by decide +kernel
theorem dX6_clearCells_9 : decode cX6_clearCells 9 = .ok (.iconst 0, 1) := by decide +kernel
theorem dX6_clearCells_10 : decode cX6_clearCells 10 = .ok (.invokestatic 26, 3) := by decide +kernel
theorem dX6_clearCells_13 : decode cX6_clearCells 13 = .ok (.return_, 1) := by decide +kernel
theorem dX6_cellAt_0 : decode cX6_cellAt 0 = .ok (.aload_n 0, 1) := by decide +kernel
theorem dX6_cellAt_1 : decode cX6_cellAt 1 = .ok (.getfield 23, 3) := by decide +kernel
theorem dX6_cellAt_4 : decode cX6_cellAt 4 = .ok (.ifCond .ne 5, 3) := by decide +kernel
theorem dX6_cellAt_7 : decode cX6_cellAt 7 = .ok (.iconst 0, 1) := by decide +kernel
theorem dX6_cellAt_8 : decode cX6_cellAt 8 = .ok (.ireturn, 1) := by decide +kernel
theorem dX6_cellAt_9 : decode cX6_cellAt 9 = .ok (.aload_n 0, 1) := by decide +kernel
theorem dX6_cellAt_10 : decode cX6_cellAt 10 = .ok (.getfield 19, 3) := by decide +kernel
theorem dX6_cellAt_13 : decode cX6_cellAt 13 = .ok (.iload_n 1, 1) := by decide +kernel
theorem dX6_cellAt_14 : decode cX6_cellAt 14 = .ok (.bipush 48, 2) := by decide +kernel
theorem dX6_cellAt_16 : decode cX6_cellAt 16 = .ok (.invokestatic 32, 3) := by decide +kernel
theorem dX6_cellAt_19 : decode cX6_cellAt 19 = .ok (.aload_n 0, 1) := by decide +kernel
theorem dX6_cellAt_20 : decode cX6_cellAt 20 = .ok (.getfield 23, 3) := by decide +kernel
theorem dX6_cellAt_23 : decode cX6_cellAt 23 = .ok (.iconst 1, 1) := by decide +kernel
theorem dX6_cellAt_24 : decode cX6_cellAt 24 = .ok (.isub, 1) := by decide +kernel
theorem dX6_cellAt_25 : decode cX6_cellAt 25 = .ok (.invokestatic 38, 3) := by decide +kernel
theorem dX6_cellAt_28 : decode cX6_cellAt 28 = .ok (.baload, 1) := by decide +kernel
theorem dX6_cellAt_29 : decode cX6_cellAt 29 = .ok (.ireturn, 1) := by decide +kernel
theorem dX6_spanAt_0 : decode cX6_spanAt 0 = .ok (.aload_n 0, 1) := by decide +kernel
theorem dX6_spanAt_1 : decode cX6_spanAt 1 = .ok (.getfield 41, 3) := by decide +kernel
theorem dX6_spanAt_4 : decode cX6_spanAt 4 = .ok (.astore_n 3, 1) := by decide +kernel
theorem dX6_spanAt_5 : decode cX6_spanAt 5 = .ok (.aload_n 3, 1) := by decide +kernel
theorem dX6_spanAt_6 : decode cX6_spanAt 6 = .ok (.ifnull 37, 3) := by decide +kernel
theorem dX6_spanAt_9 : decode cX6_spanAt 9 = .ok (.aload_n 3, 1) := by decide +kernel
theorem dX6_spanAt_10 : decode cX6_spanAt 10 = .ok (.getfield 45, 3) := by decide +kernel
theorem dX6_spanAt_13 : decode cX6_spanAt 13 = .ok (.iload_n 2, 1) := by decide +kernel
theorem dX6_spanAt_14 : decode cX6_spanAt 14 = .ok (.if_icmp .ge 21, 3) := by decide +kernel
theorem dX6_spanAt_17 : decode cX6_spanAt 17 = .ok (.aload_n 3, 1) := by decide +kernel
theorem dX6_spanAt_18 : decode cX6_spanAt 18 = .ok (.getfield 50, 3) := by decide +kernel
theorem dX6_spanAt_21 : decode cX6_spanAt 21 = .ok (.iload_n 1, 1) := by decide +kernel
theorem dX6_spanAt_22 : decode cX6_spanAt 22 = .ok (.if_icmp .gt 13, 3) := by decide +kernel
theorem dX6_spanAt_25 : decode cX6_spanAt 25 = .ok (.iload_n 1, 1) := by decide +kernel
theorem dX6_spanAt_26 : decode cX6_spanAt 26 = .ok (.aload_n 3, 1) := by decide +kernel
theorem dX6_spanAt_27 : decode cX6_spanAt 27 = .ok (.getfield 53, 3) := by decide +kernel
theorem dX6_spanAt_30 : decode cX6_spanAt 30 = .ok (.if_icmp .ge 5, 3) := by decide +kernel
theorem dX6_spanAt_33 : decode cX6_spanAt 33 = .ok (.aload_n 3, 1) := by decide +kernel
theorem dX6_spanAt_34 : decode cX6_spanAt 34 = .ok (.areturn, 1) := by decide +kernel
theorem dX6_spanAt_35 : decode cX6_spanAt 35 = .ok (.aload_n 3, 1) := by decide +kernel
theorem dX6_spanAt_36 : decode cX6_spanAt 36 = .ok (.getfield 56, 3) := by decide +kernel
theorem dX6_spanAt_39 : decode cX6_spanAt 39 = .ok (.astore_n 3, 1) := by decide +kernel
theorem dX6_spanAt_40 : decode cX6_spanAt 40 = .ok (.goto (-35), 3) := by decide +kernel
theorem dX6_spanAt_43 : decode cX6_spanAt 43 = .ok (.aconst_null, 1) := by decide +kernel
theorem dX6_spanAt_44 : decode cX6_spanAt 44 = .ok (.areturn, 1) := by decide +kernel
theorem dX6_hindrance_0 : decode cX6_hindrance 0 = .ok (.iconst 0, 1) := by decide +kernel
theorem dX6_hindrance_1 : decode cX6_hindrance 1 = .ok (.istore 4, 2) := by decide +kernel
theorem dX6_hindrance_3 : decode cX6_hindrance 3 = .ok (.iload 4, 2) := by decide +kernel
theorem dX6_hindrance_5 : decode cX6_hindrance 5 = .ok (.iload_n 2, 1) := by decide +kernel
theorem dX6_hindrance_6 : decode cX6_hindrance 6 = .ok (.if_icmp .ge 28, 3) := by decide +kernel
theorem dX6_hindrance_9 : decode cX6_hindrance 9 = .ok (.aload_n 0, 1) := by decide +kernel
theorem dX6_hindrance_10 : decode cX6_hindrance 10 = .ok (.iload_n 1, 1) := by decide +kernel
theorem dX6_hindrance_11 : decode cX6_hindrance 11 = .ok (.iload 4, 2) := by decide +kernel
theorem dX6_hindrance_13 : decode cX6_hindrance 13 = .ok (.iadd, 1) := by decide +kernel
theorem dX6_hindrance_14 : decode cX6_hindrance 14 = .ok (.iload_n 3, 1) := by decide +kernel
theorem dX6_hindrance_15 : decode cX6_hindrance 15 = .ok (.invokevirtual 59, 3) := by decide +kernel
theorem dX6_hindrance_18 : decode cX6_hindrance 18 = .ok (.istore 5, 2) := by decide +kernel
theorem dX6_hindrance_20 : decode cX6_hindrance 20 = .ok (.iload 5, 2) := by decide +kernel
theorem dX6_hindrance_22 : decode cX6_hindrance 22 = .ok (.ifCond .eq 6, 3) := by decide +kernel
theorem dX6_hindrance_25 : decode cX6_hindrance 25 = .ok (.iload 5, 2) := by decide +kernel
theorem dX6_hindrance_27 : decode cX6_hindrance 27 = .ok (.ireturn, 1) := by decide +kernel
theorem dX6_hindrance_28 : decode cX6_hindrance 28 = .ok (.iinc 4 1, 3) := by decide +kernel
theorem dX6_hindrance_31 : decode cX6_hindrance 31 = .ok (.goto (-28), 3) := by decide +kernel
theorem dX6_hindrance_34 : decode cX6_hindrance 34 = .ok (.iconst 0, 1) := by decide +kernel
theorem dX6_hindrance_35 : decode cX6_hindrance 35 = .ok (.ireturn, 1) := by decide +kernel
theorem dX6_hindranceAt_0 : decode cX6_hindranceAt 0 = .ok (.iload_n 1, 1) := by decide +kernel
theorem dX6_hindranceAt_1 : decode cX6_hindranceAt 1 = .ok (.aload_n 0, 1) := by decide +kernel
theorem dX6_hindranceAt_2 : decode cX6_hindranceAt 2 = .ok (.getfield 9, 3) := by decide +kernel
theorem dX6_hindranceAt_5 : decode cX6_hindranceAt 5 = .ok (.iload_n 1, 1) := by decide +kernel
theorem dX6_hindranceAt_6 : decode cX6_hindranceAt 6 = .ok (.iload_n 2, 1) := by decide +kernel
theorem dX6_hindranceAt_7 : decode cX6_hindranceAt 7 = .ok (.invokevirtual 62, 3) := by decide +kernel
theorem dX6_hindranceAt_10 : decode cX6_hindranceAt 10 = .ok (.iadd, 1) := by decide +kernel
theorem dX6_hindranceAt_11 : decode cX6_hindranceAt 11 = .ok (.istore_n 3, 1) := by decide +kernel
theorem dX6_hindranceAt_12 : decode cX6_hindranceAt 12 = .ok (.iload_n 3, 1) := by decide +kernel
theorem dX6_hindranceAt_13 : decode cX6_hindranceAt 13 = .ok (.bipush 48, 2) := by decide +kernel
theorem dX6_hindranceAt_15 : decode cX6_hindranceAt 15 = .ok (.invokestatic 67, 3) := by decide +kernel
theorem dX6_hindranceAt_18 : decode cX6_hindranceAt 18 = .ok (.istore 4, 2) := by decide +kernel
theorem dX6_hindranceAt_20 : decode cX6_hindranceAt 20 = .ok (.aload_n 0, 1) := by decide +kernel
theorem dX6_hindranceAt_21 : decode cX6_hindranceAt 21 = .ok (.iload_n 3, 1) := by decide +kernel
theorem dX6_hindranceAt_22 : decode cX6_hindranceAt 22 = .ok (.invokevirtual 70, 3) := by decide +kernel
theorem dX6_hindranceAt_25 : decode cX6_hindranceAt 25 = .ok (.iconst (-1), 1) := by decide +kernel
theorem dX6_hindranceAt_26 : decode cX6_hindranceAt 26 = .ok (.if_icmp .ne 5, 3) := by decide +kernel
theorem dX6_hindranceAt_29 : decode cX6_hindranceAt 29 = .ok (.iconst 1, 1) := by decide +kernel
theorem dX6_hindranceAt_30 : decode cX6_hindranceAt 30 = .ok (.ireturn, 1) := by decide +kernel
theorem dX6_hindranceAt_31 : decode cX6_hindranceAt 31 = .ok (.aload_n 0, 1) := by decide +kernel
theorem dX6_hindranceAt_32 : decode cX6_hindranceAt 32 = .ok (.getfield 15, 3) := by decide +kernel
theorem dX6_hindranceAt_35 : decode cX6_hindranceAt 35 = .ok (.iload 4, 2) := by decide +kernel
theorem dX6_hindranceAt_37 : decode cX6_hindranceAt 37 = .ok (.bipush 7, 2) := by decide +kernel
theorem dX6_hindranceAt_39 : decode cX6_hindranceAt 39 = .ok (.invokestatic 32, 3) := by decide +kernel
theorem dX6_hindranceAt_42 : decode cX6_hindranceAt 42 = .ok (.invokestatic 74, 3) := by decide +kernel
theorem dX6_hindranceAt_45 : decode cX6_hindranceAt 45 = .ok (.ifCond .eq 5, 3) := by decide +kernel
theorem dX6_hindranceAt_48 : decode cX6_hindranceAt 48 = .ok (.iconst 2, 1) := by decide +kernel
theorem dX6_hindranceAt_49 : decode cX6_hindranceAt 49 = .ok (.ireturn, 1) := by decide +kernel
theorem dX6_hindranceAt_50 : decode cX6_hindranceAt 50 = .ok (.aload_n 0, 1) := by decide +kernel
theorem dX6_hindranceAt_51 : decode cX6_hindranceAt 51 = .ok (.getfield 9, 3) := by decide +kernel
theorem dX6_hindranceAt_54 : decode cX6_hindranceAt 54 = .ok (.iload 4, 2) := by decide +kernel
theorem dX6_hindranceAt_56 : decode cX6_hindranceAt 56 = .ok (.iload_n 2, 1) := by decide +kernel
theorem dX6_hindranceAt_57 : decode cX6_hindranceAt 57 = .ok (.invokevirtual 78, 3) := by decide +kernel
theorem dX6_hindranceAt_60 : decode cX6_hindranceAt 60 = .ok (.ifCond .eq 5, 3) := by decide +kernel
theorem dX6_hindranceAt_63 : decode cX6_hindranceAt 63 = .ok (.iconst 3, 1) := by decide +kernel
theorem dX6_hindranceAt_64 : decode cX6_hindranceAt 64 = .ok (.ireturn, 1) := by decide +kernel
theorem dX6_hindranceAt_65 : decode cX6_hindranceAt 65 = .ok (.aload_n 0, 1) := by decide +kernel
theorem dX6_hindranceAt_66 : decode cX6_hindranceAt 66 = .ok (.iload_n 1, 1) := by decide +kernel
theorem dX6_hindranceAt_67 : decode cX6_hindranceAt 67 = .ok (.iload_n 2, 1) := by decide +kernel
theorem dX6_hindranceAt_68 : decode cX6_hindranceAt 68 = .ok (.invokevirtual 81, 3) := by decide +kernel
theorem dX6_hindranceAt_71 : decode cX6_hindranceAt 71 = .ok (.ifnull 7, 3) := by decide +kernel
theorem dX6_hindranceAt_74 : decode cX6_hindranceAt 74 = .ok (.iconst 4, 1) := by decide +kernel
theorem dX6_hindranceAt_75 : decode cX6_hindranceAt 75 = .ok (.goto 4, 3) := by decide +kernel
theorem dX6_hindranceAt_78 : decode cX6_hindranceAt 78 = .ok (.iconst 0, 1) := by decide +kernel
theorem dX6_hindranceAt_79 : decode cX6_hindranceAt 79 = .ok (.ireturn, 1) := by decide +kernel
theorem dX6_price_0 : decode cX6_price 0 = .ok (.iconst 0, 1) := by decide +kernel
theorem dX6_price_1 : decode cX6_price 1 = .ok (.istore 4, 2) := by decide +kernel
theorem dX6_price_3 : decode cX6_price 3 = .ok (.iconst 0, 1) := by decide +kernel
theorem dX6_price_4 : decode cX6_price 4 = .ok (.istore 5, 2) := by decide +kernel
theorem dX6_price_6 : decode cX6_price 6 = .ok (.iload 5, 2) := by decide +kernel
theorem dX6_price_8 : decode cX6_price 8 = .ok (.iload_n 2, 1) := by decide +kernel
theorem dX6_price_9 : decode cX6_price 9 = .ok (.if_icmp .ge 39, 3) := by decide +kernel
theorem dX6_price_12 : decode cX6_price 12 = .ok (.iload 4, 2) := by decide +kernel
theorem dX6_price_14 : decode cX6_price 14 = .ok (.iconst 0, 1) := by decide +kernel
theorem dX6_price_15 : decode cX6_price 15 = .ok (.aload_n 0, 1) := by decide +kernel
theorem dX6_price_16 : decode cX6_price 16 = .ok (.iload_n 1, 1) := by decide +kernel
theorem dX6_price_17 : decode cX6_price 17 = .ok (.iload 5, 2) := by decide +kernel
theorem dX6_price_19 : decode cX6_price 19 = .ok (.iadd, 1) := by decide +kernel
theorem dX6_price_20 : decode cX6_price 20 = .ok (.aload_n 0, 1) := by decide +kernel
theorem dX6_price_21 : decode cX6_price 21 = .ok (.getfield 9, 3) := by decide +kernel
theorem dX6_price_24 : decode cX6_price 24 = .ok (.iload_n 1, 1) := by decide +kernel
theorem dX6_price_25 : decode cX6_price 25 = .ok (.iload 5, 2) := by decide +kernel
theorem dX6_price_27 : decode cX6_price 27 = .ok (.iadd, 1) := by decide +kernel
theorem dX6_price_28 : decode cX6_price 28 = .ok (.iload_n 3, 1) := by decide +kernel
theorem dX6_price_29 : decode cX6_price 29 = .ok (.invokevirtual 62, 3) := by decide +kernel
theorem dX6_price_32 : decode cX6_price 32 = .ok (.iadd, 1) := by decide +kernel
theorem dX6_price_33 : decode cX6_price 33 = .ok (.invokevirtual 70, 3) := by decide +kernel
theorem dX6_price_36 : decode cX6_price 36 = .ok (.invokestatic 85, 3) := by decide +kernel
theorem dX6_price_39 : decode cX6_price 39 = .ok (.iadd, 1) := by decide +kernel
theorem dX6_price_40 : decode cX6_price 40 = .ok (.istore 4, 2) := by decide +kernel
theorem dX6_price_42 : decode cX6_price 42 = .ok (.iinc 5 1, 3) := by decide +kernel
theorem dX6_price_45 : decode cX6_price 45 = .ok (.goto (-39), 3) := by decide +kernel
theorem dX6_price_48 : decode cX6_price 48 = .ok (.iload 4, 2) := by decide +kernel
theorem dX6_price_50 : decode cX6_price 50 = .ok (.ireturn, 1) := by decide +kernel
theorem dX7_init_0 : decode cX7_init 0 = .ok (.aload_n 0, 1) := by decide +kernel
theorem dX7_init_1 : decode cX7_init 1 = .ok (.invokespecial 3, 3) := by decide +kernel
theorem dX7_init_4 : decode cX7_init 4 = .ok (.aload_n 0, 1) := by decide +kernel
theorem dX7_init_5 : decode cX7_init 5 = .ok (.new 9, 3) := by decide +kernel
theorem dX7_init_8 : decode cX7_init 8 = .ok (.dup, 1) := by decide +kernel
theorem dX7_init_9 : decode cX7_init 9 = .ok (.invokespecial 11, 3) := by decide +kernel
theorem dX7_init_12 : decode cX7_init 12 = .ok (.putfield 12, 3) := by decide +kernel
theorem dX7_init_15 : decode cX7_init 15 = .ok (.aload_n 0, 1) := by decide +kernel
theorem dX7_init_16 : decode cX7_init 16 = .ok (.new 18, 3) := by decide +kernel
theorem dX7_init_19 : decode cX7_init 19 = .ok (.dup, 1) := by decide +kernel
theorem dX7_init_20 : decode cX7_init 20 = .ok (.invokespecial 20, 3) := by decide +kernel
theorem dX7_init_23 : decode cX7_init 23 = .ok (.putfield 21, 3) := by decide +kernel
theorem dX7_init_26 : decode cX7_init 26 = .ok (.aload_n 0, 1) := by decide +kernel
theorem dX7_init_27 : decode cX7_init 27 = .ok (.bipush 6, 2) := by decide +kernel
theorem dX7_init_29 : decode cX7_init 29 = .ok (.newarray .int, 2) := by decide +kernel
theorem dX7_init_31 : decode cX7_init 31 = .ok (.putfield 25, 3) := by decide +kernel
theorem dX7_init_34 : decode cX7_init 34 = .ok (.aload_n 0, 1) := by decide +kernel
theorem dX7_init_35 : decode cX7_init 35 = .ok (.bipush 6, 2) := by decide +kernel
theorem dX7_init_37 : decode cX7_init 37 = .ok (.newarray .int, 2) := by decide +kernel
theorem dX7_init_39 : decode cX7_init 39 = .ok (.putfield 29, 3) := by decide +kernel
theorem dX7_init_42 : decode cX7_init 42 = .ok (.aload_n 0, 1) := by decide +kernel
theorem dX7_init_43 : decode cX7_init 43 = .ok (.bipush 6, 2) := by decide +kernel
theorem dX7_init_45 : decode cX7_init 45 = .ok (.newarray .int, 2) := by decide +kernel
theorem dX7_init_47 : decode cX7_init 47 = .ok (.putfield 32, 3) := by decide +kernel
theorem dX7_init_50 : decode cX7_init 50 = .ok (.aload_n 0, 1) := by decide +kernel
theorem dX7_init_51 : decode cX7_init 51 = .ok (.sipush 1080, 3) := by decide +kernel
theorem dX7_init_54 : decode cX7_init 54 = .ok (.newarray .int, 2) := by decide +kernel
theorem dX7_init_56 : decode cX7_init 56 = .ok (.putfield 35, 3) := by decide +kernel
theorem dX7_init_59 : decode cX7_init 59 = .ok (.aload_n 0, 1) := by decide +kernel
theorem dX7_init_60 : decode cX7_init 60 = .ok (.bipush 84, 2) := by decide +kernel
theorem dX7_init_62 : decode cX7_init 62 = .ok (.newarray .int, 2) := by decide +kernel
theorem dX7_init_64 : decode cX7_init 64 = .ok (.putfield 38, 3) := by decide +kernel
theorem dX7_init_67 : decode cX7_init 67 = .ok (.aload_n 0, 1) := by decide +kernel
theorem dX7_init_68 : decode cX7_init 68 = .ok (.bipush 12, 2) := by decide +kernel
theorem dX7_init_70 : decode cX7_init 70 = .ok (.newarray .int, 2) := by decide +kernel
theorem dX7_init_72 : decode cX7_init 72 = .ok (.putfield 41, 3) := by decide +kernel
theorem dX7_init_75 : decode cX7_init 75 = .ok (.aload_n 0, 1) := by decide +kernel
theorem dX7_init_76 : decode cX7_init 76 = .ok (.bipush 12, 2) := by decide +kernel
theorem dX7_init_78 : decode cX7_init 78 = .ok (.newarray .int, 2) := by decide +kernel
theorem dX7_init_80 : decode cX7_init 80 = .ok (.putfield 44, 3) := by decide +kernel
theorem dX7_init_83 : decode cX7_init 83 = .ok (.return_, 1) := by decide +kernel
theorem dX7_begin_0 : decode cX7_begin 0 = .ok (.aload_n 0, 1) := by decide +kernel
theorem dX7_begin_1 : decode cX7_begin 1 = .ok (.iload_n 1, 1) := by decide +kernel
theorem dX7_begin_2 : decode cX7_begin 2 = .ok (.bipush 6, 2) := by decide +kernel
theorem dX7_begin_4 : decode cX7_begin 4 = .ok (.invokestatic 47, 3) := by decide +kernel
theorem dX7_begin_7 : decode cX7_begin 7 = .ok (.putfield 53, 3) := by decide +kernel
theorem dX7_begin_10 : decode cX7_begin 10 = .ok (.aload_n 0, 1) := by decide +kernel
theorem dX7_begin_11 : decode cX7_begin 11 = .ok (.iload_n 2, 1) := by decide +kernel
theorem dX7_begin_12 : decode cX7_begin 12 = .ok (.bipush 12, 2) := by decide +kernel
theorem dX7_begin_14 : decode cX7_begin 14 = .ok (.invokestatic 47, 3) := by decide +kernel
theorem dX7_begin_17 : decode cX7_begin 17 = .ok (.putfield 57, 3) := by decide +kernel
theorem dX7_begin_20 : decode cX7_begin 20 = .ok (.aload_n 0, 1) := by decide +kernel
theorem dX7_begin_21 : decode cX7_begin 21 = .ok (.getfield 12, 3) := by decide +kernel
theorem dX7_begin_24 : decode cX7_begin 24 = .ok (.aload_n 0, 1) := by decide +kernel
theorem dX7_begin_25 : decode cX7_begin 25 = .ok (.getfield 57, 3) := by decide +kernel
theorem dX7_begin_28 : decode cX7_begin 28 = .ok (.invokevirtual 60, 3) := by decide +kernel
theorem dX7_begin_31 : decode cX7_begin 31 = .ok (.aload_n 0, 1) := by decide +kernel
theorem dX7_begin_32 : decode cX7_begin 32 = .ok (.getfield 41, 3) := by decide +kernel
theorem dX7_begin_35 : decode cX7_begin 35 = .ok (.iconst 0, 1) := by decide +kernel
theorem dX7_begin_36 : decode cX7_begin 36 = .ok (.invokestatic 64, 3) := by decide +kernel
theorem dX7_begin_39 : decode cX7_begin 39 = .ok (.return_, 1) := by decide +kernel
theorem dX7_priceAt_0 : decode cX7_priceAt 0 = .ok (.iload_n 0, 1) := by decide +kernel
theorem dX7_priceAt_1 : decode cX7_priceAt 1 = .ok (.bipush 15, 2) := by decide +kernel
theorem dX7_priceAt_3 : decode cX7_priceAt 3 = .ok (.imul, 1) := by decide +kernel
theorem dX7_priceAt_4 : decode cX7_priceAt 4 = .ok (.iload_n 1, 1) := by decide +kernel
theorem dX7_priceAt_5 : decode cX7_priceAt 5 = .ok (.iadd, 1) := by decide +kernel
theorem dX7_priceAt_6 : decode cX7_priceAt 6 = .ok (.bipush 12, 2) := by decide +kernel
theorem dX7_priceAt_8 : decode cX7_priceAt 8 = .ok (.imul, 1) := by decide +kernel
theorem dX7_priceAt_9 : decode cX7_priceAt 9 = .ok (.ireturn, 1) := by decide +kernel
theorem dX7_rate_0 : decode cX7_rate 0 = .ok (.aload_n 0, 1) := by decide +kernel
theorem dX7_rate_1 : decode cX7_rate 1 = .ok (.getfield 32, 3) := by decide +kernel
theorem dX7_rate_4 : decode cX7_rate 4 = .ok (.iload_n 1, 1) := by decide +kernel
theorem dX7_rate_5 : decode cX7_rate 5 = .ok (.iconst 0, 1) := by decide +kernel
theorem dX7_rate_6 : decode cX7_rate 6 = .ok (.iastore, 1) := by decide +kernel
theorem dX7_rate_7 : decode cX7_rate 7 = .ok (.iconst 0, 1) := by decide +kernel
theorem dX7_rate_8 : decode cX7_rate 8 = .ok (.istore 5, 2) := by decide +kernel
theorem dX7_rate_10 : decode cX7_rate 10 = .ok (.iload 5, 2) := by decide +kernel
theorem dX7_rate_12 : decode cX7_rate 12 = .ok (.aload_n 2, 1) := by decide +kernel
theorem dX7_rate_13 : decode cX7_rate 13 = .ok (.invokevirtual 70, 3) := by decide +kernel
theorem dX7_rate_16 : decode cX7_rate 16 = .ok (.if_icmp .ge 80, 3) := by decide +kernel
theorem dX7_rate_19 : decode cX7_rate 19 = .ok (.aload_n 0, 1) := by decide +kernel
theorem dX7_rate_20 : decode cX7_rate 20 = .ok (.getfield 21, 3) := by decide +kernel
theorem dX7_rate_23 : decode cX7_rate 23 = .ok (.aload_n 2, 1) := by decide +kernel
theorem dX7_rate_24 : decode cX7_rate 24 = .ok (.aload_n 3, 1) := by decide +kernel
theorem dX7_rate_25 : decode cX7_rate 25 = .ok (.aload 4, 2) := by decide +kernel
theorem dX7_rate_27 : decode cX7_rate 27 = .ok (.iload 5, 2) := by decide +kernel
theorem dX7_rate_29 : decode cX7_rate 29 = .ok (.invokevirtual 76, 3) := by decide +kernel
theorem dX7_rate_32 : decode cX7_rate 32 = .ok (.ifCond .eq 58, 3) := by decide +kernel
theorem dX7_rate_35 : decode cX7_rate 35 = .ok (.aload_n 0, 1) := by decide +kernel
theorem dX7_rate_36 : decode cX7_rate 36 = .ok (.getfield 32, 3) := by decide +kernel
theorem dX7_rate_39 : decode cX7_rate 39 = .ok (.iload_n 1, 1) := by decide +kernel
theorem dX7_rate_40 : decode cX7_rate 40 = .ok (.dup2, 1) := by decide +kernel
theorem dX7_rate_41 : decode cX7_rate 41 = .ok (.iaload, 1) := by decide +kernel
theorem dX7_rate_42 : decode cX7_rate 42 = .ok (.iconst 1, 1) := by decide +kernel
theorem dX7_rate_43 : decode cX7_rate 43 = .ok (.iload 5, 2) := by decide +kernel
theorem dX7_rate_45 : decode cX7_rate 45 = .ok (.ishl, 1) := by decide +kernel
theorem dX7_rate_46 : decode cX7_rate 46 = .ok (.ior, 1) := by decide +kernel
theorem dX7_rate_47 : decode cX7_rate 47 = .ok (.iastore, 1) := by decide +kernel
theorem dX7_rate_48 : decode cX7_rate 48 = .ok (.iconst 0, 1) := by decide +kernel
theorem dX7_rate_49 : decode cX7_rate 49 = .ok (.istore 6, 2) := by decide +kernel
theorem dX7_rate_51 : decode cX7_rate 51 = .ok (.iload 6, 2) := by decide +kernel
theorem dX7_rate_53 : decode cX7_rate 53 = .ok (.aload_n 0, 1) := by decide +kernel
theorem dX7_rate_54 : decode cX7_rate 54 = .ok (.getfield 57, 3) := by decide +kernel
theorem dX7_rate_57 : decode cX7_rate 57 = .ok (.if_icmp .ge 33, 3) := by decide +kernel
theorem dX7_rate_60 : decode cX7_rate 60 = .ok (.aload_n 0, 1) := by decide +kernel
theorem dX7_rate_61 : decode cX7_rate 61 = .ok (.getfield 35, 3) := by decide +kernel
theorem dX7_rate_64 : decode cX7_rate 64 = .ok (.iload_n 1, 1) := by decide +kernel
theorem dX7_rate_65 : decode cX7_rate 65 = .ok (.iload 5, 2) := by decide +kernel
theorem dX7_rate_67 : decode cX7_rate 67 = .ok (.invokestatic 80, 3) := by decide +kernel
theorem dX7_rate_70 : decode cX7_rate 70 = .ok (.iload 6, 2) := by decide +kernel
theorem dX7_rate_72 : decode cX7_rate 72 = .ok (.iadd, 1) := by decide +kernel
theorem dX7_rate_73 : decode cX7_rate 73 = .ok (.aload_n 0, 1) := by decide +kernel
theorem dX7_rate_74 : decode cX7_rate 74 = .ok (.getfield 21, 3) := by decide +kernel
theorem dX7_rate_77 : decode cX7_rate 77 = .ok (.aload_n 3, 1) := by decide +kernel
theorem dX7_rate_78 : decode cX7_rate 78 = .ok (.iload 6, 2) := by decide +kernel
theorem dX7_rate_80 : decode cX7_rate 80 = .ok (.invokevirtual 83, 3) := by decide +kernel
theorem dX7_rate_83 : decode cX7_rate 83 = .ok (.iastore, 1) := by decide +kernel
theorem dX7_rate_84 : decode cX7_rate 84 = .ok (.iinc 6 1, 3) := by decide +kernel
theorem dX7_rate_87 : decode cX7_rate 87 = .ok (.goto (-36), 3) := by decide +kernel
theorem dX7_rate_90 : decode cX7_rate 90 = .ok (.iinc 5 1, 3) := by decide +kernel
theorem dX7_rate_93 : decode cX7_rate 93 = .ok (.goto (-83), 3) := by decide +kernel
theorem dX7_rate_96 : decode cX7_rate 96 = .ok (.aload_n 0, 1) := by decide +kernel
theorem dX7_rate_97 : decode cX7_rate 97 = .ok (.getfield 32, 3) := by decide +kernel
theorem dX7_rate_100 : decode cX7_rate 100 = .ok (.iload_n 1, 1) := by decide +kernel
theorem dX7_rate_101 : decode cX7_rate 101 = .ok (.iaload, 1) := by decide +kernel
theorem dX7_rate_102 : decode cX7_rate 102 = .ok (.ifCond .eq 7, 3) := by decide +kernel
theorem dX7_rate_105 : decode cX7_rate 105 = .ok (.iconst 1, 1) := by decide +kernel
theorem dX7_rate_106 : decode cX7_rate 106 = .ok (.goto 4, 3) := by decide +kernel
theorem dX7_rate_109 : decode cX7_rate 109 = .ok (.iconst 0, 1) := by decide +kernel
theorem dX7_rate_110 : decode cX7_rate 110 = .ok (.ireturn, 1) := by decide +kernel
theorem dX7_findBest_0 : decode cX7_findBest 0 = .ok (.aload_n 0, 1) := by decide +kernel
theorem dX7_findBest_1 : decode cX7_findBest 1 = .ok (.getfield 38, 3) := by decide +kernel
theorem dX7_findBest_4 : decode cX7_findBest 4 = .ok (.iconst 0, 1) := by decide +kernel
theorem dX7_findBest_5 : decode cX7_findBest 5 = .ok (.invokestatic 64, 3) := by decide +kernel
theorem dX7_findBest_8 : decode cX7_findBest 8 = .ok (.aload_n 0, 1) := by decide +kernel
theorem dX7_findBest_9 : decode cX7_findBest 9 = .ok (.getfield 53, 3) := by decide +kernel
theorem dX7_findBest_12 : decode cX7_findBest 12 = .ok (.iconst 1, 1) := by decide +kernel
theorem dX7_findBest_13 : decode cX7_findBest 13 = .ok (.isub, 1) := by decide +kernel
theorem dX7_findBest_14 : decode cX7_findBest 14 = .ok (.istore_n 1, 1) := by decide +kernel
theorem dX7_findBest_15 : decode cX7_findBest 15 = .ok (.iload_n 1, 1) := by decide +kernel
theorem dX7_findBest_16 : decode cX7_findBest 16 = .ok (.ifCond .lt 56, 3) := by decide +kernel
theorem dX7_findBest_19 : decode cX7_findBest 19 = .ok (.iconst 0, 1) := by decide +kernel
theorem dX7_findBest_20 : decode cX7_findBest 20 = .ok (.istore_n 2, 1) := by decide +kernel
theorem dX7_findBest_21 : decode cX7_findBest 21 = .ok (.iload_n 2, 1) := by decide +kernel
theorem dX7_findBest_22 : decode cX7_findBest 22 = .ok (.aload_n 0, 1) := by decide +kernel
theorem dX7_findBest_23 : decode cX7_findBest 23 = .ok (.getfield 57, 3) := by decide +kernel
theorem dX7_findBest_26 : decode cX7_findBest 26 = .ok (.if_icmp .ge 40, 3) := by decide +kernel
theorem dX7_findBest_29 : decode cX7_findBest 29 = .ok (.aload_n 0, 1) := by decide +kernel
theorem dX7_findBest_30 : decode cX7_findBest 30 = .ok (.getfield 38, 3) := by decide +kernel
theorem dX7_findBest_33 : decode cX7_findBest 33 = .ok (.iload_n 1, 1) := by decide +kernel
theorem dX7_findBest_34 : decode cX7_findBest 34 = .ok (.bipush 12, 2) := by decide +kernel
theorem dX7_findBest_36 : decode cX7_findBest 36 = .ok (.imul, 1) := by decide +kernel
theorem dX7_findBest_37 : decode cX7_findBest 37 = .ok (.iload_n 2, 1) := by decide +kernel
theorem dX7_findBest_38 : decode cX7_findBest 38 = .ok (.iadd, 1) := by decide +kernel
theorem dX7_findBest_39 : decode cX7_findBest 39 = .ok (.aload_n 0, 1) := by decide +kernel
theorem dX7_findBest_40 : decode cX7_findBest 40 = .ok (.getfield 38, 3) := by decide +kernel
theorem dX7_findBest_43 : decode cX7_findBest 43 = .ok (.iload_n 1, 1) := by decide +kernel
theorem dX7_findBest_44 : decode cX7_findBest 44 = .ok (.iconst 1, 1) := by decide +kernel
theorem dX7_findBest_45 : decode cX7_findBest 45 = .ok (.iadd, 1) := by decide +kernel
theorem dX7_findBest_46 : decode cX7_findBest 46 = .ok (.bipush 12, 2) := by decide +kernel
theorem dX7_findBest_48 : decode cX7_findBest 48 = .ok (.imul, 1) := by decide +kernel
theorem dX7_findBest_49 : decode cX7_findBest 49 = .ok (.iload_n 2, 1) := by decide +kernel
theorem dX7_findBest_50 : decode cX7_findBest 50 = .ok (.iadd, 1) := by decide +kernel
theorem dX7_findBest_51 : decode cX7_findBest 51 = .ok (.iaload, 1) := by decide +kernel
theorem dX7_findBest_52 : decode cX7_findBest 52 = .ok (.aload_n 0, 1) := by decide +kernel
theorem dX7_findBest_53 : decode cX7_findBest 53 = .ok (.iload_n 1, 1) := by decide +kernel
theorem dX7_findBest_54 : decode cX7_findBest 54 = .ok (.iload_n 2, 1) := by decide +kernel
theorem dX7_findBest_55 : decode cX7_findBest 55 = .ok (.invokevirtual 87, 3) := by decide +kernel
theorem dX7_findBest_58 : decode cX7_findBest 58 = .ok (.iadd, 1) := by decide +kernel
theorem dX7_findBest_59 : decode cX7_findBest 59 = .ok (.iastore, 1) := by decide +kernel
theorem dX7_findBest_60 : decode cX7_findBest 60 = .ok (.iinc 2 1, 3) := by decide +kernel
theorem dX7_findBest_63 : decode cX7_findBest 63 = .ok (.goto (-42), 3) := by decide +kernel
theorem dX7_findBest_66 : decode cX7_findBest 66 = .ok (.iinc 1 (-1), 3) := by decide +kernel
theorem dX7_findBest_69 : decode cX7_findBest 69 = .ok (.goto (-54), 3) := by decide +kernel
theorem dX7_findBest_72 : decode cX7_findBest 72 = .ok (.aload_n 0, 1) := by decide +kernel
theorem dX7_findBest_73 : decode cX7_findBest 73 = .ok (.iconst 0, 1) := by decide +kernel
theorem dX7_findBest_74 : decode cX7_findBest 74 = .ok (.invokevirtual 90, 3) := by decide +kernel
theorem dX7_findBest_77 : decode cX7_findBest 77 = .ok (.return_, 1) := by decide +kernel
theorem dX7_leastAt_0 : decode cX7_leastAt 0 = .ok (.iconst (-1), 1) := by decide +kernel
theorem dX7_leastAt_1 : decode cX7_leastAt 1 = .ok (.istore_n 3, 1) := by decide +kernel
theorem dX7_leastAt_2 : decode cX7_leastAt 2 = .ok (.iconst 0, 1) := by decide +kernel
theorem dX7_leastAt_3 : decode cX7_leastAt 3 = .ok (.istore 4, 2) := by decide +kernel
theorem dX7_leastAt_5 : decode cX7_leastAt 5 = .ok (.iload 4, 2) := by decide +kernel
theorem dX7_leastAt_7 : decode cX7_leastAt 7 = .ok (.bipush 15, 2) := by decide +kernel
theorem dX7_leastAt_9 : decode cX7_leastAt 9 = .ok (.if_icmp .ge 55, 3) := by decide +kernel
theorem dX7_leastAt_12 : decode cX7_leastAt 12 = .ok (.aload_n 0, 1) := by decide +kernel
theorem dX7_leastAt_13 : decode cX7_leastAt 13 = .ok (.getfield 32, 3) := by decide +kernel
theorem dX7_leastAt_16 : decode cX7_leastAt 16 = .ok (.iload_n 1, 1) := by decide +kernel
theorem dX7_leastAt_17 : decode cX7_leastAt 17 = .ok (.iaload, 1) := by decide +kernel
theorem dX7_leastAt_18 : decode cX7_leastAt 18 = .ok (.iload 4, 2) := by decide +kernel
theorem dX7_leastAt_20 : decode cX7_leastAt 20 = .ok (.invokestatic 93, 3) := by decide +kernel
theorem dX7_leastAt_23 : decode cX7_leastAt 23 = .ok (.ifCond .eq 35, 3) := by decide +kernel
theorem dX7_leastAt_26 : decode cX7_leastAt 26 = .ok (.aload_n 0, 1) := by decide +kernel
theorem dX7_leastAt_27 : decode cX7_leastAt 27 = .ok (.getfield 35, 3) := by decide +kernel
theorem dX7_leastAt_30 : decode cX7_leastAt 30 = .ok (.iload_n 1, 1) := by decide +kernel
theorem dX7_leastAt_31 : decode cX7_leastAt 31 = .ok (.iload 4, 2) := by decide +kernel
theorem dX7_leastAt_33 : decode cX7_leastAt 33 = .ok (.invokestatic 80, 3) := by decide +kernel
theorem dX7_leastAt_36 : decode cX7_leastAt 36 = .ok (.iload_n 2, 1) := by decide +kernel
theorem dX7_leastAt_37 : decode cX7_leastAt 37 = .ok (.iadd, 1) := by decide +kernel
theorem dX7_leastAt_38 : decode cX7_leastAt 38 = .ok (.iaload, 1) := by decide +kernel
theorem dX7_leastAt_39 : decode cX7_leastAt 39 = .ok (.istore 5, 2) := by decide +kernel
theorem dX7_leastAt_41 : decode cX7_leastAt 41 = .ok (.iload_n 3, 1) := by decide +kernel
theorem dX7_leastAt_42 : decode cX7_leastAt 42 = .ok (.iconst (-1), 1) := by decide +kernel
theorem dX7_leastAt_43 : decode cX7_leastAt 43 = .ok (.if_icmp .ne 8, 3) := by decide +kernel
theorem dX7_leastAt_46 : decode cX7_leastAt 46 = .ok (.iload 5, 2) := by decide +kernel
theorem dX7_leastAt_48 : decode cX7_leastAt 48 = .ok (.goto 9, 3) := by decide +kernel
theorem dX7_leastAt_51 : decode cX7_leastAt 51 = .ok (.iload_n 3, 1) := by decide +kernel
theorem dX7_leastAt_52 : decode cX7_leastAt 52 = .ok (.iload 5, 2) := by decide +kernel
theorem dX7_leastAt_54 : decode cX7_leastAt 54 = .ok (.invokestatic 47, 3) := by decide +kernel
theorem dX7_leastAt_57 : decode cX7_leastAt 57 = .ok (.istore_n 3, 1) := by decide +kernel
theorem dX7_leastAt_58 : decode cX7_leastAt 58 = .ok (.iinc 4 1, 3) := by decide +kernel
theorem dX7_leastAt_61 : decode cX7_leastAt 61 = .ok (.goto (-56), 3) := by decide +kernel
theorem dX7_leastAt_64 : decode cX7_leastAt 64 = .ok (.iload_n 3, 1) := by decide +kernel
theorem dX7_leastAt_65 : decode cX7_leastAt 65 = .ok (.ireturn, 1) := by decide +kernel
theorem dX7_search_0 : decode cX7_search 0 = .ok (.iconst 0, 1) := by decide +kernel
theorem dX7_search_1 : decode cX7_search 1 = .ok (.istore_n 2, 1) := by decide +kernel
theorem dX7_search_2 : decode cX7_search 2 = .ok (.iload_n 2, 1) := by decide +kernel
theorem dX7_search_3 : decode cX7_search 3 = .ok (.aload_n 0, 1) := by decide +kernel
theorem dX7_search_4 : decode cX7_search 4 = .ok (.getfield 57, 3) := by decide +kernel
theorem dX7_search_7 : decode cX7_search 7 = .ok (.if_icmp .ge 33, 3) := by decide +kernel
theorem dX7_search_10 : decode cX7_search 10 = .ok (.aload_n 0, 1) := by decide +kernel
theorem dX7_search_11 : decode cX7_search 11 = .ok (.getfield 44, 3) := by decide +kernel
theorem dX7_search_14 : decode cX7_search 14 = .ok (.iload_n 2, 1) := by decide +kernel
theorem dX7_search_15 : decode cX7_search 15 = .ok (.aload_n 0, 1) := by decide +kernel
theorem dX7_search_16 : decode cX7_search 16 = .ok (.getfield 41, 3) := by decide +kernel
theorem dX7_search_19 : decode cX7_search 19 = .ok (.iload_n 2, 1) := by decide +kernel
theorem dX7_search_20 : decode cX7_search 20 = .ok (.iaload, 1) := by decide +kernel
theorem dX7_search_21 : decode cX7_search 21 = .ok (.aload_n 0, 1) := by decide +kernel
theorem dX7_search_22 : decode cX7_search 22 = .ok (.getfield 38, 3) := by decide +kernel
theorem dX7_search_25 : decode cX7_search 25 = .ok (.iload_n 1, 1) := by decide +kernel
theorem dX7_search_26 : decode cX7_search 26 = .ok (.bipush 12, 2) := by decide +kernel
theorem dX7_search_28 : decode cX7_search 28 = .ok (.imul, 1) := by decide +kernel
theorem dX7_search_29 : decode cX7_search 29 = .ok (.iload_n 2, 1) := by decide +kernel
theorem dX7_search_30 : decode cX7_search 30 = .ok (.iadd, 1) := by decide +kernel
theorem dX7_search_31 : decode cX7_search 31 = .ok (.iaload, 1) := by decide +kernel
theorem dX7_search_32 : decode cX7_search 32 = .ok (.iadd, 1) := by decide +kernel
theorem dX7_search_33 : decode cX7_search 33 = .ok (.iastore, 1) := by decide +kernel
theorem dX7_search_34 : decode cX7_search 34 = .ok (.iinc 2 1, 3) := by decide +kernel
theorem dX7_search_37 : decode cX7_search 37 = .ok (.goto (-35), 3) := by decide +kernel
theorem dX7_search_40 : decode cX7_search 40 = .ok (.aload_n 0, 1) := by decide +kernel
theorem dX7_search_41 : decode cX7_search 41 = .ok (.getfield 12, 3) := by decide +kernel
theorem dX7_search_44 : decode cX7_search 44 = .ok (.aload_n 0, 1) := by decide +kernel
theorem dX7_search_45 : decode cX7_search 45 = .ok (.getfield 44, 3) := by decide +kernel
theorem dX7_search_48 : decode cX7_search 48 = .ok (.invokevirtual 97, 3) := by decide +kernel
theorem dX7_search_51 : decode cX7_search 51 = .ok (.ifCond .ne 4, 3) := by decide +kernel
theorem dX7_search_54 : decode cX7_search 54 = .ok (.return_, 1) := by decide +kernel
theorem dX7_search_55 : decode cX7_search 55 = .ok (.iload_n 1, 1) := by decide +kernel
theorem dX7_search_56 : decode cX7_search 56 = .ok (.aload_n 0, 1) := by decide +kernel
theorem dX7_search_57 : decode cX7_search 57 = .ok (.getfield 53, 3) := by decide +kernel
theorem dX7_search_60 : decode cX7_search 60 = .ok (.if_icmp .lt 32, 3) := by decide +kernel
theorem dX7_search_63 : decode cX7_search 63 = .ok (.aload_n 0, 1) := by decide +kernel
theorem dX7_search_64 : decode cX7_search 64 = .ok (.getfield 12, 3) := by decide +kernel
theorem dX7_search_67 : decode cX7_search 67 = .ok (.aload_n 0, 1) := by decide +kernel
theorem dX7_search_68 : decode cX7_search 68 = .ok (.getfield 41, 3) := by decide +kernel
theorem dX7_search_71 : decode cX7_search 71 = .ok (.invokevirtual 101, 3) := by decide +kernel
theorem dX7_search_74 : decode cX7_search 74 = .ok (.aload_n 0, 1) := by decide +kernel
theorem dX7_search_75 : decode cX7_search 75 = .ok (.getfield 29, 3) := by decide +kernel
theorem dX7_search_78 : decode cX7_search 78 = .ok (.iconst 0, 1) := by decide +kernel
theorem dX7_search_79 : decode cX7_search 79 = .ok (.aload_n 0, 1) := by decide +kernel
theorem dX7_search_80 : decode cX7_search 80 = .ok (.getfield 25, 3) := by decide +kernel
theorem dX7_search_83 : decode cX7_search 83 = .ok (.iconst 0, 1) := by decide +kernel
theorem dX7_search_84 : decode cX7_search 84 = .ok (.aload_n 0, 1) := by decide +kernel
theorem dX7_search_85 : decode cX7_search 85 = .ok (.getfield 53, 3) := by decide +kernel
theorem dX7_search_88 : decode cX7_search 88 = .ok (.invokestatic 105, 3) := by decide +kernel
theorem dX7_search_91 : decode cX7_search 91 = .ok (.return_, 1) := by decide +kernel
theorem dX7_search_92 : decode cX7_search 92 = .ok (.iconst 0, 1) := by decide +kernel
theorem dX7_search_93 : decode cX7_search 93 = .ok (.istore_n 2, 1) := by decide +kernel
theorem dX7_search_94 : decode cX7_search 94 = .ok (.iload_n 2, 1) := by decide +kernel
theorem dX7_search_95 : decode cX7_search 95 = .ok (.bipush 15, 2) := by decide +kernel
theorem dX7_search_97 : decode cX7_search 97 = .ok (.if_icmp .ge 39, 3) := by decide +kernel
theorem dX7_search_100 : decode cX7_search 100 = .ok (.aload_n 0, 1) := by decide +kernel
theorem dX7_search_101 : decode cX7_search 101 = .ok (.getfield 32, 3) := by decide +kernel
theorem dX7_search_104 : decode cX7_search 104 = .ok (.iload_n 1, 1) := by decide +kernel
theorem dX7_search_105 : decode cX7_search 105 = .ok (.iaload, 1) := by decide +kernel
theorem dX7_search_106 : decode cX7_search 106 = .ok (.iload_n 2, 1) := by decide +kernel
theorem dX7_search_107 : decode cX7_search 107 = .ok (.invokestatic 93, 3) := by decide +kernel
theorem dX7_search_110 : decode cX7_search 110 = .ok (.ifCond .eq 20, 3) := by decide +kernel
theorem dX7_search_113 : decode cX7_search 113 = .ok (.aload_n 0, 1) := by decide +kernel
theorem dX7_search_114 : decode cX7_search 114 = .ok (.getfield 29, 3) := by decide +kernel
theorem dX7_search_117 : decode cX7_search 117 = .ok (.iload_n 1, 1) := by decide +kernel
theorem dX7_search_118 : decode cX7_search 118 = .ok (.iload_n 2, 1) := by decide +kernel
theorem dX7_search_119 : decode cX7_search 119 = .ok (.iastore, 1) := by decide +kernel
theorem dX7_search_120 : decode cX7_search 120 = .ok (.aload_n 0, 1) := by decide +kernel
theorem dX7_search_121 : decode cX7_search 121 = .ok (.iload_n 1, 1) := by decide +kernel
theorem dX7_search_122 : decode cX7_search 122 = .ok (.iload_n 1, 1) := by decide +kernel
theorem dX7_search_123 : decode cX7_search 123 = .ok (.iload_n 2, 1) := by decide +kernel
theorem dX7_search_124 : decode cX7_search 124 = .ok (.invokestatic 80, 3) := by decide +kernel
theorem dX7_search_127 : decode cX7_search 127 = .ok (.invokevirtual 111, 3) := by decide +kernel
theorem dX7_search_130 : decode cX7_search 130 = .ok (.iinc 2 1, 3) := by decide +kernel
theorem dX7_search_133 : decode cX7_search 133 = .ok (.goto (-39), 3) := by decide +kernel
theorem dX7_search_136 : decode cX7_search 136 = .ok (.return_, 1) := by decide +kernel
theorem dX7_searchBehind_0 : decode cX7_searchBehind 0 = .ok (.aload_n 0, 1) := by decide +kernel
theorem dX7_searchBehind_1 : decode cX7_searchBehind 1 = .ok (.iload_n 2, 1) := by decide +kernel
theorem dX7_searchBehind_2 : decode cX7_searchBehind 2 = .ok (.iconst 1, 1) := by decide +kernel
theorem dX7_searchBehind_3 : decode cX7_searchBehind 3 = .ok (.invokevirtual 115, 3) := by decide +kernel
theorem dX7_searchBehind_6 : decode cX7_searchBehind 6 = .ok (.aload_n 0, 1) := by decide +kernel
theorem dX7_searchBehind_7 : decode cX7_searchBehind 7 = .ok (.iload_n 1, 1) := by decide +kernel
theorem dX7_searchBehind_8 : decode cX7_searchBehind 8 = .ok (.iconst 1, 1) := by decide +kernel
theorem dX7_searchBehind_9 : decode cX7_searchBehind 9 = .ok (.iadd, 1) := by decide +kernel
theorem dX7_searchBehind_10 : decode cX7_searchBehind 10 = .ok (.invokevirtual 90, 3) := by decide +kernel
theorem dX7_searchBehind_13 : decode cX7_searchBehind 13 = .ok (.aload_n 0, 1) := by decide +kernel
theorem dX7_searchBehind_14 : decode cX7_searchBehind 14 = .ok (.iload_n 2, 1) := by decide +kernel
theorem dX7_searchBehind_15 : decode cX7_searchBehind 15 = .ok (.iconst (-1), 1) := by decide +kernel
theorem dX7_searchBehind_16 : decode cX7_searchBehind 16 = .ok (.invokevirtual 115, 3) := by decide +kernel
theorem dX7_searchBehind_19 : decode cX7_searchBehind 19 = .ok (.return_, 1) := by decide +kernel
theorem dX7_charge_0 : decode cX7_charge 0 = .ok (.iconst 0, 1) := by decide +kernel
theorem dX7_charge_1 : decode cX7_charge 1 = .ok (.istore_n 3, 1) := by decide +kernel
theorem dX7_charge_2 : decode cX7_charge 2 = .ok (.iload_n 3, 1) := by decide +kernel
theorem dX7_charge_3 : decode cX7_charge 3 = .ok (.aload_n 0, 1) := by decide +kernel
theorem dX7_charge_4 : decode cX7_charge 4 = .ok (.getfield 57, 3) := by decide +kernel
theorem dX7_charge_7 : decode cX7_charge 7 = .ok (.if_icmp .ge 28, 3) := by decide +kernel
theorem dX7_charge_10 : decode cX7_charge 10 = .ok (.aload_n 0, 1) := by decide +kernel
theorem dX7_charge_11 : decode cX7_charge 11 = .ok (.getfield 41, 3) := by decide +kernel
theorem dX7_charge_14 : decode cX7_charge 14 = .ok (.iload_n 3, 1) := by decide +kernel
theorem dX7_charge_15 : decode cX7_charge 15 = .ok (.dup2, 1) := by decide +kernel
theorem dX7_charge_16 : decode cX7_charge 16 = .ok (.iaload, 1) := by decide +kernel
theorem dX7_charge_17 : decode cX7_charge 17 = .ok (.iload_n 2, 1) := by decide +kernel
theorem dX7_charge_18 : decode cX7_charge 18 = .ok (.aload_n 0, 1) := by decide +kernel
theorem dX7_charge_19 : decode cX7_charge 19 = .ok (.getfield 35, 3) := by decide +kernel
theorem dX7_charge_22 : decode cX7_charge 22 = .ok (.iload_n 1, 1) := by decide +kernel
theorem dX7_charge_23 : decode cX7_charge 23 = .ok (.iload_n 3, 1) := by decide +kernel
theorem dX7_charge_24 : decode cX7_charge 24 = .ok (.iadd, 1) := by decide +kernel
theorem dX7_charge_25 : decode cX7_charge 25 = .ok (.iaload, 1) := by decide +kernel
theorem dX7_charge_26 : decode cX7_charge 26 = .ok (.imul, 1) := by decide +kernel
theorem dX7_charge_27 : decode cX7_charge 27 = .ok (.iadd, 1) := by decide +kernel
theorem dX7_charge_28 : decode cX7_charge 28 = .ok (.iastore, 1) := by decide +kernel
theorem dX7_charge_29 : decode cX7_charge 29 = .ok (.iinc 3 1, 3) := by decide +kernel
theorem dX7_charge_32 : decode cX7_charge 32 = .ok (.goto (-30), 3) := by decide +kernel
theorem dX7_charge_35 : decode cX7_charge 35 = .ok (.return_, 1) := by decide +kernel
theorem dX8_init_0 : decode cX8_init 0 = .ok (.aload_n 0, 1) := by decide +kernel
theorem dX8_init_1 : decode cX8_init 1 = .ok (.invokespecial 3, 3) := by decide +kernel
theorem dX8_init_4 : decode cX8_init 4 = .ok (.return_, 1) := by decide +kernel
theorem dX8_seat_0 : decode cX8_seat 0 = .ok (.aload_n 0, 1) := by decide +kernel
theorem dX8_seat_1 : decode cX8_seat 1 = .ok (.aload_n 1, 1) := by decide +kernel
theorem dX8_seat_2 : decode cX8_seat 2 = .ok (.iload 4, 2) := by decide +kernel
theorem dX8_seat_4 : decode cX8_seat 4 = .ok (.invokevirtual 9, 3) := by decide +kernel
theorem dX8_seat_7 : decode cX8_seat 7 = .ok (.putfield 15, 3) := by decide +kernel
theorem dX8_seat_10 : decode cX8_seat 10 = .ok (.aload_n 0, 1) := by decide +kernel
theorem dX8_seat_11 : decode cX8_seat 11 = .ok (.aload_n 1, 1) := by decide +kernel
theorem dX8_seat_12 : decode cX8_seat 12 = .ok (.iload 4, 2) := by decide +kernel
theorem dX8_seat_14 : decode cX8_seat 14 = .ok (.invokevirtual 21, 3) := by decide +kernel
theorem dX8_seat_17 : decode cX8_seat 17 = .ok (.putfield 24, 3) := by decide +kernel
theorem dX8_seat_20 : decode cX8_seat 20 = .ok (.aload_n 0, 1) := by decide +kernel
theorem dX8_seat_21 : decode cX8_seat 21 = .ok (.aload_n 1, 1) := by decide +kernel
theorem dX8_seat_22 : decode cX8_seat 22 = .ok (.aload_n 2, 1) := by decide +kernel
theorem dX8_seat_23 : decode cX8_seat 23 = .ok (.aload_n 3, 1) := by decide +kernel
theorem dX8_seat_24 : decode cX8_seat 24 = .ok (.aload_n 0, 1) := by decide +kernel
theorem dX8_seat_25 : decode cX8_seat 25 = .ok (.getfield 15, 3) := by decide +kernel
theorem dX8_seat_28 : decode cX8_seat 28 = .ok (.invokestatic 27, 3) := by decide +kernel
theorem dX8_seat_31 : decode cX8_seat 31 = .ok (.putfield 31, 3) := by decide +kernel
theorem dX8_seat_34 : decode cX8_seat 34 = .ok (.aload_n 0, 1) := by decide +kernel
theorem dX8_seat_35 : decode cX8_seat 35 = .ok (.aload_n 0, 1) := by decide +kernel
theorem dX8_seat_36 : decode cX8_seat 36 = .ok (.getfield 24, 3) := by decide +kernel
theorem dX8_seat_39 : decode cX8_seat 39 = .ok (.iconst (-1), 1) := by decide +kernel
theorem dX8_seat_40 : decode cX8_seat 40 = .ok (.if_icmp .ne 7, 3) := by decide +kernel
theorem dX8_seat_43 : decode cX8_seat 43 = .ok (.iconst 0, 1) := by decide +kernel
theorem dX8_seat_44 : decode cX8_seat 44 = .ok (.goto 13, 3) := by decide +kernel
theorem dX8_seat_47 : decode cX8_seat 47 = .ok (.aload_n 1, 1) := by decide +kernel
theorem dX8_seat_48 : decode cX8_seat 48 = .ok (.aload_n 2, 1) := by decide +kernel
theorem dX8_seat_49 : decode cX8_seat 49 = .ok (.aload_n 3, 1) := by decide +kernel
theorem dX8_seat_50 : decode cX8_seat 50 = .ok (.aload_n 0, 1) := by decide +kernel
theorem dX8_seat_51 : decode cX8_seat 51 = .ok (.getfield 24, 3) := by decide +kernel
theorem dX8_seat_54 : decode cX8_seat 54 = .ok (.invokestatic 27, 3) := by decide +kernel
theorem dX8_seat_57 : decode cX8_seat 57 = .ok (.putfield 34, 3) := by decide +kernel
theorem dX8_seat_60 : decode cX8_seat 60 = .ok (.aload_n 0, 1) := by decide +kernel
theorem dX8_seat_61 : decode cX8_seat 61 = .ok (.getfield 31, 3) := by decide +kernel
theorem dX8_seat_64 : decode cX8_seat 64 = .ok (.aload_n 0, 1) := by decide +kernel
theorem dX8_seat_65 : decode cX8_seat 65 = .ok (.getfield 34, 3) := by decide +kernel
theorem dX8_seat_68 : decode cX8_seat 68 = .ok (.iand, 1) := by decide +kernel
theorem dX8_seat_69 : decode cX8_seat 69 = .ok (.aload_n 1, 1) := by decide +kernel
theorem dX8_seat_70 : decode cX8_seat 70 = .ok (.invokevirtual 37, 3) := by decide +kernel
theorem dX8_seat_73 : decode cX8_seat 73 = .ok (.iconst (-1), 1) := by decide +kernel
theorem dX8_seat_74 : decode cX8_seat 74 = .ok (.ixor, 1) := by decide +kernel
theorem dX8_seat_75 : decode cX8_seat 75 = .ok (.iand, 1) := by decide +kernel
theorem dX8_seat_76 : decode cX8_seat 76 = .ok (.istore 5, 2) := by decide +kernel
theorem dX8_seat_78 : decode cX8_seat 78 = .ok (.aload_n 0, 1) := by decide +kernel
theorem dX8_seat_79 : decode cX8_seat 79 = .ok (.aload_n 2, 1) := by decide +kernel
theorem dX8_seat_80 : decode cX8_seat 80 = .ok (.iload 5, 2) := by decide +kernel
theorem dX8_seat_82 : decode cX8_seat 82 = .ok (.invokevirtual 41, 3) := by decide +kernel
theorem dX8_seat_85 : decode cX8_seat 85 = .ok (.istore 6, 2) := by decide +kernel
theorem dX8_seat_87 : decode cX8_seat 87 = .ok (.aload_n 0, 1) := by decide +kernel
theorem dX8_seat_88 : decode cX8_seat 88 = .ok (.aload_n 0, 1) := by decide +kernel
theorem dX8_seat_89 : decode cX8_seat 89 = .ok (.getfield 31, 3) := by decide +kernel
theorem dX8_seat_92 : decode cX8_seat 92 = .ok (.iload 6, 2) := by decide +kernel
theorem dX8_seat_94 : decode cX8_seat 94 = .ok (.iconst (-1), 1) := by decide +kernel
theorem dX8_seat_95 : decode cX8_seat 95 = .ok (.ixor, 1) := by decide +kernel
theorem dX8_seat_96 : decode cX8_seat 96 = .ok (.iand, 1) := by decide +kernel
theorem dX8_seat_97 : decode cX8_seat 97 = .ok (.putfield 45, 3) := by decide +kernel
theorem dX8_seat_100 : decode cX8_seat 100 = .ok (.aload_n 0, 1) := by decide +kernel
theorem dX8_seat_101 : decode cX8_seat 101 = .ok (.aload_n 0, 1) := by decide +kernel
theorem dX8_seat_102 : decode cX8_seat 102 = .ok (.getfield 34, 3) := by decide +kernel
theorem dX8_seat_105 : decode cX8_seat 105 = .ok (.iload 5, 2) := by decide +kernel
theorem dX8_seat_107 : decode cX8_seat 107 = .ok (.iload 6, 2) := by decide +kernel
theorem dX8_seat_109 : decode cX8_seat 109 = .ok (.iconst (-1), 1) := by decide +kernel
theorem dX8_seat_110 : decode cX8_seat 110 = .ok (.ixor, 1) := by decide +kernel
theorem dX8_seat_111 : decode cX8_seat 111 = .ok (.iand, 1) := by decide +kernel
theorem dX8_seat_112 : decode cX8_seat 112 = .ok (.iconst (-1), 1) := by decide +kernel
theorem dX8_seat_113 : decode cX8_seat 113 = .ok (.ixor, 1) := by decide +kernel
theorem dX8_seat_114 : decode cX8_seat 114 = .ok (.iand, 1) := by decide +kernel
theorem dX8_seat_115 : decode cX8_seat 115 = .ok (.putfield 48, 3) := by decide +kernel
theorem dX8_seat_118 : decode cX8_seat 118 = .ok (.return_, 1) := by decide +kernel
theorem dX8_freeAt_0 : decode cX8_freeAt 0 = .ok (.aload_n 1, 1) := by decide +kernel
theorem dX8_freeAt_1 : decode cX8_freeAt 1 = .ok (.getfield 51, 3) := by decide +kernel
theorem dX8_freeAt_4 : decode cX8_freeAt 4 = .ok (.iload_n 3, 1) := by decide +kernel
theorem dX8_freeAt_5 : decode cX8_freeAt 5 = .ok (.iaload, 1) := by decide +kernel
theorem dX8_freeAt_6 : decode cX8_freeAt 6 = .ok (.istore 4, 2) := by decide +kernel
theorem dX8_freeAt_8 : decode cX8_freeAt 8 = .ok (.aload_n 1, 1) := by decide +kernel
theorem dX8_freeAt_9 : decode cX8_freeAt 9 = .ok (.getfield 57, 3) := by decide +kernel
theorem dX8_freeAt_12 : decode cX8_freeAt 12 = .ok (.iload_n 3, 1) := by decide +kernel
theorem dX8_freeAt_13 : decode cX8_freeAt 13 = .ok (.iaload, 1) := by decide +kernel
theorem dX8_freeAt_14 : decode cX8_freeAt 14 = .ok (.aload_n 2, 1) := by decide +kernel
theorem dX8_freeAt_15 : decode cX8_freeAt 15 = .ok (.iload 4, 2) := by decide +kernel
theorem dX8_freeAt_17 : decode cX8_freeAt 17 = .ok (.iload 4, 2) := by decide +kernel
theorem dX8_freeAt_19 : decode cX8_freeAt 19 = .ok (.aload_n 0, 1) := by decide +kernel
theorem dX8_freeAt_20 : decode cX8_freeAt 20 = .ok (.getfield 60, 3) := by decide +kernel
theorem dX8_freeAt_23 : decode cX8_freeAt 23 = .ok (.iadd, 1) := by decide +kernel
theorem dX8_freeAt_24 : decode cX8_freeAt 24 = .ok (.invokevirtual 63, 3) := by decide +kernel
theorem dX8_freeAt_27 : decode cX8_freeAt 27 = .ok (.iconst (-1), 1) := by decide +kernel
theorem dX8_freeAt_28 : decode cX8_freeAt 28 = .ok (.ixor, 1) := by decide +kernel
theorem dX8_freeAt_29 : decode cX8_freeAt 29 = .ok (.iand, 1) := by decide +kernel
theorem dX8_freeAt_30 : decode cX8_freeAt 30 = .ok (.ireturn, 1) := by decide +kernel
theorem dX8_preferSecond_0 : decode cX8_preferSecond 0 = .ok (.iconst 0, 1) := by decide +kernel
theorem dX8_preferSecond_1 : decode cX8_preferSecond 1 = .ok (.istore_n 3, 1) := by decide +kernel
theorem dX8_preferSecond_2 : decode cX8_preferSecond 2 = .ok (.iconst 0, 1) := by decide +kernel
theorem dX8_preferSecond_3 : decode cX8_preferSecond 3 = .ok (.istore 4, 2) := by decide +kernel
theorem dX8_preferSecond_5 : decode cX8_preferSecond 5 = .ok (.iload 4, 2) := by decide +kernel
theorem dX8_preferSecond_7 : decode cX8_preferSecond 7 = .ok (.bipush 12, 2) := by decide +kernel
theorem dX8_preferSecond_9 : decode cX8_preferSecond 9 = .ok (.if_icmp .ge 65, 3) := by decide +kernel
theorem dX8_preferSecond_12 : decode cX8_preferSecond 12 = .ok (.iload_n 2, 1) := by decide +kernel
theorem dX8_preferSecond_13 : decode cX8_preferSecond 13 = .ok (.iload 4, 2) := by decide +kernel
theorem dX8_preferSecond_15 : decode cX8_preferSecond 15 = .ok (.ishr, 1) := by decide +kernel
theorem dX8_preferSecond_16 : decode cX8_preferSecond 16 = .ok (.ifCond .eq 58, 3) := by decide +kernel
theorem dX8_preferSecond_19 : decode cX8_preferSecond 19 = .ok (.iload_n 2, 1) := by decide +kernel
theorem dX8_preferSecond_20 : decode cX8_preferSecond 20 = .ok (.iload 4, 2) := by decide +kernel
theorem dX8_preferSecond_22 : decode cX8_preferSecond 22 = .ok (.invokestatic 69, 3) := by decide +kernel
theorem dX8_preferSecond_25 : decode cX8_preferSecond 25 = .ok (.ifCond .eq 43, 3) := by decide +kernel
theorem dX8_preferSecond_28 : decode cX8_preferSecond 28 = .ok (.aload_n 1, 1) := by decide +kernel
theorem dX8_preferSecond_29 : decode cX8_preferSecond 29 = .ok (.getfield 73, 3) := by decide +kernel
theorem dX8_preferSecond_32 : decode cX8_preferSecond 32 = .ok (.aload_n 0, 1) := by decide +kernel
theorem dX8_preferSecond_33 : decode cX8_preferSecond 33 = .ok (.getfield 24, 3) := by decide +kernel
theorem dX8_preferSecond_36 : decode cX8_preferSecond 36 = .ok (.bipush 12, 2) := by decide +kernel
theorem dX8_preferSecond_38 : decode cX8_preferSecond 38 = .ok (.imul, 1) := by decide +kernel
theorem dX8_preferSecond_39 : decode cX8_preferSecond 39 = .ok (.iload 4, 2) := by decide +kernel
theorem dX8_preferSecond_41 : decode cX8_preferSecond 41 = .ok (.iadd, 1) := by decide +kernel
theorem dX8_preferSecond_42 : decode cX8_preferSecond 42 = .ok (.iaload, 1) := by decide +kernel
theorem dX8_preferSecond_43 : decode cX8_preferSecond 43 = .ok (.aload_n 1, 1) := by decide +kernel
theorem dX8_preferSecond_44 : decode cX8_preferSecond 44 = .ok (.getfield 73, 3) := by decide +kernel
theorem dX8_preferSecond_47 : decode cX8_preferSecond 47 = .ok (.aload_n 0, 1) := by decide +kernel
theorem dX8_preferSecond_48 : decode cX8_preferSecond 48 = .ok (.getfield 15, 3) := by decide +kernel
theorem dX8_preferSecond_51 : decode cX8_preferSecond 51 = .ok (.bipush 12, 2) := by decide +kernel
theorem dX8_preferSecond_53 : decode cX8_preferSecond 53 = .ok (.imul, 1) := by decide +kernel
theorem dX8_preferSecond_54 : decode cX8_preferSecond 54 = .ok (.iload 4, 2) := by decide +kernel
theorem dX8_preferSecond_56 : decode cX8_preferSecond 56 = .ok (.iadd, 1) := by decide +kernel
theorem dX8_preferSecond_57 : decode cX8_preferSecond 57 = .ok (.iaload, 1) := by decide +kernel
theorem dX8_preferSecond_58 : decode cX8_preferSecond 58 = .ok (.if_icmp .ge 10, 3) := by decide +kernel
theorem dX8_preferSecond_61 : decode cX8_preferSecond 61 = .ok (.iload_n 3, 1) := by decide +kernel
theorem dX8_preferSecond_62 : decode cX8_preferSecond 62 = .ok (.iconst 1, 1) := by decide +kernel
theorem dX8_preferSecond_63 : decode cX8_preferSecond 63 = .ok (.iload 4, 2) := by decide +kernel
theorem dX8_preferSecond_65 : decode cX8_preferSecond 65 = .ok (.ishl, 1) := by decide +kernel
theorem dX8_preferSecond_66 : decode cX8_preferSecond 66 = .ok (.ior, 1) := by decide +kernel
theorem dX8_preferSecond_67 : decode cX8_preferSecond 67 = .ok (.istore_n 3, 1) := by decide +kernel
theorem dX8_preferSecond_68 : decode cX8_preferSecond 68 = .ok (.iinc 4 1, 3) := by decide +kernel
theorem dX8_preferSecond_71 : decode cX8_preferSecond 71 = .ok (.goto (-66), 3) := by decide +kernel
theorem dX8_preferSecond_74 : decode cX8_preferSecond 74 = .ok (.iload_n 3, 1) := by decide +kernel
theorem dX8_preferSecond_75 : decode cX8_preferSecond 75 = .ok (.ireturn, 1) := by decide +kernel
theorem dX8_stands_0 : decode cX8_stands 0 = .ok (.aload_n 0, 1) := by decide +kernel
theorem dX8_stands_1 : decode cX8_stands 1 = .ok (.iload_n 2, 1) := by decide +kernel
theorem dX8_stands_2 : decode cX8_stands 2 = .ok (.invokevirtual 76, 3) := by decide +kernel
theorem dX8_stands_5 : decode cX8_stands 5 = .ok (.ifCond .ne 5, 3) := by decide +kernel
theorem dX8_stands_8 : decode cX8_stands 8 = .ok (.iconst 0, 1) := by decide +kernel
theorem dX8_stands_9 : decode cX8_stands 9 = .ok (.ireturn, 1) := by decide +kernel
theorem dX8_stands_10 : decode cX8_stands 10 = .ok (.aload_n 1, 1) := by decide +kernel
theorem dX8_stands_11 : decode cX8_stands 11 = .ok (.getfield 51, 3) := by decide +kernel
theorem dX8_stands_14 : decode cX8_stands 14 = .ok (.aload_n 0, 1) := by decide +kernel
theorem dX8_stands_15 : decode cX8_stands 15 = .ok (.iload_n 2, 1) := by decide +kernel
theorem dX8_stands_16 : decode cX8_stands 16 = .ok (.invokevirtual 9, 3) := by decide +kernel
theorem dX8_stands_19 : decode cX8_stands 19 = .ok (.iaload, 1) := by decide +kernel
theorem dX8_stands_20 : decode cX8_stands 20 = .ok (.istore_n 3, 1) := by decide +kernel
theorem dX8_stands_21 : decode cX8_stands 21 = .ok (.aload_n 0, 1) := by decide +kernel
theorem dX8_stands_22 : decode cX8_stands 22 = .ok (.invokevirtual 80, 3) := by decide +kernel
theorem dX8_stands_25 : decode cX8_stands 25 = .ok (.ifCond .ne 14, 3) := by decide +kernel
theorem dX8_stands_28 : decode cX8_stands 28 = .ok (.iload_n 3, 1) := by decide +kernel
theorem dX8_stands_29 : decode cX8_stands 29 = .ok (.iconst (-1), 1) := by decide +kernel
theorem dX8_stands_30 : decode cX8_stands 30 = .ok (.if_icmp .eq 7, 3) := by decide +kernel
theorem dX8_stands_33 : decode cX8_stands 33 = .ok (.iconst 1, 1) := by decide +kernel
theorem dX8_stands_34 : decode cX8_stands 34 = .ok (.goto 4, 3) := by decide +kernel
theorem dX8_stands_37 : decode cX8_stands 37 = .ok (.iconst 0, 1) := by decide +kernel
theorem dX8_stands_38 : decode cX8_stands 38 = .ok (.ireturn, 1) := by decide +kernel
theorem dX8_stands_39 : decode cX8_stands 39 = .ok (.aload_n 1, 1) := by decide +kernel
theorem dX8_stands_40 : decode cX8_stands 40 = .ok (.getfield 51, 3) := by decide +kernel
theorem dX8_stands_43 : decode cX8_stands 43 = .ok (.aload_n 0, 1) := by decide +kernel
theorem dX8_stands_44 : decode cX8_stands 44 = .ok (.iload_n 2, 1) := by decide +kernel
theorem dX8_stands_45 : decode cX8_stands 45 = .ok (.invokevirtual 21, 3) := by decide +kernel
theorem dX8_stands_48 : decode cX8_stands 48 = .ok (.iaload, 1) := by decide +kernel
theorem dX8_stands_49 : decode cX8_stands 49 = .ok (.istore 4, 2) := by decide +kernel
theorem dX8_stands_51 : decode cX8_stands 51 = .ok (.iload_n 3, 1) := by decide +kernel
theorem dX8_stands_52 : decode cX8_stands 52 = .ok (.iconst (-1), 1) := by decide +kernel
theorem dX8_stands_53 : decode cX8_stands 53 = .ok (.if_icmp .eq 27, 3) := by decide +kernel
theorem dX8_stands_56 : decode cX8_stands 56 = .ok (.iload 4, 2) := by decide +kernel
theorem dX8_stands_58 : decode cX8_stands 58 = .ok (.iconst (-1), 1) := by decide +kernel
theorem dX8_stands_59 : decode cX8_stands 59 = .ok (.if_icmp .eq 21, 3) := by decide +kernel
theorem dX8_stands_62 : decode cX8_stands 62 = .ok (.iload_n 3, 1) := by decide +kernel
theorem dX8_stands_63 : decode cX8_stands 63 = .ok (.iload 4, 2) := by decide +kernel
theorem dX8_stands_65 : decode cX8_stands 65 = .ok (.isub, 1) := by decide +kernel
theorem dX8_stands_66 : decode cX8_stands 66 = .ok (.invokestatic 84, 3) := by decide +kernel
theorem dX8_stands_69 : decode cX8_stands 69 = .ok (.aload_n 0, 1) := by decide +kernel
theorem dX8_stands_70 : decode cX8_stands 70 = .ok (.getfield 60, 3) := by decide +kernel
theorem dX8_stands_73 : decode cX8_stands 73 = .ok (.if_icmp .lt 7, 3) := by decide +kernel
theorem dX8_stands_76 : decode cX8_stands 76 = .ok (.iconst 1, 1) := by decide +kernel
theorem dX8_stands_77 : decode cX8_stands 77 = .ok (.goto 4, 3) := by decide +kernel
theorem dX8_stands_80 : decode cX8_stands 80 = .ok (.iconst 0, 1) := by decide +kernel
theorem dX8_stands_81 : decode cX8_stands 81 = .ok (.ireturn, 1) := by decide +kernel
theorem dX8_suits_0 : decode cX8_suits 0 = .ok (.aload_n 1, 1) := by decide +kernel
theorem dX8_suits_1 : decode cX8_suits 1 = .ok (.aload_n 2, 1) := by decide +kernel
theorem dX8_suits_2 : decode cX8_suits 2 = .ok (.iload 4, 2) := by decide +kernel
theorem dX8_suits_4 : decode cX8_suits 4 = .ok (.invokestatic 89, 3) := by decide +kernel
theorem dX8_suits_7 : decode cX8_suits 7 = .ok (.ifCond .ne 5, 3) := by decide +kernel
theorem dX8_suits_10 : decode cX8_suits 10 = .ok (.iconst 0, 1) := by decide +kernel
theorem dX8_suits_11 : decode cX8_suits 11 = .ok (.ireturn, 1) := by decide +kernel
theorem dX8_suits_12 : decode cX8_suits 12 = .ok (.aload_n 0, 1) := by decide +kernel
theorem dX8_suits_13 : decode cX8_suits 13 = .ok (.aload_n 1, 1) := by decide +kernel
theorem dX8_suits_14 : decode cX8_suits 14 = .ok (.aload_n 2, 1) := by decide +kernel
theorem dX8_suits_15 : decode cX8_suits 15 = .ok (.aload_n 3, 1) := by decide +kernel
theorem dX8_suits_16 : decode cX8_suits 16 = .ok (.iload 4, 2) := by decide +kernel
theorem dX8_suits_18 : decode cX8_suits 18 = .ok (.invokevirtual 93, 3) := by decide +kernel
theorem dX8_suits_21 : decode cX8_suits 21 = .ok (.aload_n 0, 1) := by decide +kernel
theorem dX8_suits_22 : decode cX8_suits 22 = .ok (.getfield 31, 3) := by decide +kernel
theorem dX8_suits_25 : decode cX8_suits 25 = .ok (.aload_n 0, 1) := by decide +kernel
theorem dX8_suits_26 : decode cX8_suits 26 = .ok (.getfield 34, 3) := by decide +kernel
theorem dX8_suits_29 : decode cX8_suits 29 = .ok (.ior, 1) := by decide +kernel
theorem dX8_suits_30 : decode cX8_suits 30 = .ok (.istore 5, 2) := by decide +kernel
theorem dX8_suits_32 : decode cX8_suits 32 = .ok (.aload_n 1, 1) := by decide +kernel
theorem dX8_suits_33 : decode cX8_suits 33 = .ok (.getfield 97, 3) := by decide +kernel
theorem dX8_suits_36 : decode cX8_suits 36 = .ok (.iconst 1, 1) := by decide +kernel
theorem dX8_suits_37 : decode cX8_suits 37 = .ok (.iaload, 1) := by decide +kernel
theorem dX8_suits_38 : decode cX8_suits 38 = .ok (.iload 5, 2) := by decide +kernel
theorem dX8_suits_40 : decode cX8_suits 40 = .ok (.iconst (-1), 1) := by decide +kernel
theorem dX8_suits_41 : decode cX8_suits 41 = .ok (.ixor, 1) := by decide +kernel
theorem dX8_suits_42 : decode cX8_suits 42 = .ok (.iand, 1) := by decide +kernel
theorem dX8_suits_43 : decode cX8_suits 43 = .ok (.ifCond .ne 22, 3) := by decide +kernel
theorem dX8_suits_46 : decode cX8_suits 46 = .ok (.aload_n 1, 1) := by decide +kernel
theorem dX8_suits_47 : decode cX8_suits 47 = .ok (.invokevirtual 37, 3) := by decide +kernel
theorem dX8_suits_50 : decode cX8_suits 50 = .ok (.aload_n 0, 1) := by decide +kernel
theorem dX8_suits_51 : decode cX8_suits 51 = .ok (.getfield 31, 3) := by decide +kernel
theorem dX8_suits_54 : decode cX8_suits 54 = .ok (.aload_n 0, 1) := by decide +kernel
theorem dX8_suits_55 : decode cX8_suits 55 = .ok (.getfield 34, 3) := by decide +kernel
theorem dX8_suits_58 : decode cX8_suits 58 = .ok (.iand, 1) := by decide +kernel
theorem dX8_suits_59 : decode cX8_suits 59 = .ok (.iconst (-1), 1) := by decide +kernel
theorem dX8_suits_60 : decode cX8_suits 60 = .ok (.ixor, 1) := by decide +kernel
theorem dX8_suits_61 : decode cX8_suits 61 = .ok (.iand, 1) := by decide +kernel
theorem dX8_suits_62 : decode cX8_suits 62 = .ok (.ifCond .eq 5, 3) := by decide +kernel
theorem dX8_suits_65 : decode cX8_suits 65 = .ok (.iconst 0, 1) := by decide +kernel
theorem dX8_suits_66 : decode cX8_suits 66 = .ok (.ireturn, 1) := by decide +kernel
theorem dX8_suits_67 : decode cX8_suits 67 = .ok (.iconst 3, 1) := by decide +kernel
theorem dX8_suits_68 : decode cX8_suits 68 = .ok (.istore 6, 2) := by decide +kernel
theorem dX8_suits_70 : decode cX8_suits 70 = .ok (.iload 6, 2) := by decide +kernel
theorem dX8_suits_72 : decode cX8_suits 72 = .ok (.bipush 6, 2) := by decide +kernel
theorem dX8_suits_74 : decode cX8_suits 74 = .ok (.if_icmp .ge 34, 3) := by decide +kernel
theorem dX8_suits_77 : decode cX8_suits 77 = .ok (.aload_n 1, 1) := by decide +kernel
theorem dX8_suits_78 : decode cX8_suits 78 = .ok (.getfield 97, 3) := by decide +kernel
theorem dX8_suits_81 : decode cX8_suits 81 = .ok (.iload 6, 2) := by decide +kernel
theorem dX8_suits_83 : decode cX8_suits 83 = .ok (.iaload, 1) := by decide +kernel
theorem dX8_suits_84 : decode cX8_suits 84 = .ok (.ifCond .eq 18, 3) := by decide +kernel
theorem dX8_suits_87 : decode cX8_suits 87 = .ok (.aload_n 1, 1) := by decide +kernel
theorem dX8_suits_88 : decode cX8_suits 88 = .ok (.getfield 97, 3) := by decide +kernel
theorem dX8_suits_91 : decode cX8_suits 91 = .ok (.iload 6, 2) := by decide +kernel
theorem dX8_suits_93 : decode cX8_suits 93 = .ok (.iaload, 1) := by decide +kernel
theorem dX8_suits_94 : decode cX8_suits 94 = .ok (.iload 5, 2) := by decide +kernel
theorem dX8_suits_96 : decode cX8_suits 96 = .ok (.iand, 1) := by decide +kernel
theorem dX8_suits_97 : decode cX8_suits 97 = .ok (.ifCond .ne 5, 3) := by decide +kernel
theorem dX8_suits_100 : decode cX8_suits 100 = .ok (.iconst 0, 1) := by decide +kernel
theorem dX8_suits_101 : decode cX8_suits 101 = .ok (.ireturn, 1) := by decide +kernel
theorem dX8_suits_102 : decode cX8_suits 102 = .ok (.iinc 6 1, 3) := by decide +kernel
theorem dX8_suits_105 : decode cX8_suits 105 = .ok (.goto (-35), 3) := by decide +kernel
theorem dX8_suits_108 : decode cX8_suits 108 = .ok (.aload_n 0, 1) := by decide +kernel
theorem dX8_suits_109 : decode cX8_suits 109 = .ok (.aload_n 1, 1) := by decide +kernel
theorem dX8_suits_110 : decode cX8_suits 110 = .ok (.aload_n 2, 1) := by decide +kernel
theorem dX8_suits_111 : decode cX8_suits 111 = .ok (.aload_n 3, 1) := by decide +kernel
theorem dX8_suits_112 : decode cX8_suits 112 = .ok (.invokevirtual 100, 3) := by decide +kernel
theorem dX8_suits_115 : decode cX8_suits 115 = .ok (.ireturn, 1) := by decide +kernel
theorem dX8_isBehindChain_0 : decode cX8_isBehindChain 0 = .ok (.aload_n 1, 1) := by decide +kernel
theorem dX8_isBehindChain_1 : decode cX8_isBehindChain 1 = .ok (.getfield 104, 3) := by decide +kernel
theorem dX8_isBehindChain_4 : decode cX8_isBehindChain 4 = .ok (.ifnonnull 5, 3) := by decide +kernel
theorem dX8_isBehindChain_7 : decode cX8_isBehindChain 7 = .ok (.iconst 1, 1) := by decide +kernel
theorem dX8_isBehindChain_8 : decode cX8_isBehindChain 8 = .ok (.ireturn, 1) := by decide +kernel
theorem dX8_isBehindChain_9 : decode cX8_isBehindChain 9 = .ok (.aload_n 3, 1) := by decide +kernel
theorem dX8_isBehindChain_10 : decode cX8_isBehindChain 10 = .ok (.getfield 108, 3) := by decide +kernel
theorem dX8_isBehindChain_13 : decode cX8_isBehindChain 13 = .ok (.aload_n 1, 1) := by decide +kernel
theorem dX8_isBehindChain_14 : decode cX8_isBehindChain 14 = .ok (.getfield 104, 3) := by decide +kernel
theorem dX8_isBehindChain_17 : decode cX8_isBehindChain 17 = .ok (.getfield 111, 3) := by decide +kernel
theorem dX8_isBehindChain_20 : decode cX8_isBehindChain 20 = .ok (.iaload, 1) := by decide +kernel
theorem dX8_isBehindChain_21 : decode cX8_isBehindChain 21 = .ok (.istore 4, 2) := by decide +kernel
theorem dX8_isBehindChain_23 : decode cX8_isBehindChain 23 = .ok (.iload 4, 2) := by decide +kernel
theorem dX8_isBehindChain_25 : decode cX8_isBehindChain 25 = .ok (.aload_n 2, 1) := by decide +kernel
theorem dX8_isBehindChain_26 : decode cX8_isBehindChain 26 = .ok (.getfield 51, 3) := by decide +kernel
theorem dX8_isBehindChain_29 : decode cX8_isBehindChain 29 = .ok (.aload_n 0, 1) := by decide +kernel
theorem dX8_isBehindChain_30 : decode cX8_isBehindChain 30 = .ok (.getfield 15, 3) := by decide +kernel
theorem dX8_isBehindChain_33 : decode cX8_isBehindChain 33 = .ok (.iaload, 1) := by decide +kernel
theorem dX8_isBehindChain_34 : decode cX8_isBehindChain 34 = .ok (.if_icmp .gt 29, 3) := by decide +kernel
theorem dX8_isBehindChain_37 : decode cX8_isBehindChain 37 = .ok (.aload_n 0, 1) := by decide +kernel
theorem dX8_isBehindChain_38 : decode cX8_isBehindChain 38 = .ok (.getfield 24, 3) := by decide +kernel
theorem dX8_isBehindChain_41 : decode cX8_isBehindChain 41 = .ok (.iconst (-1), 1) := by decide +kernel
theorem dX8_isBehindChain_42 : decode cX8_isBehindChain 42 = .ok (.if_icmp .eq 17, 3) := by decide +kernel
theorem dX8_isBehindChain_45 : decode cX8_isBehindChain 45 = .ok (.iload 4, 2) := by decide +kernel
theorem dX8_isBehindChain_47 : decode cX8_isBehindChain 47 = .ok (.aload_n 2, 1) := by decide +kernel
theorem dX8_isBehindChain_48 : decode cX8_isBehindChain 48 = .ok (.getfield 51, 3) := by decide +kernel
theorem dX8_isBehindChain_51 : decode cX8_isBehindChain 51 = .ok (.aload_n 0, 1) := by decide +kernel
theorem dX8_isBehindChain_52 : decode cX8_isBehindChain 52 = .ok (.getfield 24, 3) := by decide +kernel
theorem dX8_isBehindChain_55 : decode cX8_isBehindChain 55 = .ok (.iaload, 1) := by decide +kernel
theorem dX8_isBehindChain_56 : decode cX8_isBehindChain 56 = .ok (.if_icmp .gt 7, 3) := by decide +kernel
theorem dX8_isBehindChain_59 : decode cX8_isBehindChain 59 = .ok (.iconst 1, 1) := by decide +kernel
theorem dX8_isBehindChain_60 : decode cX8_isBehindChain 60 = .ok (.goto 4, 3) := by decide +kernel
theorem dX8_isBehindChain_63 : decode cX8_isBehindChain 63 = .ok (.iconst 0, 1) := by decide +kernel
theorem dX8_isBehindChain_64 : decode cX8_isBehindChain 64 = .ok (.ireturn, 1) := by decide +kernel
theorem dX8_priceFor_0 : decode cX8_priceFor 0 = .ok (.aload_n 0, 1) := by decide +kernel
theorem dX8_priceFor_1 : decode cX8_priceFor 1 = .ok (.getfield 45, 3) := by decide +kernel
theorem dX8_priceFor_4 : decode cX8_priceFor 4 = .ok (.iload_n 2, 1) := by decide +kernel
theorem dX8_priceFor_5 : decode cX8_priceFor 5 = .ok (.invokestatic 69, 3) := by decide +kernel
theorem dX8_priceFor_8 : decode cX8_priceFor 8 = .ok (.ifCond .eq 20, 3) := by decide +kernel
theorem dX8_priceFor_11 : decode cX8_priceFor 11 = .ok (.aload_n 1, 1) := by decide +kernel
theorem dX8_priceFor_12 : decode cX8_priceFor 12 = .ok (.getfield 73, 3) := by decide +kernel
theorem dX8_priceFor_15 : decode cX8_priceFor 15 = .ok (.aload_n 0, 1) := by decide +kernel
theorem dX8_priceFor_16 : decode cX8_priceFor 16 = .ok (.getfield 15, 3) := by decide +kernel
theorem dX8_priceFor_19 : decode cX8_priceFor 19 = .ok (.bipush 12, 2) := by decide +kernel
theorem dX8_priceFor_21 : decode cX8_priceFor 21 = .ok (.imul, 1) := by decide +kernel
theorem dX8_priceFor_22 : decode cX8_priceFor 22 = .ok (.iload_n 2, 1) := by decide +kernel
theorem dX8_priceFor_23 : decode cX8_priceFor 23 = .ok (.iadd, 1) := by decide +kernel
theorem dX8_priceFor_24 : decode cX8_priceFor 24 = .ok (.iaload, 1) := by decide +kernel
theorem dX8_priceFor_25 : decode cX8_priceFor 25 = .ok (.goto 4, 3) := by decide +kernel
theorem dX8_priceFor_28 : decode cX8_priceFor 28 = .ok (.iconst 0, 1) := by decide +kernel
theorem dX8_priceFor_29 : decode cX8_priceFor 29 = .ok (.istore_n 3, 1) := by decide +kernel
theorem dX8_priceFor_30 : decode cX8_priceFor 30 = .ok (.aload_n 0, 1) := by decide +kernel
theorem dX8_priceFor_31 : decode cX8_priceFor 31 = .ok (.getfield 48, 3) := by decide +kernel
theorem dX8_priceFor_34 : decode cX8_priceFor 34 = .ok (.iload_n 2, 1) := by decide +kernel
theorem dX8_priceFor_35 : decode cX8_priceFor 35 = .ok (.invokestatic 69, 3) := by decide +kernel
theorem dX8_priceFor_38 : decode cX8_priceFor 38 = .ok (.ifCond .eq 22, 3) := by decide +kernel
theorem dX8_priceFor_41 : decode cX8_priceFor 41 = .ok (.iload_n 3, 1) := by decide +kernel
theorem dX8_priceFor_42 : decode cX8_priceFor 42 = .ok (.aload_n 1, 1) := by decide +kernel
theorem dX8_priceFor_43 : decode cX8_priceFor 43 = .ok (.getfield 73, 3) := by decide +kernel
theorem dX8_priceFor_46 : decode cX8_priceFor 46 = .ok (.aload_n 0, 1) := by decide +kernel
theorem dX8_priceFor_47 : decode cX8_priceFor 47 = .ok (.getfield 24, 3) := by decide +kernel
theorem dX8_priceFor_50 : decode cX8_priceFor 50 = .ok (.bipush 12, 2) := by decide +kernel
theorem dX8_priceFor_52 : decode cX8_priceFor 52 = .ok (.imul, 1) := by decide +kernel
theorem dX8_priceFor_53 : decode cX8_priceFor 53 = .ok (.iload_n 2, 1) := by decide +kernel
theorem dX8_priceFor_54 : decode cX8_priceFor 54 = .ok (.iadd, 1) := by decide +kernel
theorem dX8_priceFor_55 : decode cX8_priceFor 55 = .ok (.iaload, 1) := by decide +kernel
theorem dX8_priceFor_56 : decode cX8_priceFor 56 = .ok (.iadd, 1) := by decide +kernel
theorem dX8_priceFor_57 : decode cX8_priceFor 57 = .ok (.goto 4, 3) := by decide +kernel
theorem dX8_priceFor_60 : decode cX8_priceFor 60 = .ok (.iload_n 3, 1) := by decide +kernel
theorem dX8_priceFor_61 : decode cX8_priceFor 61 = .ok (.ireturn, 1) := by decide +kernel
theorem dX9_init_0 : decode cX9_init 0 = .ok (.aload_n 0, 1) := by decide +kernel
theorem dX9_init_1 : decode cX9_init 1 = .ok (.invokespecial 3, 3) := by decide +kernel
theorem dX9_init_4 : decode cX9_init 4 = .ok (.aload_n 0, 1) := by decide +kernel
theorem dX9_init_5 : decode cX9_init 5 = .ok (.iload_n 1, 1) := by decide +kernel
theorem dX9_init_6 : decode cX9_init 6 = .ok (.putfield 9, 3) := by decide +kernel
theorem dX9_init_9 : decode cX9_init 9 = .ok (.aload_n 0, 1) := by decide +kernel
theorem dX9_init_10 : decode cX9_init 10 = .ok (.iload_n 2, 1) := by decide +kernel
theorem dX9_init_11 : decode cX9_init 11 = .ok (.putfield 15, 3) := by decide +kernel
theorem dX9_init_14 : decode cX9_init 14 = .ok (.aload_n 0, 1) := by decide +kernel
theorem dX9_init_15 : decode cX9_init 15 = .ok (.aload_n 3, 1) := by decide +kernel
theorem dX9_init_16 : decode cX9_init 16 = .ok (.putfield 18, 3) := by decide +kernel
theorem dX9_init_19 : decode cX9_init 19 = .ok (.aload_n 0, 1) := by decide +kernel
theorem dX9_init_20 : decode cX9_init 20 = .ok (.iload 4, 2) := by decide +kernel
theorem dX9_init_22 : decode cX9_init 22 = .ok (.putfield 22, 3) := by decide +kernel
theorem dX9_init_25 : decode cX9_init 25 = .ok (.aload_n 0, 1) := by decide +kernel
theorem dX9_init_26 : decode cX9_init 26 = .ok (.bipush 6, 2) := by decide +kernel
theorem dX9_init_28 : decode cX9_init 28 = .ok (.newarray .int, 2) := by decide +kernel
theorem dX9_init_30 : decode cX9_init 30 = .ok (.putfield 25, 3) := by decide +kernel
theorem dX9_init_33 : decode cX9_init 33 = .ok (.aload_n 0, 1) := by decide +kernel
theorem dX9_init_34 : decode cX9_init 34 = .ok (.bipush 6, 2) := by decide +kernel
theorem dX9_init_36 : decode cX9_init 36 = .ok (.newarray .int, 2) := by decide +kernel
theorem dX9_init_38 : decode cX9_init 38 = .ok (.putfield 29, 3) := by decide +kernel
theorem dX9_init_41 : decode cX9_init 41 = .ok (.aload_n 0, 1) := by decide +kernel
theorem dX9_init_42 : decode cX9_init 42 = .ok (.bipush 52, 2) := by decide +kernel
theorem dX9_init_44 : decode cX9_init 44 = .ok (.newarray .int, 2) := by decide +kernel
theorem dX9_init_46 : decode cX9_init 46 = .ok (.putfield 32, 3) := by decide +kernel
theorem dX9_init_49 : decode cX9_init 49 = .ok (.iconst 0, 1) := by decide +kernel
theorem dX9_init_50 : decode cX9_init 50 = .ok (.istore 5, 2) := by decide +kernel
theorem dX9_init_52 : decode cX9_init 52 = .ok (.iload 5, 2) := by decide +kernel
theorem dX9_init_54 : decode cX9_init 54 = .ok (.bipush 52, 2) := by decide +kernel
theorem dX9_init_56 : decode cX9_init 56 = .ok (.if_icmp .ge 17, 3) := by decide +kernel
theorem dX9_init_59 : decode cX9_init 59 = .ok (.aload_n 0, 1) := by decide +kernel
theorem dX9_init_60 : decode cX9_init 60 = .ok (.getfield 32, 3) := by decide +kernel
theorem dX9_init_63 : decode cX9_init 63 = .ok (.iload 5, 2) := by decide +kernel
theorem dX9_init_65 : decode cX9_init 65 = .ok (.iconst (-1), 1) := by decide +kernel
theorem dX9_init_66 : decode cX9_init 66 = .ok (.iastore, 1) := by decide +kernel
theorem dX9_init_67 : decode cX9_init 67 = .ok (.iinc 5 1, 3) := by decide +kernel
theorem dX9_init_70 : decode cX9_init 70 = .ok (.goto (-18), 3) := by decide +kernel
theorem dX9_init_73 : decode cX9_init 73 = .ok (.return_, 1) := by decide +kernel
theorem dX9_isSplit_0 : decode cX9_isSplit 0 = .ok (.aload_n 0, 1) := by decide +kernel
theorem dX9_isSplit_1 : decode cX9_isSplit 1 = .ok (.getfield 22, 3) := by decide +kernel
theorem dX9_isSplit_4 : decode cX9_isSplit 4 = .ok (.iconst (-1), 1) := by decide +kernel
theorem dX9_isSplit_5 : decode cX9_isSplit 5 = .ok (.if_icmp .eq 7, 3) := by decide +kernel
theorem dX9_isSplit_8 : decode cX9_isSplit 8 = .ok (.iconst 1, 1) := by decide +kernel
theorem dX9_isSplit_9 : decode cX9_isSplit 9 = .ok (.goto 4, 3) := by decide +kernel
theorem dX9_isSplit_12 : decode cX9_isSplit 12 = .ok (.iconst 0, 1) := by decide +kernel
theorem dX9_isSplit_13 : decode cX9_isSplit 13 = .ok (.ireturn, 1) := by decide +kernel
theorem dX9_mostWeeks_0 : decode cX9_mostWeeks 0 = .ok (.aload_n 0, 1) := by decide +kernel
theorem dX9_mostWeeks_1 : decode cX9_mostWeeks 1 = .ok (.invokevirtual 35, 3) := by decide +kernel
theorem dX9_mostWeeks_4 : decode cX9_mostWeeks 4 = .ok (.ifCond .eq 7, 3) := by decide +kernel
theorem dX9_mostWeeks_7 : decode cX9_mostWeeks 7 = .ok (.iconst 4, 1) := by decide +kernel
theorem dX9_mostWeeks_8 : decode cX9_mostWeeks 8 = .ok (.goto 5, 3) := by decide +kernel
theorem dX9_mostWeeks_11 : decode cX9_mostWeeks 11 = .ok (.bipush 6, 2) := by decide +kernel
theorem dX9_mostWeeks_13 : decode cX9_mostWeeks 13 = .ok (.ireturn, 1) := by decide +kernel
theorem dX9_choices_0 : decode cX9_choices 0 = .ok (.aload_n 0, 1) := by decide +kernel
theorem dX9_choices_1 : decode cX9_choices 1 = .ok (.invokevirtual 35, 3) := by decide +kernel
theorem dX9_choices_4 : decode cX9_choices 4 = .ok (.ifCond .eq 8, 3) := by decide +kernel
theorem dX9_choices_7 : decode cX9_choices 7 = .ok (.bipush 15, 2) := by decide +kernel
theorem dX9_choices_9 : decode cX9_choices 9 = .ok (.goto 5, 3) := by decide +kernel
theorem dX9_choices_12 : decode cX9_choices 12 = .ok (.bipush 6, 2) := by decide +kernel
theorem dX9_choices_14 : decode cX9_choices 14 = .ok (.ireturn, 1) := by decide +kernel
theorem dX9_firstOf_0 : decode cX9_firstOf 0 = .ok (.aload_n 0, 1) := by decide +kernel
theorem dX9_firstOf_1 : decode cX9_firstOf 1 = .ok (.invokevirtual 35, 3) := by decide +kernel
theorem dX9_firstOf_4 : decode cX9_firstOf 4 = .ok (.ifCond .eq 11, 3) := by decide +kernel
theorem dX9_firstOf_7 : decode cX9_firstOf 7 = .ok (.getstatic 39, 3) := by decide +kernel
theorem dX9_firstOf_10 : decode cX9_firstOf 10 = .ok (.iload_n 1, 1) := by decide +kernel
theorem dX9_firstOf_11 : decode cX9_firstOf 11 = .ok (.iaload, 1) := by decide +kernel
theorem dX9_firstOf_12 : decode cX9_firstOf 12 = .ok (.goto 4, 3) := by decide +kernel
theorem dX9_firstOf_15 : decode cX9_firstOf 15 = .ok (.iload_n 1, 1) := by decide +kernel
theorem dX9_firstOf_16 : decode cX9_firstOf 16 = .ok (.ireturn, 1) := by decide +kernel
theorem dX9_secondOf_0 : decode cX9_secondOf 0 = .ok (.aload_n 0, 1) := by decide +kernel
theorem dX9_secondOf_1 : decode cX9_secondOf 1 = .ok (.invokevirtual 35, 3) := by decide +kernel
theorem dX9_secondOf_4 : decode cX9_secondOf 4 = .ok (.ifCond .eq 11, 3) := by decide +kernel
theorem dX9_secondOf_7 : decode cX9_secondOf 7 = .ok (.getstatic 42, 3) := by decide +kernel
theorem dX9_secondOf_10 : decode cX9_secondOf 10 = .ok (.iload_n 1, 1) := by decide +kernel
theorem dX9_secondOf_11 : decode cX9_secondOf 11 = .ok (.iaload, 1) := by decide +kernel
theorem dX9_secondOf_12 : decode cX9_secondOf 12 = .ok (.goto 4, 3) := by decide +kernel
theorem dX9_secondOf_15 : decode cX9_secondOf 15 = .ok (.iconst (-1), 1) := by decide +kernel
theorem dX9_secondOf_16 : decode cX9_secondOf 16 = .ok (.ireturn, 1) := by decide +kernel
theorem dX9_has_0 : decode cX9_has 0 = .ok (.aload_n 0, 1) := by decide +kernel
theorem dX9_has_1 : decode cX9_has 1 = .ok (.iload_n 1, 1) := by decide +kernel
theorem dX9_has_2 : decode cX9_has 2 = .ok (.invokevirtual 45, 3) := by decide +kernel
theorem dX9_has_5 : decode cX9_has 5 = .ok (.aload_n 0, 1) := by decide +kernel
theorem dX9_has_6 : decode cX9_has 6 = .ok (.iload_n 1, 1) := by decide +kernel
theorem dX9_has_7 : decode cX9_has 7 = .ok (.invokevirtual 49, 3) := by decide +kernel
theorem dX9_has_10 : decode cX9_has 10 = .ok (.invokestatic 52, 3) := by decide +kernel
theorem dX9_has_13 : decode cX9_has 13 = .ok (.aload_n 0, 1) := by decide +kernel
theorem dX9_has_14 : decode cX9_has 14 = .ok (.getfield 58, 3) := by decide +kernel
theorem dX9_has_17 : decode cX9_has 17 = .ok (.if_icmp .ge 7, 3) := by decide +kernel
theorem dX9_has_20 : decode cX9_has 20 = .ok (.iconst 1, 1) := by decide +kernel
theorem dX9_has_21 : decode cX9_has 21 = .ok (.goto 4, 3) := by decide +kernel
theorem dX9_has_24 : decode cX9_has 24 = .ok (.iconst 0, 1) := by decide +kernel
theorem dX9_has_25 : decode cX9_has 25 = .ok (.ireturn, 1) := by decide +kernel
theorem dX9_choiceOf_0 : decode cX9_choiceOf 0 = .ok (.iconst 0, 1) := by decide +kernel
theorem dX9_choiceOf_1 : decode cX9_choiceOf 1 = .ok (.istore_n 3, 1) := by decide +kernel
theorem dX9_choiceOf_2 : decode cX9_choiceOf 2 = .ok (.iload_n 3, 1) := by decide +kernel
theorem dX9_choiceOf_3 : decode cX9_choiceOf 3 = .ok (.aload_n 0, 1) := by decide +kernel
theorem dX9_choiceOf_4 : decode cX9_choiceOf 4 = .ok (.invokevirtual 61, 3) := by decide +kernel
theorem dX9_choiceOf_7 : decode cX9_choiceOf 7 = .ok (.if_icmp .ge 37, 3) := by decide +kernel
theorem dX9_choiceOf_10 : decode cX9_choiceOf 10 = .ok (.aload_n 0, 1) := by decide +kernel
theorem dX9_choiceOf_11 : decode cX9_choiceOf 11 = .ok (.iload_n 3, 1) := by decide +kernel
theorem dX9_choiceOf_12 : decode cX9_choiceOf 12 = .ok (.invokevirtual 65, 3) := by decide +kernel
theorem dX9_choiceOf_15 : decode cX9_choiceOf 15 = .ok (.ifCond .eq 23, 3) := by decide +kernel
theorem dX9_choiceOf_18 : decode cX9_choiceOf 18 = .ok (.aload_n 0, 1) := by decide +kernel
theorem dX9_choiceOf_19 : decode cX9_choiceOf 19 = .ok (.iload_n 3, 1) := by decide +kernel
theorem dX9_choiceOf_20 : decode cX9_choiceOf 20 = .ok (.invokevirtual 45, 3) := by decide +kernel
theorem dX9_choiceOf_23 : decode cX9_choiceOf 23 = .ok (.iload_n 1, 1) := by decide +kernel
theorem dX9_choiceOf_24 : decode cX9_choiceOf 24 = .ok (.if_icmp .ne 14, 3) := by decide +kernel
theorem dX9_choiceOf_27 : decode cX9_choiceOf 27 = .ok (.aload_n 0, 1) := by decide +kernel
theorem dX9_choiceOf_28 : decode cX9_choiceOf 28 = .ok (.iload_n 3, 1) := by decide +kernel
theorem dX9_choiceOf_29 : decode cX9_choiceOf 29 = .ok (.invokevirtual 49, 3) := by decide +kernel
theorem dX9_choiceOf_32 : decode cX9_choiceOf 32 = .ok (.iload_n 2, 1) := by decide +kernel
theorem dX9_choiceOf_33 : decode cX9_choiceOf 33 = .ok (.if_icmp .ne 5, 3) := by decide +kernel
theorem dX9_choiceOf_36 : decode cX9_choiceOf 36 = .ok (.iload_n 3, 1) := by decide +kernel
theorem dX9_choiceOf_37 : decode cX9_choiceOf 37 = .ok (.ireturn, 1) := by decide +kernel
theorem dX9_choiceOf_38 : decode cX9_choiceOf 38 = .ok (.iinc 3 1, 3) := by decide +kernel
theorem dX9_choiceOf_41 : decode cX9_choiceOf 41 = .ok (.goto (-39), 3) := by decide +kernel
theorem dX9_choiceOf_44 : decode cX9_choiceOf 44 = .ok (.iconst (-1), 1) := by decide +kernel
theorem dX9_choiceOf_45 : decode cX9_choiceOf 45 = .ok (.ireturn, 1) := by decide +kernel
theorem dX9_optionsOf_0 : decode cX9_optionsOf 0 = .ok (.aload_n 0, 1) := by decide +kernel
theorem dX9_optionsOf_1 : decode cX9_optionsOf 1 = .ok (.invokevirtual 35, 3) := by decide +kernel
theorem dX9_optionsOf_4 : decode cX9_optionsOf 4 = .ok (.ifCond .eq 21, 3) := by decide +kernel
theorem dX9_optionsOf_7 : decode cX9_optionsOf 7 = .ok (.iconst 1, 1) := by decide +kernel
theorem dX9_optionsOf_8 : decode cX9_optionsOf 8 = .ok (.aload_n 0, 1) := by decide +kernel
theorem dX9_optionsOf_9 : decode cX9_optionsOf 9 = .ok (.iload_n 1, 1) := by decide +kernel
theorem dX9_optionsOf_10 : decode cX9_optionsOf 10 = .ok (.invokevirtual 45, 3) := by decide +kernel
theorem dX9_optionsOf_13 : decode cX9_optionsOf 13 = .ok (.ishl, 1) := by decide +kernel
theorem dX9_optionsOf_14 : decode cX9_optionsOf 14 = .ok (.iconst 1, 1) := by decide +kernel
theorem dX9_optionsOf_15 : decode cX9_optionsOf 15 = .ok (.aload_n 0, 1) := by decide +kernel
theorem dX9_optionsOf_16 : decode cX9_optionsOf 16 = .ok (.iload_n 1, 1) := by decide +kernel
theorem dX9_optionsOf_17 : decode cX9_optionsOf 17 = .ok (.invokevirtual 49, 3) := by decide +kernel
theorem dX9_optionsOf_20 : decode cX9_optionsOf 20 = .ok (.ishl, 1) := by decide +kernel
theorem dX9_optionsOf_21 : decode cX9_optionsOf 21 = .ok (.ior, 1) := by decide +kernel
theorem dX9_optionsOf_22 : decode cX9_optionsOf 22 = .ok (.goto 6, 3) := by decide +kernel
theorem dX9_optionsOf_25 : decode cX9_optionsOf 25 = .ok (.iconst 1, 1) := by decide +kernel
theorem dX9_optionsOf_26 : decode cX9_optionsOf 26 = .ok (.iload_n 1, 1) := by decide +kernel
theorem dX9_optionsOf_27 : decode cX9_optionsOf 27 = .ok (.ishl, 1) := by decide +kernel
theorem dX9_optionsOf_28 : decode cX9_optionsOf 28 = .ok (.ireturn, 1) := by decide +kernel
theorem dX9_allOptions_0 : decode cX9_allOptions 0 = .ok (.iconst 1, 1) := by decide +kernel
theorem dX9_allOptions_1 : decode cX9_allOptions 1 = .ok (.aload_n 0, 1) := by decide +kernel
theorem dX9_allOptions_2 : decode cX9_allOptions 2 = .ok (.getfield 58, 3) := by decide +kernel
theorem dX9_allOptions_5 : decode cX9_allOptions 5 = .ok (.ishl, 1) := by decide +kernel
theorem dX9_allOptions_6 : decode cX9_allOptions 6 = .ok (.iconst 1, 1) := by decide +kernel
theorem dX9_allOptions_7 : decode cX9_allOptions 7 = .ok (.isub, 1) := by decide +kernel
theorem dX9_allOptions_8 : decode cX9_allOptions 8 = .ok (.ireturn, 1) := by decide +kernel
theorem dX9_startOf_0 : decode cX9_startOf 0 = .ok (.iload_n 1, 1) := by decide +kernel
theorem dX9_startOf_1 : decode cX9_startOf 1 = .ok (.iconst (-1), 1) := by decide +kernel
theorem dX9_startOf_2 : decode cX9_startOf 2 = .ok (.if_icmp .ne 7, 3) := by decide +kernel
theorem dX9_startOf_5 : decode cX9_startOf 5 = .ok (.iconst (-1), 1) := by decide +kernel
theorem dX9_startOf_6 : decode cX9_startOf 6 = .ok (.goto 15, 3) := by decide +kernel
theorem dX9_startOf_9 : decode cX9_startOf 9 = .ok (.iload_n 2, 1) := by decide +kernel
theorem dX9_startOf_10 : decode cX9_startOf 10 = .ok (.sipush 336, 3) := by decide +kernel
theorem dX9_startOf_13 : decode cX9_startOf 13 = .ok (.imul, 1) := by decide +kernel
theorem dX9_startOf_14 : decode cX9_startOf 14 = .ok (.aload_n 0, 1) := by decide +kernel
theorem dX9_startOf_15 : decode cX9_startOf 15 = .ok (.getfield 25, 3) := by decide +kernel
theorem dX9_startOf_18 : decode cX9_startOf 18 = .ok (.iload_n 1, 1) := by decide +kernel
theorem dX9_startOf_19 : decode cX9_startOf 19 = .ok (.iaload, 1) := by decide +kernel
theorem dX9_startOf_20 : decode cX9_startOf 20 = .ok (.iadd, 1) := by decide +kernel
theorem dX9_startOf_21 : decode cX9_startOf 21 = .ok (.ireturn, 1) := by decide +kernel
theorem dX9_giveRole_0 : decode cX9_giveRole 0 = .ok (.iconst 0, 1) := by decide +kernel
theorem dX9_giveRole_1 : decode cX9_giveRole 1 = .ok (.istore_n 3, 1) := by decide +kernel
theorem dX9_giveRole_2 : decode cX9_giveRole 2 = .ok (.iload_n 3, 1) := by decide +kernel
theorem dX9_giveRole_3 : decode cX9_giveRole 3 = .ok (.bipush 6, 2) := by decide +kernel
theorem dX9_giveRole_5 : decode cX9_giveRole 5 = .ok (.if_icmp .ge 23, 3) := by decide +kernel
theorem dX9_giveRole_8 : decode cX9_giveRole 8 = .ok (.aload_n 0, 1) := by decide +kernel
theorem dX9_giveRole_9 : decode cX9_giveRole 9 = .ok (.getfield 29, 3) := by decide +kernel
theorem dX9_giveRole_12 : decode cX9_giveRole 12 = .ok (.iload_n 3, 1) := by decide +kernel
theorem dX9_giveRole_13 : decode cX9_giveRole 13 = .ok (.dup2, 1) := by decide +kernel
theorem dX9_giveRole_14 : decode cX9_giveRole 14 = .ok (.iaload, 1) := by decide +kernel
theorem dX9_giveRole_15 : decode cX9_giveRole 15 = .ok (.iconst 1, 1) := by decide +kernel
theorem dX9_giveRole_16 : decode cX9_giveRole 16 = .ok (.iload_n 1, 1) := by decide +kernel
theorem dX9_giveRole_17 : decode cX9_giveRole 17 = .ok (.ishl, 1) := by decide +kernel
theorem dX9_giveRole_18 : decode cX9_giveRole 18 = .ok (.iconst (-1), 1) := by decide +kernel
theorem dX9_giveRole_19 : decode cX9_giveRole 19 = .ok (.ixor, 1) := by decide +kernel
theorem dX9_giveRole_20 : decode cX9_giveRole 20 = .ok (.iand, 1) := by decide +kernel
theorem dX9_giveRole_21 : decode cX9_giveRole 21 = .ok (.iastore, 1) := by decide +kernel
theorem dX9_giveRole_22 : decode cX9_giveRole 22 = .ok (.iinc 3 1, 3) := by decide +kernel
theorem dX9_giveRole_25 : decode cX9_giveRole 25 = .ok (.goto (-23), 3) := by decide +kernel
theorem dX9_giveRole_28 : decode cX9_giveRole 28 = .ok (.aload_n 0, 1) := by decide +kernel
theorem dX9_giveRole_29 : decode cX9_giveRole 29 = .ok (.getfield 29, 3) := by decide +kernel
theorem dX9_giveRole_32 : decode cX9_giveRole 32 = .ok (.iload_n 2, 1) := by decide +kernel
theorem dX9_giveRole_33 : decode cX9_giveRole 33 = .ok (.dup2, 1) := by decide +kernel
theorem dX9_giveRole_34 : decode cX9_giveRole 34 = .ok (.iaload, 1) := by decide +kernel
theorem dX9_giveRole_35 : decode cX9_giveRole 35 = .ok (.iconst 1, 1) := by decide +kernel
theorem dX9_giveRole_36 : decode cX9_giveRole 36 = .ok (.iload_n 1, 1) := by decide +kernel
theorem dX9_giveRole_37 : decode cX9_giveRole 37 = .ok (.ishl, 1) := by decide +kernel
theorem dX9_giveRole_38 : decode cX9_giveRole 38 = .ok (.ior, 1) := by decide +kernel
theorem dX9_giveRole_39 : decode cX9_giveRole 39 = .ok (.iastore, 1) := by decide +kernel
theorem dX9_giveRole_40 : decode cX9_giveRole 40 = .ok (.return_, 1) := by decide +kernel
theorem dX9_withRole_0 : decode cX9_withRole 0 = .ok (.iconst 0, 1) := by decide +kernel
theorem dX9_withRole_1 : decode cX9_withRole 1 = .ok (.istore_n 1, 1) := by decide +kernel
theorem dX9_withRole_2 : decode cX9_withRole 2 = .ok (.iconst 1, 1) := by decide +kernel
theorem dX9_withRole_3 : decode cX9_withRole 3 = .ok (.istore_n 2, 1) := by decide +kernel
theorem dX9_withRole_4 : decode cX9_withRole 4 = .ok (.iload_n 2, 1) := by decide +kernel
theorem dX9_withRole_5 : decode cX9_withRole 5 = .ok (.bipush 6, 2) := by decide +kernel
theorem dX9_withRole_7 : decode cX9_withRole 7 = .ok (.if_icmp .ge 18, 3) := by decide +kernel
theorem dX9_withRole_10 : decode cX9_withRole 10 = .ok (.iload_n 1, 1) := by decide +kernel
theorem dX9_withRole_11 : decode cX9_withRole 11 = .ok (.aload_n 0, 1) := by decide +kernel
theorem dX9_withRole_12 : decode cX9_withRole 12 = .ok (.getfield 29, 3) := by decide +kernel
theorem dX9_withRole_15 : decode cX9_withRole 15 = .ok (.iload_n 2, 1) := by decide +kernel
theorem dX9_withRole_16 : decode cX9_withRole 16 = .ok (.iaload, 1) := by decide +kernel
theorem dX9_withRole_17 : decode cX9_withRole 17 = .ok (.ior, 1) := by decide +kernel
theorem dX9_withRole_18 : decode cX9_withRole 18 = .ok (.istore_n 1, 1) := by decide +kernel
theorem dX9_withRole_19 : decode cX9_withRole 19 = .ok (.iinc 2 1, 3) := by decide +kernel
theorem dX9_withRole_22 : decode cX9_withRole 22 = .ok (.goto (-18), 3) := by decide +kernel
theorem dX9_withRole_25 : decode cX9_withRole 25 = .ok (.iload_n 1, 1) := by decide +kernel
theorem dX9_withRole_26 : decode cX9_withRole 26 = .ok (.ireturn, 1) := by decide +kernel
theorem dX9_chairAlone_0 : decode cX9_chairAlone 0 = .ok (.aload_n 0, 1) := by decide +kernel
theorem dX9_chairAlone_1 : decode cX9_chairAlone 1 = .ok (.invokevirtual 35, 3) := by decide +kernel
theorem dX9_chairAlone_4 : decode cX9_chairAlone 4 = .ok (.ifCond .eq 12, 3) := by decide +kernel
theorem dX9_chairAlone_7 : decode cX9_chairAlone 7 = .ok (.iconst 1, 1) := by decide +kernel
theorem dX9_chairAlone_8 : decode cX9_chairAlone 8 = .ok (.aload_n 0, 1) := by decide +kernel
theorem dX9_chairAlone_9 : decode cX9_chairAlone 9 = .ok (.getfield 22, 3) := by decide +kernel
theorem dX9_chairAlone_12 : decode cX9_chairAlone 12 = .ok (.ishl, 1) := by decide +kernel
theorem dX9_chairAlone_13 : decode cX9_chairAlone 13 = .ok (.goto 4, 3) := by decide +kernel
theorem dX9_chairAlone_16 : decode cX9_chairAlone 16 = .ok (.iconst 0, 1) := by decide +kernel
theorem dX9_chairAlone_17 : decode cX9_chairAlone 17 = .ok (.ireturn, 1) := by decide +kernel
theorem dX9_everyone_0 : decode cX9_everyone 0 = .ok (.aload_n 0, 1) := by decide +kernel
theorem dX9_everyone_1 : decode cX9_everyone 1 = .ok (.invokevirtual 69, 3) := by decide +kernel
theorem dX9_everyone_4 : decode cX9_everyone 4 = .ok (.aload_n 0, 1) := by decide +kernel
theorem dX9_everyone_5 : decode cX9_everyone 5 = .ok (.invokevirtual 72, 3) := by decide +kernel
theorem dX9_everyone_8 : decode cX9_everyone 8 = .ok (.ior, 1) := by decide +kernel
theorem dX9_everyone_9 : decode cX9_everyone 9 = .ok (.ireturn, 1) := by decide +kernel
theorem dX9_hasCant_0 : decode cX9_hasCant 0 = .ok (.aload_n 0, 1) := by decide +kernel
theorem dX9_hasCant_1 : decode cX9_hasCant 1 = .ok (.getfield 75, 3) := by decide +kernel
theorem dX9_hasCant_4 : decode cX9_hasCant 4 = .ok (.astore 4, 2) := by decide +kernel
theorem dX9_hasCant_6 : decode cX9_hasCant 6 = .ok (.aload 4, 2) := by decide +kernel
theorem dX9_hasCant_8 : decode cX9_hasCant 8 = .ok (.ifnull 42, 3) := by decide +kernel
theorem dX9_hasCant_11 : decode cX9_hasCant 11 = .ok (.aload 4, 2) := by decide +kernel
theorem dX9_hasCant_13 : decode cX9_hasCant 13 = .ok (.getfield 79, 3) := by decide +kernel
theorem dX9_hasCant_16 : decode cX9_hasCant 16 = .ok (.iload_n 3, 1) := by decide +kernel
theorem dX9_hasCant_17 : decode cX9_hasCant 17 = .ok (.if_icmp .ge 23, 3) := by decide +kernel
theorem dX9_hasCant_20 : decode cX9_hasCant 20 = .ok (.aload 4, 2) := by decide +kernel
theorem dX9_hasCant_22 : decode cX9_hasCant 22 = .ok (.getfield 82, 3) := by decide +kernel
theorem dX9_hasCant_25 : decode cX9_hasCant 25 = .ok (.iload_n 1, 1) := by decide +kernel
theorem dX9_hasCant_26 : decode cX9_hasCant 26 = .ok (.if_icmp .ne 14, 3) := by decide +kernel
theorem dX9_hasCant_29 : decode cX9_hasCant 29 = .ok (.aload 4, 2) := by decide +kernel
theorem dX9_hasCant_31 : decode cX9_hasCant 31 = .ok (.getfield 85, 3) := by decide +kernel
theorem dX9_hasCant_34 : decode cX9_hasCant 34 = .ok (.iload_n 2, 1) := by decide +kernel
theorem dX9_hasCant_35 : decode cX9_hasCant 35 = .ok (.if_icmp .ne 5, 3) := by decide +kernel
theorem dX9_hasCant_38 : decode cX9_hasCant 38 = .ok (.iconst 1, 1) := by decide +kernel
theorem dX9_hasCant_39 : decode cX9_hasCant 39 = .ok (.ireturn, 1) := by decide +kernel
theorem dX9_hasCant_40 : decode cX9_hasCant 40 = .ok (.aload 4, 2) := by decide +kernel
theorem dX9_hasCant_42 : decode cX9_hasCant 42 = .ok (.getfield 88, 3) := by decide +kernel
theorem dX9_hasCant_45 : decode cX9_hasCant 45 = .ok (.astore 4, 2) := by decide +kernel
theorem dX9_hasCant_47 : decode cX9_hasCant 47 = .ok (.goto (-41), 3) := by decide +kernel
theorem dX9_hasCant_50 : decode cX9_hasCant 50 = .ok (.iconst 0, 1) := by decide +kernel
theorem dX9_hasCant_51 : decode cX9_hasCant 51 = .ok (.ireturn, 1) := by decide +kernel
theorem dX10_init_0 : decode cX10_init 0 = .ok (.aload_n 0, 1) := by decide +kernel
theorem dX10_init_1 : decode cX10_init 1 = .ok (.invokespecial 3, 3) := by decide +kernel
theorem dX10_init_4 : decode cX10_init 4 = .ok (.aload_n 0, 1) := by decide +kernel
theorem dX10_init_5 : decode cX10_init 5 = .ok (.bipush 6, 2) := by decide +kernel
theorem dX10_init_7 : decode cX10_init 7 = .ok (.newarray .int, 2) := by decide +kernel
theorem dX10_init_9 : decode cX10_init 9 = .ok (.putfield 9, 3) := by decide +kernel
theorem dX10_init_12 : decode cX10_init 12 = .ok (.aload_n 0, 1) := by decide +kernel
theorem dX10_init_13 : decode cX10_init 13 = .ok (.bipush 6, 2) := by decide +kernel
theorem dX10_init_15 : decode cX10_init 15 = .ok (.newarray .int, 2) := by decide +kernel
theorem dX10_init_17 : decode cX10_init 17 = .ok (.putfield 15, 3) := by decide +kernel
theorem dX10_init_20 : decode cX10_init 20 = .ok (.aload_n 0, 1) := by decide +kernel
theorem dX10_init_21 : decode cX10_init 21 = .ok (.bipush 72, 2) := by decide +kernel
theorem dX10_init_23 : decode cX10_init 23 = .ok (.newarray .int, 2) := by decide +kernel
theorem dX10_init_25 : decode cX10_init 25 = .ok (.putfield 18, 3) := by decide +kernel
theorem dX10_init_28 : decode cX10_init 28 = .ok (.return_, 1) := by decide +kernel
theorem dX10_fill_0 : decode cX10_fill 0 = .ok (.iconst 0, 1) := by decide +kernel
theorem dX10_fill_1 : decode cX10_fill 1 = .ok (.istore 7, 2) := by decide +kernel
theorem dX10_fill_3 : decode cX10_fill 3 = .ok (.iload 7, 2) := by decide +kernel
theorem dX10_fill_5 : decode cX10_fill 5 = .ok (.aload_n 1, 1) := by decide +kernel
theorem dX10_fill_6 : decode cX10_fill 6 = .ok (.getfield 21, 3) := by decide +kernel
theorem dX10_fill_9 : decode cX10_fill 9 = .ok (.if_icmp .ge 185, 3) := by decide +kernel
theorem dX10_fill_12 : decode cX10_fill 12 = .ok (.iload_n 2, 1) := by decide +kernel
theorem dX10_fill_13 : decode cX10_fill 13 = .ok (.iload 7, 2) := by decide +kernel
theorem dX10_fill_15 : decode cX10_fill 15 = .ok (.invokestatic 27, 3) := by decide +kernel
theorem dX10_fill_18 : decode cX10_fill 18 = .ok (.ifCond .eq 170, 3) := by decide +kernel
theorem dX10_fill_21 : decode cX10_fill 21 = .ok (.aload_n 1, 1) := by decide +kernel
theorem dX10_fill_22 : decode cX10_fill 22 = .ok (.iload 7, 2) := by decide +kernel
theorem dX10_fill_24 : decode cX10_fill 24 = .ok (.iload_n 3, 1) := by decide +kernel
theorem dX10_fill_25 : decode cX10_fill 25 = .ok (.invokevirtual 31, 3) := by decide +kernel
theorem dX10_fill_28 : decode cX10_fill 28 = .ok (.istore 8, 2) := by decide +kernel
theorem dX10_fill_30 : decode cX10_fill 30 = .ok (.iload 8, 2) := by decide +kernel
theorem dX10_fill_32 : decode cX10_fill 32 = .ok (.aload_n 1, 1) := by decide +kernel
theorem dX10_fill_33 : decode cX10_fill 33 = .ok (.getfield 35, 3) := by decide +kernel
theorem dX10_fill_36 : decode cX10_fill 36 = .ok (.iadd, 1) := by decide +kernel
theorem dX10_fill_37 : decode cX10_fill 37 = .ok (.sipush 17472, 3) := by decide +kernel
theorem dX10_fill_40 : decode cX10_fill 40 = .ok (.if_icmp .gt 7, 3) := by decide +kernel
theorem dX10_fill_43 : decode cX10_fill 43 = .ok (.iconst 1, 1) := by decide +kernel
theorem dX10_fill_44 : decode cX10_fill 44 = .ok (.goto 4, 3) := by decide +kernel
theorem dX10_fill_47 : decode cX10_fill 47 = .ok (.iconst 0, 1) := by decide +kernel
theorem dX10_fill_48 : decode cX10_fill 48 = .ok (.istore 9, 2) := by decide +kernel
theorem dX10_fill_50 : decode cX10_fill 50 = .ok (.aload_n 0, 1) := by decide +kernel
theorem dX10_fill_51 : decode cX10_fill 51 = .ok (.getfield 9, 3) := by decide +kernel
theorem dX10_fill_54 : decode cX10_fill 54 = .ok (.iload 7, 2) := by decide +kernel
theorem dX10_fill_56 : decode cX10_fill 56 = .ok (.iload 9, 2) := by decide +kernel
theorem dX10_fill_58 : decode cX10_fill 58 = .ok (.ifCond .eq 8, 3) := by decide +kernel
theorem dX10_fill_61 : decode cX10_fill 61 = .ok (.iload 8, 2) := by decide +kernel
theorem dX10_fill_63 : decode cX10_fill 63 = .ok (.goto 4, 3) := by decide +kernel
theorem dX10_fill_66 : decode cX10_fill 66 = .ok (.iconst (-1), 1) := by decide +kernel
theorem dX10_fill_67 : decode cX10_fill 67 = .ok (.iastore, 1) := by decide +kernel
theorem dX10_fill_68 : decode cX10_fill 68 = .ok (.aload_n 0, 1) := by decide +kernel
theorem dX10_fill_69 : decode cX10_fill 69 = .ok (.getfield 15, 3) := by decide +kernel
theorem dX10_fill_72 : decode cX10_fill 72 = .ok (.iload 7, 2) := by decide +kernel
theorem dX10_fill_74 : decode cX10_fill 74 = .ok (.iconst 0, 1) := by decide +kernel
theorem dX10_fill_75 : decode cX10_fill 75 = .ok (.iastore, 1) := by decide +kernel
theorem dX10_fill_76 : decode cX10_fill 76 = .ok (.iconst 0, 1) := by decide +kernel
theorem dX10_fill_77 : decode cX10_fill 77 = .ok (.istore 10, 2) := by decide +kernel
theorem dX10_fill_79 : decode cX10_fill 79 = .ok (.iload 10, 2) := by decide +kernel
theorem dX10_fill_81 : decode cX10_fill 81 = .ok (.aload 6, 2) := by decide +kernel
theorem dX10_fill_83 : decode cX10_fill 83 = .ok (.arraylength, 1) := by decide +kernel
theorem dX10_fill_84 : decode cX10_fill 84 = .ok (.if_icmp .ge 104, 3) := by decide +kernel
theorem dX10_fill_87 : decode cX10_fill 87 = .ok (.iload 9, 2) := by decide +kernel
theorem dX10_fill_89 : decode cX10_fill 89 = .ok (.ifCond .eq 99, 3) := by decide +kernel
theorem dX10_fill_92 : decode cX10_fill 92 = .ok (.aload 6, 2) := by decide +kernel
theorem dX10_fill_94 : decode cX10_fill 94 = .ok (.iload 10, 2) := by decide +kernel
theorem dX10_fill_96 : decode cX10_fill 96 = .ok (.aaload, 1) := by decide +kernel
theorem dX10_fill_97 : decode cX10_fill 97 = .ok (.astore 11, 2) := by decide +kernel
theorem dX10_fill_99 : decode cX10_fill 99 = .ok (.aload 11, 2) := by decide +kernel
theorem dX10_fill_101 : decode cX10_fill 101 = .ok (.ifnull 81, 3) := by decide +kernel
theorem dX10_fill_104 : decode cX10_fill 104 = .ok (.iload 5, 2) := by decide +kernel
theorem dX10_fill_106 : decode cX10_fill 106 = .ok (.iload 10, 2) := by decide +kernel
theorem dX10_fill_108 : decode cX10_fill 108 = .ok (.invokestatic 27, 3) := by decide +kernel
theorem dX10_fill_111 : decode cX10_fill 111 = .ok (.ifCond .eq 71, 3) := by decide +kernel
theorem dX10_fill_114 : decode cX10_fill 114 = .ok (.aload_n 1, 1) := by decide +kernel
theorem dX10_fill_115 : decode cX10_fill 115 = .ok (.iload 10, 2) := by decide +kernel
theorem dX10_fill_117 : decode cX10_fill 117 = .ok (.iload_n 3, 1) := by decide +kernel
theorem dX10_fill_118 : decode cX10_fill 118 = .ok (.iload 4, 2) := by decide +kernel
theorem dX10_fill_120 : decode cX10_fill 120 = .ok (.invokevirtual 38, 3) := by decide +kernel
theorem dX10_fill_123 : decode cX10_fill 123 = .ok (.ifCond .ne 59, 3) := by decide +kernel
theorem dX10_fill_126 : decode cX10_fill 126 = .ok (.aload 11, 2) := by decide +kernel
theorem dX10_fill_128 : decode cX10_fill 128 = .ok (.iload 8, 2) := by decide +kernel
theorem dX10_fill_130 : decode cX10_fill 130 = .ok (.aload_n 1, 1) := by decide +kernel
theorem dX10_fill_131 : decode cX10_fill 131 = .ok (.getfield 35, 3) := by decide +kernel
theorem dX10_fill_134 : decode cX10_fill 134 = .ok (.iload 4, 2) := by decide +kernel
theorem dX10_fill_136 : decode cX10_fill 136 = .ok (.invokevirtual 42, 3) := by decide +kernel
theorem dX10_fill_139 : decode cX10_fill 139 = .ok (.ifCond .ne 43, 3) := by decide +kernel
theorem dX10_fill_142 : decode cX10_fill 142 = .ok (.aload_n 0, 1) := by decide +kernel
theorem dX10_fill_143 : decode cX10_fill 143 = .ok (.getfield 15, 3) := by decide +kernel
theorem dX10_fill_146 : decode cX10_fill 146 = .ok (.iload 7, 2) := by decide +kernel
theorem dX10_fill_148 : decode cX10_fill 148 = .ok (.dup2, 1) := by decide +kernel
theorem dX10_fill_149 : decode cX10_fill 149 = .ok (.iaload, 1) := by decide +kernel
theorem dX10_fill_150 : decode cX10_fill 150 = .ok (.iconst 1, 1) := by decide +kernel
theorem dX10_fill_151 : decode cX10_fill 151 = .ok (.iload 10, 2) := by decide +kernel
theorem dX10_fill_153 : decode cX10_fill 153 = .ok (.ishl, 1) := by decide +kernel
theorem dX10_fill_154 : decode cX10_fill 154 = .ok (.ior, 1) := by decide +kernel
theorem dX10_fill_155 : decode cX10_fill 155 = .ok (.iastore, 1) := by decide +kernel
theorem dX10_fill_156 : decode cX10_fill 156 = .ok (.aload_n 0, 1) := by decide +kernel
theorem dX10_fill_157 : decode cX10_fill 157 = .ok (.getfield 18, 3) := by decide +kernel
theorem dX10_fill_160 : decode cX10_fill 160 = .ok (.iload 7, 2) := by decide +kernel
theorem dX10_fill_162 : decode cX10_fill 162 = .ok (.bipush 12, 2) := by decide +kernel
theorem dX10_fill_164 : decode cX10_fill 164 = .ok (.imul, 1) := by decide +kernel
theorem dX10_fill_165 : decode cX10_fill 165 = .ok (.iload 10, 2) := by decide +kernel
theorem dX10_fill_167 : decode cX10_fill 167 = .ok (.iadd, 1) := by decide +kernel
theorem dX10_fill_168 : decode cX10_fill 168 = .ok (.aload 11, 2) := by decide +kernel
theorem dX10_fill_170 : decode cX10_fill 170 = .ok (.iload 8, 2) := by decide +kernel
theorem dX10_fill_172 : decode cX10_fill 172 = .ok (.aload_n 1, 1) := by decide +kernel
theorem dX10_fill_173 : decode cX10_fill 173 = .ok (.getfield 35, 3) := by decide +kernel
theorem dX10_fill_176 : decode cX10_fill 176 = .ok (.iload 4, 2) := by decide +kernel
theorem dX10_fill_178 : decode cX10_fill 178 = .ok (.invokevirtual 48, 3) := by decide +kernel
theorem dX10_fill_181 : decode cX10_fill 181 = .ok (.iastore, 1) := by decide +kernel
theorem dX10_fill_182 : decode cX10_fill 182 = .ok (.iinc 10 1, 3) := by decide +kernel
theorem dX10_fill_185 : decode cX10_fill 185 = .ok (.goto (-106), 3) := by decide +kernel
theorem dX10_fill_188 : decode cX10_fill 188 = .ok (.iinc 7 1, 3) := by decide +kernel
theorem dX10_fill_191 : decode cX10_fill 191 = .ok (.goto (-188), 3) := by decide +kernel
theorem dX10_fill_194 : decode cX10_fill 194 = .ok (.return_, 1) := by decide +kernel
theorem dJ6_bitCount_0f7a4_0 : decode cJ6_bitCount_0f7a4 0 = .ok (.iload_n 0, 1) := by decide +kernel
theorem dJ6_bitCount_0f7a4_1 : decode cJ6_bitCount_0f7a4 1 = .ok (.iload_n 0, 1) := by decide +kernel
theorem dJ6_bitCount_0f7a4_2 : decode cJ6_bitCount_0f7a4 2 = .ok (.iconst 1, 1) := by decide +kernel
theorem dJ6_bitCount_0f7a4_3 : decode cJ6_bitCount_0f7a4 3 = .ok (.iushr, 1) := by decide +kernel
theorem dJ6_bitCount_0f7a4_4 : decode cJ6_bitCount_0f7a4 4 = .ok (.ldc_w 265, 3) := by decide +kernel
theorem dJ6_bitCount_0f7a4_7 : decode cJ6_bitCount_0f7a4 7 = .ok (.iand, 1) := by decide +kernel
theorem dJ6_bitCount_0f7a4_8 : decode cJ6_bitCount_0f7a4 8 = .ok (.isub, 1) := by decide +kernel
theorem dJ6_bitCount_0f7a4_9 : decode cJ6_bitCount_0f7a4 9 = .ok (.istore_n 0, 1) := by decide +kernel
theorem dJ6_bitCount_0f7a4_10 : decode cJ6_bitCount_0f7a4 10 = .ok (.iload_n 0, 1) := by decide +kernel
theorem dJ6_bitCount_0f7a4_11 : decode cJ6_bitCount_0f7a4 11 = .ok (.ldc_w 266, 3) := by decide +kernel
theorem dJ6_bitCount_0f7a4_14 : decode cJ6_bitCount_0f7a4 14 = .ok (.iand, 1) := by decide +kernel
theorem dJ6_bitCount_0f7a4_15 : decode cJ6_bitCount_0f7a4 15 = .ok (.iload_n 0, 1) := by decide +kernel
theorem dJ6_bitCount_0f7a4_16 : decode cJ6_bitCount_0f7a4 16 = .ok (.iconst 2, 1) := by decide +kernel
theorem dJ6_bitCount_0f7a4_17 : decode cJ6_bitCount_0f7a4 17 = .ok (.iushr, 1) := by decide +kernel
theorem dJ6_bitCount_0f7a4_18 : decode cJ6_bitCount_0f7a4 18 = .ok (.ldc_w 266, 3) := by decide +kernel
theorem dJ6_bitCount_0f7a4_21 : decode cJ6_bitCount_0f7a4 21 = .ok (.iand, 1) := by decide +kernel
theorem dJ6_bitCount_0f7a4_22 : decode cJ6_bitCount_0f7a4 22 = .ok (.iadd, 1) := by decide +kernel
theorem dJ6_bitCount_0f7a4_23 : decode cJ6_bitCount_0f7a4 23 = .ok (.istore_n 0, 1) := by decide +kernel
theorem dJ6_bitCount_0f7a4_24 : decode cJ6_bitCount_0f7a4 24 = .ok (.iload_n 0, 1) := by decide +kernel
theorem dJ6_bitCount_0f7a4_25 : decode cJ6_bitCount_0f7a4 25 = .ok (.iload_n 0, 1) := by decide +kernel
theorem dJ6_bitCount_0f7a4_26 : decode cJ6_bitCount_0f7a4 26 = .ok (.iconst 4, 1) := by decide +kernel
theorem dJ6_bitCount_0f7a4_27 : decode cJ6_bitCount_0f7a4 27 = .ok (.iushr, 1) := by decide +kernel
theorem dJ6_bitCount_0f7a4_28 : decode cJ6_bitCount_0f7a4 28 = .ok (.iadd, 1) := by decide +kernel
theorem dJ6_bitCount_0f7a4_29 : decode cJ6_bitCount_0f7a4 29 = .ok (.ldc_w 267, 3) := by decide +kernel
theorem dJ6_bitCount_0f7a4_32 : decode cJ6_bitCount_0f7a4 32 = .ok (.iand, 1) := by decide +kernel
theorem dJ6_bitCount_0f7a4_33 : decode cJ6_bitCount_0f7a4 33 = .ok (.istore_n 0, 1) := by decide +kernel
theorem dJ6_bitCount_0f7a4_34 : decode cJ6_bitCount_0f7a4 34 = .ok (.iload_n 0, 1) := by decide +kernel
theorem dJ6_bitCount_0f7a4_35 : decode cJ6_bitCount_0f7a4 35 = .ok (.iload_n 0, 1) := by decide +kernel
theorem dJ6_bitCount_0f7a4_36 : decode cJ6_bitCount_0f7a4 36 = .ok (.bipush 8, 2) := by decide +kernel
theorem dJ6_bitCount_0f7a4_38 : decode cJ6_bitCount_0f7a4 38 = .ok (.iushr, 1) := by decide +kernel
theorem dJ6_bitCount_0f7a4_39 : decode cJ6_bitCount_0f7a4 39 = .ok (.iadd, 1) := by decide +kernel
theorem dJ6_bitCount_0f7a4_40 : decode cJ6_bitCount_0f7a4 40 = .ok (.istore_n 0, 1) := by decide +kernel
theorem dJ6_bitCount_0f7a4_41 : decode cJ6_bitCount_0f7a4 41 = .ok (.iload_n 0, 1) := by decide +kernel
theorem dJ6_bitCount_0f7a4_42 : decode cJ6_bitCount_0f7a4 42 = .ok (.iload_n 0, 1) := by decide +kernel
theorem dJ6_bitCount_0f7a4_43 : decode cJ6_bitCount_0f7a4 43 = .ok (.bipush 16, 2) := by decide +kernel
theorem dJ6_bitCount_0f7a4_45 : decode cJ6_bitCount_0f7a4 45 = .ok (.iushr, 1) := by decide +kernel
theorem dJ6_bitCount_0f7a4_46 : decode cJ6_bitCount_0f7a4 46 = .ok (.iadd, 1) := by decide +kernel
theorem dJ6_bitCount_0f7a4_47 : decode cJ6_bitCount_0f7a4 47 = .ok (.istore_n 0, 1) := by decide +kernel
theorem dJ6_bitCount_0f7a4_48 : decode cJ6_bitCount_0f7a4 48 = .ok (.iload_n 0, 1) := by decide +kernel
theorem dJ6_bitCount_0f7a4_49 : decode cJ6_bitCount_0f7a4 49 = .ok (.bipush 63, 2) := by decide +kernel
theorem dJ6_bitCount_0f7a4_51 : decode cJ6_bitCount_0f7a4 51 = .ok (.iand, 1) := by decide +kernel
theorem dJ6_bitCount_0f7a4_52 : decode cJ6_bitCount_0f7a4 52 = .ok (.ireturn, 1) := by decide +kernel
theorem dJ9_floorDiv_7cf53_0 : decode cJ9_floorDiv_7cf53 0 = .ok (.iload_n 0, 1) := by decide +kernel
theorem dJ9_floorDiv_7cf53_1 : decode cJ9_floorDiv_7cf53 1 = .ok (.iload_n 1, 1) := by decide +kernel
theorem dJ9_floorDiv_7cf53_2 : decode cJ9_floorDiv_7cf53 2 = .ok (.idiv, 1) := by decide +kernel
theorem dJ9_floorDiv_7cf53_3 : decode cJ9_floorDiv_7cf53 3 = .ok (.istore_n 2, 1) := by decide +kernel
theorem dJ9_floorDiv_7cf53_4 : decode cJ9_floorDiv_7cf53 4 = .ok (.iload_n 0, 1) := by decide +kernel
theorem dJ9_floorDiv_7cf53_5 : decode cJ9_floorDiv_7cf53 5 = .ok (.iload_n 1, 1) := by decide +kernel
theorem dJ9_floorDiv_7cf53_6 : decode cJ9_floorDiv_7cf53 6 = .ok (.ixor, 1) := by decide +kernel
theorem dJ9_floorDiv_7cf53_7 : decode cJ9_floorDiv_7cf53 7 = .ok (.ifCond .ge 14, 3) := by decide +kernel
theorem dJ9_floorDiv_7cf53_10 : decode cJ9_floorDiv_7cf53 10 = .ok (.iload_n 2, 1) := by decide +kernel
theorem dJ9_floorDiv_7cf53_11 : decode cJ9_floorDiv_7cf53 11 = .ok (.iload_n 1, 1) := by decide +kernel
theorem dJ9_floorDiv_7cf53_12 : decode cJ9_floorDiv_7cf53 12 = .ok (.imul, 1) := by decide +kernel
theorem dJ9_floorDiv_7cf53_13 : decode cJ9_floorDiv_7cf53 13 = .ok (.iload_n 0, 1) := by decide +kernel
theorem dJ9_floorDiv_7cf53_14 : decode cJ9_floorDiv_7cf53 14 = .ok (.if_icmp .eq 7, 3) := by decide +kernel
theorem dJ9_floorDiv_7cf53_17 : decode cJ9_floorDiv_7cf53 17 = .ok (.iload_n 2, 1) := by decide +kernel
theorem dJ9_floorDiv_7cf53_18 : decode cJ9_floorDiv_7cf53 18 = .ok (.iconst 1, 1) := by decide +kernel
theorem dJ9_floorDiv_7cf53_19 : decode cJ9_floorDiv_7cf53 19 = .ok (.isub, 1) := by decide +kernel
theorem dJ9_floorDiv_7cf53_20 : decode cJ9_floorDiv_7cf53 20 = .ok (.ireturn, 1) := by decide +kernel
theorem dJ9_floorDiv_7cf53_21 : decode cJ9_floorDiv_7cf53 21 = .ok (.iload_n 2, 1) := by decide +kernel
theorem dJ9_floorDiv_7cf53_22 : decode cJ9_floorDiv_7cf53 22 = .ok (.ireturn, 1) := by decide +kernel
theorem dJ9_floorMod_7cf53_0 : decode cJ9_floorMod_7cf53 0 = .ok (.iload_n 0, 1) := by decide +kernel
theorem dJ9_floorMod_7cf53_1 : decode cJ9_floorMod_7cf53 1 = .ok (.iload_n 1, 1) := by decide +kernel
theorem dJ9_floorMod_7cf53_2 : decode cJ9_floorMod_7cf53 2 = .ok (.irem, 1) := by decide +kernel
theorem dJ9_floorMod_7cf53_3 : decode cJ9_floorMod_7cf53 3 = .ok (.istore_n 2, 1) := by decide +kernel
theorem dJ9_floorMod_7cf53_4 : decode cJ9_floorMod_7cf53 4 = .ok (.iload_n 0, 1) := by decide +kernel
theorem dJ9_floorMod_7cf53_5 : decode cJ9_floorMod_7cf53 5 = .ok (.iload_n 1, 1) := by decide +kernel
theorem dJ9_floorMod_7cf53_6 : decode cJ9_floorMod_7cf53 6 = .ok (.ixor, 1) := by decide +kernel
theorem dJ9_floorMod_7cf53_7 : decode cJ9_floorMod_7cf53 7 = .ok (.ifCond .ge 11, 3) := by decide +kernel
theorem dJ9_floorMod_7cf53_10 : decode cJ9_floorMod_7cf53 10 = .ok (.iload_n 2, 1) := by decide +kernel
theorem dJ9_floorMod_7cf53_11 : decode cJ9_floorMod_7cf53 11 = .ok (.ifCond .eq 7, 3) := by decide +kernel
theorem dJ9_floorMod_7cf53_14 : decode cJ9_floorMod_7cf53 14 = .ok (.iload_n 2, 1) := by decide +kernel
theorem dJ9_floorMod_7cf53_15 : decode cJ9_floorMod_7cf53 15 = .ok (.iload_n 1, 1) := by decide +kernel
theorem dJ9_floorMod_7cf53_16 : decode cJ9_floorMod_7cf53 16 = .ok (.iadd, 1) := by decide +kernel
theorem dJ9_floorMod_7cf53_17 : decode cJ9_floorMod_7cf53 17 = .ok (.ireturn, 1) := by decide +kernel
theorem dJ9_floorMod_7cf53_18 : decode cJ9_floorMod_7cf53 18 = .ok (.iload_n 2, 1) := by decide +kernel
theorem dJ9_floorMod_7cf53_19 : decode cJ9_floorMod_7cf53 19 = .ok (.ireturn, 1) := by decide +kernel
theorem dJ9_abs_0f7a4_0 : decode cJ9_abs_0f7a4 0 = .ok (.iload_n 0, 1) := by decide +kernel
theorem dJ9_abs_0f7a4_1 : decode cJ9_abs_0f7a4 1 = .ok (.ifCond .ge 8, 3) := by decide +kernel
theorem dJ9_abs_0f7a4_4 : decode cJ9_abs_0f7a4 4 = .ok (.iload_n 0, 1) := by decide +kernel
theorem dJ9_abs_0f7a4_5 : decode cJ9_abs_0f7a4 5 = .ok (.ineg, 1) := by decide +kernel
theorem dJ9_abs_0f7a4_6 : decode cJ9_abs_0f7a4 6 = .ok (.goto 4, 3) := by decide +kernel
theorem dJ9_abs_0f7a4_9 : decode cJ9_abs_0f7a4 9 = .ok (.iload_n 0, 1) := by decide +kernel
theorem dJ9_abs_0f7a4_10 : decode cJ9_abs_0f7a4 10 = .ok (.ireturn, 1) := by decide +kernel
theorem dJ9_max_7cf53_0 : decode cJ9_max_7cf53 0 = .ok (.iload_n 0, 1) := by decide +kernel
theorem dJ9_max_7cf53_1 : decode cJ9_max_7cf53 1 = .ok (.iload_n 1, 1) := by decide +kernel
theorem dJ9_max_7cf53_2 : decode cJ9_max_7cf53 2 = .ok (.if_icmp .lt 7, 3) := by decide +kernel
theorem dJ9_max_7cf53_5 : decode cJ9_max_7cf53 5 = .ok (.iload_n 0, 1) := by decide +kernel
theorem dJ9_max_7cf53_6 : decode cJ9_max_7cf53 6 = .ok (.goto 4, 3) := by decide +kernel
theorem dJ9_max_7cf53_9 : decode cJ9_max_7cf53 9 = .ok (.iload_n 1, 1) := by decide +kernel
theorem dJ9_max_7cf53_10 : decode cJ9_max_7cf53 10 = .ok (.ireturn, 1) := by decide +kernel
theorem dJ9_min_7cf53_0 : decode cJ9_min_7cf53 0 = .ok (.iload_n 0, 1) := by decide +kernel
theorem dJ9_min_7cf53_1 : decode cJ9_min_7cf53 1 = .ok (.iload_n 1, 1) := by decide +kernel
theorem dJ9_min_7cf53_2 : decode cJ9_min_7cf53 2 = .ok (.if_icmp .gt 7, 3) := by decide +kernel
theorem dJ9_min_7cf53_5 : decode cJ9_min_7cf53 5 = .ok (.iload_n 0, 1) := by decide +kernel
theorem dJ9_min_7cf53_6 : decode cJ9_min_7cf53 6 = .ok (.goto 4, 3) := by decide +kernel
theorem dJ9_min_7cf53_9 : decode cJ9_min_7cf53 9 = .ok (.iload_n 1, 1) := by decide +kernel
theorem dJ9_min_7cf53_10 : decode cJ9_min_7cf53 10 = .ok (.ireturn, 1) := by decide +kernel
theorem dJ7_fill_53178_0 : decode cJ7_fill_53178 0 = .ok (.iconst 0, 1) := by decide +kernel
theorem dJ7_fill_53178_1 : decode cJ7_fill_53178 1 = .ok (.istore_n 2, 1) := by decide +kernel
theorem dJ7_fill_53178_2 : decode cJ7_fill_53178 2 = .ok (.aload_n 0, 1) := by decide +kernel
theorem dJ7_fill_53178_3 : decode cJ7_fill_53178 3 = .ok (.arraylength, 1) := by decide +kernel
theorem dJ7_fill_53178_4 : decode cJ7_fill_53178 4 = .ok (.istore_n 3, 1) := by decide +kernel
theorem dJ7_fill_53178_5 : decode cJ7_fill_53178 5 = .ok (.iload_n 2, 1) := by decide +kernel
theorem dJ7_fill_53178_6 : decode cJ7_fill_53178 6 = .ok (.iload_n 3, 1) := by decide +kernel
theorem dJ7_fill_53178_7 : decode cJ7_fill_53178 7 = .ok (.if_icmp .ge 13, 3) := by decide +kernel
theorem dJ7_fill_53178_10 : decode cJ7_fill_53178 10 = .ok (.aload_n 0, 1) := by decide +kernel
theorem dJ7_fill_53178_11 : decode cJ7_fill_53178 11 = .ok (.iload_n 2, 1) := by decide +kernel
theorem dJ7_fill_53178_12 : decode cJ7_fill_53178 12 = .ok (.iload_n 1, 1) := by decide +kernel
theorem dJ7_fill_53178_13 : decode cJ7_fill_53178 13 = .ok (.iastore, 1) := by decide +kernel
theorem dJ7_fill_53178_14 : decode cJ7_fill_53178 14 = .ok (.iinc 2 1, 3) := by decide +kernel
theorem dJ7_fill_53178_17 : decode cJ7_fill_53178 17 = .ok (.goto (-12), 3) := by decide +kernel
theorem dJ7_fill_53178_20 : decode cJ7_fill_53178 20 = .ok (.return_, 1) := by decide +kernel
theorem dJ7_fill_031fb_0 : decode cJ7_fill_031fb 0 = .ok (.iconst 0, 1) := by decide +kernel
theorem dJ7_fill_031fb_1 : decode cJ7_fill_031fb 1 = .ok (.istore_n 2, 1) := by decide +kernel
theorem dJ7_fill_031fb_2 : decode cJ7_fill_031fb 2 = .ok (.aload_n 0, 1) := by decide +kernel
theorem dJ7_fill_031fb_3 : decode cJ7_fill_031fb 3 = .ok (.arraylength, 1) := by decide +kernel
theorem dJ7_fill_031fb_4 : decode cJ7_fill_031fb 4 = .ok (.istore_n 3, 1) := by decide +kernel
theorem dJ7_fill_031fb_5 : decode cJ7_fill_031fb 5 = .ok (.iload_n 2, 1) := by decide +kernel
theorem dJ7_fill_031fb_6 : decode cJ7_fill_031fb 6 = .ok (.iload_n 3, 1) := by decide +kernel
theorem dJ7_fill_031fb_7 : decode cJ7_fill_031fb 7 = .ok (.if_icmp .ge 13, 3) := by decide +kernel
theorem dJ7_fill_031fb_10 : decode cJ7_fill_031fb 10 = .ok (.aload_n 0, 1) := by decide +kernel
theorem dJ7_fill_031fb_11 : decode cJ7_fill_031fb 11 = .ok (.iload_n 2, 1) := by decide +kernel
theorem dJ7_fill_031fb_12 : decode cJ7_fill_031fb 12 = .ok (.iload_n 1, 1) := by decide +kernel
theorem dJ7_fill_031fb_13 : decode cJ7_fill_031fb 13 = .ok (.bastore, 1) := by decide +kernel
theorem dJ7_fill_031fb_14 : decode cJ7_fill_031fb 14 = .ok (.iinc 2 1, 3) := by decide +kernel
theorem dJ7_fill_031fb_17 : decode cJ7_fill_031fb 17 = .ok (.goto (-12), 3) := by decide +kernel
theorem dJ7_fill_031fb_20 : decode cJ7_fill_031fb 20 = .ok (.return_, 1) := by decide +kernel
