theorem dX11_init_0 : decode cX11_init 0 = .ok (.aload_n 0, 1) := by decide +kernel
theorem dX11_init_1 : decode cX11_init 1 = .ok (.invokespecial 1, 3) := by decide +kernel
theorem dX11_init_4 : decode cX11_init 4 = .ok (.aload_n 0, 1) := by decide +kernel
theorem dX11_init_5 : decode cX11_init 5 = .ok (.bipush 8, 2) := by decide +kernel
theorem dX11_init_7 : decode cX11_init 7 = .ok (.anewarray 9, 3) := by decide +kernel
theorem dX11_init_10 : decode cX11_init 10 = .ok (.putfield 11, 3) := by decide +kernel
theorem dX11_init_13 : decode cX11_init 13 = .ok (.aload_n 0, 1) := by decide +kernel
theorem dX11_init_14 : decode cX11_init 14 = .ok (.bipush 12, 2) := by decide +kernel
theorem dX11_init_16 : decode cX11_init 16 = .ok (.anewarray 15, 3) := by decide +kernel
theorem dX11_init_19 : decode cX11_init 19 = .ok (.putfield 17, 3) := by decide +kernel
theorem dX11_init_22 : decode cX11_init 22 = .ok (.aload_n 0, 1) := by decide +kernel
theorem dX11_init_23 : decode cX11_init 23 = .ok (.iconst 4, 1) := by decide +kernel
theorem dX11_init_24 : decode cX11_init 24 = .ok (.anewarray 21, 3) := by decide +kernel
theorem dX11_init_27 : decode cX11_init 27 = .ok (.putfield 23, 3) := by decide +kernel
theorem dX11_init_30 : decode cX11_init 30 = .ok (.aload_n 0, 1) := by decide +kernel
theorem dX11_init_31 : decode cX11_init 31 = .ok (.iconst 4, 1) := by decide +kernel
theorem dX11_init_32 : decode cX11_init 32 = .ok (.anewarray 27, 3) := by decide +kernel
theorem dX11_init_35 : decode cX11_init 35 = .ok (.putfield 29, 3) := by decide +kernel
theorem dX11_init_38 : decode cX11_init 38 = .ok (.iconst 0, 1) := by decide +kernel
theorem dX11_init_39 : decode cX11_init 39 = .ok (.istore_n 1, 1) := by decide +kernel
theorem dX11_init_40 : decode cX11_init 40 = .ok (.iload_n 1, 1) := by decide +kernel
theorem dX11_init_41 : decode cX11_init 41 = .ok (.iconst 4, 1) := by decide +kernel
theorem dX11_init_42 : decode cX11_init 42 = .ok (.if_icmp .ge 22, 3) := by decide +kernel
theorem dX11_init_45 : decode cX11_init 45 = .ok (.aload_n 0, 1) := by decide +kernel
theorem dX11_init_46 : decode cX11_init 46 = .ok (.getfield 29, 3) := by decide +kernel
theorem dX11_init_49 : decode cX11_init 49 = .ok (.iload_n 1, 1) := by decide +kernel
theorem dX11_init_50 : decode cX11_init 50 = .ok (.new 27, 3) := by decide +kernel
theorem dX11_init_53 : decode cX11_init 53 = .ok (.dup, 1) := by decide +kernel
theorem dX11_init_54 : decode cX11_init 54 = .ok (.invokespecial 33, 3) := by decide +kernel
theorem dX11_init_57 : decode cX11_init 57 = .ok (.aastore, 1) := by decide +kernel
theorem dX11_init_58 : decode cX11_init 58 = .ok (.iinc 1 1, 3) := by decide +kernel
theorem dX11_init_61 : decode cX11_init 61 = .ok (.goto (-21), 3) := by decide +kernel
theorem dX11_init_64 : decode cX11_init 64 = .ok (.aload_n 0, 1) := by decide +kernel
theorem dX11_init_65 : decode cX11_init 65 = .ok (.new 34, 3) := by decide +kernel
theorem dX11_init_68 : decode cX11_init 68 = .ok (.dup, 1) := by decide +kernel
theorem dX11_init_69 : decode cX11_init 69 = .ok (.invokespecial 36, 3) := by decide +kernel
theorem dX11_init_72 : decode cX11_init 72 = .ok (.putfield 37, 3) := by decide +kernel
theorem dX11_init_75 : decode cX11_init 75 = .ok (.aload_n 0, 1) := by decide +kernel
theorem dX11_init_76 : decode cX11_init 76 = .ok (.new 41, 3) := by decide +kernel
theorem dX11_init_79 : decode cX11_init 79 = .ok (.dup, 1) := by decide +kernel
theorem dX11_init_80 : decode cX11_init 80 = .ok (.invokespecial 43, 3) := by decide +kernel
theorem dX11_init_83 : decode cX11_init 83 = .ok (.putfield 44, 3) := by decide +kernel
theorem dX11_init_86 : decode cX11_init 86 = .ok (.aload_n 0, 1) := by decide +kernel
theorem dX11_init_87 : decode cX11_init 87 = .ok (.new 48, 3) := by decide +kernel
theorem dX11_init_90 : decode cX11_init 90 = .ok (.dup, 1) := by decide +kernel
theorem dX11_init_91 : decode cX11_init 91 = .ok (.invokespecial 50, 3) := by decide +kernel
theorem dX11_init_94 : decode cX11_init 94 = .ok (.putfield 51, 3) := by decide +kernel
theorem dX11_init_97 : decode cX11_init 97 = .ok (.aload_n 0, 1) := by decide +kernel
theorem dX11_init_98 : decode cX11_init 98 = .ok (.new 55, 3) := by decide +kernel
theorem dX11_init_101 : decode cX11_init 101 = .ok (.dup, 1) := by decide +kernel
theorem dX11_init_102 : decode cX11_init 102 = .ok (.invokespecial 57, 3) := by decide +kernel
theorem dX11_init_105 : decode cX11_init 105 = .ok (.putfield 58, 3) := by decide +kernel
theorem dX11_init_108 : decode cX11_init 108 = .ok (.aload_n 0, 1) := by decide +kernel
theorem dX11_init_109 : decode cX11_init 109 = .ok (.new 62, 3) := by decide +kernel
theorem dX11_init_112 : decode cX11_init 112 = .ok (.dup, 1) := by decide +kernel
theorem dX11_init_113 : decode cX11_init 113 = .ok (.invokespecial 64, 3) := by decide +kernel
theorem dX11_init_116 : decode cX11_init 116 = .ok (.putfield 65, 3) := by decide +kernel
theorem dX11_init_119 : decode cX11_init 119 = .ok (.return_, 1) := by decide +kernel
theorem dX11_land_0 : decode cX11_land 0 = .ok (.aload_n 0, 1) := by decide +kernel
theorem dX11_land_1 : decode cX11_land 1 = .ok (.getfield 69, 3) := by decide +kernel
theorem dX11_land_4 : decode cX11_land 4 = .ok (.bipush 8, 2) := by decide +kernel
theorem dX11_land_6 : decode cX11_land 6 = .ok (.if_icmp .ge 10, 3) := by decide +kernel
theorem dX11_land_9 : decode cX11_land 9 = .ok (.iload_n 1, 1) := by decide +kernel
theorem dX11_land_10 : decode cX11_land 10 = .ok (.invokestatic 73, 3) := by decide +kernel
theorem dX11_land_13 : decode cX11_land 13 = .ok (.ifCond .ne 5, 3) := by decide +kernel
theorem dX11_land_16 : decode cX11_land 16 = .ok (.iconst (-1), 1) := by decide +kernel
theorem dX11_land_17 : decode cX11_land 17 = .ok (.ireturn, 1) := by decide +kernel
theorem dX11_land_18 : decode cX11_land 18 = .ok (.aload_n 0, 1) := by decide +kernel
theorem dX11_land_19 : decode cX11_land 19 = .ok (.getfield 11, 3) := by decide +kernel
theorem dX11_land_22 : decode cX11_land 22 = .ok (.aload_n 0, 1) := by decide +kernel
theorem dX11_land_23 : decode cX11_land 23 = .ok (.getfield 69, 3) := by decide +kernel
theorem dX11_land_26 : decode cX11_land 26 = .ok (.new 9, 3) := by decide +kernel
theorem dX11_land_29 : decode cX11_land 29 = .ok (.dup, 1) := by decide +kernel
theorem dX11_land_30 : decode cX11_land 30 = .ok (.iload_n 1, 1) := by decide +kernel
theorem dX11_land_31 : decode cX11_land 31 = .ok (.invokespecial 77, 3) := by decide +kernel
theorem dX11_land_34 : decode cX11_land 34 = .ok (.aastore, 1) := by decide +kernel
theorem dX11_land_35 : decode cX11_land 35 = .ok (.aload_n 0, 1) := by decide +kernel
theorem dX11_land_36 : decode cX11_land 36 = .ok (.dup, 1) := by decide +kernel
theorem dX11_land_37 : decode cX11_land 37 = .ok (.getfield 69, 3) := by decide +kernel
theorem dX11_land_40 : decode cX11_land 40 = .ok (.dup_x1, 1) := by decide +kernel
theorem dX11_land_41 : decode cX11_land 41 = .ok (.iconst 1, 1) := by decide +kernel
theorem dX11_land_42 : decode cX11_land 42 = .ok (.iadd, 1) := by decide +kernel
theorem dX11_land_43 : decode cX11_land 43 = .ok (.putfield 69, 3) := by decide +kernel
theorem dX11_land_46 : decode cX11_land 46 = .ok (.ireturn, 1) := by decide +kernel
theorem dX11_person_0 : decode cX11_person 0 = .ok (.aload_n 0, 1) := by decide +kernel
theorem dX11_person_1 : decode cX11_person 1 = .ok (.iload_n 1, 1) := by decide +kernel
theorem dX11_person_2 : decode cX11_person 2 = .ok (.invokevirtual 80, 3) := by decide +kernel
theorem dX11_person_5 : decode cX11_person 5 = .ok (.astore_n 3, 1) := by decide +kernel
theorem dX11_person_6 : decode cX11_person 6 = .ok (.aload_n 0, 1) := by decide +kernel
theorem dX11_person_7 : decode cX11_person 7 = .ok (.getfield 84, 3) := by decide +kernel
theorem dX11_person_10 : decode cX11_person 10 = .ok (.bipush 12, 2) := by decide +kernel
theorem dX11_person_12 : decode cX11_person 12 = .ok (.if_icmp .ge 18, 3) := by decide +kernel
theorem dX11_person_15 : decode cX11_person 15 = .ok (.aload_n 3, 1) := by decide +kernel
theorem dX11_person_16 : decode cX11_person 16 = .ok (.ifnull 14, 3) := by decide +kernel
theorem dX11_person_19 : decode cX11_person 19 = .ok (.iload_n 2, 1) := by decide +kernel
theorem dX11_person_20 : decode cX11_person 20 = .ok (.ifCond .lt 10, 3) := by decide +kernel
theorem dX11_person_23 : decode cX11_person 23 = .ok (.iload_n 2, 1) := by decide +kernel
theorem dX11_person_24 : decode cX11_person 24 = .ok (.sipush 128, 3) := by decide +kernel
theorem dX11_person_27 : decode cX11_person 27 = .ok (.if_icmp .lt 5, 3) := by decide +kernel
theorem dX11_person_30 : decode cX11_person 30 = .ok (.iconst (-1), 1) := by decide +kernel
theorem dX11_person_31 : decode cX11_person 31 = .ok (.ireturn, 1) := by decide +kernel
theorem dX11_person_32 : decode cX11_person 32 = .ok (.aload_n 0, 1) := by decide +kernel
theorem dX11_person_33 : decode cX11_person 33 = .ok (.getfield 17, 3) := by decide +kernel
theorem dX11_person_36 : decode cX11_person 36 = .ok (.aload_n 0, 1) := by decide +kernel
theorem dX11_person_37 : decode cX11_person 37 = .ok (.getfield 84, 3) := by decide +kernel
theorem dX11_person_40 : decode cX11_person 40 = .ok (.new 15, 3) := by decide +kernel
theorem dX11_person_43 : decode cX11_person 43 = .ok (.dup, 1) := by decide +kernel
theorem dX11_person_44 : decode cX11_person 44 = .ok (.aload_n 3, 1) := by decide +kernel
theorem dX11_person_45 : decode cX11_person 45 = .ok (.iload_n 2, 1) := by decide +kernel
theorem dX11_person_46 : decode cX11_person 46 = .ok (.invokespecial 87, 3) := by decide +kernel
theorem dX11_person_49 : decode cX11_person 49 = .ok (.aastore, 1) := by decide +kernel
theorem dX11_person_50 : decode cX11_person 50 = .ok (.aload_n 0, 1) := by decide +kernel
theorem dX11_person_51 : decode cX11_person 51 = .ok (.dup, 1) := by decide +kernel
theorem dX11_person_52 : decode cX11_person 52 = .ok (.getfield 84, 3) := by decide +kernel
theorem dX11_person_55 : decode cX11_person 55 = .ok (.dup_x1, 1) := by decide +kernel
theorem dX11_person_56 : decode cX11_person 56 = .ok (.iconst 1, 1) := by decide +kernel
theorem dX11_person_57 : decode cX11_person 57 = .ok (.iadd, 1) := by decide +kernel
theorem dX11_person_58 : decode cX11_person 58 = .ok (.putfield 84, 3) := by decide +kernel
theorem dX11_person_61 : decode cX11_person 61 = .ok (.ireturn, 1) := by decide +kernel
theorem dX11_row_0 : decode cX11_row 0 = .ok (.aload_n 0, 1) := by decide +kernel
theorem dX11_row_1 : decode cX11_row 1 = .ok (.iload_n 1, 1) := by decide +kernel
theorem dX11_row_2 : decode cX11_row 2 = .ok (.invokevirtual 90, 3) := by decide +kernel
theorem dX11_row_5 : decode cX11_row 5 = .ok (.astore_n 3, 1) := by decide +kernel
theorem dX11_row_6 : decode cX11_row 6 = .ok (.aload_n 3, 1) := by decide +kernel
theorem dX11_row_7 : decode cX11_row 7 = .ok (.ifnull 18, 3) := by decide +kernel
theorem dX11_row_10 : decode cX11_row 10 = .ok (.iload_n 2, 1) := by decide +kernel
theorem dX11_row_11 : decode cX11_row 11 = .ok (.ifCond .eq 14, 3) := by decide +kernel
theorem dX11_row_14 : decode cX11_row 14 = .ok (.iload_n 2, 1) := by decide +kernel
theorem dX11_row_15 : decode cX11_row 15 = .ok (.iconst (-1), 1) := by decide +kernel
theorem dX11_row_16 : decode cX11_row 16 = .ok (.if_icmp .lt 9, 3) := by decide +kernel
theorem dX11_row_19 : decode cX11_row 19 = .ok (.iload_n 2, 1) := by decide +kernel
theorem dX11_row_20 : decode cX11_row 20 = .ok (.bipush 48, 2) := by decide +kernel
theorem dX11_row_22 : decode cX11_row 22 = .ok (.if_icmp .le 5, 3) := by decide +kernel
theorem dX11_row_25 : decode cX11_row 25 = .ok (.iconst 0, 1) := by decide +kernel
theorem dX11_row_26 : decode cX11_row 26 = .ok (.ireturn, 1) := by decide +kernel
theorem dX11_row_27 : decode cX11_row 27 = .ok (.aload_n 3, 1) := by decide +kernel
theorem dX11_row_28 : decode cX11_row 28 = .ok (.iload_n 2, 1) := by decide +kernel
theorem dX11_row_29 : decode cX11_row 29 = .ok (.iconst 0, 1) := by decide +kernel
theorem dX11_row_30 : decode cX11_row 30 = .ok (.invokestatic 94, 3) := by decide +kernel
theorem dX11_row_33 : decode cX11_row 33 = .ok (.invokevirtual 100, 3) := by decide +kernel
theorem dX11_row_36 : decode cX11_row 36 = .ok (.iconst 1, 1) := by decide +kernel
theorem dX11_row_37 : decode cX11_row 37 = .ok (.ireturn, 1) := by decide +kernel
theorem dX11_cell_0 : decode cX11_cell 0 = .ok (.aload_n 0, 1) := by decide +kernel
theorem dX11_cell_1 : decode cX11_cell 1 = .ok (.iload_n 1, 1) := by decide +kernel
theorem dX11_cell_2 : decode cX11_cell 2 = .ok (.invokevirtual 90, 3) := by decide +kernel
theorem dX11_cell_5 : decode cX11_cell 5 = .ok (.astore 4, 2) := by decide +kernel
theorem dX11_cell_7 : decode cX11_cell 7 = .ok (.aload 4, 2) := by decide +kernel
theorem dX11_cell_9 : decode cX11_cell 9 = .ok (.ifnull 27, 3) := by decide +kernel
theorem dX11_cell_12 : decode cX11_cell 12 = .ok (.iload_n 2, 1) := by decide +kernel
theorem dX11_cell_13 : decode cX11_cell 13 = .ok (.ifCond .lt 23, 3) := by decide +kernel
theorem dX11_cell_16 : decode cX11_cell 16 = .ok (.iload_n 2, 1) := by decide +kernel
theorem dX11_cell_17 : decode cX11_cell 17 = .ok (.aload 4, 2) := by decide +kernel
theorem dX11_cell_19 : decode cX11_cell 19 = .ok (.getfield 103, 3) := by decide +kernel
theorem dX11_cell_22 : decode cX11_cell 22 = .ok (.if_icmp .ge 14, 3) := by decide +kernel
theorem dX11_cell_25 : decode cX11_cell 25 = .ok (.iload_n 3, 1) := by decide +kernel
theorem dX11_cell_26 : decode cX11_cell 26 = .ok (.iconst (-1), 1) := by decide +kernel
theorem dX11_cell_27 : decode cX11_cell 27 = .ok (.if_icmp .lt 9, 3) := by decide +kernel
theorem dX11_cell_30 : decode cX11_cell 30 = .ok (.iload_n 3, 1) := by decide +kernel
theorem dX11_cell_31 : decode cX11_cell 31 = .ok (.bipush 100, 2) := by decide +kernel
theorem dX11_cell_33 : decode cX11_cell 33 = .ok (.if_icmp .le 5, 3) := by decide +kernel
theorem dX11_cell_36 : decode cX11_cell 36 = .ok (.iconst 0, 1) := by decide +kernel
theorem dX11_cell_37 : decode cX11_cell 37 = .ok (.ireturn, 1) := by decide +kernel
theorem dX11_cell_38 : decode cX11_cell 38 = .ok (.aload 4, 2) := by decide +kernel
theorem dX11_cell_40 : decode cX11_cell 40 = .ok (.getfield 106, 3) := by decide +kernel
theorem dX11_cell_43 : decode cX11_cell 43 = .ok (.iload_n 2, 1) := by decide +kernel
theorem dX11_cell_44 : decode cX11_cell 44 = .ok (.iload_n 3, 1) := by decide +kernel
theorem dX11_cell_45 : decode cX11_cell 45 = .ok (.i2b, 1) := by decide +kernel
theorem dX11_cell_46 : decode cX11_cell 46 = .ok (.bastore, 1) := by decide +kernel
theorem dX11_cell_47 : decode cX11_cell 47 = .ok (.iconst 1, 1) := by decide +kernel
theorem dX11_cell_48 : decode cX11_cell 48 = .ok (.ireturn, 1) := by decide +kernel
theorem dX11_series_0 : decode cX11_series 0 = .ok (.aload_n 0, 1) := by decide +kernel
theorem dX11_series_1 : decode cX11_series 1 = .ok (.iload_n 2, 1) := by decide +kernel
theorem dX11_series_2 : decode cX11_series 2 = .ok (.invokevirtual 110, 3) := by decide +kernel
theorem dX11_series_5 : decode cX11_series 5 = .ok (.astore 4, 2) := by decide +kernel
theorem dX11_series_7 : decode cX11_series 7 = .ok (.iload_n 2, 1) := by decide +kernel
theorem dX11_series_8 : decode cX11_series 8 = .ok (.iconst (-1), 1) := by decide +kernel
theorem dX11_series_9 : decode cX11_series 9 = .ok (.if_icmp .eq 8, 3) := by decide +kernel
theorem dX11_series_12 : decode cX11_series 12 = .ok (.aload 4, 2) := by decide +kernel
theorem dX11_series_14 : decode cX11_series 14 = .ok (.ifnull 7, 3) := by decide +kernel
theorem dX11_series_17 : decode cX11_series 17 = .ok (.iconst 1, 1) := by decide +kernel
theorem dX11_series_18 : decode cX11_series 18 = .ok (.goto 4, 3) := by decide +kernel
theorem dX11_series_21 : decode cX11_series 21 = .ok (.iconst 0, 1) := by decide +kernel
theorem dX11_series_22 : decode cX11_series 22 = .ok (.istore 5, 2) := by decide +kernel
theorem dX11_series_24 : decode cX11_series 24 = .ok (.iload_n 3, 1) := by decide +kernel
theorem dX11_series_25 : decode cX11_series 25 = .ok (.iconst (-1), 1) := by decide +kernel
theorem dX11_series_26 : decode cX11_series 26 = .ok (.if_icmp .eq 11, 3) := by decide +kernel
theorem dX11_series_29 : decode cX11_series 29 = .ok (.aload_n 0, 1) := by decide +kernel
theorem dX11_series_30 : decode cX11_series 30 = .ok (.iload_n 3, 1) := by decide +kernel
theorem dX11_series_31 : decode cX11_series 31 = .ok (.invokevirtual 90, 3) := by decide +kernel
theorem dX11_series_34 : decode cX11_series 34 = .ok (.ifnull 7, 3) := by decide +kernel
theorem dX11_series_37 : decode cX11_series 37 = .ok (.iconst 1, 1) := by decide +kernel
theorem dX11_series_38 : decode cX11_series 38 = .ok (.goto 4, 3) := by decide +kernel
theorem dX11_series_41 : decode cX11_series 41 = .ok (.iconst 0, 1) := by decide +kernel
theorem dX11_series_42 : decode cX11_series 42 = .ok (.istore 6, 2) := by decide +kernel
theorem dX11_series_44 : decode cX11_series 44 = .ok (.aload_n 0, 1) := by decide +kernel
theorem dX11_series_45 : decode cX11_series 45 = .ok (.getfield 114, 3) := by decide +kernel
theorem dX11_series_48 : decode cX11_series 48 = .ok (.iconst 4, 1) := by decide +kernel
theorem dX11_series_49 : decode cX11_series 49 = .ok (.if_icmp .ge 24, 3) := by decide +kernel
theorem dX11_series_52 : decode cX11_series 52 = .ok (.iload_n 1, 1) := by decide +kernel
theorem dX11_series_53 : decode cX11_series 53 = .ok (.iconst 1, 1) := by decide +kernel
theorem dX11_series_54 : decode cX11_series 54 = .ok (.if_icmp .lt 19, 3) := by decide +kernel
theorem dX11_series_57 : decode cX11_series 57 = .ok (.iload_n 1, 1) := by decide +kernel
theorem dX11_series_58 : decode cX11_series 58 = .ok (.bipush 6, 2) := by decide +kernel
theorem dX11_series_60 : decode cX11_series 60 = .ok (.if_icmp .gt 13, 3) := by decide +kernel
theorem dX11_series_63 : decode cX11_series 63 = .ok (.iload 5, 2) := by decide +kernel
theorem dX11_series_65 : decode cX11_series 65 = .ok (.ifCond .eq 8, 3) := by decide +kernel
theorem dX11_series_68 : decode cX11_series 68 = .ok (.iload 6, 2) := by decide +kernel
theorem dX11_series_70 : decode cX11_series 70 = .ok (.ifCond .ne 5, 3) := by decide +kernel
theorem dX11_series_73 : decode cX11_series 73 = .ok (.iconst (-1), 1) := by decide +kernel
theorem dX11_series_74 : decode cX11_series 74 = .ok (.ireturn, 1) := by decide +kernel
theorem dX11_series_75 : decode cX11_series 75 = .ok (.aload_n 0, 1) := by decide +kernel
theorem dX11_series_76 : decode cX11_series 76 = .ok (.getfield 23, 3) := by decide +kernel
theorem dX11_series_79 : decode cX11_series 79 = .ok (.aload_n 0, 1) := by decide +kernel
theorem dX11_series_80 : decode cX11_series 80 = .ok (.getfield 114, 3) := by decide +kernel
theorem dX11_series_83 : decode cX11_series 83 = .ok (.new 21, 3) := by decide +kernel
theorem dX11_series_86 : decode cX11_series 86 = .ok (.dup, 1) := by decide +kernel
theorem dX11_series_87 : decode cX11_series 87 = .ok (.aload_n 0, 1) := by decide +kernel
theorem dX11_series_88 : decode cX11_series 88 = .ok (.getfield 114, 3) := by decide +kernel
theorem dX11_series_91 : decode cX11_series 91 = .ok (.iload_n 1, 1) := by decide +kernel
theorem dX11_series_92 : decode cX11_series 92 = .ok (.aload 4, 2) := by decide +kernel
theorem dX11_series_94 : decode cX11_series 94 = .ok (.iload_n 3, 1) := by decide +kernel
theorem dX11_series_95 : decode cX11_series 95 = .ok (.invokespecial 117, 3) := by decide +kernel
theorem dX11_series_98 : decode cX11_series 98 = .ok (.aastore, 1) := by decide +kernel
theorem dX11_series_99 : decode cX11_series 99 = .ok (.aload_n 0, 1) := by decide +kernel
theorem dX11_series_100 : decode cX11_series 100 = .ok (.dup, 1) := by decide +kernel
theorem dX11_series_101 : decode cX11_series 101 = .ok (.getfield 114, 3) := by decide +kernel
theorem dX11_series_104 : decode cX11_series 104 = .ok (.dup_x1, 1) := by decide +kernel
theorem dX11_series_105 : decode cX11_series 105 = .ok (.iconst 1, 1) := by decide +kernel
theorem dX11_series_106 : decode cX11_series 106 = .ok (.iadd, 1) := by decide +kernel
theorem dX11_series_107 : decode cX11_series 107 = .ok (.putfield 114, 3) := by decide +kernel
theorem dX11_series_110 : decode cX11_series 110 = .ok (.ireturn, 1) := by decide +kernel
theorem dX11_option_0 : decode cX11_option 0 = .ok (.aload_n 0, 1) := by decide +kernel
theorem dX11_option_1 : decode cX11_option 1 = .ok (.iload_n 1, 1) := by decide +kernel
theorem dX11_option_2 : decode cX11_option 2 = .ok (.invokevirtual 110, 3) := by decide +kernel
theorem dX11_option_5 : decode cX11_option 5 = .ok (.astore_n 3, 1) := by decide +kernel
theorem dX11_option_6 : decode cX11_option 6 = .ok (.aload_n 3, 1) := by decide +kernel
theorem dX11_option_7 : decode cX11_option 7 = .ok (.ifnull 23, 3) := by decide +kernel
theorem dX11_option_10 : decode cX11_option 10 = .ok (.aload_n 3, 1) := by decide +kernel
theorem dX11_option_11 : decode cX11_option 11 = .ok (.getfield 120, 3) := by decide +kernel
theorem dX11_option_14 : decode cX11_option 14 = .ok (.bipush 6, 2) := by decide +kernel
theorem dX11_option_16 : decode cX11_option 16 = .ok (.if_icmp .ge 14, 3) := by decide +kernel
theorem dX11_option_19 : decode cX11_option 19 = .ok (.iload_n 2, 1) := by decide +kernel
theorem dX11_option_20 : decode cX11_option 20 = .ok (.ifCond .lt 10, 3) := by decide +kernel
theorem dX11_option_23 : decode cX11_option 23 = .ok (.iload_n 2, 1) := by decide +kernel
theorem dX11_option_24 : decode cX11_option 24 = .ok (.sipush 336, 3) := by decide +kernel
theorem dX11_option_27 : decode cX11_option 27 = .ok (.if_icmp .lt 5, 3) := by decide +kernel
theorem dX11_option_30 : decode cX11_option 30 = .ok (.iconst (-1), 1) := by decide +kernel
theorem dX11_option_31 : decode cX11_option 31 = .ok (.ireturn, 1) := by decide +kernel
theorem dX11_option_32 : decode cX11_option 32 = .ok (.aload_n 3, 1) := by decide +kernel
theorem dX11_option_33 : decode cX11_option 33 = .ok (.getfield 123, 3) := by decide +kernel
theorem dX11_option_36 : decode cX11_option 36 = .ok (.aload_n 3, 1) := by decide +kernel
theorem dX11_option_37 : decode cX11_option 37 = .ok (.getfield 120, 3) := by decide +kernel
theorem dX11_option_40 : decode cX11_option 40 = .ok (.iload_n 2, 1) := by decide +kernel
theorem dX11_option_41 : decode cX11_option 41 = .ok (.iastore, 1) := by decide +kernel
theorem dX11_option_42 : decode cX11_option 42 = .ok (.aload_n 3, 1) := by decide +kernel
theorem dX11_option_43 : decode cX11_option 43 = .ok (.dup, 1) := by decide +kernel
theorem dX11_option_44 : decode cX11_option 44 = .ok (.getfield 120, 3) := by decide +kernel
theorem dX11_option_47 : decode cX11_option 47 = .ok (.dup_x1, 1) := by decide +kernel
theorem dX11_option_48 : decode cX11_option 48 = .ok (.iconst 1, 1) := by decide +kernel
theorem dX11_option_49 : decode cX11_option 49 = .ok (.iadd, 1) := by decide +kernel
theorem dX11_option_50 : decode cX11_option 50 = .ok (.putfield 120, 3) := by decide +kernel
theorem dX11_option_53 : decode cX11_option 53 = .ok (.ireturn, 1) := by decide +kernel
theorem dX11_role_0 : decode cX11_role 0 = .ok (.aload_n 0, 1) := by decide +kernel
theorem dX11_role_1 : decode cX11_role 1 = .ok (.iload_n 1, 1) := by decide +kernel
theorem dX11_role_2 : decode cX11_role 2 = .ok (.invokevirtual 110, 3) := by decide +kernel
theorem dX11_role_5 : decode cX11_role 5 = .ok (.astore 4, 2) := by decide +kernel
theorem dX11_role_7 : decode cX11_role 7 = .ok (.aload 4, 2) := by decide +kernel
theorem dX11_role_9 : decode cX11_role 9 = .ok (.ifnull 21, 3) := by decide +kernel
theorem dX11_role_12 : decode cX11_role 12 = .ok (.aload_n 0, 1) := by decide +kernel
theorem dX11_role_13 : decode cX11_role 13 = .ok (.iload_n 2, 1) := by decide +kernel
theorem dX11_role_14 : decode cX11_role 14 = .ok (.invokevirtual 90, 3) := by decide +kernel
theorem dX11_role_17 : decode cX11_role 17 = .ok (.ifnull 13, 3) := by decide +kernel
theorem dX11_role_20 : decode cX11_role 20 = .ok (.iload_n 3, 1) := by decide +kernel
theorem dX11_role_21 : decode cX11_role 21 = .ok (.ifCond .lt 9, 3) := by decide +kernel
theorem dX11_role_24 : decode cX11_role 24 = .ok (.iload_n 3, 1) := by decide +kernel
theorem dX11_role_25 : decode cX11_role 25 = .ok (.bipush 6, 2) := by decide +kernel
theorem dX11_role_27 : decode cX11_role 27 = .ok (.if_icmp .lt 5, 3) := by decide +kernel
theorem dX11_role_30 : decode cX11_role 30 = .ok (.iconst 0, 1) := by decide +kernel
theorem dX11_role_31 : decode cX11_role 31 = .ok (.ireturn, 1) := by decide +kernel
theorem dX11_role_32 : decode cX11_role 32 = .ok (.aload 4, 2) := by decide +kernel
theorem dX11_role_34 : decode cX11_role 34 = .ok (.iload_n 2, 1) := by decide +kernel
theorem dX11_role_35 : decode cX11_role 35 = .ok (.iload_n 3, 1) := by decide +kernel
theorem dX11_role_36 : decode cX11_role 36 = .ok (.invokevirtual 127, 3) := by decide +kernel
theorem dX11_role_39 : decode cX11_role 39 = .ok (.iconst 1, 1) := by decide +kernel
theorem dX11_role_40 : decode cX11_role 40 = .ok (.ireturn, 1) := by decide +kernel
theorem dX11_count_0 : decode cX11_count 0 = .ok (.iload_n 1, 1) := by decide +kernel
theorem dX11_count_1 : decode cX11_count 1 = .ok (.tableswitch 60 0 4 #[35, 40, 45, 50, 55], 35) := by decide +kernel
theorem dX11_count_36 : decode cX11_count 36 = .ok (.aload_n 0, 1) := by decide +kernel
theorem dX11_count_37 : decode cX11_count 37 = .ok (.getfield 69, 3) := by decide +kernel
theorem dX11_count_40 : decode cX11_count 40 = .ok (.ireturn, 1) := by decide +kernel
theorem dX11_count_41 : decode cX11_count 41 = .ok (.aload_n 0, 1) := by decide +kernel
theorem dX11_count_42 : decode cX11_count 42 = .ok (.getfield 84, 3) := by decide +kernel
theorem dX11_count_45 : decode cX11_count 45 = .ok (.ireturn, 1) := by decide +kernel
theorem dX11_count_46 : decode cX11_count 46 = .ok (.aload_n 0, 1) := by decide +kernel
theorem dX11_count_47 : decode cX11_count 47 = .ok (.getfield 131, 3) := by decide +kernel
theorem dX11_count_50 : decode cX11_count 50 = .ok (.ireturn, 1) := by decide +kernel
theorem dX11_count_51 : decode cX11_count 51 = .ok (.aload_n 0, 1) := by decide +kernel
theorem dX11_count_52 : decode cX11_count 52 = .ok (.getfield 114, 3) := by decide +kernel
theorem dX11_count_55 : decode cX11_count 55 = .ok (.ireturn, 1) := by decide +kernel
theorem dX11_count_56 : decode cX11_count 56 = .ok (.aload_n 0, 1) := by decide +kernel
theorem dX11_count_57 : decode cX11_count 57 = .ok (.invokevirtual 134, 3) := by decide +kernel
theorem dX11_count_60 : decode cX11_count 60 = .ok (.ireturn, 1) := by decide +kernel
theorem dX11_count_61 : decode cX11_count 61 = .ok (.iconst (-1), 1) := by decide +kernel
theorem dX11_count_62 : decode cX11_count 62 = .ok (.ireturn, 1) := by decide +kernel
theorem dX11_change_0 : decode cX11_change 0 = .ok (.aload_n 0, 1) := by decide +kernel
theorem dX11_change_1 : decode cX11_change 1 = .ok (.iload_n 1, 1) := by decide +kernel
theorem dX11_change_2 : decode cX11_change 2 = .ok (.invokevirtual 80, 3) := by decide +kernel
theorem dX11_change_5 : decode cX11_change 5 = .ok (.astore 4, 2) := by decide +kernel
theorem dX11_change_7 : decode cX11_change 7 = .ok (.aload_n 0, 1) := by decide +kernel
theorem dX11_change_8 : decode cX11_change 8 = .ok (.getfield 131, 3) := by decide +kernel
theorem dX11_change_11 : decode cX11_change 11 = .ok (.sipush 400, 3) := by decide +kernel
theorem dX11_change_14 : decode cX11_change 14 = .ok (.if_icmp .ge 22, 3) := by decide +kernel
theorem dX11_change_17 : decode cX11_change 17 = .ok (.aload 4, 2) := by decide +kernel
theorem dX11_change_19 : decode cX11_change 19 = .ok (.ifnull 17, 3) := by decide +kernel
theorem dX11_change_22 : decode cX11_change 22 = .ok (.iload_n 2, 1) := by decide +kernel
theorem dX11_change_23 : decode cX11_change 23 = .ok (.invokestatic 138, 3) := by decide +kernel
theorem dX11_change_26 : decode cX11_change 26 = .ok (.ifCond .eq 10, 3) := by decide +kernel
theorem dX11_change_29 : decode cX11_change 29 = .ok (.iload_n 3, 1) := by decide +kernel
theorem dX11_change_30 : decode cX11_change 30 = .ok (.invokestatic 73, 3) := by decide +kernel
theorem dX11_change_33 : decode cX11_change 33 = .ok (.ifCond .ne 5, 3) := by decide +kernel
theorem dX11_change_36 : decode cX11_change 36 = .ok (.iconst (-1), 1) := by decide +kernel
theorem dX11_change_37 : decode cX11_change 37 = .ok (.ireturn, 1) := by decide +kernel
theorem dX11_change_38 : decode cX11_change 38 = .ok (.aload 4, 2) := by decide +kernel
theorem dX11_change_40 : decode cX11_change 40 = .ok (.new 141, 3) := by decide +kernel
theorem dX11_change_43 : decode cX11_change 43 = .ok (.dup, 1) := by decide +kernel
theorem dX11_change_44 : decode cX11_change 44 = .ok (.aload_n 0, 1) := by decide +kernel
theorem dX11_change_45 : decode cX11_change 45 = .ok (.getfield 131, 3) := by decide +kernel
theorem dX11_change_48 : decode cX11_change 48 = .ok (.iload_n 2, 1) := by decide +kernel
theorem dX11_change_49 : decode cX11_change 49 = .ok (.iload_n 3, 1) := by decide +kernel
theorem dX11_change_50 : decode cX11_change 50 = .ok (.iconst 0, 1) := by decide +kernel
theorem dX11_change_51 : decode cX11_change 51 = .ok (.aload 4, 2) := by decide +kernel
theorem dX11_change_53 : decode cX11_change 53 = .ok (.getfield 143, 3) := by decide +kernel
theorem dX11_change_56 : decode cX11_change 56 = .ok (.invokespecial 147, 3) := by decide +kernel
theorem dX11_change_59 : decode cX11_change 59 = .ok (.putfield 143, 3) := by decide +kernel
theorem dX11_change_62 : decode cX11_change 62 = .ok (.aload_n 0, 1) := by decide +kernel
theorem dX11_change_63 : decode cX11_change 63 = .ok (.dup, 1) := by decide +kernel
theorem dX11_change_64 : decode cX11_change 64 = .ok (.getfield 131, 3) := by decide +kernel
theorem dX11_change_67 : decode cX11_change 67 = .ok (.dup_x1, 1) := by decide +kernel
theorem dX11_change_68 : decode cX11_change 68 = .ok (.iconst 1, 1) := by decide +kernel
theorem dX11_change_69 : decode cX11_change 69 = .ok (.iadd, 1) := by decide +kernel
theorem dX11_change_70 : decode cX11_change 70 = .ok (.putfield 131, 3) := by decide +kernel
theorem dX11_change_73 : decode cX11_change 73 = .ok (.ireturn, 1) := by decide +kernel
theorem dX11_feast_0 : decode cX11_feast 0 = .ok (.aload_n 0, 1) := by decide +kernel
theorem dX11_feast_1 : decode cX11_feast 1 = .ok (.iload_n 1, 1) := by decide +kernel
theorem dX11_feast_2 : decode cX11_feast 2 = .ok (.invokevirtual 80, 3) := by decide +kernel
theorem dX11_feast_5 : decode cX11_feast 5 = .ok (.astore_n 3, 1) := by decide +kernel
theorem dX11_feast_6 : decode cX11_feast 6 = .ok (.aload_n 0, 1) := by decide +kernel
theorem dX11_feast_7 : decode cX11_feast 7 = .ok (.getfield 131, 3) := by decide +kernel
theorem dX11_feast_10 : decode cX11_feast 10 = .ok (.sipush 400, 3) := by decide +kernel
theorem dX11_feast_13 : decode cX11_feast 13 = .ok (.if_icmp .ge 18, 3) := by decide +kernel
theorem dX11_feast_16 : decode cX11_feast 16 = .ok (.aload_n 3, 1) := by decide +kernel
theorem dX11_feast_17 : decode cX11_feast 17 = .ok (.ifnull 14, 3) := by decide +kernel
theorem dX11_feast_20 : decode cX11_feast 20 = .ok (.iload_n 2, 1) := by decide +kernel
theorem dX11_feast_21 : decode cX11_feast 21 = .ok (.ifCond .lt 10, 3) := by decide +kernel
theorem dX11_feast_24 : decode cX11_feast 24 = .ok (.iload_n 2, 1) := by decide +kernel
theorem dX11_feast_25 : decode cX11_feast 25 = .ok (.sipush 364, 3) := by decide +kernel
theorem dX11_feast_28 : decode cX11_feast 28 = .ok (.if_icmp .lt 5, 3) := by decide +kernel
theorem dX11_feast_31 : decode cX11_feast 31 = .ok (.iconst (-1), 1) := by decide +kernel
theorem dX11_feast_32 : decode cX11_feast 32 = .ok (.ireturn, 1) := by decide +kernel
theorem dX11_feast_33 : decode cX11_feast 33 = .ok (.aload_n 3, 1) := by decide +kernel
theorem dX11_feast_34 : decode cX11_feast 34 = .ok (.new 141, 3) := by decide +kernel
theorem dX11_feast_37 : decode cX11_feast 37 = .ok (.dup, 1) := by decide +kernel
theorem dX11_feast_38 : decode cX11_feast 38 = .ok (.aload_n 0, 1) := by decide +kernel
theorem dX11_feast_39 : decode cX11_feast 39 = .ok (.getfield 131, 3) := by decide +kernel
theorem dX11_feast_42 : decode cX11_feast 42 = .ok (.iload_n 2, 1) := by decide +kernel
theorem dX11_feast_43 : decode cX11_feast 43 = .ok (.iload_n 2, 1) := by decide +kernel
theorem dX11_feast_44 : decode cX11_feast 44 = .ok (.iconst 0, 1) := by decide +kernel
theorem dX11_feast_45 : decode cX11_feast 45 = .ok (.aload_n 3, 1) := by decide +kernel
theorem dX11_feast_46 : decode cX11_feast 46 = .ok (.getfield 150, 3) := by decide +kernel
theorem dX11_feast_49 : decode cX11_feast 49 = .ok (.invokespecial 147, 3) := by decide +kernel
theorem dX11_feast_52 : decode cX11_feast 52 = .ok (.putfield 150, 3) := by decide +kernel
theorem dX11_feast_55 : decode cX11_feast 55 = .ok (.aload_n 0, 1) := by decide +kernel
theorem dX11_feast_56 : decode cX11_feast 56 = .ok (.dup, 1) := by decide +kernel
theorem dX11_feast_57 : decode cX11_feast 57 = .ok (.getfield 131, 3) := by decide +kernel
theorem dX11_feast_60 : decode cX11_feast 60 = .ok (.dup_x1, 1) := by decide +kernel
theorem dX11_feast_61 : decode cX11_feast 61 = .ok (.iconst 1, 1) := by decide +kernel
theorem dX11_feast_62 : decode cX11_feast 62 = .ok (.iadd, 1) := by decide +kernel
theorem dX11_feast_63 : decode cX11_feast 63 = .ok (.putfield 131, 3) := by decide +kernel
theorem dX11_feast_66 : decode cX11_feast 66 = .ok (.ireturn, 1) := by decide +kernel
theorem dX11_busy_0 : decode cX11_busy 0 = .ok (.aload_n 0, 1) := by decide +kernel
theorem dX11_busy_1 : decode cX11_busy 1 = .ok (.iload_n 1, 1) := by decide +kernel
theorem dX11_busy_2 : decode cX11_busy 2 = .ok (.invokevirtual 90, 3) := by decide +kernel
theorem dX11_busy_5 : decode cX11_busy 5 = .ok (.astore 5, 2) := by decide +kernel
theorem dX11_busy_7 : decode cX11_busy 7 = .ok (.aload_n 0, 1) := by decide +kernel
theorem dX11_busy_8 : decode cX11_busy 8 = .ok (.getfield 131, 3) := by decide +kernel
theorem dX11_busy_11 : decode cX11_busy 11 = .ok (.sipush 400, 3) := by decide +kernel
theorem dX11_busy_14 : decode cX11_busy 14 = .ok (.if_icmp .ge 24, 3) := by decide +kernel
theorem dX11_busy_17 : decode cX11_busy 17 = .ok (.aload 5, 2) := by decide +kernel
theorem dX11_busy_19 : decode cX11_busy 19 = .ok (.ifnull 19, 3) := by decide +kernel
theorem dX11_busy_22 : decode cX11_busy 22 = .ok (.iload_n 2, 1) := by decide +kernel
theorem dX11_busy_23 : decode cX11_busy 23 = .ok (.ifCond .lt 15, 3) := by decide +kernel
theorem dX11_busy_26 : decode cX11_busy 26 = .ok (.iload_n 2, 1) := by decide +kernel
theorem dX11_busy_27 : decode cX11_busy 27 = .ok (.iload_n 3, 1) := by decide +kernel
theorem dX11_busy_28 : decode cX11_busy 28 = .ok (.if_icmp .ge 10, 3) := by decide +kernel
theorem dX11_busy_31 : decode cX11_busy 31 = .ok (.iload_n 3, 1) := by decide +kernel
theorem dX11_busy_32 : decode cX11_busy 32 = .ok (.sipush 17472, 3) := by decide +kernel
theorem dX11_busy_35 : decode cX11_busy 35 = .ok (.if_icmp .le 5, 3) := by decide +kernel
theorem dX11_busy_38 : decode cX11_busy 38 = .ok (.iconst (-1), 1) := by decide +kernel
theorem dX11_busy_39 : decode cX11_busy 39 = .ok (.ireturn, 1) := by decide +kernel
theorem dX11_busy_40 : decode cX11_busy 40 = .ok (.aload 5, 2) := by decide +kernel
theorem dX11_busy_42 : decode cX11_busy 42 = .ok (.new 141, 3) := by decide +kernel
theorem dX11_busy_45 : decode cX11_busy 45 = .ok (.dup, 1) := by decide +kernel
theorem dX11_busy_46 : decode cX11_busy 46 = .ok (.aload_n 0, 1) := by decide +kernel
theorem dX11_busy_47 : decode cX11_busy 47 = .ok (.getfield 131, 3) := by decide +kernel
theorem dX11_busy_50 : decode cX11_busy 50 = .ok (.iload_n 2, 1) := by decide +kernel
theorem dX11_busy_51 : decode cX11_busy 51 = .ok (.iload_n 3, 1) := by decide +kernel
theorem dX11_busy_52 : decode cX11_busy 52 = .ok (.iload 4, 2) := by decide +kernel
theorem dX11_busy_54 : decode cX11_busy 54 = .ok (.aload 5, 2) := by decide +kernel
theorem dX11_busy_56 : decode cX11_busy 56 = .ok (.getfield 153, 3) := by decide +kernel
theorem dX11_busy_59 : decode cX11_busy 59 = .ok (.invokespecial 147, 3) := by decide +kernel
theorem dX11_busy_62 : decode cX11_busy 62 = .ok (.putfield 153, 3) := by decide +kernel
theorem dX11_busy_65 : decode cX11_busy 65 = .ok (.aload_n 0, 1) := by decide +kernel
theorem dX11_busy_66 : decode cX11_busy 66 = .ok (.dup, 1) := by decide +kernel
theorem dX11_busy_67 : decode cX11_busy 67 = .ok (.getfield 131, 3) := by decide +kernel
theorem dX11_busy_70 : decode cX11_busy 70 = .ok (.dup_x1, 1) := by decide +kernel
theorem dX11_busy_71 : decode cX11_busy 71 = .ok (.iconst 1, 1) := by decide +kernel
theorem dX11_busy_72 : decode cX11_busy 72 = .ok (.iadd, 1) := by decide +kernel
theorem dX11_busy_73 : decode cX11_busy 73 = .ok (.putfield 131, 3) := by decide +kernel
theorem dX11_busy_76 : decode cX11_busy 76 = .ok (.ireturn, 1) := by decide +kernel
theorem dX11_cant_0 : decode cX11_cant 0 = .ok (.aload_n 0, 1) := by decide +kernel
theorem dX11_cant_1 : decode cX11_cant 1 = .ok (.iload_n 2, 1) := by decide +kernel
theorem dX11_cant_2 : decode cX11_cant 2 = .ok (.invokevirtual 110, 3) := by decide +kernel
theorem dX11_cant_5 : decode cX11_cant 5 = .ok (.astore 4, 2) := by decide +kernel
theorem dX11_cant_7 : decode cX11_cant 7 = .ok (.aload_n 0, 1) := by decide +kernel
theorem dX11_cant_8 : decode cX11_cant 8 = .ok (.getfield 131, 3) := by decide +kernel
theorem dX11_cant_11 : decode cX11_cant 11 = .ok (.sipush 400, 3) := by decide +kernel
theorem dX11_cant_14 : decode cX11_cant 14 = .ok (.if_icmp .ge 23, 3) := by decide +kernel
theorem dX11_cant_17 : decode cX11_cant 17 = .ok (.aload_n 0, 1) := by decide +kernel
theorem dX11_cant_18 : decode cX11_cant 18 = .ok (.iload_n 1, 1) := by decide +kernel
theorem dX11_cant_19 : decode cX11_cant 19 = .ok (.invokevirtual 90, 3) := by decide +kernel
theorem dX11_cant_22 : decode cX11_cant 22 = .ok (.ifnull 15, 3) := by decide +kernel
theorem dX11_cant_25 : decode cX11_cant 25 = .ok (.aload 4, 2) := by decide +kernel
theorem dX11_cant_27 : decode cX11_cant 27 = .ok (.ifnull 10, 3) := by decide +kernel
theorem dX11_cant_30 : decode cX11_cant 30 = .ok (.iload_n 3, 1) := by decide +kernel
theorem dX11_cant_31 : decode cX11_cant 31 = .ok (.invokestatic 156, 3) := by decide +kernel
theorem dX11_cant_34 : decode cX11_cant 34 = .ok (.ifCond .ne 5, 3) := by decide +kernel
theorem dX11_cant_37 : decode cX11_cant 37 = .ok (.iconst (-1), 1) := by decide +kernel
theorem dX11_cant_38 : decode cX11_cant 38 = .ok (.ireturn, 1) := by decide +kernel
theorem dX11_cant_39 : decode cX11_cant 39 = .ok (.aload 4, 2) := by decide +kernel
theorem dX11_cant_41 : decode cX11_cant 41 = .ok (.new 141, 3) := by decide +kernel
theorem dX11_cant_44 : decode cX11_cant 44 = .ok (.dup, 1) := by decide +kernel
theorem dX11_cant_45 : decode cX11_cant 45 = .ok (.aload_n 0, 1) := by decide +kernel
theorem dX11_cant_46 : decode cX11_cant 46 = .ok (.getfield 131, 3) := by decide +kernel
theorem dX11_cant_49 : decode cX11_cant 49 = .ok (.iload_n 1, 1) := by decide +kernel
theorem dX11_cant_50 : decode cX11_cant 50 = .ok (.iload_n 3, 1) := by decide +kernel
theorem dX11_cant_51 : decode cX11_cant 51 = .ok (.iconst 0, 1) := by decide +kernel
theorem dX11_cant_52 : decode cX11_cant 52 = .ok (.aload 4, 2) := by decide +kernel
theorem dX11_cant_54 : decode cX11_cant 54 = .ok (.getfield 159, 3) := by decide +kernel
theorem dX11_cant_57 : decode cX11_cant 57 = .ok (.invokespecial 147, 3) := by decide +kernel
theorem dX11_cant_60 : decode cX11_cant 60 = .ok (.putfield 159, 3) := by decide +kernel
theorem dX11_cant_63 : decode cX11_cant 63 = .ok (.aload_n 0, 1) := by decide +kernel
theorem dX11_cant_64 : decode cX11_cant 64 = .ok (.dup, 1) := by decide +kernel
theorem dX11_cant_65 : decode cX11_cant 65 = .ok (.getfield 131, 3) := by decide +kernel
theorem dX11_cant_68 : decode cX11_cant 68 = .ok (.dup_x1, 1) := by decide +kernel
theorem dX11_cant_69 : decode cX11_cant 69 = .ok (.iconst 1, 1) := by decide +kernel
theorem dX11_cant_70 : decode cX11_cant 70 = .ok (.iadd, 1) := by decide +kernel
theorem dX11_cant_71 : decode cX11_cant 71 = .ok (.putfield 131, 3) := by decide +kernel
theorem dX11_cant_74 : decode cX11_cant 74 = .ok (.ireturn, 1) := by decide +kernel
theorem dX11_local_0 : decode cX11_local 0 = .ok (.aload_n 0, 1) := by decide +kernel
theorem dX11_local_1 : decode cX11_local 1 = .ok (.iload_n 1, 1) := by decide +kernel
theorem dX11_local_2 : decode cX11_local 2 = .ok (.invokevirtual 80, 3) := by decide +kernel
theorem dX11_local_5 : decode cX11_local 5 = .ok (.astore 5, 2) := by decide +kernel
theorem dX11_local_7 : decode cX11_local 7 = .ok (.aload 5, 2) := by decide +kernel
theorem dX11_local_9 : decode cX11_local 9 = .ok (.ifnull 18, 3) := by decide +kernel
theorem dX11_local_12 : decode cX11_local 12 = .ok (.iload_n 2, 1) := by decide +kernel
theorem dX11_local_13 : decode cX11_local 13 = .ok (.invokestatic 138, 3) := by decide +kernel
theorem dX11_local_16 : decode cX11_local 16 = .ok (.ifCond .eq 11, 3) := by decide +kernel
theorem dX11_local_19 : decode cX11_local 19 = .ok (.aload_n 0, 1) := by decide +kernel
theorem dX11_local_20 : decode cX11_local 20 = .ok (.iload_n 3, 1) := by decide +kernel
theorem dX11_local_21 : decode cX11_local 21 = .ok (.invokevirtual 162, 3) := by decide +kernel
theorem dX11_local_24 : decode cX11_local 24 = .ok (.ifCond .ne 6, 3) := by decide +kernel
theorem dX11_local_27 : decode cX11_local 27 = .ok (.ldc 165, 2) := by decide +kernel
theorem dX11_local_29 : decode cX11_local 29 = .ok (.ireturn, 1) := by decide +kernel
theorem dX11_local_30 : decode cX11_local 30 = .ok (.aload 5, 2) := by decide +kernel
theorem dX11_local_32 : decode cX11_local 32 = .ok (.iload_n 2, 1) := by decide +kernel
theorem dX11_local_33 : decode cX11_local 33 = .ok (.iload_n 3, 1) := by decide +kernel
theorem dX11_local_34 : decode cX11_local 34 = .ok (.invokevirtual 166, 3) := by decide +kernel
theorem dX11_local_37 : decode cX11_local 37 = .ok (.istore 6, 2) := by decide +kernel
theorem dX11_local_39 : decode cX11_local 39 = .ok (.iload_n 2, 1) := by decide +kernel
theorem dX11_local_40 : decode cX11_local 40 = .ok (.iload 6, 2) := by decide +kernel
theorem dX11_local_42 : decode cX11_local 42 = .ok (.iadd, 1) := by decide +kernel
theorem dX11_local_43 : decode cX11_local 43 = .ok (.bipush 48, 2) := by decide +kernel
theorem dX11_local_45 : decode cX11_local 45 = .ok (.invokestatic 169, 3) := by decide +kernel
theorem dX11_local_48 : decode cX11_local 48 = .ok (.istore 7, 2) := by decide +kernel
theorem dX11_local_50 : decode cX11_local 50 = .ok (.iload 4, 2) := by decide +kernel
theorem dX11_local_52 : decode cX11_local 52 = .ok (.tableswitch 56 0 3 #[32, 35, 45, 53], 32) := by decide +kernel
theorem dX11_local_84 : decode cX11_local 84 = .ok (.iload 7, 2) := by decide +kernel
theorem dX11_local_86 : decode cX11_local 86 = .ok (.ireturn, 1) := by decide +kernel
theorem dX11_local_87 : decode cX11_local 87 = .ok (.iload_n 2, 1) := by decide +kernel
theorem dX11_local_88 : decode cX11_local 88 = .ok (.iload 6, 2) := by decide +kernel
theorem dX11_local_90 : decode cX11_local 90 = .ok (.iadd, 1) := by decide +kernel
theorem dX11_local_91 : decode cX11_local 91 = .ok (.bipush 48, 2) := by decide +kernel
theorem dX11_local_93 : decode cX11_local 93 = .ok (.invokestatic 172, 3) := by decide +kernel
theorem dX11_local_96 : decode cX11_local 96 = .ok (.ireturn, 1) := by decide +kernel
theorem dX11_local_97 : decode cX11_local 97 = .ok (.iload 7, 2) := by decide +kernel
theorem dX11_local_99 : decode cX11_local 99 = .ok (.bipush 7, 2) := by decide +kernel
theorem dX11_local_101 : decode cX11_local 101 = .ok (.invokestatic 172, 3) := by decide +kernel
theorem dX11_local_104 : decode cX11_local 104 = .ok (.ireturn, 1) := by decide +kernel
theorem dX11_local_105 : decode cX11_local 105 = .ok (.iload 6, 2) := by decide +kernel
theorem dX11_local_107 : decode cX11_local 107 = .ok (.ireturn, 1) := by decide +kernel
theorem dX11_local_108 : decode cX11_local 108 = .ok (.ldc 165, 2) := by decide +kernel
theorem dX11_local_110 : decode cX11_local 110 = .ok (.ireturn, 1) := by decide +kernel
theorem dX11_when_0 : decode cX11_when 0 = .ok (.aload_n 0, 1) := by decide +kernel
theorem dX11_when_1 : decode cX11_when 1 = .ok (.iload_n 1, 1) := by decide +kernel
theorem dX11_when_2 : decode cX11_when 2 = .ok (.invokevirtual 80, 3) := by decide +kernel
theorem dX11_when_5 : decode cX11_when 5 = .ok (.astore 6, 2) := by decide +kernel
theorem dX11_when_7 : decode cX11_when 7 = .ok (.iload_n 2, 1) := by decide +kernel
theorem dX11_when_8 : decode cX11_when 8 = .ok (.iconst (-1), 1) := by decide +kernel
theorem dX11_when_9 : decode cX11_when 9 = .ok (.if_icmp .lt 24, 3) := by decide +kernel
theorem dX11_when_12 : decode cX11_when 12 = .ok (.iload_n 2, 1) := by decide +kernel
theorem dX11_when_13 : decode cX11_when 13 = .ok (.sipush 364, 3) := by decide +kernel
theorem dX11_when_16 : decode cX11_when 16 = .ok (.if_icmp .gt 17, 3) := by decide +kernel
theorem dX11_when_19 : decode cX11_when 19 = .ok (.iload_n 3, 1) := by decide +kernel
theorem dX11_when_20 : decode cX11_when 20 = .ok (.ifCond .lt 13, 3) := by decide +kernel
theorem dX11_when_23 : decode cX11_when 23 = .ok (.iload_n 3, 1) := by decide +kernel
theorem dX11_when_24 : decode cX11_when 24 = .ok (.bipush 48, 2) := by decide +kernel
theorem dX11_when_26 : decode cX11_when 26 = .ok (.if_icmp .ge 7, 3) := by decide +kernel
theorem dX11_when_29 : decode cX11_when 29 = .ok (.iconst 1, 1) := by decide +kernel
theorem dX11_when_30 : decode cX11_when 30 = .ok (.goto 4, 3) := by decide +kernel
theorem dX11_when_33 : decode cX11_when 33 = .ok (.iconst 0, 1) := by decide +kernel
theorem dX11_when_34 : decode cX11_when 34 = .ok (.istore 7, 2) := by decide +kernel
theorem dX11_when_36 : decode cX11_when 36 = .ok (.aload 6, 2) := by decide +kernel
theorem dX11_when_38 : decode cX11_when 38 = .ok (.ifnull 17, 3) := by decide +kernel
theorem dX11_when_41 : decode cX11_when 41 = .ok (.iload 7, 2) := by decide +kernel
theorem dX11_when_43 : decode cX11_when 43 = .ok (.ifCond .eq 12, 3) := by decide +kernel
theorem dX11_when_46 : decode cX11_when 46 = .ok (.aload_n 0, 1) := by decide +kernel
theorem dX11_when_47 : decode cX11_when 47 = .ok (.iload 4, 2) := by decide +kernel
theorem dX11_when_49 : decode cX11_when 49 = .ok (.invokevirtual 162, 3) := by decide +kernel
theorem dX11_when_52 : decode cX11_when 52 = .ok (.ifCond .ne 5, 3) := by decide +kernel
theorem dX11_when_55 : decode cX11_when 55 = .ok (.iconst (-1), 1) := by decide +kernel
theorem dX11_when_56 : decode cX11_when 56 = .ok (.ireturn, 1) := by decide +kernel
theorem dX11_when_57 : decode cX11_when 57 = .ok (.iload_n 2, 1) := by decide +kernel
theorem dX11_when_58 : decode cX11_when 58 = .ok (.bipush 48, 2) := by decide +kernel
theorem dX11_when_60 : decode cX11_when 60 = .ok (.imul, 1) := by decide +kernel
theorem dX11_when_61 : decode cX11_when 61 = .ok (.iload_n 3, 1) := by decide +kernel
theorem dX11_when_62 : decode cX11_when 62 = .ok (.iadd, 1) := by decide +kernel
theorem dX11_when_63 : decode cX11_when 63 = .ok (.istore 8, 2) := by decide +kernel
theorem dX11_when_65 : decode cX11_when 65 = .ok (.iconst 0, 1) := by decide +kernel
theorem dX11_when_66 : decode cX11_when 66 = .ok (.istore 9, 2) := by decide +kernel
theorem dX11_when_68 : decode cX11_when 68 = .ok (.iconst (-1), 1) := by decide +kernel
theorem dX11_when_69 : decode cX11_when 69 = .ok (.istore 10, 2) := by decide +kernel
theorem dX11_when_71 : decode cX11_when 71 = .ok (.iconst (-1), 1) := by decide +kernel
theorem dX11_when_72 : decode cX11_when 72 = .ok (.istore 11, 2) := by decide +kernel
theorem dX11_when_74 : decode cX11_when 74 = .ok (.iconst 0, 1) := by decide +kernel
theorem dX11_when_75 : decode cX11_when 75 = .ok (.iload 8, 2) := by decide +kernel
theorem dX11_when_77 : decode cX11_when 77 = .ok (.bipush 28, 2) := by decide +kernel
theorem dX11_when_79 : decode cX11_when 79 = .ok (.isub, 1) := by decide +kernel
theorem dX11_when_80 : decode cX11_when 80 = .ok (.invokestatic 94, 3) := by decide +kernel
theorem dX11_when_83 : decode cX11_when 83 = .ok (.istore 12, 2) := by decide +kernel
theorem dX11_when_85 : decode cX11_when 85 = .ok (.sipush 17471, 3) := by decide +kernel
theorem dX11_when_88 : decode cX11_when 88 = .ok (.iload 8, 2) := by decide +kernel
theorem dX11_when_90 : decode cX11_when 90 = .ok (.bipush (-24), 2) := by decide +kernel
theorem dX11_when_92 : decode cX11_when 92 = .ok (.isub, 1) := by decide +kernel
theorem dX11_when_93 : decode cX11_when 93 = .ok (.invokestatic 175, 3) := by decide +kernel
theorem dX11_when_96 : decode cX11_when 96 = .ok (.istore 13, 2) := by decide +kernel
theorem dX11_when_98 : decode cX11_when 98 = .ok (.iload 12, 2) := by decide +kernel
theorem dX11_when_100 : decode cX11_when 100 = .ok (.istore 14, 2) := by decide +kernel
theorem dX11_when_102 : decode cX11_when 102 = .ok (.iload 14, 2) := by decide +kernel
theorem dX11_when_104 : decode cX11_when 104 = .ok (.iload 13, 2) := by decide +kernel
theorem dX11_when_106 : decode cX11_when 106 = .ok (.if_icmp .gt 48, 3) := by decide +kernel
theorem dX11_when_109 : decode cX11_when 109 = .ok (.iload 14, 2) := by decide +kernel
theorem dX11_when_111 : decode cX11_when 111 = .ok (.aload 6, 2) := by decide +kernel
theorem dX11_when_113 : decode cX11_when 113 = .ok (.iload 14, 2) := by decide +kernel
theorem dX11_when_115 : decode cX11_when 115 = .ok (.iload 4, 2) := by decide +kernel
theorem dX11_when_117 : decode cX11_when 117 = .ok (.invokevirtual 166, 3) := by decide +kernel
theorem dX11_when_120 : decode cX11_when 120 = .ok (.iadd, 1) := by decide +kernel
theorem dX11_when_121 : decode cX11_when 121 = .ok (.iload 8, 2) := by decide +kernel
theorem dX11_when_123 : decode cX11_when 123 = .ok (.if_icmp .ne 25, 3) := by decide +kernel
theorem dX11_when_126 : decode cX11_when 126 = .ok (.iinc 9 1, 3) := by decide +kernel
theorem dX11_when_129 : decode cX11_when 129 = .ok (.iload 10, 2) := by decide +kernel
theorem dX11_when_131 : decode cX11_when 131 = .ok (.iconst (-1), 1) := by decide +kernel
theorem dX11_when_132 : decode cX11_when 132 = .ok (.if_icmp .ne 8, 3) := by decide +kernel
theorem dX11_when_135 : decode cX11_when 135 = .ok (.iload 14, 2) := by decide +kernel
theorem dX11_when_137 : decode cX11_when 137 = .ok (.goto 5, 3) := by decide +kernel
theorem dX11_when_140 : decode cX11_when 140 = .ok (.iload 10, 2) := by decide +kernel
theorem dX11_when_142 : decode cX11_when 142 = .ok (.istore 10, 2) := by decide +kernel
theorem dX11_when_144 : decode cX11_when 144 = .ok (.iload 14, 2) := by decide +kernel
theorem dX11_when_146 : decode cX11_when 146 = .ok (.istore 11, 2) := by decide +kernel
theorem dX11_when_148 : decode cX11_when 148 = .ok (.iinc 14 1, 3) := by decide +kernel
theorem dX11_when_151 : decode cX11_when 151 = .ok (.goto (-49), 3) := by decide +kernel
theorem dX11_when_154 : decode cX11_when 154 = .ok (.iload 5, 2) := by decide +kernel
theorem dX11_when_156 : decode cX11_when 156 = .ok (.tableswitch 37 0 2 #[28, 31, 34], 28) := by decide +kernel
theorem dX11_when_184 : decode cX11_when 184 = .ok (.iload 9, 2) := by decide +kernel
theorem dX11_when_186 : decode cX11_when 186 = .ok (.ireturn, 1) := by decide +kernel
theorem dX11_when_187 : decode cX11_when 187 = .ok (.iload 10, 2) := by decide +kernel
theorem dX11_when_189 : decode cX11_when 189 = .ok (.ireturn, 1) := by decide +kernel
theorem dX11_when_190 : decode cX11_when 190 = .ok (.iload 11, 2) := by decide +kernel
theorem dX11_when_192 : decode cX11_when 192 = .ok (.ireturn, 1) := by decide +kernel
theorem dX11_when_193 : decode cX11_when 193 = .ok (.iconst (-1), 1) := by decide +kernel
theorem dX11_when_194 : decode cX11_when 194 = .ok (.ireturn, 1) := by decide +kernel
theorem dX11_can_0 : decode cX11_can 0 = .ok (.aload_n 0, 1) := by decide +kernel
theorem dX11_can_1 : decode cX11_can 1 = .ok (.iload_n 1, 1) := by decide +kernel
theorem dX11_can_2 : decode cX11_can 2 = .ok (.invokevirtual 90, 3) := by decide +kernel
theorem dX11_can_5 : decode cX11_can 5 = .ok (.astore 5, 2) := by decide +kernel
theorem dX11_can_7 : decode cX11_can 7 = .ok (.aload 5, 2) := by decide +kernel
theorem dX11_can_9 : decode cX11_can 9 = .ok (.ifnull 20, 3) := by decide +kernel
theorem dX11_can_12 : decode cX11_can 12 = .ok (.iload_n 2, 1) := by decide +kernel
theorem dX11_can_13 : decode cX11_can 13 = .ok (.iload_n 3, 1) := by decide +kernel
theorem dX11_can_14 : decode cX11_can 14 = .ok (.invokestatic 178, 3) := by decide +kernel
theorem dX11_can_17 : decode cX11_can 17 = .ok (.ifCond .eq 12, 3) := by decide +kernel
theorem dX11_can_20 : decode cX11_can 20 = .ok (.aload_n 0, 1) := by decide +kernel
theorem dX11_can_21 : decode cX11_can 21 = .ok (.iload 4, 2) := by decide +kernel
theorem dX11_can_23 : decode cX11_can 23 = .ok (.invokevirtual 162, 3) := by decide +kernel
theorem dX11_can_26 : decode cX11_can 26 = .ok (.ifCond .ne 5, 3) := by decide +kernel
theorem dX11_can_29 : decode cX11_can 29 = .ok (.iconst (-1), 1) := by decide +kernel
theorem dX11_can_30 : decode cX11_can 30 = .ok (.ireturn, 1) := by decide +kernel
theorem dX11_can_31 : decode cX11_can 31 = .ok (.aload 5, 2) := by decide +kernel
theorem dX11_can_33 : decode cX11_can 33 = .ok (.iload_n 2, 1) := by decide +kernel
theorem dX11_can_34 : decode cX11_can 34 = .ok (.iload_n 3, 1) := by decide +kernel
theorem dX11_can_35 : decode cX11_can 35 = .ok (.iload 4, 2) := by decide +kernel
theorem dX11_can_37 : decode cX11_can 37 = .ok (.invokevirtual 182, 3) := by decide +kernel
theorem dX11_can_40 : decode cX11_can 40 = .ok (.ireturn, 1) := by decide +kernel
theorem dX11_cost_0 : decode cX11_cost 0 = .ok (.aload_n 0, 1) := by decide +kernel
theorem dX11_cost_1 : decode cX11_cost 1 = .ok (.iload_n 1, 1) := by decide +kernel
theorem dX11_cost_2 : decode cX11_cost 2 = .ok (.invokevirtual 90, 3) := by decide +kernel
theorem dX11_cost_5 : decode cX11_cost 5 = .ok (.astore 5, 2) := by decide +kernel
theorem dX11_cost_7 : decode cX11_cost 7 = .ok (.aload 5, 2) := by decide +kernel
theorem dX11_cost_9 : decode cX11_cost 9 = .ok (.ifnull 20, 3) := by decide +kernel
theorem dX11_cost_12 : decode cX11_cost 12 = .ok (.iload_n 2, 1) := by decide +kernel
theorem dX11_cost_13 : decode cX11_cost 13 = .ok (.iload_n 3, 1) := by decide +kernel
theorem dX11_cost_14 : decode cX11_cost 14 = .ok (.invokestatic 178, 3) := by decide +kernel
theorem dX11_cost_17 : decode cX11_cost 17 = .ok (.ifCond .eq 12, 3) := by decide +kernel
theorem dX11_cost_20 : decode cX11_cost 20 = .ok (.aload_n 0, 1) := by decide +kernel
theorem dX11_cost_21 : decode cX11_cost 21 = .ok (.iload 4, 2) := by decide +kernel
theorem dX11_cost_23 : decode cX11_cost 23 = .ok (.invokevirtual 162, 3) := by decide +kernel
theorem dX11_cost_26 : decode cX11_cost 26 = .ok (.ifCond .ne 5, 3) := by decide +kernel
theorem dX11_cost_29 : decode cX11_cost 29 = .ok (.iconst (-1), 1) := by decide +kernel
theorem dX11_cost_30 : decode cX11_cost 30 = .ok (.ireturn, 1) := by decide +kernel
theorem dX11_cost_31 : decode cX11_cost 31 = .ok (.aload 5, 2) := by decide +kernel
theorem dX11_cost_33 : decode cX11_cost 33 = .ok (.iload_n 2, 1) := by decide +kernel
theorem dX11_cost_34 : decode cX11_cost 34 = .ok (.iload_n 3, 1) := by decide +kernel
theorem dX11_cost_35 : decode cX11_cost 35 = .ok (.iload 4, 2) := by decide +kernel
theorem dX11_cost_37 : decode cX11_cost 37 = .ok (.invokevirtual 186, 3) := by decide +kernel
theorem dX11_cost_40 : decode cX11_cost 40 = .ok (.ireturn, 1) := by decide +kernel
theorem dX11_span_0 : decode cX11_span 0 = .ok (.aload_n 0, 1) := by decide +kernel
theorem dX11_span_1 : decode cX11_span 1 = .ok (.iload_n 1, 1) := by decide +kernel
theorem dX11_span_2 : decode cX11_span 2 = .ok (.invokevirtual 90, 3) := by decide +kernel
theorem dX11_span_5 : decode cX11_span 5 = .ok (.astore 4, 2) := by decide +kernel
theorem dX11_span_7 : decode cX11_span 7 = .ok (.aload 4, 2) := by decide +kernel
theorem dX11_span_9 : decode cX11_span 9 = .ok (.ifnull 18, 3) := by decide +kernel
theorem dX11_span_12 : decode cX11_span 12 = .ok (.iload_n 2, 1) := by decide +kernel
theorem dX11_span_13 : decode cX11_span 13 = .ok (.invokestatic 138, 3) := by decide +kernel
theorem dX11_span_16 : decode cX11_span 16 = .ok (.ifCond .eq 11, 3) := by decide +kernel
theorem dX11_span_19 : decode cX11_span 19 = .ok (.aload_n 0, 1) := by decide +kernel
theorem dX11_span_20 : decode cX11_span 20 = .ok (.iload_n 3, 1) := by decide +kernel
theorem dX11_span_21 : decode cX11_span 21 = .ok (.invokevirtual 162, 3) := by decide +kernel
theorem dX11_span_24 : decode cX11_span 24 = .ok (.ifCond .ne 5, 3) := by decide +kernel
theorem dX11_span_27 : decode cX11_span 27 = .ok (.iconst (-1), 1) := by decide +kernel
theorem dX11_span_28 : decode cX11_span 28 = .ok (.ireturn, 1) := by decide +kernel
theorem dX11_span_29 : decode cX11_span 29 = .ok (.aload 4, 2) := by decide +kernel
theorem dX11_span_31 : decode cX11_span 31 = .ok (.iload_n 2, 1) := by decide +kernel
theorem dX11_span_32 : decode cX11_span 32 = .ok (.iload_n 3, 1) := by decide +kernel
theorem dX11_span_33 : decode cX11_span 33 = .ok (.invokevirtual 189, 3) := by decide +kernel
theorem dX11_span_36 : decode cX11_span 36 = .ok (.astore 5, 2) := by decide +kernel
theorem dX11_span_38 : decode cX11_span 38 = .ok (.aload 5, 2) := by decide +kernel
theorem dX11_span_40 : decode cX11_span 40 = .ok (.ifnonnull 5, 3) := by decide +kernel
theorem dX11_span_43 : decode cX11_span 43 = .ok (.iconst (-1), 1) := by decide +kernel
theorem dX11_span_44 : decode cX11_span 44 = .ok (.ireturn, 1) := by decide +kernel
theorem dX11_span_45 : decode cX11_span 45 = .ok (.aload 5, 2) := by decide +kernel
theorem dX11_span_47 : decode cX11_span 47 = .ok (.getfield 193, 3) := by decide +kernel
theorem dX11_span_50 : decode cX11_span 50 = .ok (.ifCond .eq 8, 3) := by decide +kernel
theorem dX11_span_53 : decode cX11_span 53 = .ok (.bipush (-2), 2) := by decide +kernel
theorem dX11_span_55 : decode cX11_span 55 = .ok (.goto 8, 3) := by decide +kernel
theorem dX11_span_58 : decode cX11_span 58 = .ok (.aload 5, 2) := by decide +kernel
theorem dX11_span_60 : decode cX11_span 60 = .ok (.getfield 197, 3) := by decide +kernel
theorem dX11_span_63 : decode cX11_span 63 = .ok (.ireturn, 1) := by decide +kernel
theorem dX11_fits_0 : decode cX11_fits 0 = .ok (.aload_n 0, 1) := by decide +kernel
theorem dX11_fits_1 : decode cX11_fits 1 = .ok (.iload_n 1, 1) := by decide +kernel
theorem dX11_fits_2 : decode cX11_fits 2 = .ok (.invokevirtual 110, 3) := by decide +kernel
theorem dX11_fits_5 : decode cX11_fits 5 = .ok (.astore 6, 2) := by decide +kernel
theorem dX11_fits_7 : decode cX11_fits 7 = .ok (.aload 6, 2) := by decide +kernel
theorem dX11_fits_9 : decode cX11_fits 9 = .ok (.ifnull 19, 3) := by decide +kernel
theorem dX11_fits_12 : decode cX11_fits 12 = .ok (.iload_n 2, 1) := by decide +kernel
theorem dX11_fits_13 : decode cX11_fits 13 = .ok (.invokestatic 156, 3) := by decide +kernel
theorem dX11_fits_16 : decode cX11_fits 16 = .ok (.ifCond .eq 12, 3) := by decide +kernel
theorem dX11_fits_19 : decode cX11_fits 19 = .ok (.aload_n 0, 1) := by decide +kernel
theorem dX11_fits_20 : decode cX11_fits 20 = .ok (.iload 5, 2) := by decide +kernel
theorem dX11_fits_22 : decode cX11_fits 22 = .ok (.invokevirtual 162, 3) := by decide +kernel
theorem dX11_fits_25 : decode cX11_fits 25 = .ok (.ifCond .ne 5, 3) := by decide +kernel
theorem dX11_fits_28 : decode cX11_fits 28 = .ok (.iconst (-1), 1) := by decide +kernel
theorem dX11_fits_29 : decode cX11_fits 29 = .ok (.ireturn, 1) := by decide +kernel
theorem dX11_fits_30 : decode cX11_fits 30 = .ok (.aload 6, 2) := by decide +kernel
theorem dX11_fits_32 : decode cX11_fits 32 = .ok (.iload_n 3, 1) := by decide +kernel
theorem dX11_fits_33 : decode cX11_fits 33 = .ok (.iload 4, 2) := by decide +kernel
theorem dX11_fits_35 : decode cX11_fits 35 = .ok (.invokevirtual 200, 3) := by decide +kernel
theorem dX11_fits_38 : decode cX11_fits 38 = .ok (.istore 7, 2) := by decide +kernel
theorem dX11_fits_40 : decode cX11_fits 40 = .ok (.iload 7, 2) := by decide +kernel
theorem dX11_fits_42 : decode cX11_fits 42 = .ok (.iconst (-1), 1) := by decide +kernel
theorem dX11_fits_43 : decode cX11_fits 43 = .ok (.if_icmp .ne 5, 3) := by decide +kernel
theorem dX11_fits_46 : decode cX11_fits 46 = .ok (.iconst (-1), 1) := by decide +kernel
theorem dX11_fits_47 : decode cX11_fits 47 = .ok (.ireturn, 1) := by decide +kernel
theorem dX11_fits_48 : decode cX11_fits 48 = .ok (.aload_n 0, 1) := by decide +kernel
theorem dX11_fits_49 : decode cX11_fits 49 = .ok (.aload 6, 2) := by decide +kernel
theorem dX11_fits_51 : decode cX11_fits 51 = .ok (.iload_n 2, 1) := by decide +kernel
theorem dX11_fits_52 : decode cX11_fits 52 = .ok (.iload 5, 2) := by decide +kernel
theorem dX11_fits_54 : decode cX11_fits 54 = .ok (.invokevirtual 203, 3) := by decide +kernel
theorem dX11_fits_57 : decode cX11_fits 57 = .ok (.aload_n 0, 1) := by decide +kernel
theorem dX11_fits_58 : decode cX11_fits 58 = .ok (.getfield 29, 3) := by decide +kernel
theorem dX11_fits_61 : decode cX11_fits 61 = .ok (.aload 6, 2) := by decide +kernel
theorem dX11_fits_63 : decode cX11_fits 63 = .ok (.getfield 207, 3) := by decide +kernel
theorem dX11_fits_66 : decode cX11_fits 66 = .ok (.aaload, 1) := by decide +kernel
theorem dX11_fits_67 : decode cX11_fits 67 = .ok (.astore 8, 2) := by decide +kernel
theorem dX11_fits_69 : decode cX11_fits 69 = .ok (.aload 8, 2) := by decide +kernel
theorem dX11_fits_71 : decode cX11_fits 71 = .ok (.aload 6, 2) := by decide +kernel
theorem dX11_fits_73 : decode cX11_fits 73 = .ok (.aload 6, 2) := by decide +kernel
theorem dX11_fits_75 : decode cX11_fits 75 = .ok (.iload 7, 2) := by decide +kernel
theorem dX11_fits_77 : decode cX11_fits 77 = .ok (.invokevirtual 208, 3) := by decide +kernel
theorem dX11_fits_80 : decode cX11_fits 80 = .ok (.iload_n 2, 1) := by decide +kernel
theorem dX11_fits_81 : decode cX11_fits 81 = .ok (.iload 5, 2) := by decide +kernel
theorem dX11_fits_83 : decode cX11_fits 83 = .ok (.aload 6, 2) := by decide +kernel
theorem dX11_fits_85 : decode cX11_fits 85 = .ok (.invokevirtual 212, 3) := by decide +kernel
theorem dX11_fits_88 : decode cX11_fits 88 = .ok (.aload_n 0, 1) := by decide +kernel
theorem dX11_fits_89 : decode cX11_fits 89 = .ok (.getfield 17, 3) := by decide +kernel
theorem dX11_fits_92 : decode cX11_fits 92 = .ok (.invokevirtual 215, 3) := by decide +kernel
theorem dX11_fits_95 : decode cX11_fits 95 = .ok (.aload_n 0, 1) := by decide +kernel
theorem dX11_fits_96 : decode cX11_fits 96 = .ok (.getfield 44, 3) := by decide +kernel
theorem dX11_fits_99 : decode cX11_fits 99 = .ok (.aload 6, 2) := by decide +kernel
theorem dX11_fits_101 : decode cX11_fits 101 = .ok (.aload 8, 2) := by decide +kernel
theorem dX11_fits_103 : decode cX11_fits 103 = .ok (.aload_n 0, 1) := by decide +kernel
theorem dX11_fits_104 : decode cX11_fits 104 = .ok (.getfield 37, 3) := by decide +kernel
theorem dX11_fits_107 : decode cX11_fits 107 = .ok (.iload 7, 2) := by decide +kernel
theorem dX11_fits_109 : decode cX11_fits 109 = .ok (.invokevirtual 219, 3) := by decide +kernel
theorem dX11_fits_112 : decode cX11_fits 112 = .ok (.ifCond .eq 7, 3) := by decide +kernel
theorem dX11_fits_115 : decode cX11_fits 115 = .ok (.iconst 1, 1) := by decide +kernel
theorem dX11_fits_116 : decode cX11_fits 116 = .ok (.goto 4, 3) := by decide +kernel
theorem dX11_fits_119 : decode cX11_fits 119 = .ok (.iconst 0, 1) := by decide +kernel
theorem dX11_fits_120 : decode cX11_fits 120 = .ok (.ireturn, 1) := by decide +kernel
theorem dX11_plan_0 : decode cX11_plan 0 = .ok (.aload_n 0, 1) := by decide +kernel
theorem dX11_plan_1 : decode cX11_plan 1 = .ok (.iload_n 1, 1) := by decide +kernel
theorem dX11_plan_2 : decode cX11_plan 2 = .ok (.invokevirtual 110, 3) := by decide +kernel
theorem dX11_plan_5 : decode cX11_plan 5 = .ok (.astore 5, 2) := by decide +kernel
theorem dX11_plan_7 : decode cX11_plan 7 = .ok (.iload_n 2, 1) := by decide +kernel
theorem dX11_plan_8 : decode cX11_plan 8 = .ok (.ifCond .lt 18, 3) := by decide +kernel
theorem dX11_plan_11 : decode cX11_plan 11 = .ok (.iload_n 2, 1) := by decide +kernel
theorem dX11_plan_12 : decode cX11_plan 12 = .ok (.iload_n 3, 1) := by decide +kernel
theorem dX11_plan_13 : decode cX11_plan 13 = .ok (.if_icmp .ge 13, 3) := by decide +kernel
theorem dX11_plan_16 : decode cX11_plan 16 = .ok (.iload_n 3, 1) := by decide +kernel
theorem dX11_plan_17 : decode cX11_plan 17 = .ok (.bipush 52, 2) := by decide +kernel
theorem dX11_plan_19 : decode cX11_plan 19 = .ok (.if_icmp .gt 7, 3) := by decide +kernel
theorem dX11_plan_22 : decode cX11_plan 22 = .ok (.iconst 1, 1) := by decide +kernel
theorem dX11_plan_23 : decode cX11_plan 23 = .ok (.goto 4, 3) := by decide +kernel
theorem dX11_plan_26 : decode cX11_plan 26 = .ok (.iconst 0, 1) := by decide +kernel
theorem dX11_plan_27 : decode cX11_plan 27 = .ok (.istore 6, 2) := by decide +kernel
theorem dX11_plan_29 : decode cX11_plan 29 = .ok (.aload 5, 2) := by decide +kernel
theorem dX11_plan_31 : decode cX11_plan 31 = .ok (.ifnull 28, 3) := by decide +kernel
theorem dX11_plan_34 : decode cX11_plan 34 = .ok (.aload_n 0, 1) := by decide +kernel
theorem dX11_plan_35 : decode cX11_plan 35 = .ok (.iload 4, 2) := by decide +kernel
theorem dX11_plan_37 : decode cX11_plan 37 = .ok (.invokevirtual 162, 3) := by decide +kernel
theorem dX11_plan_40 : decode cX11_plan 40 = .ok (.ifCond .eq 19, 3) := by decide +kernel
theorem dX11_plan_43 : decode cX11_plan 43 = .ok (.iload 6, 2) := by decide +kernel
theorem dX11_plan_45 : decode cX11_plan 45 = .ok (.ifCond .eq 14, 3) := by decide +kernel
theorem dX11_plan_48 : decode cX11_plan 48 = .ok (.iload_n 3, 1) := by decide +kernel
theorem dX11_plan_49 : decode cX11_plan 49 = .ok (.iload_n 2, 1) := by decide +kernel
theorem dX11_plan_50 : decode cX11_plan 50 = .ok (.isub, 1) := by decide +kernel
theorem dX11_plan_51 : decode cX11_plan 51 = .ok (.aload 5, 2) := by decide +kernel
theorem dX11_plan_53 : decode cX11_plan 53 = .ok (.invokevirtual 223, 3) := by decide +kernel
theorem dX11_plan_56 : decode cX11_plan 56 = .ok (.if_icmp .le 6, 3) := by decide +kernel
theorem dX11_plan_59 : decode cX11_plan 59 = .ok (.bipush (-2), 2) := by decide +kernel
theorem dX11_plan_61 : decode cX11_plan 61 = .ok (.ireturn, 1) := by decide +kernel
theorem dX11_plan_62 : decode cX11_plan 62 = .ok (.aload_n 0, 1) := by decide +kernel
theorem dX11_plan_63 : decode cX11_plan 63 = .ok (.iconst 0, 1) := by decide +kernel
theorem dX11_plan_64 : decode cX11_plan 64 = .ok (.putfield 226, 3) := by decide +kernel
theorem dX11_plan_67 : decode cX11_plan 67 = .ok (.aload_n 0, 1) := by decide +kernel
theorem dX11_plan_68 : decode cX11_plan 68 = .ok (.getfield 29, 3) := by decide +kernel
theorem dX11_plan_71 : decode cX11_plan 71 = .ok (.aload 5, 2) := by decide +kernel
theorem dX11_plan_73 : decode cX11_plan 73 = .ok (.getfield 207, 3) := by decide +kernel
theorem dX11_plan_76 : decode cX11_plan 76 = .ok (.aaload, 1) := by decide +kernel
theorem dX11_plan_77 : decode cX11_plan 77 = .ok (.astore 7, 2) := by decide +kernel
theorem dX11_plan_79 : decode cX11_plan 79 = .ok (.aload_n 0, 1) := by decide +kernel
theorem dX11_plan_80 : decode cX11_plan 80 = .ok (.getfield 51, 3) := by decide +kernel
theorem dX11_plan_83 : decode cX11_plan 83 = .ok (.iload_n 3, 1) := by decide +kernel
theorem dX11_plan_84 : decode cX11_plan 84 = .ok (.iload_n 2, 1) := by decide +kernel
theorem dX11_plan_85 : decode cX11_plan 85 = .ok (.isub, 1) := by decide +kernel
theorem dX11_plan_86 : decode cX11_plan 86 = .ok (.aload_n 0, 1) := by decide +kernel
theorem dX11_plan_87 : decode cX11_plan 87 = .ok (.getfield 84, 3) := by decide +kernel
theorem dX11_plan_90 : decode cX11_plan 90 = .ok (.invokevirtual 229, 3) := by decide +kernel
theorem dX11_plan_93 : decode cX11_plan 93 = .ok (.iconst 0, 1) := by decide +kernel
theorem dX11_plan_94 : decode cX11_plan 94 = .ok (.istore 8, 2) := by decide +kernel
theorem dX11_plan_96 : decode cX11_plan 96 = .ok (.iload 8, 2) := by decide +kernel
theorem dX11_plan_98 : decode cX11_plan 98 = .ok (.iload_n 3, 1) := by decide +kernel
theorem dX11_plan_99 : decode cX11_plan 99 = .ok (.iload_n 2, 1) := by decide +kernel
theorem dX11_plan_100 : decode cX11_plan 100 = .ok (.isub, 1) := by decide +kernel
theorem dX11_plan_101 : decode cX11_plan 101 = .ok (.if_icmp .ge 89, 3) := by decide +kernel
theorem dX11_plan_104 : decode cX11_plan 104 = .ok (.aload_n 0, 1) := by decide +kernel
theorem dX11_plan_105 : decode cX11_plan 105 = .ok (.aload 5, 2) := by decide +kernel
theorem dX11_plan_107 : decode cX11_plan 107 = .ok (.iload_n 2, 1) := by decide +kernel
theorem dX11_plan_108 : decode cX11_plan 108 = .ok (.iload 8, 2) := by decide +kernel
theorem dX11_plan_110 : decode cX11_plan 110 = .ok (.iadd, 1) := by decide +kernel
theorem dX11_plan_111 : decode cX11_plan 111 = .ok (.iload 4, 2) := by decide +kernel
theorem dX11_plan_113 : decode cX11_plan 113 = .ok (.invokevirtual 203, 3) := by decide +kernel
theorem dX11_plan_116 : decode cX11_plan 116 = .ok (.aload 7, 2) := by decide +kernel
theorem dX11_plan_118 : decode cX11_plan 118 = .ok (.aload 5, 2) := by decide +kernel
theorem dX11_plan_120 : decode cX11_plan 120 = .ok (.aload 5, 2) := by decide +kernel
theorem dX11_plan_122 : decode cX11_plan 122 = .ok (.invokevirtual 232, 3) := by decide +kernel
theorem dX11_plan_125 : decode cX11_plan 125 = .ok (.iload_n 2, 1) := by decide +kernel
theorem dX11_plan_126 : decode cX11_plan 126 = .ok (.iload 8, 2) := by decide +kernel
theorem dX11_plan_128 : decode cX11_plan 128 = .ok (.iadd, 1) := by decide +kernel
theorem dX11_plan_129 : decode cX11_plan 129 = .ok (.iload 4, 2) := by decide +kernel
theorem dX11_plan_131 : decode cX11_plan 131 = .ok (.aload 5, 2) := by decide +kernel
theorem dX11_plan_133 : decode cX11_plan 133 = .ok (.invokevirtual 212, 3) := by decide +kernel
theorem dX11_plan_136 : decode cX11_plan 136 = .ok (.aload_n 0, 1) := by decide +kernel
theorem dX11_plan_137 : decode cX11_plan 137 = .ok (.getfield 17, 3) := by decide +kernel
theorem dX11_plan_140 : decode cX11_plan 140 = .ok (.invokevirtual 215, 3) := by decide +kernel
theorem dX11_plan_143 : decode cX11_plan 143 = .ok (.aload_n 0, 1) := by decide +kernel
theorem dX11_plan_144 : decode cX11_plan 144 = .ok (.getfield 51, 3) := by decide +kernel
theorem dX11_plan_147 : decode cX11_plan 147 = .ok (.iload 8, 2) := by decide +kernel
theorem dX11_plan_149 : decode cX11_plan 149 = .ok (.aload 5, 2) := by decide +kernel
theorem dX11_plan_151 : decode cX11_plan 151 = .ok (.aload 7, 2) := by decide +kernel
theorem dX11_plan_153 : decode cX11_plan 153 = .ok (.aload_n 0, 1) := by decide +kernel
theorem dX11_plan_154 : decode cX11_plan 154 = .ok (.getfield 37, 3) := by decide +kernel
theorem dX11_plan_157 : decode cX11_plan 157 = .ok (.invokevirtual 235, 3) := by decide +kernel
theorem dX11_plan_160 : decode cX11_plan 160 = .ok (.ifCond .ne 24, 3) := by decide +kernel
theorem dX11_plan_163 : decode cX11_plan 163 = .ok (.aload_n 0, 1) := by decide +kernel
theorem dX11_plan_164 : decode cX11_plan 164 = .ok (.aload_n 0, 1) := by decide +kernel
theorem dX11_plan_165 : decode cX11_plan 165 = .ok (.getfield 65, 3) := by decide +kernel
theorem dX11_plan_168 : decode cX11_plan 168 = .ok (.aload 5, 2) := by decide +kernel
theorem dX11_plan_170 : decode cX11_plan 170 = .ok (.aload 7, 2) := by decide +kernel
theorem dX11_plan_172 : decode cX11_plan 172 = .ok (.aload_n 0, 1) := by decide +kernel
theorem dX11_plan_173 : decode cX11_plan 173 = .ok (.getfield 37, 3) := by decide +kernel
theorem dX11_plan_176 : decode cX11_plan 176 = .ok (.invokevirtual 239, 3) := by decide +kernel
theorem dX11_plan_179 : decode cX11_plan 179 = .ok (.putfield 226, 3) := by decide +kernel
theorem dX11_plan_182 : decode cX11_plan 182 = .ok (.iconst (-1), 1) := by decide +kernel
theorem dX11_plan_183 : decode cX11_plan 183 = .ok (.ireturn, 1) := by decide +kernel
theorem dX11_plan_184 : decode cX11_plan 184 = .ok (.iinc 8 1, 3) := by decide +kernel
theorem dX11_plan_187 : decode cX11_plan 187 = .ok (.goto (-91), 3) := by decide +kernel
theorem dX11_plan_190 : decode cX11_plan 190 = .ok (.aload_n 0, 1) := by decide +kernel
theorem dX11_plan_191 : decode cX11_plan 191 = .ok (.getfield 51, 3) := by decide +kernel
theorem dX11_plan_194 : decode cX11_plan 194 = .ok (.invokevirtual 243, 3) := by decide +kernel
theorem dX11_plan_197 : decode cX11_plan 197 = .ok (.iconst 0, 1) := by decide +kernel
theorem dX11_plan_198 : decode cX11_plan 198 = .ok (.istore 8, 2) := by decide +kernel
theorem dX11_plan_200 : decode cX11_plan 200 = .ok (.iload 8, 2) := by decide +kernel
theorem dX11_plan_202 : decode cX11_plan 202 = .ok (.iload_n 3, 1) := by decide +kernel
theorem dX11_plan_203 : decode cX11_plan 203 = .ok (.iload_n 2, 1) := by decide +kernel
theorem dX11_plan_204 : decode cX11_plan 204 = .ok (.isub, 1) := by decide +kernel
theorem dX11_plan_205 : decode cX11_plan 205 = .ok (.if_icmp .ge 29, 3) := by decide +kernel
theorem dX11_plan_208 : decode cX11_plan 208 = .ok (.aload 5, 2) := by decide +kernel
theorem dX11_plan_210 : decode cX11_plan 210 = .ok (.getfield 246, 3) := by decide +kernel
theorem dX11_plan_213 : decode cX11_plan 213 = .ok (.iload_n 2, 1) := by decide +kernel
theorem dX11_plan_214 : decode cX11_plan 214 = .ok (.iload 8, 2) := by decide +kernel
theorem dX11_plan_216 : decode cX11_plan 216 = .ok (.iadd, 1) := by decide +kernel
theorem dX11_plan_217 : decode cX11_plan 217 = .ok (.aload_n 0, 1) := by decide +kernel
theorem dX11_plan_218 : decode cX11_plan 218 = .ok (.getfield 51, 3) := by decide +kernel
theorem dX11_plan_221 : decode cX11_plan 221 = .ok (.getfield 249, 3) := by decide +kernel
theorem dX11_plan_224 : decode cX11_plan 224 = .ok (.iload 8, 2) := by decide +kernel
theorem dX11_plan_226 : decode cX11_plan 226 = .ok (.iaload, 1) := by decide +kernel
theorem dX11_plan_227 : decode cX11_plan 227 = .ok (.iastore, 1) := by decide +kernel
theorem dX11_plan_228 : decode cX11_plan 228 = .ok (.iinc 8 1, 3) := by decide +kernel
theorem dX11_plan_231 : decode cX11_plan 231 = .ok (.goto (-31), 3) := by decide +kernel
theorem dX11_plan_234 : decode cX11_plan 234 = .ok (.aload_n 0, 1) := by decide +kernel
theorem dX11_plan_235 : decode cX11_plan 235 = .ok (.getfield 51, 3) := by decide +kernel
theorem dX11_plan_238 : decode cX11_plan 238 = .ok (.getfield 252, 3) := by decide +kernel
theorem dX11_plan_241 : decode cX11_plan 241 = .ok (.invokevirtual 256, 3) := by decide +kernel
theorem dX11_plan_244 : decode cX11_plan 244 = .ok (.ireturn, 1) := by decide +kernel
theorem dX11_stuck_0 : decode cX11_stuck 0 = .ok (.iload_n 1, 1) := by decide +kernel
theorem dX11_stuck_1 : decode cX11_stuck 1 = .ok (.istore_n 2, 1) := by decide +kernel
theorem dX11_stuck_2 : decode cX11_stuck 2 = .ok (.iconst 0, 1) := by decide +kernel
theorem dX11_stuck_3 : decode cX11_stuck 3 = .ok (.istore_n 3, 1) := by decide +kernel
theorem dX11_stuck_4 : decode cX11_stuck 4 = .ok (.iload_n 3, 1) := by decide +kernel
theorem dX11_stuck_5 : decode cX11_stuck 5 = .ok (.bipush 12, 2) := by decide +kernel
theorem dX11_stuck_7 : decode cX11_stuck 7 = .ok (.if_icmp .ge 29, 3) := by decide +kernel
theorem dX11_stuck_10 : decode cX11_stuck 10 = .ok (.aload_n 0, 1) := by decide +kernel
theorem dX11_stuck_11 : decode cX11_stuck 11 = .ok (.getfield 226, 3) := by decide +kernel
theorem dX11_stuck_14 : decode cX11_stuck 14 = .ok (.iload_n 3, 1) := by decide +kernel
theorem dX11_stuck_15 : decode cX11_stuck 15 = .ok (.invokestatic 261, 3) := by decide +kernel
theorem dX11_stuck_18 : decode cX11_stuck 18 = .ok (.ifCond .eq 12, 3) := by decide +kernel
theorem dX11_stuck_21 : decode cX11_stuck 21 = .ok (.iload_n 2, 1) := by decide +kernel
theorem dX11_stuck_22 : decode cX11_stuck 22 = .ok (.ifCond .ne 5, 3) := by decide +kernel
theorem dX11_stuck_25 : decode cX11_stuck 25 = .ok (.iload_n 3, 1) := by decide +kernel
theorem dX11_stuck_26 : decode cX11_stuck 26 = .ok (.ireturn, 1) := by decide +kernel
theorem dX11_stuck_27 : decode cX11_stuck 27 = .ok (.iinc 2 (-1), 3) := by decide +kernel
theorem dX11_stuck_30 : decode cX11_stuck 30 = .ok (.iinc 3 1, 3) := by decide +kernel
theorem dX11_stuck_33 : decode cX11_stuck 33 = .ok (.goto (-29), 3) := by decide +kernel
theorem dX11_stuck_36 : decode cX11_stuck 36 = .ok (.iconst (-1), 1) := by decide +kernel
theorem dX11_stuck_37 : decode cX11_stuck 37 = .ok (.ireturn, 1) := by decide +kernel
theorem dX11_move_0 : decode cX11_move 0 = .ok (.iload_n 1, 1) := by decide +kernel
theorem dX11_move_1 : decode cX11_move 1 = .ok (.invokestatic 156, 3) := by decide +kernel
theorem dX11_move_4 : decode cX11_move 4 = .ok (.ifCond .eq 11, 3) := by decide +kernel
theorem dX11_move_7 : decode cX11_move 7 = .ok (.aload_n 0, 1) := by decide +kernel
theorem dX11_move_8 : decode cX11_move 8 = .ok (.iload_n 2, 1) := by decide +kernel
theorem dX11_move_9 : decode cX11_move 9 = .ok (.invokevirtual 162, 3) := by decide +kernel
theorem dX11_move_12 : decode cX11_move 12 = .ok (.ifCond .ne 6, 3) := by decide +kernel
theorem dX11_move_15 : decode cX11_move 15 = .ok (.bipush (-2), 2) := by decide +kernel
theorem dX11_move_17 : decode cX11_move 17 = .ok (.ireturn, 1) := by decide +kernel
theorem dX11_move_18 : decode cX11_move 18 = .ok (.aload_n 0, 1) := by decide +kernel
theorem dX11_move_19 : decode cX11_move 19 = .ok (.getfield 58, 3) := by decide +kernel
theorem dX11_move_22 : decode cX11_move 22 = .ok (.aload_n 0, 1) := by decide +kernel
theorem dX11_move_23 : decode cX11_move 23 = .ok (.getfield 84, 3) := by decide +kernel
theorem dX11_move_26 : decode cX11_move 26 = .ok (.invokevirtual 264, 3) := by decide +kernel
theorem dX11_move_29 : decode cX11_move 29 = .ok (.iconst 0, 1) := by decide +kernel
theorem dX11_move_30 : decode cX11_move 30 = .ok (.istore_n 3, 1) := by decide +kernel
theorem dX11_move_31 : decode cX11_move 31 = .ok (.iload_n 3, 1) := by decide +kernel
theorem dX11_move_32 : decode cX11_move 32 = .ok (.aload_n 0, 1) := by decide +kernel
theorem dX11_move_33 : decode cX11_move 33 = .ok (.getfield 114, 3) := by decide +kernel
theorem dX11_move_36 : decode cX11_move 36 = .ok (.if_icmp .ge 77, 3) := by decide +kernel
theorem dX11_move_39 : decode cX11_move 39 = .ok (.aload_n 0, 1) := by decide +kernel
theorem dX11_move_40 : decode cX11_move 40 = .ok (.getfield 23, 3) := by decide +kernel
theorem dX11_move_43 : decode cX11_move 43 = .ok (.iload_n 3, 1) := by decide +kernel
theorem dX11_move_44 : decode cX11_move 44 = .ok (.aaload, 1) := by decide +kernel
theorem dX11_move_45 : decode cX11_move 45 = .ok (.astore 4, 2) := by decide +kernel
theorem dX11_move_47 : decode cX11_move 47 = .ok (.aload 4, 2) := by decide +kernel
theorem dX11_move_49 : decode cX11_move 49 = .ok (.getfield 246, 3) := by decide +kernel
theorem dX11_move_52 : decode cX11_move 52 = .ok (.iload_n 1, 1) := by decide +kernel
theorem dX11_move_53 : decode cX11_move 53 = .ok (.iaload, 1) := by decide +kernel
theorem dX11_move_54 : decode cX11_move 54 = .ok (.iconst (-1), 1) := by decide +kernel
theorem dX11_move_55 : decode cX11_move 55 = .ok (.if_icmp .eq 52, 3) := by decide +kernel
theorem dX11_move_58 : decode cX11_move 58 = .ok (.aload_n 0, 1) := by decide +kernel
theorem dX11_move_59 : decode cX11_move 59 = .ok (.getfield 29, 3) := by decide +kernel
theorem dX11_move_62 : decode cX11_move 62 = .ok (.iload_n 3, 1) := by decide +kernel
theorem dX11_move_63 : decode cX11_move 63 = .ok (.aaload, 1) := by decide +kernel
theorem dX11_move_64 : decode cX11_move 64 = .ok (.aload 4, 2) := by decide +kernel
theorem dX11_move_66 : decode cX11_move 66 = .ok (.aload 4, 2) := by decide +kernel
theorem dX11_move_68 : decode cX11_move 68 = .ok (.invokevirtual 232, 3) := by decide +kernel
theorem dX11_move_71 : decode cX11_move 71 = .ok (.iload_n 1, 1) := by decide +kernel
theorem dX11_move_72 : decode cX11_move 72 = .ok (.iload_n 2, 1) := by decide +kernel
theorem dX11_move_73 : decode cX11_move 73 = .ok (.aload 4, 2) := by decide +kernel
theorem dX11_move_75 : decode cX11_move 75 = .ok (.invokevirtual 212, 3) := by decide +kernel
theorem dX11_move_78 : decode cX11_move 78 = .ok (.aload_n 0, 1) := by decide +kernel
theorem dX11_move_79 : decode cX11_move 79 = .ok (.getfield 17, 3) := by decide +kernel
theorem dX11_move_82 : decode cX11_move 82 = .ok (.invokevirtual 215, 3) := by decide +kernel
theorem dX11_move_85 : decode cX11_move 85 = .ok (.aload_n 0, 1) := by decide +kernel
theorem dX11_move_86 : decode cX11_move 86 = .ok (.getfield 58, 3) := by decide +kernel
theorem dX11_move_89 : decode cX11_move 89 = .ok (.aload 4, 2) := by decide +kernel
theorem dX11_move_91 : decode cX11_move 91 = .ok (.aload_n 0, 1) := by decide +kernel
theorem dX11_move_92 : decode cX11_move 92 = .ok (.getfield 29, 3) := by decide +kernel
theorem dX11_move_95 : decode cX11_move 95 = .ok (.iload_n 3, 1) := by decide +kernel
theorem dX11_move_96 : decode cX11_move 96 = .ok (.aaload, 1) := by decide +kernel
theorem dX11_move_97 : decode cX11_move 97 = .ok (.aload 4, 2) := by decide +kernel
theorem dX11_move_99 : decode cX11_move 99 = .ok (.getfield 246, 3) := by decide +kernel
theorem dX11_move_102 : decode cX11_move 102 = .ok (.iload_n 1, 1) := by decide +kernel
theorem dX11_move_103 : decode cX11_move 103 = .ok (.iaload, 1) := by decide +kernel
theorem dX11_move_104 : decode cX11_move 104 = .ok (.invokevirtual 266, 3) := by decide +kernel
theorem dX11_move_107 : decode cX11_move 107 = .ok (.iinc 3 1, 3) := by decide +kernel
theorem dX11_move_110 : decode cX11_move 110 = .ok (.goto (-79), 3) := by decide +kernel
theorem dX11_move_113 : decode cX11_move 113 = .ok (.aload_n 0, 1) := by decide +kernel
theorem dX11_move_114 : decode cX11_move 114 = .ok (.getfield 58, 3) := by decide +kernel
theorem dX11_move_117 : decode cX11_move 117 = .ok (.invokevirtual 270, 3) := by decide +kernel
theorem dX11_move_120 : decode cX11_move 120 = .ok (.istore_n 3, 1) := by decide +kernel
theorem dX11_move_121 : decode cX11_move 121 = .ok (.iload_n 3, 1) := by decide +kernel
theorem dX11_move_122 : decode cX11_move 122 = .ok (.iconst (-1), 1) := by decide +kernel
theorem dX11_move_123 : decode cX11_move 123 = .ok (.if_icmp .eq 11, 3) := by decide +kernel
theorem dX11_move_126 : decode cX11_move 126 = .ok (.aload_n 0, 1) := by decide +kernel
theorem dX11_move_127 : decode cX11_move 127 = .ok (.getfield 58, 3) := by decide +kernel
theorem dX11_move_130 : decode cX11_move 130 = .ok (.iload_n 1, 1) := by decide +kernel
theorem dX11_move_131 : decode cX11_move 131 = .ok (.invokevirtual 272, 3) := by decide +kernel
theorem dX11_move_134 : decode cX11_move 134 = .ok (.iload_n 3, 1) := by decide +kernel
theorem dX11_move_135 : decode cX11_move 135 = .ok (.ireturn, 1) := by decide +kernel
theorem dX11_planned_0 : decode cX11_planned 0 = .ok (.aload_n 0, 1) := by decide +kernel
theorem dX11_planned_1 : decode cX11_planned 1 = .ok (.iload_n 1, 1) := by decide +kernel
theorem dX11_planned_2 : decode cX11_planned 2 = .ok (.invokevirtual 110, 3) := by decide +kernel
theorem dX11_planned_5 : decode cX11_planned 5 = .ok (.astore 4, 2) := by decide +kernel
theorem dX11_planned_7 : decode cX11_planned 7 = .ok (.aload 4, 2) := by decide +kernel
theorem dX11_planned_9 : decode cX11_planned 9 = .ok (.ifnull 21, 3) := by decide +kernel
theorem dX11_planned_12 : decode cX11_planned 12 = .ok (.iload_n 2, 1) := by decide +kernel
theorem dX11_planned_13 : decode cX11_planned 13 = .ok (.invokestatic 156, 3) := by decide +kernel
theorem dX11_planned_16 : decode cX11_planned 16 = .ok (.ifCond .eq 14, 3) := by decide +kernel
theorem dX11_planned_19 : decode cX11_planned 19 = .ok (.aload 4, 2) := by decide +kernel
theorem dX11_planned_21 : decode cX11_planned 21 = .ok (.getfield 246, 3) := by decide +kernel
theorem dX11_planned_24 : decode cX11_planned 24 = .ok (.iload_n 2, 1) := by decide +kernel
theorem dX11_planned_25 : decode cX11_planned 25 = .ok (.iaload, 1) := by decide +kernel
theorem dX11_planned_26 : decode cX11_planned 26 = .ok (.iconst (-1), 1) := by decide +kernel
theorem dX11_planned_27 : decode cX11_planned 27 = .ok (.if_icmp .ne 5, 3) := by decide +kernel
theorem dX11_planned_30 : decode cX11_planned 30 = .ok (.iconst (-1), 1) := by decide +kernel
theorem dX11_planned_31 : decode cX11_planned 31 = .ok (.ireturn, 1) := by decide +kernel
theorem dX11_planned_32 : decode cX11_planned 32 = .ok (.aload 4, 2) := by decide +kernel
theorem dX11_planned_34 : decode cX11_planned 34 = .ok (.aload 4, 2) := by decide +kernel
theorem dX11_planned_36 : decode cX11_planned 36 = .ok (.getfield 246, 3) := by decide +kernel
theorem dX11_planned_39 : decode cX11_planned 39 = .ok (.iload_n 2, 1) := by decide +kernel
theorem dX11_planned_40 : decode cX11_planned 40 = .ok (.iaload, 1) := by decide +kernel
theorem dX11_planned_41 : decode cX11_planned 41 = .ok (.invokevirtual 275, 3) := by decide +kernel
theorem dX11_planned_44 : decode cX11_planned 44 = .ok (.istore 5, 2) := by decide +kernel
theorem dX11_planned_46 : decode cX11_planned 46 = .ok (.aload 4, 2) := by decide +kernel
theorem dX11_planned_48 : decode cX11_planned 48 = .ok (.aload 4, 2) := by decide +kernel
theorem dX11_planned_50 : decode cX11_planned 50 = .ok (.getfield 246, 3) := by decide +kernel
theorem dX11_planned_53 : decode cX11_planned 53 = .ok (.iload_n 2, 1) := by decide +kernel
theorem dX11_planned_54 : decode cX11_planned 54 = .ok (.iaload, 1) := by decide +kernel
theorem dX11_planned_55 : decode cX11_planned 55 = .ok (.invokevirtual 278, 3) := by decide +kernel
theorem dX11_planned_58 : decode cX11_planned 58 = .ok (.istore 6, 2) := by decide +kernel
theorem dX11_planned_60 : decode cX11_planned 60 = .ok (.iload_n 3, 1) := by decide +kernel
theorem dX11_planned_61 : decode cX11_planned 61 = .ok (.tableswitch 55 0 3 #[31, 34, 37, 46], 31) := by decide +kernel
theorem dX11_planned_92 : decode cX11_planned 92 = .ok (.iload 5, 2) := by decide +kernel
theorem dX11_planned_94 : decode cX11_planned 94 = .ok (.ireturn, 1) := by decide +kernel
theorem dX11_planned_95 : decode cX11_planned 95 = .ok (.iload 6, 2) := by decide +kernel
theorem dX11_planned_97 : decode cX11_planned 97 = .ok (.ireturn, 1) := by decide +kernel
theorem dX11_planned_98 : decode cX11_planned 98 = .ok (.aload 4, 2) := by decide +kernel
theorem dX11_planned_100 : decode cX11_planned 100 = .ok (.iload 5, 2) := by decide +kernel
theorem dX11_planned_102 : decode cX11_planned 102 = .ok (.iload_n 2, 1) := by decide +kernel
theorem dX11_planned_103 : decode cX11_planned 103 = .ok (.invokevirtual 281, 3) := by decide +kernel
theorem dX11_planned_106 : decode cX11_planned 106 = .ok (.ireturn, 1) := by decide +kernel
theorem dX11_planned_107 : decode cX11_planned 107 = .ok (.aload 4, 2) := by decide +kernel
theorem dX11_planned_109 : decode cX11_planned 109 = .ok (.iload 6, 2) := by decide +kernel
theorem dX11_planned_111 : decode cX11_planned 111 = .ok (.iload_n 2, 1) := by decide +kernel
theorem dX11_planned_112 : decode cX11_planned 112 = .ok (.invokevirtual 281, 3) := by decide +kernel
theorem dX11_planned_115 : decode cX11_planned 115 = .ok (.ireturn, 1) := by decide +kernel
theorem dX11_planned_116 : decode cX11_planned 116 = .ok (.iconst (-1), 1) := by decide +kernel
theorem dX11_planned_117 : decode cX11_planned 117 = .ok (.ireturn, 1) := by decide +kernel
theorem dX11_comes_0 : decode cX11_comes 0 = .ok (.aload_n 0, 1) := by decide +kernel
theorem dX11_comes_1 : decode cX11_comes 1 = .ok (.iload_n 2, 1) := by decide +kernel
theorem dX11_comes_2 : decode cX11_comes 2 = .ok (.invokevirtual 110, 3) := by decide +kernel
theorem dX11_comes_5 : decode cX11_comes 5 = .ok (.astore 5, 2) := by decide +kernel
theorem dX11_comes_7 : decode cX11_comes 7 = .ok (.aload 5, 2) := by decide +kernel
theorem dX11_comes_9 : decode cX11_comes 9 = .ok (.ifnull 38, 3) := by decide +kernel
theorem dX11_comes_12 : decode cX11_comes 12 = .ok (.aload_n 0, 1) := by decide +kernel
theorem dX11_comes_13 : decode cX11_comes 13 = .ok (.iload_n 1, 1) := by decide +kernel
theorem dX11_comes_14 : decode cX11_comes 14 = .ok (.invokevirtual 90, 3) := by decide +kernel
theorem dX11_comes_17 : decode cX11_comes 17 = .ok (.ifnull 30, 3) := by decide +kernel
theorem dX11_comes_20 : decode cX11_comes 20 = .ok (.iload_n 3, 1) := by decide +kernel
theorem dX11_comes_21 : decode cX11_comes 21 = .ok (.invokestatic 156, 3) := by decide +kernel
theorem dX11_comes_24 : decode cX11_comes 24 = .ok (.ifCond .eq 23, 3) := by decide +kernel
theorem dX11_comes_27 : decode cX11_comes 27 = .ok (.aload_n 0, 1) := by decide +kernel
theorem dX11_comes_28 : decode cX11_comes 28 = .ok (.iload 4, 2) := by decide +kernel
theorem dX11_comes_30 : decode cX11_comes 30 = .ok (.invokevirtual 162, 3) := by decide +kernel
theorem dX11_comes_33 : decode cX11_comes 33 = .ok (.ifCond .eq 14, 3) := by decide +kernel
theorem dX11_comes_36 : decode cX11_comes 36 = .ok (.aload 5, 2) := by decide +kernel
theorem dX11_comes_38 : decode cX11_comes 38 = .ok (.getfield 246, 3) := by decide +kernel
theorem dX11_comes_41 : decode cX11_comes 41 = .ok (.iload_n 3, 1) := by decide +kernel
theorem dX11_comes_42 : decode cX11_comes 42 = .ok (.iaload, 1) := by decide +kernel
theorem dX11_comes_43 : decode cX11_comes 43 = .ok (.iconst (-1), 1) := by decide +kernel
theorem dX11_comes_44 : decode cX11_comes 44 = .ok (.if_icmp .ne 5, 3) := by decide +kernel
theorem dX11_comes_47 : decode cX11_comes 47 = .ok (.iconst (-1), 1) := by decide +kernel
theorem dX11_comes_48 : decode cX11_comes 48 = .ok (.ireturn, 1) := by decide +kernel
theorem dX11_comes_49 : decode cX11_comes 49 = .ok (.aload_n 0, 1) := by decide +kernel
theorem dX11_comes_50 : decode cX11_comes 50 = .ok (.getfield 37, 3) := by decide +kernel
theorem dX11_comes_53 : decode cX11_comes 53 = .ok (.invokevirtual 284, 3) := by decide +kernel
theorem dX11_comes_56 : decode cX11_comes 56 = .ok (.iconst 0, 1) := by decide +kernel
theorem dX11_comes_57 : decode cX11_comes 57 = .ok (.istore 6, 2) := by decide +kernel
theorem dX11_comes_59 : decode cX11_comes 59 = .ok (.iload 6, 2) := by decide +kernel
theorem dX11_comes_61 : decode cX11_comes 61 = .ok (.aload 5, 2) := by decide +kernel
theorem dX11_comes_63 : decode cX11_comes 63 = .ok (.getfield 207, 3) := by decide +kernel
theorem dX11_comes_66 : decode cX11_comes 66 = .ok (.if_icmp .gt 22, 3) := by decide +kernel
theorem dX11_comes_69 : decode cX11_comes 69 = .ok (.aload_n 0, 1) := by decide +kernel
theorem dX11_comes_70 : decode cX11_comes 70 = .ok (.iload 6, 2) := by decide +kernel
theorem dX11_comes_72 : decode cX11_comes 72 = .ok (.iload_n 3, 1) := by decide +kernel
theorem dX11_comes_73 : decode cX11_comes 73 = .ok (.iload 4, 2) := by decide +kernel
theorem dX11_comes_75 : decode cX11_comes 75 = .ok (.iconst 1, 1) := by decide +kernel
theorem dX11_comes_76 : decode cX11_comes 76 = .ok (.iload_n 1, 1) := by decide +kernel
theorem dX11_comes_77 : decode cX11_comes 77 = .ok (.ishl, 1) := by decide +kernel
theorem dX11_comes_78 : decode cX11_comes 78 = .ok (.invokevirtual 287, 3) := by decide +kernel
theorem dX11_comes_81 : decode cX11_comes 81 = .ok (.pop, 1) := by decide +kernel
theorem dX11_comes_82 : decode cX11_comes 82 = .ok (.iinc 6 1, 3) := by decide +kernel
theorem dX11_comes_85 : decode cX11_comes 85 = .ok (.goto (-26), 3) := by decide +kernel
theorem dX11_comes_88 : decode cX11_comes 88 = .ok (.aload_n 0, 1) := by decide +kernel
theorem dX11_comes_89 : decode cX11_comes 89 = .ok (.getfield 44, 3) := by decide +kernel
theorem dX11_comes_92 : decode cX11_comes 92 = .ok (.getfield 291, 3) := by decide +kernel
theorem dX11_comes_95 : decode cX11_comes 95 = .ok (.iload_n 1, 1) := by decide +kernel
theorem dX11_comes_96 : decode cX11_comes 96 = .ok (.invokestatic 261, 3) := by decide +kernel
theorem dX11_comes_99 : decode cX11_comes 99 = .ok (.ifCond .eq 7, 3) := by decide +kernel
theorem dX11_comes_102 : decode cX11_comes 102 = .ok (.iconst 1, 1) := by decide +kernel
theorem dX11_comes_103 : decode cX11_comes 103 = .ok (.goto 4, 3) := by decide +kernel
theorem dX11_comes_106 : decode cX11_comes 106 = .ok (.iconst 0, 1) := by decide +kernel
theorem dX11_comes_107 : decode cX11_comes 107 = .ok (.aload_n 0, 1) := by decide +kernel
theorem dX11_comes_108 : decode cX11_comes 108 = .ok (.getfield 44, 3) := by decide +kernel
theorem dX11_comes_111 : decode cX11_comes 111 = .ok (.getfield 294, 3) := by decide +kernel
theorem dX11_comes_114 : decode cX11_comes 114 = .ok (.iload_n 1, 1) := by decide +kernel
theorem dX11_comes_115 : decode cX11_comes 115 = .ok (.invokestatic 261, 3) := by decide +kernel
theorem dX11_comes_118 : decode cX11_comes 118 = .ok (.ifCond .eq 7, 3) := by decide +kernel
theorem dX11_comes_121 : decode cX11_comes 121 = .ok (.iconst 2, 1) := by decide +kernel
theorem dX11_comes_122 : decode cX11_comes 122 = .ok (.goto 4, 3) := by decide +kernel
theorem dX11_comes_125 : decode cX11_comes 125 = .ok (.iconst 0, 1) := by decide +kernel
theorem dX11_comes_126 : decode cX11_comes 126 = .ok (.iadd, 1) := by decide +kernel
theorem dX11_comes_127 : decode cX11_comes 127 = .ok (.ireturn, 1) := by decide +kernel
theorem dX11_sum_0 : decode cX11_sum 0 = .ok (.aload_n 0, 1) := by decide +kernel
theorem dX11_sum_1 : decode cX11_sum 1 = .ok (.iload_n 1, 1) := by decide +kernel
theorem dX11_sum_2 : decode cX11_sum 2 = .ok (.invokevirtual 90, 3) := by decide +kernel
theorem dX11_sum_5 : decode cX11_sum 5 = .ok (.ifnull 11, 3) := by decide +kernel
theorem dX11_sum_8 : decode cX11_sum 8 = .ok (.aload_n 0, 1) := by decide +kernel
theorem dX11_sum_9 : decode cX11_sum 9 = .ok (.iload_n 2, 1) := by decide +kernel
theorem dX11_sum_10 : decode cX11_sum 10 = .ok (.invokevirtual 162, 3) := by decide +kernel
theorem dX11_sum_13 : decode cX11_sum 13 = .ok (.ifCond .ne 5, 3) := by decide +kernel
theorem dX11_sum_16 : decode cX11_sum 16 = .ok (.iconst (-1), 1) := by decide +kernel
theorem dX11_sum_17 : decode cX11_sum 17 = .ok (.ireturn, 1) := by decide +kernel
theorem dX11_sum_18 : decode cX11_sum 18 = .ok (.iconst 0, 1) := by decide +kernel
theorem dX11_sum_19 : decode cX11_sum 19 = .ok (.istore_n 3, 1) := by decide +kernel
theorem dX11_sum_20 : decode cX11_sum 20 = .ok (.iconst 0, 1) := by decide +kernel
theorem dX11_sum_21 : decode cX11_sum 21 = .ok (.istore 4, 2) := by decide +kernel
theorem dX11_sum_23 : decode cX11_sum 23 = .ok (.iload 4, 2) := by decide +kernel
theorem dX11_sum_25 : decode cX11_sum 25 = .ok (.bipush 52, 2) := by decide +kernel
theorem dX11_sum_27 : decode cX11_sum 27 = .ok (.if_icmp .ge 67, 3) := by decide +kernel
theorem dX11_sum_30 : decode cX11_sum 30 = .ok (.aload_n 0, 1) := by decide +kernel
theorem dX11_sum_31 : decode cX11_sum 31 = .ok (.getfield 37, 3) := by decide +kernel
theorem dX11_sum_34 : decode cX11_sum 34 = .ok (.invokevirtual 284, 3) := by decide +kernel
theorem dX11_sum_37 : decode cX11_sum 37 = .ok (.iconst 0, 1) := by decide +kernel
theorem dX11_sum_38 : decode cX11_sum 38 = .ok (.istore 5, 2) := by decide +kernel
theorem dX11_sum_40 : decode cX11_sum 40 = .ok (.iload 5, 2) := by decide +kernel
theorem dX11_sum_42 : decode cX11_sum 42 = .ok (.aload_n 0, 1) := by decide +kernel
theorem dX11_sum_43 : decode cX11_sum 43 = .ok (.getfield 114, 3) := by decide +kernel
theorem dX11_sum_46 : decode cX11_sum 46 = .ok (.if_icmp .ge 42, 3) := by decide +kernel
theorem dX11_sum_49 : decode cX11_sum 49 = .ok (.aload_n 0, 1) := by decide +kernel
theorem dX11_sum_50 : decode cX11_sum 50 = .ok (.iload 5, 2) := by decide +kernel
theorem dX11_sum_52 : decode cX11_sum 52 = .ok (.iload 4, 2) := by decide +kernel
theorem dX11_sum_54 : decode cX11_sum 54 = .ok (.iload_n 2, 1) := by decide +kernel
theorem dX11_sum_55 : decode cX11_sum 55 = .ok (.iconst 1, 1) := by decide +kernel
theorem dX11_sum_56 : decode cX11_sum 56 = .ok (.iload_n 1, 1) := by decide +kernel
theorem dX11_sum_57 : decode cX11_sum 57 = .ok (.ishl, 1) := by decide +kernel
theorem dX11_sum_58 : decode cX11_sum 58 = .ok (.invokevirtual 287, 3) := by decide +kernel
theorem dX11_sum_61 : decode cX11_sum 61 = .ok (.ifCond .eq 21, 3) := by decide +kernel
theorem dX11_sum_64 : decode cX11_sum 64 = .ok (.iload_n 3, 1) := by decide +kernel
theorem dX11_sum_65 : decode cX11_sum 65 = .ok (.aload_n 0, 1) := by decide +kernel
theorem dX11_sum_66 : decode cX11_sum 66 = .ok (.getfield 44, 3) := by decide +kernel
theorem dX11_sum_69 : decode cX11_sum 69 = .ok (.aload_n 0, 1) := by decide +kernel
theorem dX11_sum_70 : decode cX11_sum 70 = .ok (.getfield 29, 3) := by decide +kernel
theorem dX11_sum_73 : decode cX11_sum 73 = .ok (.iload 5, 2) := by decide +kernel
theorem dX11_sum_75 : decode cX11_sum 75 = .ok (.aaload, 1) := by decide +kernel
theorem dX11_sum_76 : decode cX11_sum 76 = .ok (.iload_n 1, 1) := by decide +kernel
theorem dX11_sum_77 : decode cX11_sum 77 = .ok (.invokevirtual 297, 3) := by decide +kernel
theorem dX11_sum_80 : decode cX11_sum 80 = .ok (.iadd, 1) := by decide +kernel
theorem dX11_sum_81 : decode cX11_sum 81 = .ok (.istore_n 3, 1) := by decide +kernel
theorem dX11_sum_82 : decode cX11_sum 82 = .ok (.iinc 5 1, 3) := by decide +kernel
theorem dX11_sum_85 : decode cX11_sum 85 = .ok (.goto (-45), 3) := by decide +kernel
theorem dX11_sum_88 : decode cX11_sum 88 = .ok (.iinc 4 1, 3) := by decide +kernel
theorem dX11_sum_91 : decode cX11_sum 91 = .ok (.goto (-68), 3) := by decide +kernel
theorem dX11_sum_94 : decode cX11_sum 94 = .ok (.iload_n 3, 1) := by decide +kernel
theorem dX11_sum_95 : decode cX11_sum 95 = .ok (.ireturn, 1) := by decide +kernel
theorem dX11_shifted_0 : decode cX11_shifted 0 = .ok (.aload_n 0, 1) := by decide +kernel
theorem dX11_shifted_1 : decode cX11_shifted 1 = .ok (.iload_n 1, 1) := by decide +kernel
theorem dX11_shifted_2 : decode cX11_shifted 2 = .ok (.invokevirtual 162, 3) := by decide +kernel
theorem dX11_shifted_5 : decode cX11_shifted 5 = .ok (.ifCond .eq 11, 3) := by decide +kernel
theorem dX11_shifted_8 : decode cX11_shifted 8 = .ok (.aload_n 0, 1) := by decide +kernel
theorem dX11_shifted_9 : decode cX11_shifted 9 = .ok (.iload_n 2, 1) := by decide +kernel
theorem dX11_shifted_10 : decode cX11_shifted 10 = .ok (.invokevirtual 162, 3) := by decide +kernel
theorem dX11_shifted_13 : decode cX11_shifted 13 = .ok (.ifCond .ne 5, 3) := by decide +kernel
theorem dX11_shifted_16 : decode cX11_shifted 16 = .ok (.iconst (-1), 1) := by decide +kernel
theorem dX11_shifted_17 : decode cX11_shifted 17 = .ok (.ireturn, 1) := by decide +kernel
theorem dX11_shifted_18 : decode cX11_shifted 18 = .ok (.iconst 0, 1) := by decide +kernel
theorem dX11_shifted_19 : decode cX11_shifted 19 = .ok (.istore_n 3, 1) := by decide +kernel
theorem dX11_shifted_20 : decode cX11_shifted 20 = .ok (.iconst 0, 1) := by decide +kernel
theorem dX11_shifted_21 : decode cX11_shifted 21 = .ok (.istore 4, 2) := by decide +kernel
theorem dX11_shifted_23 : decode cX11_shifted 23 = .ok (.iload 4, 2) := by decide +kernel
theorem dX11_shifted_25 : decode cX11_shifted 25 = .ok (.aload_n 0, 1) := by decide +kernel
theorem dX11_shifted_26 : decode cX11_shifted 26 = .ok (.getfield 114, 3) := by decide +kernel
theorem dX11_shifted_29 : decode cX11_shifted 29 = .ok (.if_icmp .ge 116, 3) := by decide +kernel
theorem dX11_shifted_32 : decode cX11_shifted 32 = .ok (.aload_n 0, 1) := by decide +kernel
theorem dX11_shifted_33 : decode cX11_shifted 33 = .ok (.getfield 23, 3) := by decide +kernel
theorem dX11_shifted_36 : decode cX11_shifted 36 = .ok (.iload 4, 2) := by decide +kernel
theorem dX11_shifted_38 : decode cX11_shifted 38 = .ok (.aaload, 1) := by decide +kernel
theorem dX11_shifted_39 : decode cX11_shifted 39 = .ok (.astore 5, 2) := by decide +kernel
theorem dX11_shifted_41 : decode cX11_shifted 41 = .ok (.iconst 0, 1) := by decide +kernel
theorem dX11_shifted_42 : decode cX11_shifted 42 = .ok (.istore 6, 2) := by decide +kernel
theorem dX11_shifted_44 : decode cX11_shifted 44 = .ok (.iload 6, 2) := by decide +kernel
theorem dX11_shifted_46 : decode cX11_shifted 46 = .ok (.bipush 52, 2) := by decide +kernel
theorem dX11_shifted_48 : decode cX11_shifted 48 = .ok (.if_icmp .ge 91, 3) := by decide +kernel
theorem dX11_shifted_51 : decode cX11_shifted 51 = .ok (.aload 5, 2) := by decide +kernel
theorem dX11_shifted_53 : decode cX11_shifted 53 = .ok (.getfield 246, 3) := by decide +kernel
theorem dX11_shifted_56 : decode cX11_shifted 56 = .ok (.iload 6, 2) := by decide +kernel
theorem dX11_shifted_58 : decode cX11_shifted 58 = .ok (.iaload, 1) := by decide +kernel
theorem dX11_shifted_59 : decode cX11_shifted 59 = .ok (.istore 7, 2) := by decide +kernel
theorem dX11_shifted_61 : decode cX11_shifted 61 = .ok (.iload 7, 2) := by decide +kernel
theorem dX11_shifted_63 : decode cX11_shifted 63 = .ok (.iconst (-1), 1) := by decide +kernel
theorem dX11_shifted_64 : decode cX11_shifted 64 = .ok (.if_icmp .eq 69, 3) := by decide +kernel
theorem dX11_shifted_67 : decode cX11_shifted 67 = .ok (.iload_n 3, 1) := by decide +kernel
theorem dX11_shifted_68 : decode cX11_shifted 68 = .ok (.aload_n 0, 1) := by decide +kernel
theorem dX11_shifted_69 : decode cX11_shifted 69 = .ok (.aload 5, 2) := by decide +kernel
theorem dX11_shifted_71 : decode cX11_shifted 71 = .ok (.aload 5, 2) := by decide +kernel
theorem dX11_shifted_73 : decode cX11_shifted 73 = .ok (.aload 5, 2) := by decide +kernel
theorem dX11_shifted_75 : decode cX11_shifted 75 = .ok (.iload 7, 2) := by decide +kernel
theorem dX11_shifted_77 : decode cX11_shifted 77 = .ok (.invokevirtual 275, 3) := by decide +kernel
theorem dX11_shifted_80 : decode cX11_shifted 80 = .ok (.iload 6, 2) := by decide +kernel
theorem dX11_shifted_82 : decode cX11_shifted 82 = .ok (.invokevirtual 281, 3) := by decide +kernel
theorem dX11_shifted_85 : decode cX11_shifted 85 = .ok (.iload_n 1, 1) := by decide +kernel
theorem dX11_shifted_86 : decode cX11_shifted 86 = .ok (.iload_n 2, 1) := by decide +kernel
theorem dX11_shifted_87 : decode cX11_shifted 87 = .ok (.invokevirtual 301, 3) := by decide +kernel
theorem dX11_shifted_90 : decode cX11_shifted 90 = .ok (.ifCond .eq 7, 3) := by decide +kernel
theorem dX11_shifted_93 : decode cX11_shifted 93 = .ok (.iconst 1, 1) := by decide +kernel
theorem dX11_shifted_94 : decode cX11_shifted 94 = .ok (.goto 4, 3) := by decide +kernel
theorem dX11_shifted_97 : decode cX11_shifted 97 = .ok (.iconst 0, 1) := by decide +kernel
theorem dX11_shifted_98 : decode cX11_shifted 98 = .ok (.iadd, 1) := by decide +kernel
theorem dX11_shifted_99 : decode cX11_shifted 99 = .ok (.istore_n 3, 1) := by decide +kernel
theorem dX11_shifted_100 : decode cX11_shifted 100 = .ok (.iload_n 3, 1) := by decide +kernel
theorem dX11_shifted_101 : decode cX11_shifted 101 = .ok (.aload_n 0, 1) := by decide +kernel
theorem dX11_shifted_102 : decode cX11_shifted 102 = .ok (.aload 5, 2) := by decide +kernel
theorem dX11_shifted_104 : decode cX11_shifted 104 = .ok (.aload 5, 2) := by decide +kernel
theorem dX11_shifted_106 : decode cX11_shifted 106 = .ok (.aload 5, 2) := by decide +kernel
theorem dX11_shifted_108 : decode cX11_shifted 108 = .ok (.iload 7, 2) := by decide +kernel
theorem dX11_shifted_110 : decode cX11_shifted 110 = .ok (.invokevirtual 278, 3) := by decide +kernel
theorem dX11_shifted_113 : decode cX11_shifted 113 = .ok (.iload 6, 2) := by decide +kernel
theorem dX11_shifted_115 : decode cX11_shifted 115 = .ok (.invokevirtual 281, 3) := by decide +kernel
theorem dX11_shifted_118 : decode cX11_shifted 118 = .ok (.iload_n 1, 1) := by decide +kernel
theorem dX11_shifted_119 : decode cX11_shifted 119 = .ok (.iload_n 2, 1) := by decide +kernel
theorem dX11_shifted_120 : decode cX11_shifted 120 = .ok (.invokevirtual 301, 3) := by decide +kernel
theorem dX11_shifted_123 : decode cX11_shifted 123 = .ok (.ifCond .eq 7, 3) := by decide +kernel
theorem dX11_shifted_126 : decode cX11_shifted 126 = .ok (.iconst 1, 1) := by decide +kernel
theorem dX11_shifted_127 : decode cX11_shifted 127 = .ok (.goto 4, 3) := by decide +kernel
theorem dX11_shifted_130 : decode cX11_shifted 130 = .ok (.iconst 0, 1) := by decide +kernel
theorem dX11_shifted_131 : decode cX11_shifted 131 = .ok (.iadd, 1) := by decide +kernel
theorem dX11_shifted_132 : decode cX11_shifted 132 = .ok (.istore_n 3, 1) := by decide +kernel
theorem dX11_shifted_133 : decode cX11_shifted 133 = .ok (.iinc 6 1, 3) := by decide +kernel
theorem dX11_shifted_136 : decode cX11_shifted 136 = .ok (.goto (-92), 3) := by decide +kernel
theorem dX11_shifted_139 : decode cX11_shifted 139 = .ok (.iinc 4 1, 3) := by decide +kernel
theorem dX11_shifted_142 : decode cX11_shifted 142 = .ok (.goto (-119), 3) := by decide +kernel
theorem dX11_shifted_145 : decode cX11_shifted 145 = .ok (.iload_n 3, 1) := by decide +kernel
theorem dX11_shifted_146 : decode cX11_shifted 146 = .ok (.ireturn, 1) := by decide +kernel
theorem dX11_isOffset_0 : decode cX11_isOffset 0 = .ok (.iload_n 0, 1) := by decide +kernel
theorem dX11_isOffset_1 : decode cX11_isOffset 1 = .ok (.bipush (-24), 2) := by decide +kernel
theorem dX11_isOffset_3 : decode cX11_isOffset 3 = .ok (.if_icmp .lt 13, 3) := by decide +kernel
theorem dX11_isOffset_6 : decode cX11_isOffset 6 = .ok (.iload_n 0, 1) := by decide +kernel
theorem dX11_isOffset_7 : decode cX11_isOffset 7 = .ok (.bipush 28, 2) := by decide +kernel
theorem dX11_isOffset_9 : decode cX11_isOffset 9 = .ok (.if_icmp .gt 7, 3) := by decide +kernel
theorem dX11_isOffset_12 : decode cX11_isOffset 12 = .ok (.iconst 1, 1) := by decide +kernel
theorem dX11_isOffset_13 : decode cX11_isOffset 13 = .ok (.goto 4, 3) := by decide +kernel
theorem dX11_isOffset_16 : decode cX11_isOffset 16 = .ok (.iconst 0, 1) := by decide +kernel
theorem dX11_isOffset_17 : decode cX11_isOffset 17 = .ok (.ireturn, 1) := by decide +kernel
theorem dX11_isSlot_0 : decode cX11_isSlot 0 = .ok (.iload_n 0, 1) := by decide +kernel
theorem dX11_isSlot_1 : decode cX11_isSlot 1 = .ok (.ifCond .lt 14, 3) := by decide +kernel
theorem dX11_isSlot_4 : decode cX11_isSlot 4 = .ok (.iload_n 0, 1) := by decide +kernel
theorem dX11_isSlot_5 : decode cX11_isSlot 5 = .ok (.sipush 17472, 3) := by decide +kernel
theorem dX11_isSlot_8 : decode cX11_isSlot 8 = .ok (.if_icmp .ge 7, 3) := by decide +kernel
theorem dX11_isSlot_11 : decode cX11_isSlot 11 = .ok (.iconst 1, 1) := by decide +kernel
theorem dX11_isSlot_12 : decode cX11_isSlot 12 = .ok (.goto 4, 3) := by decide +kernel
theorem dX11_isSlot_15 : decode cX11_isSlot 15 = .ok (.iconst 0, 1) := by decide +kernel
theorem dX11_isSlot_16 : decode cX11_isSlot 16 = .ok (.ireturn, 1) := by decide +kernel
theorem dX11_isWeek_0 : decode cX11_isWeek 0 = .ok (.iload_n 0, 1) := by decide +kernel
theorem dX11_isWeek_1 : decode cX11_isWeek 1 = .ok (.ifCond .lt 13, 3) := by decide +kernel
theorem dX11_isWeek_4 : decode cX11_isWeek 4 = .ok (.iload_n 0, 1) := by decide +kernel
theorem dX11_isWeek_5 : decode cX11_isWeek 5 = .ok (.bipush 52, 2) := by decide +kernel
theorem dX11_isWeek_7 : decode cX11_isWeek 7 = .ok (.if_icmp .ge 7, 3) := by decide +kernel
theorem dX11_isWeek_10 : decode cX11_isWeek 10 = .ok (.iconst 1, 1) := by decide +kernel
theorem dX11_isWeek_11 : decode cX11_isWeek 11 = .ok (.goto 4, 3) := by decide +kernel
theorem dX11_isWeek_14 : decode cX11_isWeek 14 = .ok (.iconst 0, 1) := by decide +kernel
theorem dX11_isWeek_15 : decode cX11_isWeek 15 = .ok (.ireturn, 1) := by decide +kernel
theorem dX11_isStretch_0 : decode cX11_isStretch 0 = .ok (.iload_n 0, 1) := by decide +kernel
theorem dX11_isStretch_1 : decode cX11_isStretch 1 = .ok (.invokestatic 138, 3) := by decide +kernel
theorem dX11_isStretch_4 : decode cX11_isStretch 4 = .ok (.ifCond .eq 27, 3) := by decide +kernel
theorem dX11_isStretch_7 : decode cX11_isStretch 7 = .ok (.iload_n 1, 1) := by decide +kernel
theorem dX11_isStretch_8 : decode cX11_isStretch 8 = .ok (.iconst 1, 1) := by decide +kernel
theorem dX11_isStretch_9 : decode cX11_isStretch 9 = .ok (.if_icmp .lt 22, 3) := by decide +kernel
theorem dX11_isStretch_12 : decode cX11_isStretch 12 = .ok (.iload_n 1, 1) := by decide +kernel
theorem dX11_isStretch_13 : decode cX11_isStretch 13 = .ok (.bipush 6, 2) := by decide +kernel
theorem dX11_isStretch_15 : decode cX11_isStretch 15 = .ok (.if_icmp .gt 16, 3) := by decide +kernel
theorem dX11_isStretch_18 : decode cX11_isStretch 18 = .ok (.iload_n 0, 1) := by decide +kernel
theorem dX11_isStretch_19 : decode cX11_isStretch 19 = .ok (.iload_n 1, 1) := by decide +kernel
theorem dX11_isStretch_20 : decode cX11_isStretch 20 = .ok (.iadd, 1) := by decide +kernel
theorem dX11_isStretch_21 : decode cX11_isStretch 21 = .ok (.sipush 17472, 3) := by decide +kernel
theorem dX11_isStretch_24 : decode cX11_isStretch 24 = .ok (.if_icmp .gt 7, 3) := by decide +kernel
theorem dX11_isStretch_27 : decode cX11_isStretch 27 = .ok (.iconst 1, 1) := by decide +kernel
theorem dX11_isStretch_28 : decode cX11_isStretch 28 = .ok (.goto 4, 3) := by decide +kernel
theorem dX11_isStretch_31 : decode cX11_isStretch 31 = .ok (.iconst 0, 1) := by decide +kernel
theorem dX11_isStretch_32 : decode cX11_isStretch 32 = .ok (.ireturn, 1) := by decide +kernel
theorem dX11_isIn_0 : decode cX11_isIn 0 = .ok (.iload_n 0, 1) := by decide +kernel
theorem dX11_isIn_1 : decode cX11_isIn 1 = .ok (.iload_n 1, 1) := by decide +kernel
theorem dX11_isIn_2 : decode cX11_isIn 2 = .ok (.ishr, 1) := by decide +kernel
theorem dX11_isIn_3 : decode cX11_isIn 3 = .ok (.iconst 1, 1) := by decide +kernel
theorem dX11_isIn_4 : decode cX11_isIn 4 = .ok (.iand, 1) := by decide +kernel
theorem dX11_isIn_5 : decode cX11_isIn 5 = .ok (.ifCond .eq 7, 3) := by decide +kernel
theorem dX11_isIn_8 : decode cX11_isIn 8 = .ok (.iconst 1, 1) := by decide +kernel
theorem dX11_isIn_9 : decode cX11_isIn 9 = .ok (.goto 4, 3) := by decide +kernel
theorem dX11_isIn_12 : decode cX11_isIn 12 = .ok (.iconst 0, 1) := by decide +kernel
theorem dX11_isIn_13 : decode cX11_isIn 13 = .ok (.ireturn, 1) := by decide +kernel
theorem dX11_isKnown_0 : decode cX11_isKnown 0 = .ok (.iload_n 1, 1) := by decide +kernel
theorem dX11_isKnown_1 : decode cX11_isKnown 1 = .ok (.ifCond .lt 15, 3) := by decide +kernel
theorem dX11_isKnown_4 : decode cX11_isKnown 4 = .ok (.iload_n 1, 1) := by decide +kernel
theorem dX11_isKnown_5 : decode cX11_isKnown 5 = .ok (.aload_n 0, 1) := by decide +kernel
theorem dX11_isKnown_6 : decode cX11_isKnown 6 = .ok (.getfield 131, 3) := by decide +kernel
theorem dX11_isKnown_9 : decode cX11_isKnown 9 = .ok (.if_icmp .gt 7, 3) := by decide +kernel
theorem dX11_isKnown_12 : decode cX11_isKnown 12 = .ok (.iconst 1, 1) := by decide +kernel
theorem dX11_isKnown_13 : decode cX11_isKnown 13 = .ok (.goto 4, 3) := by decide +kernel
theorem dX11_isKnown_16 : decode cX11_isKnown 16 = .ok (.iconst 0, 1) := by decide +kernel
theorem dX11_isKnown_17 : decode cX11_isKnown 17 = .ok (.ireturn, 1) := by decide +kernel
theorem dX11_landAt_0 : decode cX11_landAt 0 = .ok (.iload_n 1, 1) := by decide +kernel
theorem dX11_landAt_1 : decode cX11_landAt 1 = .ok (.ifCond .lt 20, 3) := by decide +kernel
theorem dX11_landAt_4 : decode cX11_landAt 4 = .ok (.iload_n 1, 1) := by decide +kernel
theorem dX11_landAt_5 : decode cX11_landAt 5 = .ok (.aload_n 0, 1) := by decide +kernel
theorem dX11_landAt_6 : decode cX11_landAt 6 = .ok (.getfield 69, 3) := by decide +kernel
theorem dX11_landAt_9 : decode cX11_landAt 9 = .ok (.if_icmp .ge 12, 3) := by decide +kernel
theorem dX11_landAt_12 : decode cX11_landAt 12 = .ok (.aload_n 0, 1) := by decide +kernel
theorem dX11_landAt_13 : decode cX11_landAt 13 = .ok (.getfield 11, 3) := by decide +kernel
theorem dX11_landAt_16 : decode cX11_landAt 16 = .ok (.iload_n 1, 1) := by decide +kernel
theorem dX11_landAt_17 : decode cX11_landAt 17 = .ok (.aaload, 1) := by decide +kernel
theorem dX11_landAt_18 : decode cX11_landAt 18 = .ok (.goto 4, 3) := by decide +kernel
theorem dX11_landAt_21 : decode cX11_landAt 21 = .ok (.aconst_null, 1) := by decide +kernel
theorem dX11_landAt_22 : decode cX11_landAt 22 = .ok (.areturn, 1) := by decide +kernel
theorem dX11_personAt_0 : decode cX11_personAt 0 = .ok (.iload_n 1, 1) := by decide +kernel
theorem dX11_personAt_1 : decode cX11_personAt 1 = .ok (.ifCond .lt 20, 3) := by decide +kernel
theorem dX11_personAt_4 : decode cX11_personAt 4 = .ok (.iload_n 1, 1) := by decide +kernel
theorem dX11_personAt_5 : decode cX11_personAt 5 = .ok (.aload_n 0, 1) := by decide +kernel
theorem dX11_personAt_6 : decode cX11_personAt 6 = .ok (.getfield 84, 3) := by decide +kernel
theorem dX11_personAt_9 : decode cX11_personAt 9 = .ok (.if_icmp .ge 12, 3) := by decide +kernel
theorem dX11_personAt_12 : decode cX11_personAt 12 = .ok (.aload_n 0, 1) := by decide +kernel
theorem dX11_personAt_13 : decode cX11_personAt 13 = .ok (.getfield 17, 3) := by decide +kernel
theorem dX11_personAt_16 : decode cX11_personAt 16 = .ok (.iload_n 1, 1) := by decide +kernel
theorem dX11_personAt_17 : decode cX11_personAt 17 = .ok (.aaload, 1) := by decide +kernel
theorem dX11_personAt_18 : decode cX11_personAt 18 = .ok (.goto 4, 3) := by decide +kernel
theorem dX11_personAt_21 : decode cX11_personAt 21 = .ok (.aconst_null, 1) := by decide +kernel
theorem dX11_personAt_22 : decode cX11_personAt 22 = .ok (.areturn, 1) := by decide +kernel
theorem dX11_seriesAt_0 : decode cX11_seriesAt 0 = .ok (.iload_n 1, 1) := by decide +kernel
theorem dX11_seriesAt_1 : decode cX11_seriesAt 1 = .ok (.ifCond .lt 20, 3) := by decide +kernel
theorem dX11_seriesAt_4 : decode cX11_seriesAt 4 = .ok (.iload_n 1, 1) := by decide +kernel
theorem dX11_seriesAt_5 : decode cX11_seriesAt 5 = .ok (.aload_n 0, 1) := by decide +kernel
theorem dX11_seriesAt_6 : decode cX11_seriesAt 6 = .ok (.getfield 114, 3) := by decide +kernel
theorem dX11_seriesAt_9 : decode cX11_seriesAt 9 = .ok (.if_icmp .ge 12, 3) := by decide +kernel
theorem dX11_seriesAt_12 : decode cX11_seriesAt 12 = .ok (.aload_n 0, 1) := by decide +kernel
theorem dX11_seriesAt_13 : decode cX11_seriesAt 13 = .ok (.getfield 23, 3) := by decide +kernel
theorem dX11_seriesAt_16 : decode cX11_seriesAt 16 = .ok (.iload_n 1, 1) := by decide +kernel
theorem dX11_seriesAt_17 : decode cX11_seriesAt 17 = .ok (.aaload, 1) := by decide +kernel
theorem dX11_seriesAt_18 : decode cX11_seriesAt 18 = .ok (.goto 4, 3) := by decide +kernel
theorem dX11_seriesAt_21 : decode cX11_seriesAt 21 = .ok (.aconst_null, 1) := by decide +kernel
theorem dX11_seriesAt_22 : decode cX11_seriesAt 22 = .ok (.areturn, 1) := by decide +kernel
theorem dX11_meetingCount_0 : decode cX11_meetingCount 0 = .ok (.iconst 0, 1) := by decide +kernel
theorem dX11_meetingCount_1 : decode cX11_meetingCount 1 = .ok (.istore_n 1, 1) := by decide +kernel
theorem dX11_meetingCount_2 : decode cX11_meetingCount 2 = .ok (.iconst 0, 1) := by decide +kernel
theorem dX11_meetingCount_3 : decode cX11_meetingCount 3 = .ok (.istore_n 2, 1) := by decide +kernel
theorem dX11_meetingCount_4 : decode cX11_meetingCount 4 = .ok (.iload_n 2, 1) := by decide +kernel
theorem dX11_meetingCount_5 : decode cX11_meetingCount 5 = .ok (.aload_n 0, 1) := by decide +kernel
theorem dX11_meetingCount_6 : decode cX11_meetingCount 6 = .ok (.getfield 114, 3) := by decide +kernel
theorem dX11_meetingCount_9 : decode cX11_meetingCount 9 = .ok (.if_icmp .ge 46, 3) := by decide +kernel
theorem dX11_meetingCount_12 : decode cX11_meetingCount 12 = .ok (.iconst 0, 1) := by decide +kernel
theorem dX11_meetingCount_13 : decode cX11_meetingCount 13 = .ok (.istore_n 3, 1) := by decide +kernel
theorem dX11_meetingCount_14 : decode cX11_meetingCount 14 = .ok (.iload_n 3, 1) := by decide +kernel
theorem dX11_meetingCount_15 : decode cX11_meetingCount 15 = .ok (.bipush 52, 2) := by decide +kernel
theorem dX11_meetingCount_17 : decode cX11_meetingCount 17 = .ok (.if_icmp .ge 32, 3) := by decide +kernel
theorem dX11_meetingCount_20 : decode cX11_meetingCount 20 = .ok (.iload_n 1, 1) := by decide +kernel
theorem dX11_meetingCount_21 : decode cX11_meetingCount 21 = .ok (.aload_n 0, 1) := by decide +kernel
theorem dX11_meetingCount_22 : decode cX11_meetingCount 22 = .ok (.getfield 23, 3) := by decide +kernel
theorem dX11_meetingCount_25 : decode cX11_meetingCount 25 = .ok (.iload_n 2, 1) := by decide +kernel
theorem dX11_meetingCount_26 : decode cX11_meetingCount 26 = .ok (.aaload, 1) := by decide +kernel
theorem dX11_meetingCount_27 : decode cX11_meetingCount 27 = .ok (.getfield 246, 3) := by decide +kernel
theorem dX11_meetingCount_30 : decode cX11_meetingCount 30 = .ok (.iload_n 3, 1) := by decide +kernel
theorem dX11_meetingCount_31 : decode cX11_meetingCount 31 = .ok (.iaload, 1) := by decide +kernel
theorem dX11_meetingCount_32 : decode cX11_meetingCount 32 = .ok (.iconst (-1), 1) := by decide +kernel
theorem dX11_meetingCount_33 : decode cX11_meetingCount 33 = .ok (.if_icmp .ne 7, 3) := by decide +kernel
theorem dX11_meetingCount_36 : decode cX11_meetingCount 36 = .ok (.iconst 0, 1) := by decide +kernel
theorem dX11_meetingCount_37 : decode cX11_meetingCount 37 = .ok (.goto 4, 3) := by decide +kernel
theorem dX11_meetingCount_40 : decode cX11_meetingCount 40 = .ok (.iconst 1, 1) := by decide +kernel
theorem dX11_meetingCount_41 : decode cX11_meetingCount 41 = .ok (.iadd, 1) := by decide +kernel
theorem dX11_meetingCount_42 : decode cX11_meetingCount 42 = .ok (.istore_n 1, 1) := by decide +kernel
theorem dX11_meetingCount_43 : decode cX11_meetingCount 43 = .ok (.iinc 3 1, 3) := by decide +kernel
theorem dX11_meetingCount_46 : decode cX11_meetingCount 46 = .ok (.goto (-32), 3) := by decide +kernel
theorem dX11_meetingCount_49 : decode cX11_meetingCount 49 = .ok (.iinc 2 1, 3) := by decide +kernel
theorem dX11_meetingCount_52 : decode cX11_meetingCount 52 = .ok (.goto (-48), 3) := by decide +kernel
theorem dX11_meetingCount_55 : decode cX11_meetingCount 55 = .ok (.iload_n 1, 1) := by decide +kernel
theorem dX11_meetingCount_56 : decode cX11_meetingCount 56 = .ok (.ireturn, 1) := by decide +kernel
theorem dX11_isShifted_0 : decode cX11_isShifted 0 = .ok (.iload_n 2, 1) := by decide +kernel
theorem dX11_isShifted_1 : decode cX11_isShifted 1 = .ok (.iconst (-1), 1) := by decide +kernel
theorem dX11_isShifted_2 : decode cX11_isShifted 2 = .ok (.if_icmp .ne 5, 3) := by decide +kernel
theorem dX11_isShifted_5 : decode cX11_isShifted 5 = .ok (.iconst 0, 1) := by decide +kernel
theorem dX11_isShifted_6 : decode cX11_isShifted 6 = .ok (.ireturn, 1) := by decide +kernel
theorem dX11_isShifted_7 : decode cX11_isShifted 7 = .ok (.aload_n 1, 1) := by decide +kernel
theorem dX11_isShifted_8 : decode cX11_isShifted 8 = .ok (.invokevirtual 305, 3) := by decide +kernel
theorem dX11_isShifted_11 : decode cX11_isShifted 11 = .ok (.istore 5, 2) := by decide +kernel
theorem dX11_isShifted_13 : decode cX11_isShifted 13 = .ok (.iconst 0, 1) := by decide +kernel
theorem dX11_isShifted_14 : decode cX11_isShifted 14 = .ok (.istore 6, 2) := by decide +kernel
theorem dX11_isShifted_16 : decode cX11_isShifted 16 = .ok (.iload 6, 2) := by decide +kernel
theorem dX11_isShifted_18 : decode cX11_isShifted 18 = .ok (.aload_n 0, 1) := by decide +kernel
theorem dX11_isShifted_19 : decode cX11_isShifted 19 = .ok (.getfield 84, 3) := by decide +kernel
theorem dX11_isShifted_22 : decode cX11_isShifted 22 = .ok (.if_icmp .ge 51, 3) := by decide +kernel
theorem dX11_isShifted_25 : decode cX11_isShifted 25 = .ok (.aload_n 0, 1) := by decide +kernel
theorem dX11_isShifted_26 : decode cX11_isShifted 26 = .ok (.getfield 17, 3) := by decide +kernel
theorem dX11_isShifted_29 : decode cX11_isShifted 29 = .ok (.iload 6, 2) := by decide +kernel
theorem dX11_isShifted_31 : decode cX11_isShifted 31 = .ok (.aaload, 1) := by decide +kernel
theorem dX11_isShifted_32 : decode cX11_isShifted 32 = .ok (.getfield 308, 3) := by decide +kernel
theorem dX11_isShifted_35 : decode cX11_isShifted 35 = .ok (.astore 7, 2) := by decide +kernel
theorem dX11_isShifted_37 : decode cX11_isShifted 37 = .ok (.iload 5, 2) := by decide +kernel
theorem dX11_isShifted_39 : decode cX11_isShifted 39 = .ok (.iload 6, 2) := by decide +kernel
theorem dX11_isShifted_41 : decode cX11_isShifted 41 = .ok (.invokestatic 261, 3) := by decide +kernel
theorem dX11_isShifted_44 : decode cX11_isShifted 44 = .ok (.ifCond .eq 23, 3) := by decide +kernel
theorem dX11_isShifted_47 : decode cX11_isShifted 47 = .ok (.aload 7, 2) := by decide +kernel
theorem dX11_isShifted_49 : decode cX11_isShifted 49 = .ok (.iload_n 2, 1) := by decide +kernel
theorem dX11_isShifted_50 : decode cX11_isShifted 50 = .ok (.iload_n 3, 1) := by decide +kernel
theorem dX11_isShifted_51 : decode cX11_isShifted 51 = .ok (.invokevirtual 166, 3) := by decide +kernel
theorem dX11_isShifted_54 : decode cX11_isShifted 54 = .ok (.aload 7, 2) := by decide +kernel
theorem dX11_isShifted_56 : decode cX11_isShifted 56 = .ok (.iload_n 2, 1) := by decide +kernel
theorem dX11_isShifted_57 : decode cX11_isShifted 57 = .ok (.iload 4, 2) := by decide +kernel
theorem dX11_isShifted_59 : decode cX11_isShifted 59 = .ok (.invokevirtual 166, 3) := by decide +kernel
theorem dX11_isShifted_62 : decode cX11_isShifted 62 = .ok (.if_icmp .eq 5, 3) := by decide +kernel
theorem dX11_isShifted_65 : decode cX11_isShifted 65 = .ok (.iconst 1, 1) := by decide +kernel
theorem dX11_isShifted_66 : decode cX11_isShifted 66 = .ok (.ireturn, 1) := by decide +kernel
theorem dX11_isShifted_67 : decode cX11_isShifted 67 = .ok (.iinc 6 1, 3) := by decide +kernel
theorem dX11_isShifted_70 : decode cX11_isShifted 70 = .ok (.goto (-54), 3) := by decide +kernel
theorem dX11_isShifted_73 : decode cX11_isShifted 73 = .ok (.iconst 0, 1) := by decide +kernel
theorem dX11_isShifted_74 : decode cX11_isShifted 74 = .ok (.ireturn, 1) := by decide +kernel
theorem dX11_seatLesser_0 : decode cX11_seatLesser 0 = .ok (.aload_n 0, 1) := by decide +kernel
theorem dX11_seatLesser_1 : decode cX11_seatLesser 1 = .ok (.getfield 37, 3) := by decide +kernel
theorem dX11_seatLesser_4 : decode cX11_seatLesser 4 = .ok (.invokevirtual 284, 3) := by decide +kernel
theorem dX11_seatLesser_7 : decode cX11_seatLesser 7 = .ok (.iconst 0, 1) := by decide +kernel
theorem dX11_seatLesser_8 : decode cX11_seatLesser 8 = .ok (.istore 4, 2) := by decide +kernel
theorem dX11_seatLesser_10 : decode cX11_seatLesser 10 = .ok (.iload 4, 2) := by decide +kernel
theorem dX11_seatLesser_12 : decode cX11_seatLesser 12 = .ok (.aload_n 1, 1) := by decide +kernel
theorem dX11_seatLesser_13 : decode cX11_seatLesser 13 = .ok (.getfield 207, 3) := by decide +kernel
theorem dX11_seatLesser_16 : decode cX11_seatLesser 16 = .ok (.if_icmp .ge 22, 3) := by decide +kernel
theorem dX11_seatLesser_19 : decode cX11_seatLesser 19 = .ok (.aload_n 0, 1) := by decide +kernel
theorem dX11_seatLesser_20 : decode cX11_seatLesser 20 = .ok (.iload 4, 2) := by decide +kernel
theorem dX11_seatLesser_22 : decode cX11_seatLesser 22 = .ok (.iload_n 2, 1) := by decide +kernel
theorem dX11_seatLesser_23 : decode cX11_seatLesser 23 = .ok (.iload_n 3, 1) := by decide +kernel
theorem dX11_seatLesser_24 : decode cX11_seatLesser 24 = .ok (.aload_n 1, 1) := by decide +kernel
theorem dX11_seatLesser_25 : decode cX11_seatLesser 25 = .ok (.invokevirtual 212, 3) := by decide +kernel
theorem dX11_seatLesser_28 : decode cX11_seatLesser 28 = .ok (.invokevirtual 287, 3) := by decide +kernel
theorem dX11_seatLesser_31 : decode cX11_seatLesser 31 = .ok (.pop, 1) := by decide +kernel
theorem dX11_seatLesser_32 : decode cX11_seatLesser 32 = .ok (.iinc 4 1, 3) := by decide +kernel
theorem dX11_seatLesser_35 : decode cX11_seatLesser 35 = .ok (.goto (-25), 3) := by decide +kernel
theorem dX11_seatLesser_38 : decode cX11_seatLesser 38 = .ok (.return_, 1) := by decide +kernel
theorem dX11_seat_0 : decode cX11_seat 0 = .ok (.aload_n 0, 1) := by decide +kernel
theorem dX11_seat_1 : decode cX11_seat 1 = .ok (.getfield 23, 3) := by decide +kernel
theorem dX11_seat_4 : decode cX11_seat 4 = .ok (.iload_n 1, 1) := by decide +kernel
theorem dX11_seat_5 : decode cX11_seat 5 = .ok (.aaload, 1) := by decide +kernel
theorem dX11_seat_6 : decode cX11_seat 6 = .ok (.astore 5, 2) := by decide +kernel
theorem dX11_seat_8 : decode cX11_seat 8 = .ok (.aload 5, 2) := by decide +kernel
theorem dX11_seat_10 : decode cX11_seat 10 = .ok (.getfield 246, 3) := by decide +kernel
theorem dX11_seat_13 : decode cX11_seat 13 = .ok (.iload_n 2, 1) := by decide +kernel
theorem dX11_seat_14 : decode cX11_seat 14 = .ok (.iaload, 1) := by decide +kernel
theorem dX11_seat_15 : decode cX11_seat 15 = .ok (.istore 6, 2) := by decide +kernel
theorem dX11_seat_17 : decode cX11_seat 17 = .ok (.iload 6, 2) := by decide +kernel
theorem dX11_seat_19 : decode cX11_seat 19 = .ok (.iconst (-1), 1) := by decide +kernel
theorem dX11_seat_20 : decode cX11_seat 20 = .ok (.if_icmp .ne 5, 3) := by decide +kernel
theorem dX11_seat_23 : decode cX11_seat 23 = .ok (.iconst 0, 1) := by decide +kernel
theorem dX11_seat_24 : decode cX11_seat 24 = .ok (.ireturn, 1) := by decide +kernel
theorem dX11_seat_25 : decode cX11_seat 25 = .ok (.aload_n 0, 1) := by decide +kernel
theorem dX11_seat_26 : decode cX11_seat 26 = .ok (.getfield 29, 3) := by decide +kernel
theorem dX11_seat_29 : decode cX11_seat 29 = .ok (.iload_n 1, 1) := by decide +kernel
theorem dX11_seat_30 : decode cX11_seat 30 = .ok (.aaload, 1) := by decide +kernel
theorem dX11_seat_31 : decode cX11_seat 31 = .ok (.aload 5, 2) := by decide +kernel
theorem dX11_seat_33 : decode cX11_seat 33 = .ok (.aload 5, 2) := by decide +kernel
theorem dX11_seat_35 : decode cX11_seat 35 = .ok (.iload 6, 2) := by decide +kernel
theorem dX11_seat_37 : decode cX11_seat 37 = .ok (.invokevirtual 208, 3) := by decide +kernel
theorem dX11_seat_40 : decode cX11_seat 40 = .ok (.iload_n 2, 1) := by decide +kernel
theorem dX11_seat_41 : decode cX11_seat 41 = .ok (.iload_n 3, 1) := by decide +kernel
theorem dX11_seat_42 : decode cX11_seat 42 = .ok (.iload 4, 2) := by decide +kernel
theorem dX11_seat_44 : decode cX11_seat 44 = .ok (.aload 5, 2) := by decide +kernel
theorem dX11_seat_46 : decode cX11_seat 46 = .ok (.invokevirtual 212, 3) := by decide +kernel
theorem dX11_seat_49 : decode cX11_seat 49 = .ok (.iand, 1) := by decide +kernel
theorem dX11_seat_50 : decode cX11_seat 50 = .ok (.aload_n 0, 1) := by decide +kernel
theorem dX11_seat_51 : decode cX11_seat 51 = .ok (.getfield 17, 3) := by decide +kernel
theorem dX11_seat_54 : decode cX11_seat 54 = .ok (.invokevirtual 215, 3) := by decide +kernel
theorem dX11_seat_57 : decode cX11_seat 57 = .ok (.aload_n 0, 1) := by decide +kernel
theorem dX11_seat_58 : decode cX11_seat 58 = .ok (.getfield 44, 3) := by decide +kernel
theorem dX11_seat_61 : decode cX11_seat 61 = .ok (.aload 5, 2) := by decide +kernel
theorem dX11_seat_63 : decode cX11_seat 63 = .ok (.aload_n 0, 1) := by decide +kernel
theorem dX11_seat_64 : decode cX11_seat 64 = .ok (.getfield 29, 3) := by decide +kernel
theorem dX11_seat_67 : decode cX11_seat 67 = .ok (.iload_n 1, 1) := by decide +kernel
theorem dX11_seat_68 : decode cX11_seat 68 = .ok (.aaload, 1) := by decide +kernel
theorem dX11_seat_69 : decode cX11_seat 69 = .ok (.aload_n 0, 1) := by decide +kernel
theorem dX11_seat_70 : decode cX11_seat 70 = .ok (.getfield 37, 3) := by decide +kernel
theorem dX11_seat_73 : decode cX11_seat 73 = .ok (.iload 6, 2) := by decide +kernel
theorem dX11_seat_75 : decode cX11_seat 75 = .ok (.invokevirtual 312, 3) := by decide +kernel
theorem dX11_seat_78 : decode cX11_seat 78 = .ok (.aload_n 0, 1) := by decide +kernel
theorem dX11_seat_79 : decode cX11_seat 79 = .ok (.getfield 37, 3) := by decide +kernel
theorem dX11_seat_82 : decode cX11_seat 82 = .ok (.aload 5, 2) := by decide +kernel
theorem dX11_seat_84 : decode cX11_seat 84 = .ok (.aload_n 0, 1) := by decide +kernel
theorem dX11_seat_85 : decode cX11_seat 85 = .ok (.getfield 29, 3) := by decide +kernel
theorem dX11_seat_88 : decode cX11_seat 88 = .ok (.iload_n 1, 1) := by decide +kernel
theorem dX11_seat_89 : decode cX11_seat 89 = .ok (.aaload, 1) := by decide +kernel
theorem dX11_seat_90 : decode cX11_seat 90 = .ok (.aload_n 0, 1) := by decide +kernel
theorem dX11_seat_91 : decode cX11_seat 91 = .ok (.getfield 44, 3) := by decide +kernel
theorem dX11_seat_94 : decode cX11_seat 94 = .ok (.invokevirtual 315, 3) := by decide +kernel
theorem dX11_seat_97 : decode cX11_seat 97 = .ok (.iconst 1, 1) := by decide +kernel
theorem dX11_seat_98 : decode cX11_seat 98 = .ok (.ireturn, 1) := by decide +kernel
