theorem dX3_takeLatest_15 : decode cX3_takeLatest 15 = .ok (.isub, 1) := by decide +kernel
theorem dX3_takeLatest_16 : decode cX3_takeLatest 16 = .ok (.putfield 25, 3) := by decide +kernel
theorem dX3_takeLatest_19 : decode cX3_takeLatest 19 = .ok (.aload_n 0, 1) := by decide +kernel
theorem dX3_takeLatest_20 : decode cX3_takeLatest 20 = .ok (.getfield 29, 3) := by decide +kernel
theorem dX3_takeLatest_23 : decode cX3_takeLatest 23 = .ok (.aload_n 0, 1) := by decide +kernel
theorem dX3_takeLatest_24 : decode cX3_takeLatest 24 = .ok (.getfield 25, 3) := by decide +kernel
theorem dX3_takeLatest_27 : decode cX3_takeLatest 27 = .ok (.iadd, 1) := by decide +kernel
theorem dX3_takeLatest_28 : decode cX3_takeLatest 28 = .ok (.bipush 20, 2) := by decide +kernel
theorem dX3_takeLatest_30 : decode cX3_takeLatest 30 = .ok (.irem, 1) := by decide +kernel
theorem dX3_takeLatest_31 : decode cX3_takeLatest 31 = .ok (.ireturn, 1) := by decide +kernel
theorem dX3_forget_0 : decode cX3_forget 0 = .ok (.aload_n 0, 1) := by decide +kernel
theorem dX3_forget_1 : decode cX3_forget 1 = .ok (.iconst 0, 1) := by decide +kernel
theorem dX3_forget_2 : decode cX3_forget 2 = .ok (.putfield 25, 3) := by decide +kernel
theorem dX3_forget_5 : decode cX3_forget 5 = .ok (.return_, 1) := by decide +kernel
theorem dX4_init_0 : decode cX4_init 0 = .ok (.aload_n 0, 1) := by decide +kernel
theorem dX4_init_1 : decode cX4_init 1 = .ok (.invokespecial 3, 3) := by decide +kernel
theorem dX4_init_4 : decode cX4_init 4 = .ok (.aload_n 0, 1) := by decide +kernel
theorem dX4_init_5 : decode cX4_init 5 = .ok (.bipush 100, 2) := by decide +kernel
theorem dX4_init_7 : decode cX4_init 7 = .ok (.newarray .long, 2) := by decide +kernel
theorem dX4_init_9 : decode cX4_init 9 = .ok (.putfield 9, 3) := by decide +kernel
theorem dX4_init_12 : decode cX4_init 12 = .ok (.aload_n 0, 1) := by decide +kernel
theorem dX4_init_13 : decode cX4_init 13 = .ok (.iconst 0, 1) := by decide +kernel
theorem dX4_init_14 : decode cX4_init 14 = .ok (.putfield 15, 3) := by decide +kernel
theorem dX4_init_17 : decode cX4_init 17 = .ok (.return_, 1) := by decide +kernel
theorem dX4_begin_0 : decode cX4_begin 0 = .ok (.aload_n 0, 1) := by decide +kernel
theorem dX4_begin_1 : decode cX4_begin 1 = .ok (.iload_n 1, 1) := by decide +kernel
theorem dX4_begin_2 : decode cX4_begin 2 = .ok (.putfield 15, 3) := by decide +kernel
theorem dX4_begin_5 : decode cX4_begin 5 = .ok (.aload_n 0, 1) := by decide +kernel
theorem dX4_begin_6 : decode cX4_begin 6 = .ok (.iconst 0, 1) := by decide +kernel
theorem dX4_begin_7 : decode cX4_begin 7 = .ok (.putfield 19, 3) := by decide +kernel
theorem dX4_begin_10 : decode cX4_begin 10 = .ok (.return_, 1) := by decide +kernel
theorem dX4_lay_0 : decode cX4_lay 0 = .ok (.aload_n 0, 1) := by decide +kernel
theorem dX4_lay_1 : decode cX4_lay 1 = .ok (.getfield 19, 3) := by decide +kernel
theorem dX4_lay_4 : decode cX4_lay 4 = .ok (.aload_n 0, 1) := by decide +kernel
theorem dX4_lay_5 : decode cX4_lay 5 = .ok (.getfield 9, 3) := by decide +kernel
theorem dX4_lay_8 : decode cX4_lay 8 = .ok (.arraylength, 1) := by decide +kernel
theorem dX4_lay_9 : decode cX4_lay 9 = .ok (.if_icmp .ge 23, 3) := by decide +kernel
theorem dX4_lay_12 : decode cX4_lay 12 = .ok (.aload_n 0, 1) := by decide +kernel
theorem dX4_lay_13 : decode cX4_lay 13 = .ok (.getfield 9, 3) := by decide +kernel
theorem dX4_lay_16 : decode cX4_lay 16 = .ok (.aload_n 0, 1) := by decide +kernel
theorem dX4_lay_17 : decode cX4_lay 17 = .ok (.getfield 19, 3) := by decide +kernel
theorem dX4_lay_20 : decode cX4_lay 20 = .ok (.lload_n 1, 1) := by decide +kernel
theorem dX4_lay_21 : decode cX4_lay 21 = .ok (.lastore, 1) := by decide +kernel
theorem dX4_lay_22 : decode cX4_lay 22 = .ok (.aload_n 0, 1) := by decide +kernel
theorem dX4_lay_23 : decode cX4_lay 23 = .ok (.dup, 1) := by decide +kernel
theorem dX4_lay_24 : decode cX4_lay 24 = .ok (.getfield 19, 3) := by decide +kernel
theorem dX4_lay_27 : decode cX4_lay 27 = .ok (.iconst 1, 1) := by decide +kernel
theorem dX4_lay_28 : decode cX4_lay 28 = .ok (.iadd, 1) := by decide +kernel
theorem dX4_lay_29 : decode cX4_lay 29 = .ok (.putfield 19, 3) := by decide +kernel
theorem dX4_lay_32 : decode cX4_lay 32 = .ok (.return_, 1) := by decide +kernel
theorem dX5_init_0 : decode cX5_init 0 = .ok (.aload_n 0, 1) := by decide +kernel
theorem dX5_init_1 : decode cX5_init 1 = .ok (.invokespecial 3, 3) := by decide +kernel
theorem dX5_init_4 : decode cX5_init 4 = .ok (.aload_n 0, 1) := by decide +kernel
theorem dX5_init_5 : decode cX5_init 5 = .ok (.bipush 100, 2) := by decide +kernel
theorem dX5_init_7 : decode cX5_init 7 = .ok (.newarray .int, 2) := by decide +kernel
theorem dX5_init_9 : decode cX5_init 9 = .ok (.putfield 9, 3) := by decide +kernel
theorem dX5_init_12 : decode cX5_init 12 = .ok (.aload_n 0, 1) := by decide +kernel
theorem dX5_init_13 : decode cX5_init 13 = .ok (.bipush 100, 2) := by decide +kernel
theorem dX5_init_15 : decode cX5_init 15 = .ok (.newarray .int, 2) := by decide +kernel
theorem dX5_init_17 : decode cX5_init 17 = .ok (.putfield 15, 3) := by decide +kernel
theorem dX5_init_20 : decode cX5_init 20 = .ok (.aload_n 0, 1) := by decide +kernel
theorem dX5_init_21 : decode cX5_init 21 = .ok (.iconst (-1), 1) := by decide +kernel
theorem dX5_init_22 : decode cX5_init 22 = .ok (.putfield 18, 3) := by decide +kernel
theorem dX5_init_25 : decode cX5_init 25 = .ok (.return_, 1) := by decide +kernel
theorem dX5_lay_0 : decode cX5_lay 0 = .ok (.aload_n 2, 1) := by decide +kernel
theorem dX5_lay_1 : decode cX5_lay 1 = .ok (.getfield 22, 3) := by decide +kernel
theorem dX5_lay_4 : decode cX5_lay 4 = .ok (.iload_n 3, 1) := by decide +kernel
theorem dX5_lay_5 : decode cX5_lay 5 = .ok (.baload, 1) := by decide +kernel
theorem dX5_lay_6 : decode cX5_lay 6 = .ok (.ifCond .ne 9, 3) := by decide +kernel
theorem dX5_lay_9 : decode cX5_lay 9 = .ok (.aload_n 0, 1) := by decide +kernel
theorem dX5_lay_10 : decode cX5_lay 10 = .ok (.iconst (-1), 1) := by decide +kernel
theorem dX5_lay_11 : decode cX5_lay 11 = .ok (.putfield 18, 3) := by decide +kernel
theorem dX5_lay_14 : decode cX5_lay 14 = .ok (.return_, 1) := by decide +kernel
theorem dX5_lay_15 : decode cX5_lay 15 = .ok (.aload_n 0, 1) := by decide +kernel
theorem dX5_lay_16 : decode cX5_lay 16 = .ok (.aload_n 2, 1) := by decide +kernel
theorem dX5_lay_17 : decode cX5_lay 17 = .ok (.getfield 28, 3) := by decide +kernel
theorem dX5_lay_20 : decode cX5_lay 20 = .ok (.iload_n 3, 1) := by decide +kernel
theorem dX5_lay_21 : decode cX5_lay 21 = .ok (.iaload, 1) := by decide +kernel
theorem dX5_lay_22 : decode cX5_lay 22 = .ok (.putfield 18, 3) := by decide +kernel
theorem dX5_lay_25 : decode cX5_lay 25 = .ok (.iload_n 3, 1) := by decide +kernel
theorem dX5_lay_26 : decode cX5_lay 26 = .ok (.istore 4, 2) := by decide +kernel
theorem dX5_lay_28 : decode cX5_lay 28 = .ok (.iconst 0, 1) := by decide +kernel
theorem dX5_lay_29 : decode cX5_lay 29 = .ok (.istore 5, 2) := by decide +kernel
theorem dX5_lay_31 : decode cX5_lay 31 = .ok (.iload 5, 2) := by decide +kernel
theorem dX5_lay_33 : decode cX5_lay 33 = .ok (.aload_n 0, 1) := by decide +kernel
theorem dX5_lay_34 : decode cX5_lay 34 = .ok (.getfield 18, 3) := by decide +kernel
theorem dX5_lay_37 : decode cX5_lay 37 = .ok (.if_icmp .ge 41, 3) := by decide +kernel
theorem dX5_lay_40 : decode cX5_lay 40 = .ok (.aload_n 0, 1) := by decide +kernel
theorem dX5_lay_41 : decode cX5_lay 41 = .ok (.getfield 9, 3) := by decide +kernel
theorem dX5_lay_44 : decode cX5_lay 44 = .ok (.iload 5, 2) := by decide +kernel
theorem dX5_lay_46 : decode cX5_lay 46 = .ok (.iload 4, 2) := by decide +kernel
theorem dX5_lay_48 : decode cX5_lay 48 = .ok (.iastore, 1) := by decide +kernel
theorem dX5_lay_49 : decode cX5_lay 49 = .ok (.aload_n 0, 1) := by decide +kernel
theorem dX5_lay_50 : decode cX5_lay 50 = .ok (.getfield 15, 3) := by decide +kernel
theorem dX5_lay_53 : decode cX5_lay 53 = .ok (.iload 5, 2) := by decide +kernel
theorem dX5_lay_55 : decode cX5_lay 55 = .ok (.aload_n 2, 1) := by decide +kernel
theorem dX5_lay_56 : decode cX5_lay 56 = .ok (.getfield 31, 3) := by decide +kernel
theorem dX5_lay_59 : decode cX5_lay 59 = .ok (.iload 4, 2) := by decide +kernel
theorem dX5_lay_61 : decode cX5_lay 61 = .ok (.iaload, 1) := by decide +kernel
theorem dX5_lay_62 : decode cX5_lay 62 = .ok (.iastore, 1) := by decide +kernel
theorem dX5_lay_63 : decode cX5_lay 63 = .ok (.aload_n 2, 1) := by decide +kernel
theorem dX5_lay_64 : decode cX5_lay 64 = .ok (.aload_n 1, 1) := by decide +kernel
theorem dX5_lay_65 : decode cX5_lay 65 = .ok (.iload 4, 2) := by decide +kernel
theorem dX5_lay_67 : decode cX5_lay 67 = .ok (.invokevirtual 34, 3) := by decide +kernel
theorem dX5_lay_70 : decode cX5_lay 70 = .ok (.istore 4, 2) := by decide +kernel
theorem dX5_lay_72 : decode cX5_lay 72 = .ok (.iinc 5 1, 3) := by decide +kernel
theorem dX5_lay_75 : decode cX5_lay 75 = .ok (.goto (-44), 3) := by decide +kernel
theorem dX5_lay_78 : decode cX5_lay 78 = .ok (.aload_n 0, 1) := by decide +kernel
theorem dX5_lay_79 : decode cX5_lay 79 = .ok (.getfield 9, 3) := by decide +kernel
theorem dX5_lay_82 : decode cX5_lay 82 = .ok (.aload_n 0, 1) := by decide +kernel
theorem dX5_lay_83 : decode cX5_lay 83 = .ok (.getfield 18, 3) := by decide +kernel
theorem dX5_lay_86 : decode cX5_lay 86 = .ok (.iload 4, 2) := by decide +kernel
theorem dX5_lay_88 : decode cX5_lay 88 = .ok (.iastore, 1) := by decide +kernel
theorem dX5_lay_89 : decode cX5_lay 89 = .ok (.return_, 1) := by decide +kernel
theorem dX5_heaviestOf_0 : decode cX5_heaviestOf 0 = .ok (.iconst (-1), 1) := by decide +kernel
theorem dX5_heaviestOf_1 : decode cX5_heaviestOf 1 = .ok (.istore_n 2, 1) := by decide +kernel
theorem dX5_heaviestOf_2 : decode cX5_heaviestOf 2 = .ok (.iconst 0, 1) := by decide +kernel
theorem dX5_heaviestOf_3 : decode cX5_heaviestOf 3 = .ok (.istore_n 3, 1) := by decide +kernel
theorem dX5_heaviestOf_4 : decode cX5_heaviestOf 4 = .ok (.iload_n 3, 1) := by decide +kernel
theorem dX5_heaviestOf_5 : decode cX5_heaviestOf 5 = .ok (.aload_n 0, 1) := by decide +kernel
theorem dX5_heaviestOf_6 : decode cX5_heaviestOf 6 = .ok (.getfield 18, 3) := by decide +kernel
theorem dX5_heaviestOf_9 : decode cX5_heaviestOf 9 = .ok (.if_icmp .ge 35, 3) := by decide +kernel
theorem dX5_heaviestOf_12 : decode cX5_heaviestOf 12 = .ok (.iload_n 2, 1) := by decide +kernel
theorem dX5_heaviestOf_13 : decode cX5_heaviestOf 13 = .ok (.iconst (-1), 1) := by decide +kernel
theorem dX5_heaviestOf_14 : decode cX5_heaviestOf 14 = .ok (.if_icmp .eq 17, 3) := by decide +kernel
theorem dX5_heaviestOf_17 : decode cX5_heaviestOf 17 = .ok (.aload_n 1, 1) := by decide +kernel
theorem dX5_heaviestOf_18 : decode cX5_heaviestOf 18 = .ok (.aload_n 0, 1) := by decide +kernel
theorem dX5_heaviestOf_19 : decode cX5_heaviestOf 19 = .ok (.getfield 15, 3) := by decide +kernel
theorem dX5_heaviestOf_22 : decode cX5_heaviestOf 22 = .ok (.iload_n 3, 1) := by decide +kernel
theorem dX5_heaviestOf_23 : decode cX5_heaviestOf 23 = .ok (.iaload, 1) := by decide +kernel
theorem dX5_heaviestOf_24 : decode cX5_heaviestOf 24 = .ok (.iload_n 2, 1) := by decide +kernel
theorem dX5_heaviestOf_25 : decode cX5_heaviestOf 25 = .ok (.invokevirtual 38, 3) := by decide +kernel
theorem dX5_heaviestOf_28 : decode cX5_heaviestOf 28 = .ok (.ifCond .eq 10, 3) := by decide +kernel
theorem dX5_heaviestOf_31 : decode cX5_heaviestOf 31 = .ok (.aload_n 0, 1) := by decide +kernel
theorem dX5_heaviestOf_32 : decode cX5_heaviestOf 32 = .ok (.getfield 15, 3) := by decide +kernel
theorem dX5_heaviestOf_35 : decode cX5_heaviestOf 35 = .ok (.iload_n 3, 1) := by decide +kernel
theorem dX5_heaviestOf_36 : decode cX5_heaviestOf 36 = .ok (.iaload, 1) := by decide +kernel
theorem dX5_heaviestOf_37 : decode cX5_heaviestOf 37 = .ok (.istore_n 2, 1) := by decide +kernel
theorem dX5_heaviestOf_38 : decode cX5_heaviestOf 38 = .ok (.iinc 3 1, 3) := by decide +kernel
theorem dX5_heaviestOf_41 : decode cX5_heaviestOf 41 = .ok (.goto (-37), 3) := by decide +kernel
theorem dX5_heaviestOf_44 : decode cX5_heaviestOf 44 = .ok (.iload_n 2, 1) := by decide +kernel
theorem dX5_heaviestOf_45 : decode cX5_heaviestOf 45 = .ok (.ireturn, 1) := by decide +kernel
theorem dJ9_min_7cf53_0 : decode cJ9_min_7cf53 0 = .ok (.iload_n 0, 1) := by decide +kernel
theorem dJ9_min_7cf53_1 : decode cJ9_min_7cf53 1 = .ok (.iload_n 1, 1) := by decide +kernel
theorem dJ9_min_7cf53_2 : decode cJ9_min_7cf53 2 = .ok (.if_icmp .gt 7, 3) := by decide +kernel
theorem dJ9_min_7cf53_5 : decode cJ9_min_7cf53 5 = .ok (.iload_n 0, 1) := by decide +kernel
theorem dJ9_min_7cf53_6 : decode cJ9_min_7cf53 6 = .ok (.goto 4, 3) := by decide +kernel
theorem dJ9_min_7cf53_9 : decode cJ9_min_7cf53 9 = .ok (.iload_n 1, 1) := by decide +kernel
theorem dJ9_min_7cf53_10 : decode cJ9_min_7cf53 10 = .ok (.ireturn, 1) := by decide +kernel
theorem dJ9_min_f86c9_0 : decode cJ9_min_f86c9 0 = .ok (.lload_n 0, 1) := by decide +kernel
theorem dJ9_min_f86c9_1 : decode cJ9_min_f86c9 1 = .ok (.lload_n 2, 1) := by decide +kernel
theorem dJ9_min_f86c9_2 : decode cJ9_min_f86c9 2 = .ok (.lcmp, 1) := by decide +kernel
theorem dJ9_min_f86c9_3 : decode cJ9_min_f86c9 3 = .ok (.ifCond .gt 7, 3) := by decide +kernel
theorem dJ9_min_f86c9_6 : decode cJ9_min_f86c9 6 = .ok (.lload_n 0, 1) := by decide +kernel
theorem dJ9_min_f86c9_7 : decode cJ9_min_f86c9 7 = .ok (.goto 4, 3) := by decide +kernel
theorem dJ9_min_f86c9_10 : decode cJ9_min_f86c9 10 = .ok (.lload_n 2, 1) := by decide +kernel
theorem dJ9_min_f86c9_11 : decode cJ9_min_f86c9 11 = .ok (.lreturn, 1) := by decide +kernel
theorem dJ7_fill_53178_0 : decode cJ7_fill_53178 0 = .ok (.iconst 0, 1) := by decide +kernel
theorem dJ7_fill_53178_1 : decode cJ7_fill_53178 1 = .ok (.istore_n 2, 1) := by decide +kernel
theorem dJ7_fill_53178_2 : decode cJ7_fill_53178 2 = .ok (.aload_n 0, 1) := by decide +kernel
theorem dJ7_fill_53178_3 : decode cJ7_fill_53178 3 = .ok (.arraylength, 1) := by decide +kernel
theorem dJ7_fill_53178_4 : decode cJ7_fill_53178 4 = .ok (.istore_n 3, 1) := by decide +kernel
theorem dJ7_fill_53178_5 : decode cJ7_fill_53178 5 = .ok (.iload_n 2, 1) := by decide +kernel
theorem dJ7_fill_53178_6 : decode cJ7_fill_53178 6 = .ok (.iload_n 3, 1) := by decide +kernel
theorem dJ7_fill_53178_7 : decode cJ7_fill_53178 7 = .ok (.if_icmp .ge 13, 3) := by decide +kernel
theorem dJ7_fill_53178_10 : decode cJ7_fill_53178 10 = .ok (.aload_n 0, 1) := by decide +kernel
theorem dJ7_fill_53178_11 : decode cJ7_fill_53178 11 = .ok (.iload_n 2, 1) := by decide +kernel
theorem dJ7_fill_53178_12 : decode cJ7_fill_53178 12 = .ok (.iload_n 1, 1) := by decide +kernel
theorem dJ7_fill_53178_13 : decode cJ7_fill_53178 13 = .ok (.iastore, 1) := by decide +kernel
theorem dJ7_fill_53178_14 : decode cJ7_fill_53178 14 = .ok (.iinc 2 1, 3) := by decide +kernel
theorem dJ7_fill_53178_17 : decode cJ7_fill_53178 17 = .ok (.goto (-12), 3) := by decide +kernel
theorem dJ7_fill_53178_20 : decode cJ7_fill_53178 20 = .ok (.return_, 1) := by decide +kernel
theorem dX6_init_0 : decode cX6_init 0 = .ok (.aload_n 0, 1) := by decide +kernel
theorem dX6_init_1 : decode cX6_init 1 = .ok (.invokespecial 1, 3) := by decide +kernel
theorem dX6_init_4 : decode cX6_init 4 = .ok (.aload_n 0, 1) := by decide +kernel
theorem dX6_init_5 : decode cX6_init 5 = .ok (.bipush 100, 2) := by decide +kernel
theorem dX6_init_7 : decode cX6_init 7 = .ok (.newarray .long, 2) := by decide +kernel
theorem dX6_init_9 : decode cX6_init 9 = .ok (.putfield 9, 3) := by decide +kernel
theorem dX6_init_12 : decode cX6_init 12 = .ok (.aload_n 0, 1) := by decide +kernel
theorem dX6_init_13 : decode cX6_init 13 = .ok (.bipush 100, 2) := by decide +kernel
theorem dX6_init_15 : decode cX6_init 15 = .ok (.newarray .int, 2) := by decide +kernel
theorem dX6_init_17 : decode cX6_init 17 = .ok (.putfield 13, 3) := by decide +kernel
theorem dX6_init_20 : decode cX6_init 20 = .ok (.aload_n 0, 1) := by decide +kernel
theorem dX6_init_21 : decode cX6_init 21 = .ok (.new 17, 3) := by decide +kernel
theorem dX6_init_24 : decode cX6_init 24 = .ok (.dup, 1) := by decide +kernel
theorem dX6_init_25 : decode cX6_init 25 = .ok (.invokespecial 19, 3) := by decide +kernel
theorem dX6_init_28 : decode cX6_init 28 = .ok (.putfield 20, 3) := by decide +kernel
theorem dX6_init_31 : decode cX6_init 31 = .ok (.aload_n 0, 1) := by decide +kernel
theorem dX6_init_32 : decode cX6_init 32 = .ok (.new 24, 3) := by decide +kernel
theorem dX6_init_35 : decode cX6_init 35 = .ok (.dup, 1) := by decide +kernel
theorem dX6_init_36 : decode cX6_init 36 = .ok (.invokespecial 26, 3) := by decide +kernel
theorem dX6_init_39 : decode cX6_init 39 = .ok (.putfield 27, 3) := by decide +kernel
theorem dX6_init_42 : decode cX6_init 42 = .ok (.aload_n 0, 1) := by decide +kernel
theorem dX6_init_43 : decode cX6_init 43 = .ok (.new 24, 3) := by decide +kernel
theorem dX6_init_46 : decode cX6_init 46 = .ok (.dup, 1) := by decide +kernel
theorem dX6_init_47 : decode cX6_init 47 = .ok (.invokespecial 26, 3) := by decide +kernel
theorem dX6_init_50 : decode cX6_init 50 = .ok (.putfield 31, 3) := by decide +kernel
theorem dX6_init_53 : decode cX6_init 53 = .ok (.aload_n 0, 1) := by decide +kernel
theorem dX6_init_54 : decode cX6_init 54 = .ok (.new 34, 3) := by decide +kernel
theorem dX6_init_57 : decode cX6_init 57 = .ok (.dup, 1) := by decide +kernel
theorem dX6_init_58 : decode cX6_init 58 = .ok (.invokespecial 36, 3) := by decide +kernel
theorem dX6_init_61 : decode cX6_init 61 = .ok (.putfield 37, 3) := by decide +kernel
theorem dX6_init_64 : decode cX6_init 64 = .ok (.aload_n 0, 1) := by decide +kernel
theorem dX6_init_65 : decode cX6_init 65 = .ok (.new 41, 3) := by decide +kernel
theorem dX6_init_68 : decode cX6_init 68 = .ok (.dup, 1) := by decide +kernel
theorem dX6_init_69 : decode cX6_init 69 = .ok (.invokespecial 43, 3) := by decide +kernel
theorem dX6_init_72 : decode cX6_init 72 = .ok (.putfield 44, 3) := by decide +kernel
theorem dX6_init_75 : decode cX6_init 75 = .ok (.aload_n 0, 1) := by decide +kernel
theorem dX6_init_76 : decode cX6_init 76 = .ok (.new 48, 3) := by decide +kernel
theorem dX6_init_79 : decode cX6_init 79 = .ok (.dup, 1) := by decide +kernel
theorem dX6_init_80 : decode cX6_init 80 = .ok (.invokespecial 50, 3) := by decide +kernel
theorem dX6_init_83 : decode cX6_init 83 = .ok (.putfield 51, 3) := by decide +kernel
theorem dX6_init_86 : decode cX6_init 86 = .ok (.aload_n 0, 1) := by decide +kernel
theorem dX6_init_87 : decode cX6_init 87 = .ok (.bipush 6, 2) := by decide +kernel
theorem dX6_init_89 : decode cX6_init 89 = .ok (.anewarray 55, 3) := by decide +kernel
theorem dX6_init_92 : decode cX6_init 92 = .ok (.putfield 57, 3) := by decide +kernel
theorem dX6_init_95 : decode cX6_init 95 = .ok (.aload_n 0, 1) := by decide +kernel
theorem dX6_init_96 : decode cX6_init 96 = .ok (.iconst 0, 1) := by decide +kernel
theorem dX6_init_97 : decode cX6_init 97 = .ok (.putfield 61, 3) := by decide +kernel
theorem dX6_init_100 : decode cX6_init 100 = .ok (.aload_n 0, 1) := by decide +kernel
theorem dX6_init_101 : decode cX6_init 101 = .ok (.iconst 0, 1) := by decide +kernel
theorem dX6_init_102 : decode cX6_init 102 = .ok (.putfield 65, 3) := by decide +kernel
theorem dX6_init_105 : decode cX6_init 105 = .ok (.iconst 0, 1) := by decide +kernel
theorem dX6_init_106 : decode cX6_init 106 = .ok (.istore_n 1, 1) := by decide +kernel
theorem dX6_init_107 : decode cX6_init 107 = .ok (.iload_n 1, 1) := by decide +kernel
theorem dX6_init_108 : decode cX6_init 108 = .ok (.bipush 6, 2) := by decide +kernel
theorem dX6_init_110 : decode cX6_init 110 = .ok (.if_icmp .ge 22, 3) := by decide +kernel
theorem dX6_init_113 : decode cX6_init 113 = .ok (.aload_n 0, 1) := by decide +kernel
theorem dX6_init_114 : decode cX6_init 114 = .ok (.getfield 57, 3) := by decide +kernel
theorem dX6_init_117 : decode cX6_init 117 = .ok (.iload_n 1, 1) := by decide +kernel
theorem dX6_init_118 : decode cX6_init 118 = .ok (.new 55, 3) := by decide +kernel
theorem dX6_init_121 : decode cX6_init 121 = .ok (.dup, 1) := by decide +kernel
theorem dX6_init_122 : decode cX6_init 122 = .ok (.invokespecial 68, 3) := by decide +kernel
theorem dX6_init_125 : decode cX6_init 125 = .ok (.aastore, 1) := by decide +kernel
theorem dX6_init_126 : decode cX6_init 126 = .ok (.iinc 1 1, 3) := by decide +kernel
theorem dX6_init_129 : decode cX6_init 129 = .ok (.goto (-22), 3) := by decide +kernel
theorem dX6_init_132 : decode cX6_init 132 = .ok (.return_, 1) := by decide +kernel
theorem dX6_knot_0 : decode cX6_knot 0 = .ok (.aload_n 0, 1) := by decide +kernel
theorem dX6_knot_1 : decode cX6_knot 1 = .ok (.getfield 69, 3) := by decide +kernel
theorem dX6_knot_4 : decode cX6_knot 4 = .ok (.bipush 100, 2) := by decide +kernel
theorem dX6_knot_6 : decode cX6_knot 6 = .ok (.if_icmp .lt 6, 3) := by decide +kernel
theorem dX6_knot_9 : decode cX6_knot 9 = .ok (.bipush (-4), 2) := by decide +kernel
theorem dX6_knot_11 : decode cX6_knot 11 = .ok (.ireturn, 1) := by decide +kernel
theorem dX6_knot_12 : decode cX6_knot 12 = .ok (.aload_n 0, 1) := by decide +kernel
theorem dX6_knot_13 : decode cX6_knot 13 = .ok (.getfield 9, 3) := by decide +kernel
theorem dX6_knot_16 : decode cX6_knot 16 = .ok (.aload_n 0, 1) := by decide +kernel
theorem dX6_knot_17 : decode cX6_knot 17 = .ok (.getfield 69, 3) := by decide +kernel
theorem dX6_knot_20 : decode cX6_knot 20 = .ok (.lload_n 1, 1) := by decide +kernel
theorem dX6_knot_21 : decode cX6_knot 21 = .ok (.lastore, 1) := by decide +kernel
theorem dX6_knot_22 : decode cX6_knot 22 = .ok (.aload_n 0, 1) := by decide +kernel
theorem dX6_knot_23 : decode cX6_knot 23 = .ok (.getfield 51, 3) := by decide +kernel
theorem dX6_knot_26 : decode cX6_knot 26 = .ok (.invokevirtual 72, 3) := by decide +kernel
theorem dX6_knot_29 : decode cX6_knot 29 = .ok (.aload_n 0, 1) := by decide +kernel
theorem dX6_knot_30 : decode cX6_knot 30 = .ok (.dup, 1) := by decide +kernel
theorem dX6_knot_31 : decode cX6_knot 31 = .ok (.getfield 69, 3) := by decide +kernel
theorem dX6_knot_34 : decode cX6_knot 34 = .ok (.dup_x1, 1) := by decide +kernel
theorem dX6_knot_35 : decode cX6_knot 35 = .ok (.iconst 1, 1) := by decide +kernel
theorem dX6_knot_36 : decode cX6_knot 36 = .ok (.iadd, 1) := by decide +kernel
theorem dX6_knot_37 : decode cX6_knot 37 = .ok (.putfield 69, 3) := by decide +kernel
theorem dX6_knot_40 : decode cX6_knot 40 = .ok (.ireturn, 1) := by decide +kernel
theorem dX6_kind_0 : decode cX6_kind 0 = .ok (.iload_n 1, 1) := by decide +kernel
theorem dX6_kind_1 : decode cX6_kind 1 = .ok (.ifCond .lt 8, 3) := by decide +kernel
theorem dX6_kind_4 : decode cX6_kind 4 = .ok (.iload_n 1, 1) := by decide +kernel
theorem dX6_kind_5 : decode cX6_kind 5 = .ok (.iconst 2, 1) := by decide +kernel
theorem dX6_kind_6 : decode cX6_kind 6 = .ok (.if_icmp .le 6, 3) := by decide +kernel
theorem dX6_kind_9 : decode cX6_kind 9 = .ok (.bipush (-2), 2) := by decide +kernel
theorem dX6_kind_11 : decode cX6_kind 11 = .ok (.ireturn, 1) := by decide +kernel
theorem dX6_kind_12 : decode cX6_kind 12 = .ok (.aload_n 0, 1) := by decide +kernel
theorem dX6_kind_13 : decode cX6_kind 13 = .ok (.getfield 20, 3) := by decide +kernel
theorem dX6_kind_16 : decode cX6_kind 16 = .ok (.getfield 75, 3) := by decide +kernel
theorem dX6_kind_19 : decode cX6_kind 19 = .ok (.ifCond .le 6, 3) := by decide +kernel
theorem dX6_kind_22 : decode cX6_kind 22 = .ok (.bipush (-3), 2) := by decide +kernel
theorem dX6_kind_24 : decode cX6_kind 24 = .ok (.ireturn, 1) := by decide +kernel
theorem dX6_kind_25 : decode cX6_kind 25 = .ok (.aload_n 0, 1) := by decide +kernel
theorem dX6_kind_26 : decode cX6_kind 26 = .ok (.getfield 61, 3) := by decide +kernel
theorem dX6_kind_29 : decode cX6_kind 29 = .ok (.istore_n 2, 1) := by decide +kernel
theorem dX6_kind_30 : decode cX6_kind 30 = .ok (.aload_n 0, 1) := by decide +kernel
theorem dX6_kind_31 : decode cX6_kind 31 = .ok (.iload_n 1, 1) := by decide +kernel
theorem dX6_kind_32 : decode cX6_kind 32 = .ok (.putfield 61, 3) := by decide +kernel
theorem dX6_kind_35 : decode cX6_kind 35 = .ok (.iload_n 2, 1) := by decide +kernel
theorem dX6_kind_36 : decode cX6_kind 36 = .ok (.ireturn, 1) := by decide +kernel
theorem dX6_edge_0 : decode cX6_edge 0 = .ok (.aload_n 0, 1) := by decide +kernel
theorem dX6_edge_1 : decode cX6_edge 1 = .ok (.iload_n 1, 1) := by decide +kernel
theorem dX6_edge_2 : decode cX6_edge 2 = .ok (.invokevirtual 78, 3) := by decide +kernel
theorem dX6_edge_5 : decode cX6_edge 5 = .ok (.ifCond .eq 16, 3) := by decide +kernel
theorem dX6_edge_8 : decode cX6_edge 8 = .ok (.aload_n 0, 1) := by decide +kernel
theorem dX6_edge_9 : decode cX6_edge 9 = .ok (.iload_n 2, 1) := by decide +kernel
theorem dX6_edge_10 : decode cX6_edge 10 = .ok (.invokevirtual 78, 3) := by decide +kernel
theorem dX6_edge_13 : decode cX6_edge 13 = .ok (.ifCond .eq 8, 3) := by decide +kernel
theorem dX6_edge_16 : decode cX6_edge 16 = .ok (.iload_n 1, 1) := by decide +kernel
theorem dX6_edge_17 : decode cX6_edge 17 = .ok (.iload_n 2, 1) := by decide +kernel
theorem dX6_edge_18 : decode cX6_edge 18 = .ok (.if_icmp .ne 6, 3) := by decide +kernel
theorem dX6_edge_21 : decode cX6_edge 21 = .ok (.bipush (-2), 2) := by decide +kernel
theorem dX6_edge_23 : decode cX6_edge 23 = .ok (.ireturn, 1) := by decide +kernel
theorem dX6_edge_24 : decode cX6_edge 24 = .ok (.aload_n 0, 1) := by decide +kernel
theorem dX6_edge_25 : decode cX6_edge 25 = .ok (.getfield 20, 3) := by decide +kernel
theorem dX6_edge_28 : decode cX6_edge 28 = .ok (.getfield 75, 3) := by decide +kernel
theorem dX6_edge_31 : decode cX6_edge 31 = .ok (.sipush 300, 3) := by decide +kernel
theorem dX6_edge_34 : decode cX6_edge 34 = .ok (.if_icmp .lt 6, 3) := by decide +kernel
theorem dX6_edge_37 : decode cX6_edge 37 = .ok (.bipush (-4), 2) := by decide +kernel
theorem dX6_edge_39 : decode cX6_edge 39 = .ok (.ireturn, 1) := by decide +kernel
theorem dX6_edge_40 : decode cX6_edge 40 = .ok (.aload_n 0, 1) := by decide +kernel
theorem dX6_edge_41 : decode cX6_edge 41 = .ok (.iload_n 1, 1) := by decide +kernel
theorem dX6_edge_42 : decode cX6_edge 42 = .ok (.iload_n 2, 1) := by decide +kernel
theorem dX6_edge_43 : decode cX6_edge 43 = .ok (.invokevirtual 82, 3) := by decide +kernel
theorem dX6_edge_46 : decode cX6_edge 46 = .ok (.ifCond .lt 7, 3) := by decide +kernel
theorem dX6_edge_49 : decode cX6_edge 49 = .ok (.iconst 1, 1) := by decide +kernel
theorem dX6_edge_50 : decode cX6_edge 50 = .ok (.goto 4, 3) := by decide +kernel
theorem dX6_edge_53 : decode cX6_edge 53 = .ok (.iconst 0, 1) := by decide +kernel
theorem dX6_edge_54 : decode cX6_edge 54 = .ok (.istore 5, 2) := by decide +kernel
theorem dX6_edge_56 : decode cX6_edge 56 = .ok (.iload 5, 2) := by decide +kernel
theorem dX6_edge_58 : decode cX6_edge 58 = .ok (.ifCond .eq 13, 3) := by decide +kernel
theorem dX6_edge_61 : decode cX6_edge 61 = .ok (.aload_n 0, 1) := by decide +kernel
theorem dX6_edge_62 : decode cX6_edge 62 = .ok (.getfield 61, 3) := by decide +kernel
theorem dX6_edge_65 : decode cX6_edge 65 = .ok (.ifCond .ne 6, 3) := by decide +kernel
theorem dX6_edge_68 : decode cX6_edge 68 = .ok (.bipush (-3), 2) := by decide +kernel
theorem dX6_edge_70 : decode cX6_edge 70 = .ok (.ireturn, 1) := by decide +kernel
theorem dX6_edge_71 : decode cX6_edge 71 = .ok (.aload_n 0, 1) := by decide +kernel
theorem dX6_edge_72 : decode cX6_edge 72 = .ok (.getfield 20, 3) := by decide +kernel
theorem dX6_edge_75 : decode cX6_edge 75 = .ok (.iload_n 1, 1) := by decide +kernel
theorem dX6_edge_76 : decode cX6_edge 76 = .ok (.iload_n 2, 1) := by decide +kernel
theorem dX6_edge_77 : decode cX6_edge 77 = .ok (.lload_n 3, 1) := by decide +kernel
theorem dX6_edge_78 : decode cX6_edge 78 = .ok (.iload 5, 2) := by decide +kernel
theorem dX6_edge_80 : decode cX6_edge 80 = .ok (.ifCond .eq 7, 3) := by decide +kernel
theorem dX6_edge_83 : decode cX6_edge 83 = .ok (.iconst 2, 1) := by decide +kernel
theorem dX6_edge_84 : decode cX6_edge 84 = .ok (.goto 4, 3) := by decide +kernel
theorem dX6_edge_87 : decode cX6_edge 87 = .ok (.iconst 1, 1) := by decide +kernel
theorem dX6_edge_88 : decode cX6_edge 88 = .ok (.invokevirtual 86, 3) := by decide +kernel
theorem dX6_edge_91 : decode cX6_edge 91 = .ok (.istore 6, 2) := by decide +kernel
theorem dX6_edge_93 : decode cX6_edge 93 = .ok (.iconst (-1), 1) := by decide +kernel
theorem dX6_edge_94 : decode cX6_edge 94 = .ok (.istore 7, 2) := by decide +kernel
theorem dX6_edge_96 : decode cX6_edge 96 = .ok (.iload 5, 2) := by decide +kernel
theorem dX6_edge_98 : decode cX6_edge 98 = .ok (.ifCond .eq 19, 3) := by decide +kernel
theorem dX6_edge_101 : decode cX6_edge 101 = .ok (.aload_n 0, 1) := by decide +kernel
theorem dX6_edge_102 : decode cX6_edge 102 = .ok (.getfield 61, 3) := by decide +kernel
theorem dX6_edge_105 : decode cX6_edge 105 = .ok (.iconst 2, 1) := by decide +kernel
theorem dX6_edge_106 : decode cX6_edge 106 = .ok (.if_icmp .ne 11, 3) := by decide +kernel
theorem dX6_edge_109 : decode cX6_edge 109 = .ok (.aload_n 0, 1) := by decide +kernel
theorem dX6_edge_110 : decode cX6_edge 110 = .ok (.iload 6, 2) := by decide +kernel
theorem dX6_edge_112 : decode cX6_edge 112 = .ok (.invokevirtual 90, 3) := by decide +kernel
theorem dX6_edge_115 : decode cX6_edge 115 = .ok (.istore 7, 2) := by decide +kernel
theorem dX6_edge_117 : decode cX6_edge 117 = .ok (.aload_n 0, 1) := by decide +kernel
theorem dX6_edge_118 : decode cX6_edge 118 = .ok (.getfield 51, 3) := by decide +kernel
theorem dX6_edge_121 : decode cX6_edge 121 = .ok (.iconst 4, 1) := by decide +kernel
theorem dX6_edge_122 : decode cX6_edge 122 = .ok (.iload 7, 2) := by decide +kernel
theorem dX6_edge_124 : decode cX6_edge 124 = .ok (.iconst (-1), 1) := by decide +kernel
theorem dX6_edge_125 : decode cX6_edge 125 = .ok (.lconst 0, 1) := by decide +kernel
theorem dX6_edge_126 : decode cX6_edge 126 = .ok (.invokevirtual 94, 3) := by decide +kernel
theorem dX6_edge_129 : decode cX6_edge 129 = .ok (.iload 6, 2) := by decide +kernel
theorem dX6_edge_131 : decode cX6_edge 131 = .ok (.ireturn, 1) := by decide +kernel
theorem dX6_cut_0 : decode cX6_cut 0 = .ok (.aload_n 0, 1) := by decide +kernel
theorem dX6_cut_1 : decode cX6_cut 1 = .ok (.getfield 20, 3) := by decide +kernel
theorem dX6_cut_4 : decode cX6_cut 4 = .ok (.iload_n 1, 1) := by decide +kernel
theorem dX6_cut_5 : decode cX6_cut 5 = .ok (.invokevirtual 98, 3) := by decide +kernel
theorem dX6_cut_8 : decode cX6_cut 8 = .ok (.ifCond .ne 6, 3) := by decide +kernel
theorem dX6_cut_11 : decode cX6_cut 11 = .ok (.bipush (-2), 2) := by decide +kernel
theorem dX6_cut_13 : decode cX6_cut 13 = .ok (.ireturn, 1) := by decide +kernel
theorem dX6_cut_14 : decode cX6_cut 14 = .ok (.aload_n 0, 1) := by decide +kernel
theorem dX6_cut_15 : decode cX6_cut 15 = .ok (.getfield 20, 3) := by decide +kernel
theorem dX6_cut_18 : decode cX6_cut 18 = .ok (.getfield 101, 3) := by decide +kernel
theorem dX6_cut_21 : decode cX6_cut 21 = .ok (.iload_n 1, 1) := by decide +kernel
theorem dX6_cut_22 : decode cX6_cut 22 = .ok (.iaload, 1) := by decide +kernel
theorem dX6_cut_23 : decode cX6_cut 23 = .ok (.iconst 1, 1) := by decide +kernel
theorem dX6_cut_24 : decode cX6_cut 24 = .ok (.if_icmp .ne 7, 3) := by decide +kernel
theorem dX6_cut_27 : decode cX6_cut 27 = .ok (.iconst 1, 1) := by decide +kernel
theorem dX6_cut_28 : decode cX6_cut 28 = .ok (.goto 4, 3) := by decide +kernel
theorem dX6_cut_31 : decode cX6_cut 31 = .ok (.iconst 0, 1) := by decide +kernel
theorem dX6_cut_32 : decode cX6_cut 32 = .ok (.istore_n 2, 1) := by decide +kernel
theorem dX6_cut_33 : decode cX6_cut 33 = .ok (.aload_n 0, 1) := by decide +kernel
theorem dX6_cut_34 : decode cX6_cut 34 = .ok (.getfield 20, 3) := by decide +kernel
theorem dX6_cut_37 : decode cX6_cut 37 = .ok (.getfield 104, 3) := by decide +kernel
theorem dX6_cut_40 : decode cX6_cut 40 = .ok (.istore_n 3, 1) := by decide +kernel
theorem dX6_cut_41 : decode cX6_cut 41 = .ok (.iload_n 2, 1) := by decide +kernel
theorem dX6_cut_42 : decode cX6_cut 42 = .ok (.ifCond .eq 12, 3) := by decide +kernel
theorem dX6_cut_45 : decode cX6_cut 45 = .ok (.aload_n 0, 1) := by decide +kernel
theorem dX6_cut_46 : decode cX6_cut 46 = .ok (.iload_n 1, 1) := by decide +kernel
theorem dX6_cut_47 : decode cX6_cut 47 = .ok (.iconst 1, 1) := by decide +kernel
theorem dX6_cut_48 : decode cX6_cut 48 = .ok (.invokevirtual 107, 3) := by decide +kernel
theorem dX6_cut_51 : decode cX6_cut 51 = .ok (.goto 4, 3) := by decide +kernel
theorem dX6_cut_54 : decode cX6_cut 54 = .ok (.iconst (-1), 1) := by decide +kernel
theorem dX6_cut_55 : decode cX6_cut 55 = .ok (.istore 4, 2) := by decide +kernel
theorem dX6_cut_57 : decode cX6_cut 57 = .ok (.aload_n 0, 1) := by decide +kernel
theorem dX6_cut_58 : decode cX6_cut 58 = .ok (.getfield 20, 3) := by decide +kernel
theorem dX6_cut_61 : decode cX6_cut 61 = .ok (.getfield 101, 3) := by decide +kernel
theorem dX6_cut_64 : decode cX6_cut 64 = .ok (.iload_n 1, 1) := by decide +kernel
theorem dX6_cut_65 : decode cX6_cut 65 = .ok (.iconst 0, 1) := by decide +kernel
theorem dX6_cut_66 : decode cX6_cut 66 = .ok (.iastore, 1) := by decide +kernel
theorem dX6_cut_67 : decode cX6_cut 67 = .ok (.iload 4, 2) := by decide +kernel
theorem dX6_cut_69 : decode cX6_cut 69 = .ok (.iconst (-1), 1) := by decide +kernel
theorem dX6_cut_70 : decode cX6_cut 70 = .ok (.if_icmp .eq 14, 3) := by decide +kernel
theorem dX6_cut_73 : decode cX6_cut 73 = .ok (.aload_n 0, 1) := by decide +kernel
theorem dX6_cut_74 : decode cX6_cut 74 = .ok (.getfield 20, 3) := by decide +kernel
theorem dX6_cut_77 : decode cX6_cut 77 = .ok (.getfield 101, 3) := by decide +kernel
theorem dX6_cut_80 : decode cX6_cut 80 = .ok (.iload 4, 2) := by decide +kernel
theorem dX6_cut_82 : decode cX6_cut 82 = .ok (.iconst 1, 1) := by decide +kernel
theorem dX6_cut_83 : decode cX6_cut 83 = .ok (.iastore, 1) := by decide +kernel
theorem dX6_cut_84 : decode cX6_cut 84 = .ok (.aload_n 0, 1) := by decide +kernel
theorem dX6_cut_85 : decode cX6_cut 85 = .ok (.getfield 51, 3) := by decide +kernel
theorem dX6_cut_88 : decode cX6_cut 88 = .ok (.iload_n 2, 1) := by decide +kernel
theorem dX6_cut_89 : decode cX6_cut 89 = .ok (.ifCond .eq 7, 3) := by decide +kernel
theorem dX6_cut_92 : decode cX6_cut 92 = .ok (.iconst 5, 1) := by decide +kernel
theorem dX6_cut_93 : decode cX6_cut 93 = .ok (.goto 5, 3) := by decide +kernel
theorem dX6_cut_96 : decode cX6_cut 96 = .ok (.bipush 6, 2) := by decide +kernel
theorem dX6_cut_98 : decode cX6_cut 98 = .ok (.iload_n 1, 1) := by decide +kernel
theorem dX6_cut_99 : decode cX6_cut 99 = .ok (.iload 4, 2) := by decide +kernel
theorem dX6_cut_101 : decode cX6_cut 101 = .ok (.iload_n 3, 1) := by decide +kernel
theorem dX6_cut_102 : decode cX6_cut 102 = .ok (.i2l, 1) := by decide +kernel
theorem dX6_cut_103 : decode cX6_cut 103 = .ok (.invokevirtual 94, 3) := by decide +kernel
theorem dX6_cut_106 : decode cX6_cut 106 = .ok (.iload 4, 2) := by decide +kernel
theorem dX6_cut_108 : decode cX6_cut 108 = .ok (.ireturn, 1) := by decide +kernel
theorem dX6_instead_0 : decode cX6_instead 0 = .ok (.aload_n 0, 1) := by decide +kernel
theorem dX6_instead_1 : decode cX6_instead 1 = .ok (.getfield 20, 3) := by decide +kernel
theorem dX6_instead_4 : decode cX6_instead 4 = .ok (.iload_n 1, 1) := by decide +kernel
theorem dX6_instead_5 : decode cX6_instead 5 = .ok (.invokevirtual 98, 3) := by decide +kernel
theorem dX6_instead_8 : decode cX6_instead 8 = .ok (.ifCond .ne 6, 3) := by decide +kernel
theorem dX6_instead_11 : decode cX6_instead 11 = .ok (.bipush (-2), 2) := by decide +kernel
theorem dX6_instead_13 : decode cX6_instead 13 = .ok (.ireturn, 1) := by decide +kernel
theorem dX6_instead_14 : decode cX6_instead 14 = .ok (.aload_n 0, 1) := by decide +kernel
theorem dX6_instead_15 : decode cX6_instead 15 = .ok (.getfield 20, 3) := by decide +kernel
theorem dX6_instead_18 : decode cX6_instead 18 = .ok (.getfield 101, 3) := by decide +kernel
theorem dX6_instead_21 : decode cX6_instead 21 = .ok (.iload_n 1, 1) := by decide +kernel
theorem dX6_instead_22 : decode cX6_instead 22 = .ok (.iaload, 1) := by decide +kernel
theorem dX6_instead_23 : decode cX6_instead 23 = .ok (.iconst 1, 1) := by decide +kernel
theorem dX6_instead_24 : decode cX6_instead 24 = .ok (.if_icmp .ne 12, 3) := by decide +kernel
theorem dX6_instead_27 : decode cX6_instead 27 = .ok (.aload_n 0, 1) := by decide +kernel
theorem dX6_instead_28 : decode cX6_instead 28 = .ok (.iload_n 1, 1) := by decide +kernel
theorem dX6_instead_29 : decode cX6_instead 29 = .ok (.iconst 0, 1) := by decide +kernel
theorem dX6_instead_30 : decode cX6_instead 30 = .ok (.invokevirtual 107, 3) := by decide +kernel
theorem dX6_instead_33 : decode cX6_instead 33 = .ok (.goto 4, 3) := by decide +kernel
theorem dX6_instead_36 : decode cX6_instead 36 = .ok (.iconst (-1), 1) := by decide +kernel
theorem dX6_instead_37 : decode cX6_instead 37 = .ok (.ireturn, 1) := by decide +kernel
theorem dX6_told_0 : decode cX6_told 0 = .ok (.aload_n 0, 1) := by decide +kernel
theorem dX6_told_1 : decode cX6_told 1 = .ok (.getfield 20, 3) := by decide +kernel
theorem dX6_told_4 : decode cX6_told 4 = .ok (.iload_n 1, 1) := by decide +kernel
theorem dX6_told_5 : decode cX6_told 5 = .ok (.invokevirtual 111, 3) := by decide +kernel
theorem dX6_told_8 : decode cX6_told 8 = .ok (.ifCond .ne 6, 3) := by decide +kernel
theorem dX6_told_11 : decode cX6_told 11 = .ok (.bipush (-2), 2) := by decide +kernel
theorem dX6_told_13 : decode cX6_told 13 = .ok (.ireturn, 1) := by decide +kernel
theorem dX6_told_14 : decode cX6_told 14 = .ok (.iload_n 2, 1) := by decide +kernel
theorem dX6_told_15 : decode cX6_told 15 = .ok (.tableswitch 120 0 4 #[33, 43, 53, 63, 73], 33) := by decide +kernel
theorem dX6_told_48 : decode cX6_told 48 = .ok (.aload_n 0, 1) := by decide +kernel
theorem dX6_told_49 : decode cX6_told 49 = .ok (.getfield 20, 3) := by decide +kernel
theorem dX6_told_52 : decode cX6_told 52 = .ok (.getfield 101, 3) := by decide +kernel
theorem dX6_told_55 : decode cX6_told 55 = .ok (.iload_n 1, 1) := by decide +kernel
theorem dX6_told_56 : decode cX6_told 56 = .ok (.iaload, 1) := by decide +kernel
theorem dX6_told_57 : decode cX6_told 57 = .ok (.ireturn, 1) := by decide +kernel
theorem dX6_told_58 : decode cX6_told 58 = .ok (.aload_n 0, 1) := by decide +kernel
theorem dX6_told_59 : decode cX6_told 59 = .ok (.getfield 20, 3) := by decide +kernel
theorem dX6_told_62 : decode cX6_told 62 = .ok (.getfield 114, 3) := by decide +kernel
theorem dX6_told_65 : decode cX6_told 65 = .ok (.iload_n 1, 1) := by decide +kernel
theorem dX6_told_66 : decode cX6_told 66 = .ok (.iaload, 1) := by decide +kernel
theorem dX6_told_67 : decode cX6_told 67 = .ok (.ireturn, 1) := by decide +kernel
theorem dX6_told_68 : decode cX6_told 68 = .ok (.aload_n 0, 1) := by decide +kernel
theorem dX6_told_69 : decode cX6_told 69 = .ok (.getfield 20, 3) := by decide +kernel
theorem dX6_told_72 : decode cX6_told 72 = .ok (.getfield 117, 3) := by decide +kernel
theorem dX6_told_75 : decode cX6_told 75 = .ok (.iload_n 1, 1) := by decide +kernel
theorem dX6_told_76 : decode cX6_told 76 = .ok (.iaload, 1) := by decide +kernel
theorem dX6_told_77 : decode cX6_told 77 = .ok (.ireturn, 1) := by decide +kernel
theorem dX6_told_78 : decode cX6_told 78 = .ok (.aload_n 0, 1) := by decide +kernel
theorem dX6_told_79 : decode cX6_told 79 = .ok (.getfield 20, 3) := by decide +kernel
theorem dX6_told_82 : decode cX6_told 82 = .ok (.getfield 120, 3) := by decide +kernel
theorem dX6_told_85 : decode cX6_told 85 = .ok (.iload_n 1, 1) := by decide +kernel
theorem dX6_told_86 : decode cX6_told 86 = .ok (.iaload, 1) := by decide +kernel
theorem dX6_told_87 : decode cX6_told 87 = .ok (.ireturn, 1) := by decide +kernel
theorem dX6_told_88 : decode cX6_told 88 = .ok (.aload_n 0, 1) := by decide +kernel
theorem dX6_told_89 : decode cX6_told 89 = .ok (.getfield 44, 3) := by decide +kernel
theorem dX6_told_92 : decode cX6_told 92 = .ok (.aload_n 0, 1) := by decide +kernel
theorem dX6_told_93 : decode cX6_told 93 = .ok (.getfield 20, 3) := by decide +kernel
theorem dX6_told_96 : decode cX6_told 96 = .ok (.aload_n 0, 1) := by decide +kernel
theorem dX6_told_97 : decode cX6_told 97 = .ok (.getfield 69, 3) := by decide +kernel
theorem dX6_told_100 : decode cX6_told 100 = .ok (.invokevirtual 123, 3) := by decide +kernel
theorem dX6_told_103 : decode cX6_told 103 = .ok (.aload_n 0, 1) := by decide +kernel
theorem dX6_told_104 : decode cX6_told 104 = .ok (.getfield 20, 3) := by decide +kernel
theorem dX6_told_107 : decode cX6_told 107 = .ok (.iload_n 1, 1) := by decide +kernel
theorem dX6_told_108 : decode cX6_told 108 = .ok (.invokevirtual 98, 3) := by decide +kernel
theorem dX6_told_111 : decode cX6_told 111 = .ok (.ifCond .eq 22, 3) := by decide +kernel
theorem dX6_told_114 : decode cX6_told 114 = .ok (.aload_n 0, 1) := by decide +kernel
theorem dX6_told_115 : decode cX6_told 115 = .ok (.getfield 44, 3) := by decide +kernel
theorem dX6_told_118 : decode cX6_told 118 = .ok (.aload_n 0, 1) := by decide +kernel
theorem dX6_told_119 : decode cX6_told 119 = .ok (.getfield 20, 3) := by decide +kernel
theorem dX6_told_122 : decode cX6_told 122 = .ok (.iload_n 1, 1) := by decide +kernel
theorem dX6_told_123 : decode cX6_told 123 = .ok (.invokevirtual 127, 3) := by decide +kernel
theorem dX6_told_126 : decode cX6_told 126 = .ok (.ifCond .eq 7, 3) := by decide +kernel
theorem dX6_told_129 : decode cX6_told 129 = .ok (.iconst 1, 1) := by decide +kernel
theorem dX6_told_130 : decode cX6_told 130 = .ok (.goto 4, 3) := by decide +kernel
theorem dX6_told_133 : decode cX6_told 133 = .ok (.iconst 0, 1) := by decide +kernel
theorem dX6_told_134 : decode cX6_told 134 = .ok (.ireturn, 1) := by decide +kernel
theorem dX6_told_135 : decode cX6_told 135 = .ok (.bipush (-2), 2) := by decide +kernel
theorem dX6_told_137 : decode cX6_told 137 = .ok (.ireturn, 1) := by decide +kernel
theorem dX6_weight_0 : decode cX6_weight 0 = .ok (.aload_n 0, 1) := by decide +kernel
theorem dX6_weight_1 : decode cX6_weight 1 = .ok (.getfield 20, 3) := by decide +kernel
theorem dX6_weight_4 : decode cX6_weight 4 = .ok (.iload_n 1, 1) := by decide +kernel
theorem dX6_weight_5 : decode cX6_weight 5 = .ok (.invokevirtual 111, 3) := by decide +kernel
theorem dX6_weight_8 : decode cX6_weight 8 = .ok (.ifCond .eq 15, 3) := by decide +kernel
theorem dX6_weight_11 : decode cX6_weight 11 = .ok (.aload_n 0, 1) := by decide +kernel
theorem dX6_weight_12 : decode cX6_weight 12 = .ok (.getfield 20, 3) := by decide +kernel
theorem dX6_weight_15 : decode cX6_weight 15 = .ok (.getfield 131, 3) := by decide +kernel
theorem dX6_weight_18 : decode cX6_weight 18 = .ok (.iload_n 1, 1) := by decide +kernel
theorem dX6_weight_19 : decode cX6_weight 19 = .ok (.laload, 1) := by decide +kernel
theorem dX6_weight_20 : decode cX6_weight 20 = .ok (.goto 6, 3) := by decide +kernel
theorem dX6_weight_23 : decode cX6_weight 23 = .ok (.ldc2_w 134, 3) := by decide +kernel
theorem dX6_weight_26 : decode cX6_weight 26 = .ok (.lreturn, 1) := by decide +kernel
theorem dX6_count_0 : decode cX6_count 0 = .ok (.iload_n 1, 1) := by decide +kernel
theorem dX6_count_1 : decode cX6_count 1 = .ok (.tableswitch 158 0 8 #[51, 56, 64, 73, 82, 96, 119, 142, 150], 51) := by decide +kernel
theorem dX6_count_52 : decode cX6_count 52 = .ok (.aload_n 0, 1) := by decide +kernel
theorem dX6_count_53 : decode cX6_count 53 = .ok (.getfield 69, 3) := by decide +kernel
theorem dX6_count_56 : decode cX6_count 56 = .ok (.ireturn, 1) := by decide +kernel
theorem dX6_count_57 : decode cX6_count 57 = .ok (.aload_n 0, 1) := by decide +kernel
theorem dX6_count_58 : decode cX6_count 58 = .ok (.getfield 20, 3) := by decide +kernel
theorem dX6_count_61 : decode cX6_count 61 = .ok (.getfield 75, 3) := by decide +kernel
theorem dX6_count_64 : decode cX6_count 64 = .ok (.ireturn, 1) := by decide +kernel
theorem dX6_count_65 : decode cX6_count 65 = .ok (.aload_n 0, 1) := by decide +kernel
theorem dX6_count_66 : decode cX6_count 66 = .ok (.getfield 20, 3) := by decide +kernel
theorem dX6_count_69 : decode cX6_count 69 = .ok (.iconst 1, 1) := by decide +kernel
theorem dX6_count_70 : decode cX6_count 70 = .ok (.invokevirtual 136, 3) := by decide +kernel
theorem dX6_count_73 : decode cX6_count 73 = .ok (.ireturn, 1) := by decide +kernel
theorem dX6_count_74 : decode cX6_count 74 = .ok (.aload_n 0, 1) := by decide +kernel
theorem dX6_count_75 : decode cX6_count 75 = .ok (.getfield 20, 3) := by decide +kernel
theorem dX6_count_78 : decode cX6_count 78 = .ok (.iconst 2, 1) := by decide +kernel
theorem dX6_count_79 : decode cX6_count 79 = .ok (.invokevirtual 136, 3) := by decide +kernel
theorem dX6_count_82 : decode cX6_count 82 = .ok (.ireturn, 1) := by decide +kernel
theorem dX6_count_83 : decode cX6_count 83 = .ok (.aload_n 0, 1) := by decide +kernel
theorem dX6_count_84 : decode cX6_count 84 = .ok (.getfield 69, 3) := by decide +kernel
theorem dX6_count_87 : decode cX6_count 87 = .ok (.aload_n 0, 1) := by decide +kernel
theorem dX6_count_88 : decode cX6_count 88 = .ok (.getfield 20, 3) := by decide +kernel
theorem dX6_count_91 : decode cX6_count 91 = .ok (.iconst 1, 1) := by decide +kernel
theorem dX6_count_92 : decode cX6_count 92 = .ok (.invokevirtual 136, 3) := by decide +kernel
theorem dX6_count_95 : decode cX6_count 95 = .ok (.isub, 1) := by decide +kernel
theorem dX6_count_96 : decode cX6_count 96 = .ok (.ireturn, 1) := by decide +kernel
theorem dX6_count_97 : decode cX6_count 97 = .ok (.aload_n 0, 1) := by decide +kernel
theorem dX6_count_98 : decode cX6_count 98 = .ok (.getfield 44, 3) := by decide +kernel
theorem dX6_count_101 : decode cX6_count 101 = .ok (.aload_n 0, 1) := by decide +kernel
theorem dX6_count_102 : decode cX6_count 102 = .ok (.getfield 20, 3) := by decide +kernel
theorem dX6_count_105 : decode cX6_count 105 = .ok (.aload_n 0, 1) := by decide +kernel
theorem dX6_count_106 : decode cX6_count 106 = .ok (.getfield 69, 3) := by decide +kernel
theorem dX6_count_109 : decode cX6_count 109 = .ok (.invokevirtual 123, 3) := by decide +kernel
theorem dX6_count_112 : decode cX6_count 112 = .ok (.aload_n 0, 1) := by decide +kernel
theorem dX6_count_113 : decode cX6_count 113 = .ok (.getfield 44, 3) := by decide +kernel
theorem dX6_count_116 : decode cX6_count 116 = .ok (.getfield 139, 3) := by decide +kernel
theorem dX6_count_119 : decode cX6_count 119 = .ok (.ireturn, 1) := by decide +kernel
theorem dX6_count_120 : decode cX6_count 120 = .ok (.aload_n 0, 1) := by decide +kernel
theorem dX6_count_121 : decode cX6_count 121 = .ok (.getfield 44, 3) := by decide +kernel
theorem dX6_count_124 : decode cX6_count 124 = .ok (.aload_n 0, 1) := by decide +kernel
theorem dX6_count_125 : decode cX6_count 125 = .ok (.getfield 20, 3) := by decide +kernel
theorem dX6_count_128 : decode cX6_count 128 = .ok (.aload_n 0, 1) := by decide +kernel
theorem dX6_count_129 : decode cX6_count 129 = .ok (.getfield 69, 3) := by decide +kernel
theorem dX6_count_132 : decode cX6_count 132 = .ok (.invokevirtual 123, 3) := by decide +kernel
theorem dX6_count_135 : decode cX6_count 135 = .ok (.aload_n 0, 1) := by decide +kernel
theorem dX6_count_136 : decode cX6_count 136 = .ok (.getfield 44, 3) := by decide +kernel
theorem dX6_count_139 : decode cX6_count 139 = .ok (.getfield 142, 3) := by decide +kernel
theorem dX6_count_142 : decode cX6_count 142 = .ok (.ireturn, 1) := by decide +kernel
theorem dX6_count_143 : decode cX6_count 143 = .ok (.aload_n 0, 1) := by decide +kernel
theorem dX6_count_144 : decode cX6_count 144 = .ok (.getfield 51, 3) := by decide +kernel
theorem dX6_count_147 : decode cX6_count 147 = .ok (.getfield 145, 3) := by decide +kernel
theorem dX6_count_150 : decode cX6_count 150 = .ok (.ireturn, 1) := by decide +kernel
theorem dX6_count_151 : decode cX6_count 151 = .ok (.aload_n 0, 1) := by decide +kernel
theorem dX6_count_152 : decode cX6_count 152 = .ok (.getfield 20, 3) := by decide +kernel
theorem dX6_count_155 : decode cX6_count 155 = .ok (.getfield 104, 3) := by decide +kernel
theorem dX6_count_158 : decode cX6_count 158 = .ok (.ireturn, 1) := by decide +kernel
theorem dX6_count_159 : decode cX6_count 159 = .ok (.bipush (-2), 2) := by decide +kernel
theorem dX6_count_161 : decode cX6_count 161 = .ok (.ireturn, 1) := by decide +kernel
theorem dX6_total_0 : decode cX6_total 0 = .ok (.lconst 0, 1) := by decide +kernel
theorem dX6_total_1 : decode cX6_total 1 = .ok (.lstore_n 1, 1) := by decide +kernel
theorem dX6_total_2 : decode cX6_total 2 = .ok (.iconst 0, 1) := by decide +kernel
theorem dX6_total_3 : decode cX6_total 3 = .ok (.istore_n 3, 1) := by decide +kernel
theorem dX6_total_4 : decode cX6_total 4 = .ok (.iload_n 3, 1) := by decide +kernel
theorem dX6_total_5 : decode cX6_total 5 = .ok (.aload_n 0, 1) := by decide +kernel
theorem dX6_total_6 : decode cX6_total 6 = .ok (.getfield 20, 3) := by decide +kernel
theorem dX6_total_9 : decode cX6_total 9 = .ok (.getfield 75, 3) := by decide +kernel
theorem dX6_total_12 : decode cX6_total 12 = .ok (.if_icmp .ge 34, 3) := by decide +kernel
theorem dX6_total_15 : decode cX6_total 15 = .ok (.aload_n 0, 1) := by decide +kernel
theorem dX6_total_16 : decode cX6_total 16 = .ok (.getfield 20, 3) := by decide +kernel
theorem dX6_total_19 : decode cX6_total 19 = .ok (.getfield 101, 3) := by decide +kernel
theorem dX6_total_22 : decode cX6_total 22 = .ok (.iload_n 3, 1) := by decide +kernel
theorem dX6_total_23 : decode cX6_total 23 = .ok (.iaload, 1) := by decide +kernel
theorem dX6_total_24 : decode cX6_total 24 = .ok (.iconst 1, 1) := by decide +kernel
theorem dX6_total_25 : decode cX6_total 25 = .ok (.if_icmp .ne 15, 3) := by decide +kernel
theorem dX6_total_28 : decode cX6_total 28 = .ok (.lload_n 1, 1) := by decide +kernel
theorem dX6_total_29 : decode cX6_total 29 = .ok (.aload_n 0, 1) := by decide +kernel
theorem dX6_total_30 : decode cX6_total 30 = .ok (.getfield 20, 3) := by decide +kernel
theorem dX6_total_33 : decode cX6_total 33 = .ok (.getfield 131, 3) := by decide +kernel
theorem dX6_total_36 : decode cX6_total 36 = .ok (.iload_n 3, 1) := by decide +kernel
theorem dX6_total_37 : decode cX6_total 37 = .ok (.laload, 1) := by decide +kernel
theorem dX6_total_38 : decode cX6_total 38 = .ok (.ladd, 1) := by decide +kernel
theorem dX6_total_39 : decode cX6_total 39 = .ok (.lstore_n 1, 1) := by decide +kernel
theorem dX6_total_40 : decode cX6_total 40 = .ok (.iinc 3 1, 3) := by decide +kernel
theorem dX6_total_43 : decode cX6_total 43 = .ok (.goto (-39), 3) := by decide +kernel
theorem dX6_total_46 : decode cX6_total 46 = .ok (.lload_n 1, 1) := by decide +kernel
theorem dX6_total_47 : decode cX6_total 47 = .ok (.lreturn, 1) := by decide +kernel
theorem dX6_together_0 : decode cX6_together 0 = .ok (.aload_n 0, 1) := by decide +kernel
theorem dX6_together_1 : decode cX6_together 1 = .ok (.iload_n 1, 1) := by decide +kernel
theorem dX6_together_2 : decode cX6_together 2 = .ok (.iload_n 2, 1) := by decide +kernel
theorem dX6_together_3 : decode cX6_together 3 = .ok (.invokevirtual 82, 3) := by decide +kernel
theorem dX6_together_6 : decode cX6_together 6 = .ok (.istore_n 3, 1) := by decide +kernel
theorem dX6_together_7 : decode cX6_together 7 = .ok (.iload_n 3, 1) := by decide +kernel
theorem dX6_together_8 : decode cX6_together 8 = .ok (.bipush (-2), 2) := by decide +kernel
theorem dX6_together_10 : decode cX6_together 10 = .ok (.if_icmp .ne 6, 3) := by decide +kernel
theorem dX6_together_13 : decode cX6_together 13 = .ok (.bipush (-2), 2) := by decide +kernel
theorem dX6_together_15 : decode cX6_together 15 = .ok (.ireturn, 1) := by decide +kernel
theorem dX6_together_16 : decode cX6_together 16 = .ok (.iload_n 3, 1) := by decide +kernel
theorem dX6_together_17 : decode cX6_together 17 = .ok (.iconst (-1), 1) := by decide +kernel
theorem dX6_together_18 : decode cX6_together 18 = .ok (.if_icmp .ne 7, 3) := by decide +kernel
theorem dX6_together_21 : decode cX6_together 21 = .ok (.iconst 0, 1) := by decide +kernel
theorem dX6_together_22 : decode cX6_together 22 = .ok (.goto 4, 3) := by decide +kernel
theorem dX6_together_25 : decode cX6_together 25 = .ok (.iconst 1, 1) := by decide +kernel
theorem dX6_together_26 : decode cX6_together 26 = .ok (.ireturn, 1) := by decide +kernel
theorem dX6_size_0 : decode cX6_size 0 = .ok (.aload_n 0, 1) := by decide +kernel
theorem dX6_size_1 : decode cX6_size 1 = .ok (.iload_n 1, 1) := by decide +kernel
theorem dX6_size_2 : decode cX6_size 2 = .ok (.invokevirtual 78, 3) := by decide +kernel
theorem dX6_size_5 : decode cX6_size 5 = .ok (.ifCond .ne 6, 3) := by decide +kernel
theorem dX6_size_8 : decode cX6_size 8 = .ok (.bipush (-2), 2) := by decide +kernel
theorem dX6_size_10 : decode cX6_size 10 = .ok (.ireturn, 1) := by decide +kernel
theorem dX6_size_11 : decode cX6_size 11 = .ok (.aload_n 0, 1) := by decide +kernel
theorem dX6_size_12 : decode cX6_size 12 = .ok (.iload_n 1, 1) := by decide +kernel
theorem dX6_size_13 : decode cX6_size 13 = .ok (.invokevirtual 148, 3) := by decide +kernel
theorem dX6_size_16 : decode cX6_size 16 = .ok (.aload_n 0, 1) := by decide +kernel
theorem dX6_size_17 : decode cX6_size 17 = .ok (.getfield 27, 3) := by decide +kernel
theorem dX6_size_20 : decode cX6_size 20 = .ok (.getfield 152, 3) := by decide +kernel
theorem dX6_size_23 : decode cX6_size 23 = .ok (.ireturn, 1) := by decide +kernel
theorem dX6_member_0 : decode cX6_member 0 = .ok (.aload_n 0, 1) := by decide +kernel
theorem dX6_member_1 : decode cX6_member 1 = .ok (.iload_n 1, 1) := by decide +kernel
theorem dX6_member_2 : decode cX6_member 2 = .ok (.invokevirtual 78, 3) := by decide +kernel
theorem dX6_member_5 : decode cX6_member 5 = .ok (.ifCond .ne 6, 3) := by decide +kernel
theorem dX6_member_8 : decode cX6_member 8 = .ok (.bipush (-2), 2) := by decide +kernel
theorem dX6_member_10 : decode cX6_member 10 = .ok (.ireturn, 1) := by decide +kernel
theorem dX6_member_11 : decode cX6_member 11 = .ok (.aload_n 0, 1) := by decide +kernel
theorem dX6_member_12 : decode cX6_member 12 = .ok (.iload_n 1, 1) := by decide +kernel
theorem dX6_member_13 : decode cX6_member 13 = .ok (.invokevirtual 148, 3) := by decide +kernel
theorem dX6_member_16 : decode cX6_member 16 = .ok (.iconst 0, 1) := by decide +kernel
theorem dX6_member_17 : decode cX6_member 17 = .ok (.istore_n 3, 1) := by decide +kernel
theorem dX6_member_18 : decode cX6_member 18 = .ok (.iconst 0, 1) := by decide +kernel
theorem dX6_member_19 : decode cX6_member 19 = .ok (.istore 4, 2) := by decide +kernel
theorem dX6_member_21 : decode cX6_member 21 = .ok (.iload 4, 2) := by decide +kernel
theorem dX6_member_23 : decode cX6_member 23 = .ok (.aload_n 0, 1) := by decide +kernel
theorem dX6_member_24 : decode cX6_member 24 = .ok (.getfield 69, 3) := by decide +kernel
theorem dX6_member_27 : decode cX6_member 27 = .ok (.if_icmp .ge 33, 3) := by decide +kernel
theorem dX6_member_30 : decode cX6_member 30 = .ok (.aload_n 0, 1) := by decide +kernel
theorem dX6_member_31 : decode cX6_member 31 = .ok (.getfield 27, 3) := by decide +kernel
theorem dX6_member_34 : decode cX6_member 34 = .ok (.getfield 153, 3) := by decide +kernel
theorem dX6_member_37 : decode cX6_member 37 = .ok (.iload 4, 2) := by decide +kernel
theorem dX6_member_39 : decode cX6_member 39 = .ok (.baload, 1) := by decide +kernel
theorem dX6_member_40 : decode cX6_member 40 = .ok (.ifCond .eq 14, 3) := by decide +kernel
theorem dX6_member_43 : decode cX6_member 43 = .ok (.iload_n 3, 1) := by decide +kernel
theorem dX6_member_44 : decode cX6_member 44 = .ok (.iload_n 2, 1) := by decide +kernel
theorem dX6_member_45 : decode cX6_member 45 = .ok (.if_icmp .ne 6, 3) := by decide +kernel
theorem dX6_member_48 : decode cX6_member 48 = .ok (.iload 4, 2) := by decide +kernel
theorem dX6_member_50 : decode cX6_member 50 = .ok (.ireturn, 1) := by decide +kernel
theorem dX6_member_51 : decode cX6_member 51 = .ok (.iinc 3 1, 3) := by decide +kernel
theorem dX6_member_54 : decode cX6_member 54 = .ok (.iinc 4 1, 3) := by decide +kernel
theorem dX6_member_57 : decode cX6_member 57 = .ok (.goto (-36), 3) := by decide +kernel
theorem dX6_member_60 : decode cX6_member 60 = .ok (.iconst (-1), 1) := by decide +kernel
theorem dX6_member_61 : decode cX6_member 61 = .ok (.ireturn, 1) := by decide +kernel
theorem dX6_way_0 : decode cX6_way 0 = .ok (.aload_n 0, 1) := by decide +kernel
theorem dX6_way_1 : decode cX6_way 1 = .ok (.iload_n 1, 1) := by decide +kernel
theorem dX6_way_2 : decode cX6_way 2 = .ok (.iload_n 2, 1) := by decide +kernel
theorem dX6_way_3 : decode cX6_way 3 = .ok (.invokevirtual 82, 3) := by decide +kernel
theorem dX6_way_6 : decode cX6_way 6 = .ok (.ireturn, 1) := by decide +kernel
theorem dX6_between_0 : decode cX6_between 0 = .ok (.aload_n 0, 1) := by decide +kernel
theorem dX6_between_1 : decode cX6_between 1 = .ok (.iload_n 1, 1) := by decide +kernel
theorem dX6_between_2 : decode cX6_between 2 = .ok (.iload_n 2, 1) := by decide +kernel
theorem dX6_between_3 : decode cX6_between 3 = .ok (.invokevirtual 82, 3) := by decide +kernel
theorem dX6_between_6 : decode cX6_between 6 = .ok (.istore 4, 2) := by decide +kernel
theorem dX6_between_8 : decode cX6_between 8 = .ok (.iload 4, 2) := by decide +kernel
theorem dX6_between_10 : decode cX6_between 10 = .ok (.bipush (-2), 2) := by decide +kernel
theorem dX6_between_12 : decode cX6_between 12 = .ok (.if_icmp .ne 6, 3) := by decide +kernel
theorem dX6_between_15 : decode cX6_between 15 = .ok (.bipush (-2), 2) := by decide +kernel
theorem dX6_between_17 : decode cX6_between 17 = .ok (.ireturn, 1) := by decide +kernel
theorem dX6_between_18 : decode cX6_between 18 = .ok (.iload_n 3, 1) := by decide +kernel
theorem dX6_between_19 : decode cX6_between 19 = .ok (.ifCond .lt 9, 3) := by decide +kernel
theorem dX6_between_22 : decode cX6_between 22 = .ok (.iload_n 3, 1) := by decide +kernel
theorem dX6_between_23 : decode cX6_between 23 = .ok (.iload 4, 2) := by decide +kernel
theorem dX6_between_25 : decode cX6_between 25 = .ok (.if_icmp .le 7, 3) := by decide +kernel
theorem dX6_between_28 : decode cX6_between 28 = .ok (.iconst (-1), 1) := by decide +kernel
theorem dX6_between_29 : decode cX6_between 29 = .ok (.goto 12, 3) := by decide +kernel
theorem dX6_between_32 : decode cX6_between 32 = .ok (.aload_n 0, 1) := by decide +kernel
theorem dX6_between_33 : decode cX6_between 33 = .ok (.getfield 37, 3) := by decide +kernel
theorem dX6_between_36 : decode cX6_between 36 = .ok (.getfield 157, 3) := by decide +kernel
theorem dX6_between_39 : decode cX6_between 39 = .ok (.iload_n 3, 1) := by decide +kernel
theorem dX6_between_40 : decode cX6_between 40 = .ok (.iaload, 1) := by decide +kernel
theorem dX6_between_41 : decode cX6_between 41 = .ok (.ireturn, 1) := by decide +kernel
theorem dX6_heaviest_0 : decode cX6_heaviest 0 = .ok (.aload_n 0, 1) := by decide +kernel
theorem dX6_heaviest_1 : decode cX6_heaviest 1 = .ok (.iload_n 1, 1) := by decide +kernel
theorem dX6_heaviest_2 : decode cX6_heaviest 2 = .ok (.iload_n 2, 1) := by decide +kernel
theorem dX6_heaviest_3 : decode cX6_heaviest 3 = .ok (.invokevirtual 82, 3) := by decide +kernel
theorem dX6_heaviest_6 : decode cX6_heaviest 6 = .ok (.bipush (-2), 2) := by decide +kernel
theorem dX6_heaviest_8 : decode cX6_heaviest 8 = .ok (.if_icmp .ne 8, 3) := by decide +kernel
theorem dX6_heaviest_11 : decode cX6_heaviest 11 = .ok (.bipush (-2), 2) := by decide +kernel
theorem dX6_heaviest_13 : decode cX6_heaviest 13 = .ok (.goto 14, 3) := by decide +kernel
theorem dX6_heaviest_16 : decode cX6_heaviest 16 = .ok (.aload_n 0, 1) := by decide +kernel
theorem dX6_heaviest_17 : decode cX6_heaviest 17 = .ok (.getfield 37, 3) := by decide +kernel
theorem dX6_heaviest_20 : decode cX6_heaviest 20 = .ok (.aload_n 0, 1) := by decide +kernel
theorem dX6_heaviest_21 : decode cX6_heaviest 21 = .ok (.getfield 20, 3) := by decide +kernel
theorem dX6_heaviest_24 : decode cX6_heaviest 24 = .ok (.invokevirtual 159, 3) := by decide +kernel
theorem dX6_heaviest_27 : decode cX6_heaviest 27 = .ok (.ireturn, 1) := by decide +kernel
theorem dX6_sum_0 : decode cX6_sum 0 = .ok (.aload_n 0, 1) := by decide +kernel
theorem dX6_sum_1 : decode cX6_sum 1 = .ok (.iload_n 1, 1) := by decide +kernel
theorem dX6_sum_2 : decode cX6_sum 2 = .ok (.iload_n 2, 1) := by decide +kernel
theorem dX6_sum_3 : decode cX6_sum 3 = .ok (.invokevirtual 82, 3) := by decide +kernel
theorem dX6_sum_6 : decode cX6_sum 6 = .ok (.istore_n 3, 1) := by decide +kernel
theorem dX6_sum_7 : decode cX6_sum 7 = .ok (.iload_n 3, 1) := by decide +kernel
theorem dX6_sum_8 : decode cX6_sum 8 = .ok (.ifCond .ge 7, 3) := by decide +kernel
theorem dX6_sum_11 : decode cX6_sum 11 = .ok (.ldc2_w 134, 3) := by decide +kernel
theorem dX6_sum_14 : decode cX6_sum 14 = .ok (.lreturn, 1) := by decide +kernel
theorem dX6_sum_15 : decode cX6_sum 15 = .ok (.lconst 0, 1) := by decide +kernel
theorem dX6_sum_16 : decode cX6_sum 16 = .ok (.lstore 4, 2) := by decide +kernel
theorem dX6_sum_18 : decode cX6_sum 18 = .ok (.iconst 0, 1) := by decide +kernel
theorem dX6_sum_19 : decode cX6_sum 19 = .ok (.istore 6, 2) := by decide +kernel
theorem dX6_sum_21 : decode cX6_sum 21 = .ok (.iload 6, 2) := by decide +kernel
theorem dX6_sum_23 : decode cX6_sum 23 = .ok (.iload_n 3, 1) := by decide +kernel
theorem dX6_sum_24 : decode cX6_sum 24 = .ok (.if_icmp .gt 29, 3) := by decide +kernel
theorem dX6_sum_27 : decode cX6_sum 27 = .ok (.lload 4, 2) := by decide +kernel
theorem dX6_sum_29 : decode cX6_sum 29 = .ok (.aload_n 0, 1) := by decide +kernel
theorem dX6_sum_30 : decode cX6_sum 30 = .ok (.getfield 9, 3) := by decide +kernel
theorem dX6_sum_33 : decode cX6_sum 33 = .ok (.aload_n 0, 1) := by decide +kernel
theorem dX6_sum_34 : decode cX6_sum 34 = .ok (.getfield 37, 3) := by decide +kernel
theorem dX6_sum_37 : decode cX6_sum 37 = .ok (.getfield 157, 3) := by decide +kernel
theorem dX6_sum_40 : decode cX6_sum 40 = .ok (.iload 6, 2) := by decide +kernel
theorem dX6_sum_42 : decode cX6_sum 42 = .ok (.iaload, 1) := by decide +kernel
theorem dX6_sum_43 : decode cX6_sum 43 = .ok (.laload, 1) := by decide +kernel
theorem dX6_sum_44 : decode cX6_sum 44 = .ok (.ladd, 1) := by decide +kernel
theorem dX6_sum_45 : decode cX6_sum 45 = .ok (.lstore 4, 2) := by decide +kernel
theorem dX6_sum_47 : decode cX6_sum 47 = .ok (.iinc 6 1, 3) := by decide +kernel
theorem dX6_sum_50 : decode cX6_sum 50 = .ok (.goto (-29), 3) := by decide +kernel
theorem dX6_sum_53 : decode cX6_sum 53 = .ok (.lload 4, 2) := by decide +kernel
theorem dX6_sum_55 : decode cX6_sum 55 = .ok (.lreturn, 1) := by decide +kernel
theorem dX6_least_0 : decode cX6_least 0 = .ok (.aload_n 0, 1) := by decide +kernel
theorem dX6_least_1 : decode cX6_least 1 = .ok (.iload_n 1, 1) := by decide +kernel
theorem dX6_least_2 : decode cX6_least 2 = .ok (.iload_n 2, 1) := by decide +kernel
theorem dX6_least_3 : decode cX6_least 3 = .ok (.invokevirtual 82, 3) := by decide +kernel
theorem dX6_least_6 : decode cX6_least 6 = .ok (.istore_n 3, 1) := by decide +kernel
theorem dX6_least_7 : decode cX6_least 7 = .ok (.iload_n 3, 1) := by decide +kernel
theorem dX6_least_8 : decode cX6_least 8 = .ok (.ifCond .ge 7, 3) := by decide +kernel
theorem dX6_least_11 : decode cX6_least 11 = .ok (.ldc2_w 134, 3) := by decide +kernel
theorem dX6_least_14 : decode cX6_least 14 = .ok (.lreturn, 1) := by decide +kernel
theorem dX6_least_15 : decode cX6_least 15 = .ok (.aload_n 0, 1) := by decide +kernel
theorem dX6_least_16 : decode cX6_least 16 = .ok (.getfield 9, 3) := by decide +kernel
theorem dX6_least_19 : decode cX6_least 19 = .ok (.aload_n 0, 1) := by decide +kernel
theorem dX6_least_20 : decode cX6_least 20 = .ok (.getfield 37, 3) := by decide +kernel
theorem dX6_least_23 : decode cX6_least 23 = .ok (.getfield 157, 3) := by decide +kernel
theorem dX6_least_26 : decode cX6_least 26 = .ok (.iconst 0, 1) := by decide +kernel
theorem dX6_least_27 : decode cX6_least 27 = .ok (.iaload, 1) := by decide +kernel
theorem dX6_least_28 : decode cX6_least 28 = .ok (.laload, 1) := by decide +kernel
theorem dX6_least_29 : decode cX6_least 29 = .ok (.lstore 4, 2) := by decide +kernel
theorem dX6_least_31 : decode cX6_least 31 = .ok (.iconst 1, 1) := by decide +kernel
theorem dX6_least_32 : decode cX6_least 32 = .ok (.istore 6, 2) := by decide +kernel
theorem dX6_least_34 : decode cX6_least 34 = .ok (.iload 6, 2) := by decide +kernel
theorem dX6_least_36 : decode cX6_least 36 = .ok (.iload_n 3, 1) := by decide +kernel
theorem dX6_least_37 : decode cX6_least 37 = .ok (.if_icmp .gt 31, 3) := by decide +kernel
theorem dX6_least_40 : decode cX6_least 40 = .ok (.lload 4, 2) := by decide +kernel
theorem dX6_least_42 : decode cX6_least 42 = .ok (.aload_n 0, 1) := by decide +kernel
theorem dX6_least_43 : decode cX6_least 43 = .ok (.getfield 9, 3) := by decide +kernel
theorem dX6_least_46 : decode cX6_least 46 = .ok (.aload_n 0, 1) := by decide +kernel
theorem dX6_least_47 : decode cX6_least 47 = .ok (.getfield 37, 3) := by decide +kernel
theorem dX6_least_50 : decode cX6_least 50 = .ok (.getfield 157, 3) := by decide +kernel
theorem dX6_least_53 : decode cX6_least 53 = .ok (.iload 6, 2) := by decide +kernel
theorem dX6_least_55 : decode cX6_least 55 = .ok (.iaload, 1) := by decide +kernel
theorem dX6_least_56 : decode cX6_least 56 = .ok (.laload, 1) := by decide +kernel
theorem dX6_least_57 : decode cX6_least 57 = .ok (.invokestatic 163, 3) := by decide +kernel
theorem dX6_least_60 : decode cX6_least 60 = .ok (.lstore 4, 2) := by decide +kernel
theorem dX6_least_62 : decode cX6_least 62 = .ok (.iinc 6 1, 3) := by decide +kernel
theorem dX6_least_65 : decode cX6_least 65 = .ok (.goto (-31), 3) := by decide +kernel
theorem dX6_least_68 : decode cX6_least 68 = .ok (.lload 4, 2) := by decide +kernel
theorem dX6_least_70 : decode cX6_least 70 = .ok (.lreturn, 1) := by decide +kernel
theorem dX6_add_0 : decode cX6_add 0 = .ok (.aload_n 0, 1) := by decide +kernel
theorem dX6_add_1 : decode cX6_add 1 = .ok (.iload_n 1, 1) := by decide +kernel
theorem dX6_add_2 : decode cX6_add 2 = .ok (.iload_n 2, 1) := by decide +kernel
theorem dX6_add_3 : decode cX6_add 3 = .ok (.invokevirtual 82, 3) := by decide +kernel
theorem dX6_add_6 : decode cX6_add 6 = .ok (.istore 5, 2) := by decide +kernel
theorem dX6_add_8 : decode cX6_add 8 = .ok (.iload 5, 2) := by decide +kernel
theorem dX6_add_10 : decode cX6_add 10 = .ok (.bipush (-2), 2) := by decide +kernel
theorem dX6_add_12 : decode cX6_add 12 = .ok (.if_icmp .ne 6, 3) := by decide +kernel
theorem dX6_add_15 : decode cX6_add 15 = .ok (.bipush (-2), 2) := by decide +kernel
theorem dX6_add_17 : decode cX6_add 17 = .ok (.ireturn, 1) := by decide +kernel
theorem dX6_add_18 : decode cX6_add 18 = .ok (.iload 5, 2) := by decide +kernel
theorem dX6_add_20 : decode cX6_add 20 = .ok (.iconst (-1), 1) := by decide +kernel
theorem dX6_add_21 : decode cX6_add 21 = .ok (.if_icmp .ne 6, 3) := by decide +kernel
theorem dX6_add_24 : decode cX6_add 24 = .ok (.bipush (-3), 2) := by decide +kernel
theorem dX6_add_26 : decode cX6_add 26 = .ok (.ireturn, 1) := by decide +kernel
theorem dX6_add_27 : decode cX6_add 27 = .ok (.aload_n 0, 1) := by decide +kernel
theorem dX6_add_28 : decode cX6_add 28 = .ok (.getfield 51, 3) := by decide +kernel
theorem dX6_add_31 : decode cX6_add 31 = .ok (.iconst 1, 1) := by decide +kernel
theorem dX6_add_32 : decode cX6_add 32 = .ok (.iload_n 1, 1) := by decide +kernel
theorem dX6_add_33 : decode cX6_add 33 = .ok (.iload_n 2, 1) := by decide +kernel
theorem dX6_add_34 : decode cX6_add 34 = .ok (.lload_n 3, 1) := by decide +kernel
theorem dX6_add_35 : decode cX6_add 35 = .ok (.invokevirtual 94, 3) := by decide +kernel
theorem dX6_add_38 : decode cX6_add 38 = .ok (.aload_n 0, 1) := by decide +kernel
theorem dX6_add_39 : decode cX6_add 39 = .ok (.lload_n 3, 1) := by decide +kernel
theorem dX6_add_40 : decode cX6_add 40 = .ok (.invokevirtual 169, 3) := by decide +kernel
theorem dX6_add_43 : decode cX6_add 43 = .ok (.ireturn, 1) := by decide +kernel
theorem dX6_value_0 : decode cX6_value 0 = .ok (.aload_n 0, 1) := by decide +kernel
theorem dX6_value_1 : decode cX6_value 1 = .ok (.iload_n 1, 1) := by decide +kernel
theorem dX6_value_2 : decode cX6_value 2 = .ok (.invokevirtual 78, 3) := by decide +kernel
theorem dX6_value_5 : decode cX6_value 5 = .ok (.ifCond .eq 12, 3) := by decide +kernel
theorem dX6_value_8 : decode cX6_value 8 = .ok (.aload_n 0, 1) := by decide +kernel
theorem dX6_value_9 : decode cX6_value 9 = .ok (.getfield 9, 3) := by decide +kernel
theorem dX6_value_12 : decode cX6_value 12 = .ok (.iload_n 1, 1) := by decide +kernel
theorem dX6_value_13 : decode cX6_value 13 = .ok (.laload, 1) := by decide +kernel
theorem dX6_value_14 : decode cX6_value 14 = .ok (.goto 6, 3) := by decide +kernel
theorem dX6_value_17 : decode cX6_value 17 = .ok (.ldc2_w 134, 3) := by decide +kernel
theorem dX6_value_20 : decode cX6_value 20 = .ok (.lreturn, 1) := by decide +kernel
theorem dX6_set_0 : decode cX6_set 0 = .ok (.aload_n 0, 1) := by decide +kernel
theorem dX6_set_1 : decode cX6_set 1 = .ok (.iload_n 1, 1) := by decide +kernel
theorem dX6_set_2 : decode cX6_set 2 = .ok (.invokevirtual 78, 3) := by decide +kernel
theorem dX6_set_5 : decode cX6_set 5 = .ok (.ifCond .ne 6, 3) := by decide +kernel
theorem dX6_set_8 : decode cX6_set 8 = .ok (.bipush (-2), 2) := by decide +kernel
theorem dX6_set_10 : decode cX6_set 10 = .ok (.ireturn, 1) := by decide +kernel
theorem dX6_set_11 : decode cX6_set 11 = .ok (.aload_n 0, 1) := by decide +kernel
theorem dX6_set_12 : decode cX6_set 12 = .ok (.getfield 51, 3) := by decide +kernel
theorem dX6_set_15 : decode cX6_set 15 = .ok (.iconst 0, 1) := by decide +kernel
theorem dX6_set_16 : decode cX6_set 16 = .ok (.iload_n 1, 1) := by decide +kernel
theorem dX6_set_17 : decode cX6_set 17 = .ok (.iconst (-1), 1) := by decide +kernel
theorem dX6_set_18 : decode cX6_set 18 = .ok (.aload_n 0, 1) := by decide +kernel
theorem dX6_set_19 : decode cX6_set 19 = .ok (.getfield 9, 3) := by decide +kernel
theorem dX6_set_22 : decode cX6_set 22 = .ok (.iload_n 1, 1) := by decide +kernel
theorem dX6_set_23 : decode cX6_set 23 = .ok (.laload, 1) := by decide +kernel
theorem dX6_set_24 : decode cX6_set 24 = .ok (.invokevirtual 94, 3) := by decide +kernel
theorem dX6_set_27 : decode cX6_set 27 = .ok (.aload_n 0, 1) := by decide +kernel
theorem dX6_set_28 : decode cX6_set 28 = .ok (.getfield 9, 3) := by decide +kernel
theorem dX6_set_31 : decode cX6_set 31 = .ok (.iload_n 1, 1) := by decide +kernel
theorem dX6_set_32 : decode cX6_set 32 = .ok (.lload_n 2, 1) := by decide +kernel
theorem dX6_set_33 : decode cX6_set 33 = .ok (.lastore, 1) := by decide +kernel
theorem dX6_set_34 : decode cX6_set 34 = .ok (.iconst 1, 1) := by decide +kernel
theorem dX6_set_35 : decode cX6_set 35 = .ok (.ireturn, 1) := by decide +kernel
theorem dX6_root_0 : decode cX6_root 0 = .ok (.aload_n 0, 1) := by decide +kernel
theorem dX6_root_1 : decode cX6_root 1 = .ok (.iload_n 1, 1) := by decide +kernel
theorem dX6_root_2 : decode cX6_root 2 = .ok (.invokevirtual 78, 3) := by decide +kernel
theorem dX6_root_5 : decode cX6_root 5 = .ok (.ifCond .ne 6, 3) := by decide +kernel
theorem dX6_root_8 : decode cX6_root 8 = .ok (.bipush (-2), 2) := by decide +kernel
theorem dX6_root_10 : decode cX6_root 10 = .ok (.ireturn, 1) := by decide +kernel
theorem dX6_root_11 : decode cX6_root 11 = .ok (.aload_n 0, 1) := by decide +kernel
theorem dX6_root_12 : decode cX6_root 12 = .ok (.iload_n 1, 1) := by decide +kernel
theorem dX6_root_13 : decode cX6_root 13 = .ok (.invokevirtual 173, 3) := by decide +kernel
theorem dX6_root_16 : decode cX6_root 16 = .ok (.istore_n 2, 1) := by decide +kernel
theorem dX6_root_17 : decode cX6_root 17 = .ok (.aload_n 0, 1) := by decide +kernel
theorem dX6_root_18 : decode cX6_root 18 = .ok (.getfield 51, 3) := by decide +kernel
theorem dX6_root_21 : decode cX6_root 21 = .ok (.iconst 3, 1) := by decide +kernel
theorem dX6_root_22 : decode cX6_root 22 = .ok (.iload_n 1, 1) := by decide +kernel
theorem dX6_root_23 : decode cX6_root 23 = .ok (.aload_n 0, 1) := by decide +kernel
theorem dX6_root_24 : decode cX6_root 24 = .ok (.getfield 13, 3) := by decide +kernel
theorem dX6_root_27 : decode cX6_root 27 = .ok (.iload_n 1, 1) := by decide +kernel
theorem dX6_root_28 : decode cX6_root 28 = .ok (.iaload, 1) := by decide +kernel
theorem dX6_root_29 : decode cX6_root 29 = .ok (.lconst 0, 1) := by decide +kernel
theorem dX6_root_30 : decode cX6_root 30 = .ok (.invokevirtual 94, 3) := by decide +kernel
theorem dX6_root_33 : decode cX6_root 33 = .ok (.aload_n 0, 1) := by decide +kernel
theorem dX6_root_34 : decode cX6_root 34 = .ok (.dup, 1) := by decide +kernel
theorem dX6_root_35 : decode cX6_root 35 = .ok (.getfield 176, 3) := by decide +kernel
theorem dX6_root_38 : decode cX6_root 38 = .ok (.iconst 1, 1) := by decide +kernel
theorem dX6_root_39 : decode cX6_root 39 = .ok (.iadd, 1) := by decide +kernel
theorem dX6_root_40 : decode cX6_root 40 = .ok (.putfield 176, 3) := by decide +kernel
theorem dX6_root_43 : decode cX6_root 43 = .ok (.aload_n 0, 1) := by decide +kernel
theorem dX6_root_44 : decode cX6_root 44 = .ok (.getfield 13, 3) := by decide +kernel
theorem dX6_root_47 : decode cX6_root 47 = .ok (.iload_n 1, 1) := by decide +kernel
theorem dX6_root_48 : decode cX6_root 48 = .ok (.aload_n 0, 1) := by decide +kernel
theorem dX6_root_49 : decode cX6_root 49 = .ok (.getfield 176, 3) := by decide +kernel
theorem dX6_root_52 : decode cX6_root 52 = .ok (.iastore, 1) := by decide +kernel
theorem dX6_root_53 : decode cX6_root 53 = .ok (.iload_n 2, 1) := by decide +kernel
theorem dX6_root_54 : decode cX6_root 54 = .ok (.ireturn, 1) := by decide +kernel
theorem dX6_below_0 : decode cX6_below 0 = .ok (.aload_n 0, 1) := by decide +kernel
theorem dX6_below_1 : decode cX6_below 1 = .ok (.iload_n 1, 1) := by decide +kernel
theorem dX6_below_2 : decode cX6_below 2 = .ok (.invokevirtual 78, 3) := by decide +kernel
theorem dX6_below_5 : decode cX6_below 5 = .ok (.ifCond .ne 6, 3) := by decide +kernel
theorem dX6_below_8 : decode cX6_below 8 = .ok (.bipush (-2), 2) := by decide +kernel
theorem dX6_below_10 : decode cX6_below 10 = .ok (.ireturn, 1) := by decide +kernel
theorem dX6_below_11 : decode cX6_below 11 = .ok (.iload_n 2, 1) := by decide +kernel
theorem dX6_below_12 : decode cX6_below 12 = .ok (.tableswitch 121 0 4 #[36, 42, 60, 75, 88], 36) := by decide +kernel
theorem dX6_below_48 : decode cX6_below 48 = .ok (.aload_n 0, 1) := by decide +kernel
theorem dX6_below_49 : decode cX6_below 49 = .ok (.iload_n 1, 1) := by decide +kernel
theorem dX6_below_50 : decode cX6_below 50 = .ok (.invokevirtual 173, 3) := by decide +kernel
theorem dX6_below_53 : decode cX6_below 53 = .ok (.ireturn, 1) := by decide +kernel
theorem dX6_below_54 : decode cX6_below 54 = .ok (.aload_n 0, 1) := by decide +kernel
theorem dX6_below_55 : decode cX6_below 55 = .ok (.iload_n 1, 1) := by decide +kernel
theorem dX6_below_56 : decode cX6_below 56 = .ok (.invokevirtual 179, 3) := by decide +kernel
theorem dX6_below_59 : decode cX6_below 59 = .ok (.aload_n 0, 1) := by decide +kernel
theorem dX6_below_60 : decode cX6_below 60 = .ok (.getfield 27, 3) := by decide +kernel
theorem dX6_below_63 : decode cX6_below 63 = .ok (.aload_n 0, 1) := by decide +kernel
theorem dX6_below_64 : decode cX6_below 64 = .ok (.getfield 20, 3) := by decide +kernel
theorem dX6_below_67 : decode cX6_below 67 = .ok (.iload_n 1, 1) := by decide +kernel
theorem dX6_below_68 : decode cX6_below 68 = .ok (.invokevirtual 182, 3) := by decide +kernel
theorem dX6_below_71 : decode cX6_below 71 = .ok (.ireturn, 1) := by decide +kernel
theorem dX6_below_72 : decode cX6_below 72 = .ok (.aload_n 0, 1) := by decide +kernel
theorem dX6_below_73 : decode cX6_below 73 = .ok (.iload_n 1, 1) := by decide +kernel
theorem dX6_below_74 : decode cX6_below 74 = .ok (.invokevirtual 179, 3) := by decide +kernel
theorem dX6_below_77 : decode cX6_below 77 = .ok (.aload_n 0, 1) := by decide +kernel
theorem dX6_below_78 : decode cX6_below 78 = .ok (.getfield 27, 3) := by decide +kernel
theorem dX6_below_81 : decode cX6_below 81 = .ok (.getfield 186, 3) := by decide +kernel
theorem dX6_below_84 : decode cX6_below 84 = .ok (.iload_n 1, 1) := by decide +kernel
theorem dX6_below_85 : decode cX6_below 85 = .ok (.iaload, 1) := by decide +kernel
theorem dX6_below_86 : decode cX6_below 86 = .ok (.ireturn, 1) := by decide +kernel
theorem dX6_below_87 : decode cX6_below 87 = .ok (.aload_n 0, 1) := by decide +kernel
theorem dX6_below_88 : decode cX6_below 88 = .ok (.iload_n 1, 1) := by decide +kernel
theorem dX6_below_89 : decode cX6_below 89 = .ok (.invokevirtual 189, 3) := by decide +kernel
theorem dX6_below_92 : decode cX6_below 92 = .ok (.aload_n 0, 1) := by decide +kernel
theorem dX6_below_93 : decode cX6_below 93 = .ok (.getfield 27, 3) := by decide +kernel
theorem dX6_below_96 : decode cX6_below 96 = .ok (.getfield 152, 3) := by decide +kernel
theorem dX6_below_99 : decode cX6_below 99 = .ok (.ireturn, 1) := by decide +kernel
theorem dX6_below_100 : decode cX6_below 100 = .ok (.aload_n 0, 1) := by decide +kernel
theorem dX6_below_101 : decode cX6_below 101 = .ok (.getfield 44, 3) := by decide +kernel
theorem dX6_below_104 : decode cX6_below 104 = .ok (.aload_n 0, 1) := by decide +kernel
theorem dX6_below_105 : decode cX6_below 105 = .ok (.getfield 20, 3) := by decide +kernel
theorem dX6_below_108 : decode cX6_below 108 = .ok (.aload_n 0, 1) := by decide +kernel
