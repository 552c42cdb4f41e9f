theorem dX6_below_109 : decode cX6_below 109 = .ok (.getfield 69, 3) := by decide +kernel
theorem dX6_below_112 : decode cX6_below 112 = .ok (.invokevirtual 123, 3) := by decide +kernel
theorem dX6_below_115 : decode cX6_below 115 = .ok (.aload_n 0, 1) := by decide +kernel
theorem dX6_below_116 : decode cX6_below 116 = .ok (.getfield 44, 3) := by decide +kernel
theorem dX6_below_119 : decode cX6_below 119 = .ok (.getfield 192, 3) := by decide +kernel
theorem dX6_below_122 : decode cX6_below 122 = .ok (.iload_n 1, 1) := by decide +kernel
theorem dX6_below_123 : decode cX6_below 123 = .ok (.baload, 1) := by decide +kernel
theorem dX6_below_124 : decode cX6_below 124 = .ok (.ifCond .eq 7, 3) := by decide +kernel
theorem dX6_below_127 : decode cX6_below 127 = .ok (.iconst 1, 1) := by decide +kernel
theorem dX6_below_128 : decode cX6_below 128 = .ok (.goto 4, 3) := by decide +kernel
theorem dX6_below_131 : decode cX6_below 131 = .ok (.iconst 0, 1) := by decide +kernel
theorem dX6_below_132 : decode cX6_below 132 = .ok (.ireturn, 1) := by decide +kernel
theorem dX6_below_133 : decode cX6_below 133 = .ok (.bipush (-2), 2) := by decide +kernel
theorem dX6_below_135 : decode cX6_below 135 = .ok (.ireturn, 1) := by decide +kernel
theorem dX6_meet_0 : decode cX6_meet 0 = .ok (.aload_n 0, 1) := by decide +kernel
theorem dX6_meet_1 : decode cX6_meet 1 = .ok (.iload_n 1, 1) := by decide +kernel
theorem dX6_meet_2 : decode cX6_meet 2 = .ok (.invokevirtual 78, 3) := by decide +kernel
theorem dX6_meet_5 : decode cX6_meet 5 = .ok (.ifCond .eq 11, 3) := by decide +kernel
theorem dX6_meet_8 : decode cX6_meet 8 = .ok (.aload_n 0, 1) := by decide +kernel
theorem dX6_meet_9 : decode cX6_meet 9 = .ok (.iload_n 2, 1) := by decide +kernel
theorem dX6_meet_10 : decode cX6_meet 10 = .ok (.invokevirtual 78, 3) := by decide +kernel
theorem dX6_meet_13 : decode cX6_meet 13 = .ok (.ifCond .ne 6, 3) := by decide +kernel
theorem dX6_meet_16 : decode cX6_meet 16 = .ok (.bipush (-2), 2) := by decide +kernel
theorem dX6_meet_18 : decode cX6_meet 18 = .ok (.ireturn, 1) := by decide +kernel
theorem dX6_meet_19 : decode cX6_meet 19 = .ok (.aload_n 0, 1) := by decide +kernel
theorem dX6_meet_20 : decode cX6_meet 20 = .ok (.iload_n 1, 1) := by decide +kernel
theorem dX6_meet_21 : decode cX6_meet 21 = .ok (.invokevirtual 179, 3) := by decide +kernel
theorem dX6_meet_24 : decode cX6_meet 24 = .ok (.aload_n 0, 1) := by decide +kernel
theorem dX6_meet_25 : decode cX6_meet 25 = .ok (.getfield 27, 3) := by decide +kernel
theorem dX6_meet_28 : decode cX6_meet 28 = .ok (.getfield 153, 3) := by decide +kernel
theorem dX6_meet_31 : decode cX6_meet 31 = .ok (.iload_n 2, 1) := by decide +kernel
theorem dX6_meet_32 : decode cX6_meet 32 = .ok (.baload, 1) := by decide +kernel
theorem dX6_meet_33 : decode cX6_meet 33 = .ok (.ifCond .ne 5, 3) := by decide +kernel
theorem dX6_meet_36 : decode cX6_meet 36 = .ok (.iconst (-1), 1) := by decide +kernel
theorem dX6_meet_37 : decode cX6_meet 37 = .ok (.ireturn, 1) := by decide +kernel
theorem dX6_meet_38 : decode cX6_meet 38 = .ok (.iload_n 1, 1) := by decide +kernel
theorem dX6_meet_39 : decode cX6_meet 39 = .ok (.istore_n 3, 1) := by decide +kernel
theorem dX6_meet_40 : decode cX6_meet 40 = .ok (.iload_n 2, 1) := by decide +kernel
theorem dX6_meet_41 : decode cX6_meet 41 = .ok (.istore 4, 2) := by decide +kernel
theorem dX6_meet_43 : decode cX6_meet 43 = .ok (.iconst 0, 1) := by decide +kernel
theorem dX6_meet_44 : decode cX6_meet 44 = .ok (.istore 5, 2) := by decide +kernel
theorem dX6_meet_46 : decode cX6_meet 46 = .ok (.iload_n 3, 1) := by decide +kernel
theorem dX6_meet_47 : decode cX6_meet 47 = .ok (.iload 4, 2) := by decide +kernel
theorem dX6_meet_49 : decode cX6_meet 49 = .ok (.if_icmp .eq 70, 3) := by decide +kernel
theorem dX6_meet_52 : decode cX6_meet 52 = .ok (.iload 5, 2) := by decide +kernel
theorem dX6_meet_54 : decode cX6_meet 54 = .ok (.sipush 200, 3) := by decide +kernel
theorem dX6_meet_57 : decode cX6_meet 57 = .ok (.if_icmp .ge 62, 3) := by decide +kernel
theorem dX6_meet_60 : decode cX6_meet 60 = .ok (.aload_n 0, 1) := by decide +kernel
theorem dX6_meet_61 : decode cX6_meet 61 = .ok (.getfield 27, 3) := by decide +kernel
theorem dX6_meet_64 : decode cX6_meet 64 = .ok (.getfield 186, 3) := by decide +kernel
theorem dX6_meet_67 : decode cX6_meet 67 = .ok (.iload_n 3, 1) := by decide +kernel
theorem dX6_meet_68 : decode cX6_meet 68 = .ok (.iaload, 1) := by decide +kernel
theorem dX6_meet_69 : decode cX6_meet 69 = .ok (.aload_n 0, 1) := by decide +kernel
theorem dX6_meet_70 : decode cX6_meet 70 = .ok (.getfield 27, 3) := by decide +kernel
theorem dX6_meet_73 : decode cX6_meet 73 = .ok (.getfield 186, 3) := by decide +kernel
theorem dX6_meet_76 : decode cX6_meet 76 = .ok (.iload 4, 2) := by decide +kernel
theorem dX6_meet_78 : decode cX6_meet 78 = .ok (.iaload, 1) := by decide +kernel
theorem dX6_meet_79 : decode cX6_meet 79 = .ok (.if_icmp .lt 19, 3) := by decide +kernel
theorem dX6_meet_82 : decode cX6_meet 82 = .ok (.aload_n 0, 1) := by decide +kernel
theorem dX6_meet_83 : decode cX6_meet 83 = .ok (.getfield 27, 3) := by decide +kernel
theorem dX6_meet_86 : decode cX6_meet 86 = .ok (.aload_n 0, 1) := by decide +kernel
theorem dX6_meet_87 : decode cX6_meet 87 = .ok (.getfield 20, 3) := by decide +kernel
theorem dX6_meet_90 : decode cX6_meet 90 = .ok (.iload_n 3, 1) := by decide +kernel
theorem dX6_meet_91 : decode cX6_meet 91 = .ok (.invokevirtual 182, 3) := by decide +kernel
theorem dX6_meet_94 : decode cX6_meet 94 = .ok (.istore_n 3, 1) := by decide +kernel
theorem dX6_meet_95 : decode cX6_meet 95 = .ok (.goto 18, 3) := by decide +kernel
theorem dX6_meet_98 : decode cX6_meet 98 = .ok (.aload_n 0, 1) := by decide +kernel
theorem dX6_meet_99 : decode cX6_meet 99 = .ok (.getfield 27, 3) := by decide +kernel
theorem dX6_meet_102 : decode cX6_meet 102 = .ok (.aload_n 0, 1) := by decide +kernel
theorem dX6_meet_103 : decode cX6_meet 103 = .ok (.getfield 20, 3) := by decide +kernel
theorem dX6_meet_106 : decode cX6_meet 106 = .ok (.iload 4, 2) := by decide +kernel
theorem dX6_meet_108 : decode cX6_meet 108 = .ok (.invokevirtual 182, 3) := by decide +kernel
theorem dX6_meet_111 : decode cX6_meet 111 = .ok (.istore 4, 2) := by decide +kernel
theorem dX6_meet_113 : decode cX6_meet 113 = .ok (.iinc 5 1, 3) := by decide +kernel
theorem dX6_meet_116 : decode cX6_meet 116 = .ok (.goto (-70), 3) := by decide +kernel
theorem dX6_meet_119 : decode cX6_meet 119 = .ok (.iload_n 3, 1) := by decide +kernel
theorem dX6_meet_120 : decode cX6_meet 120 = .ok (.ireturn, 1) := by decide +kernel
theorem dX6_sumBelow_0 : decode cX6_sumBelow 0 = .ok (.aload_n 0, 1) := by decide +kernel
theorem dX6_sumBelow_1 : decode cX6_sumBelow 1 = .ok (.iload_n 1, 1) := by decide +kernel
theorem dX6_sumBelow_2 : decode cX6_sumBelow 2 = .ok (.invokevirtual 78, 3) := by decide +kernel
theorem dX6_sumBelow_5 : decode cX6_sumBelow 5 = .ok (.ifCond .ne 7, 3) := by decide +kernel
theorem dX6_sumBelow_8 : decode cX6_sumBelow 8 = .ok (.ldc2_w 134, 3) := by decide +kernel
theorem dX6_sumBelow_11 : decode cX6_sumBelow 11 = .ok (.lreturn, 1) := by decide +kernel
theorem dX6_sumBelow_12 : decode cX6_sumBelow 12 = .ok (.aload_n 0, 1) := by decide +kernel
theorem dX6_sumBelow_13 : decode cX6_sumBelow 13 = .ok (.iload_n 1, 1) := by decide +kernel
theorem dX6_sumBelow_14 : decode cX6_sumBelow 14 = .ok (.invokevirtual 189, 3) := by decide +kernel
theorem dX6_sumBelow_17 : decode cX6_sumBelow 17 = .ok (.lconst 0, 1) := by decide +kernel
theorem dX6_sumBelow_18 : decode cX6_sumBelow 18 = .ok (.lstore_n 2, 1) := by decide +kernel
theorem dX6_sumBelow_19 : decode cX6_sumBelow 19 = .ok (.iconst 0, 1) := by decide +kernel
theorem dX6_sumBelow_20 : decode cX6_sumBelow 20 = .ok (.istore 4, 2) := by decide +kernel
theorem dX6_sumBelow_22 : decode cX6_sumBelow 22 = .ok (.iload 4, 2) := by decide +kernel
theorem dX6_sumBelow_24 : decode cX6_sumBelow 24 = .ok (.aload_n 0, 1) := by decide +kernel
theorem dX6_sumBelow_25 : decode cX6_sumBelow 25 = .ok (.getfield 27, 3) := by decide +kernel
theorem dX6_sumBelow_28 : decode cX6_sumBelow 28 = .ok (.getfield 152, 3) := by decide +kernel
theorem dX6_sumBelow_31 : decode cX6_sumBelow 31 = .ok (.if_icmp .ge 27, 3) := by decide +kernel
theorem dX6_sumBelow_34 : decode cX6_sumBelow 34 = .ok (.lload_n 2, 1) := by decide +kernel
theorem dX6_sumBelow_35 : decode cX6_sumBelow 35 = .ok (.aload_n 0, 1) := by decide +kernel
theorem dX6_sumBelow_36 : decode cX6_sumBelow 36 = .ok (.getfield 9, 3) := by decide +kernel
theorem dX6_sumBelow_39 : decode cX6_sumBelow 39 = .ok (.aload_n 0, 1) := by decide +kernel
theorem dX6_sumBelow_40 : decode cX6_sumBelow 40 = .ok (.getfield 27, 3) := by decide +kernel
theorem dX6_sumBelow_43 : decode cX6_sumBelow 43 = .ok (.getfield 195, 3) := by decide +kernel
theorem dX6_sumBelow_46 : decode cX6_sumBelow 46 = .ok (.iload 4, 2) := by decide +kernel
theorem dX6_sumBelow_48 : decode cX6_sumBelow 48 = .ok (.iaload, 1) := by decide +kernel
theorem dX6_sumBelow_49 : decode cX6_sumBelow 49 = .ok (.laload, 1) := by decide +kernel
theorem dX6_sumBelow_50 : decode cX6_sumBelow 50 = .ok (.ladd, 1) := by decide +kernel
theorem dX6_sumBelow_51 : decode cX6_sumBelow 51 = .ok (.lstore_n 2, 1) := by decide +kernel
theorem dX6_sumBelow_52 : decode cX6_sumBelow 52 = .ok (.iinc 4 1, 3) := by decide +kernel
theorem dX6_sumBelow_55 : decode cX6_sumBelow 55 = .ok (.goto (-33), 3) := by decide +kernel
theorem dX6_sumBelow_58 : decode cX6_sumBelow 58 = .ok (.lload_n 2, 1) := by decide +kernel
theorem dX6_sumBelow_59 : decode cX6_sumBelow 59 = .ok (.lreturn, 1) := by decide +kernel
theorem dX6_addBelow_0 : decode cX6_addBelow 0 = .ok (.aload_n 0, 1) := by decide +kernel
theorem dX6_addBelow_1 : decode cX6_addBelow 1 = .ok (.iload_n 1, 1) := by decide +kernel
theorem dX6_addBelow_2 : decode cX6_addBelow 2 = .ok (.invokevirtual 78, 3) := by decide +kernel
theorem dX6_addBelow_5 : decode cX6_addBelow 5 = .ok (.ifCond .ne 6, 3) := by decide +kernel
theorem dX6_addBelow_8 : decode cX6_addBelow 8 = .ok (.bipush (-2), 2) := by decide +kernel
theorem dX6_addBelow_10 : decode cX6_addBelow 10 = .ok (.ireturn, 1) := by decide +kernel
theorem dX6_addBelow_11 : decode cX6_addBelow 11 = .ok (.aload_n 0, 1) := by decide +kernel
theorem dX6_addBelow_12 : decode cX6_addBelow 12 = .ok (.getfield 51, 3) := by decide +kernel
theorem dX6_addBelow_15 : decode cX6_addBelow 15 = .ok (.iconst 2, 1) := by decide +kernel
theorem dX6_addBelow_16 : decode cX6_addBelow 16 = .ok (.iload_n 1, 1) := by decide +kernel
theorem dX6_addBelow_17 : decode cX6_addBelow 17 = .ok (.iconst (-1), 1) := by decide +kernel
theorem dX6_addBelow_18 : decode cX6_addBelow 18 = .ok (.lload_n 2, 1) := by decide +kernel
theorem dX6_addBelow_19 : decode cX6_addBelow 19 = .ok (.invokevirtual 94, 3) := by decide +kernel
theorem dX6_addBelow_22 : decode cX6_addBelow 22 = .ok (.aload_n 0, 1) := by decide +kernel
theorem dX6_addBelow_23 : decode cX6_addBelow 23 = .ok (.iload_n 1, 1) := by decide +kernel
theorem dX6_addBelow_24 : decode cX6_addBelow 24 = .ok (.invokevirtual 189, 3) := by decide +kernel
theorem dX6_addBelow_27 : decode cX6_addBelow 27 = .ok (.aload_n 0, 1) := by decide +kernel
theorem dX6_addBelow_28 : decode cX6_addBelow 28 = .ok (.lload_n 2, 1) := by decide +kernel
theorem dX6_addBelow_29 : decode cX6_addBelow 29 = .ok (.invokevirtual 198, 3) := by decide +kernel
theorem dX6_addBelow_32 : decode cX6_addBelow 32 = .ok (.ireturn, 1) := by decide +kernel
theorem dX6_undo_0 : decode cX6_undo 0 = .ok (.aload_n 0, 1) := by decide +kernel
theorem dX6_undo_1 : decode cX6_undo 1 = .ok (.getfield 51, 3) := by decide +kernel
theorem dX6_undo_4 : decode cX6_undo 4 = .ok (.invokevirtual 201, 3) := by decide +kernel
theorem dX6_undo_7 : decode cX6_undo 7 = .ok (.istore_n 1, 1) := by decide +kernel
theorem dX6_undo_8 : decode cX6_undo 8 = .ok (.iload_n 1, 1) := by decide +kernel
theorem dX6_undo_9 : decode cX6_undo 9 = .ok (.iconst (-1), 1) := by decide +kernel
theorem dX6_undo_10 : decode cX6_undo 10 = .ok (.if_icmp .ne 5, 3) := by decide +kernel
theorem dX6_undo_13 : decode cX6_undo 13 = .ok (.iconst (-1), 1) := by decide +kernel
theorem dX6_undo_14 : decode cX6_undo 14 = .ok (.ireturn, 1) := by decide +kernel
theorem dX6_undo_15 : decode cX6_undo 15 = .ok (.aload_n 0, 1) := by decide +kernel
theorem dX6_undo_16 : decode cX6_undo 16 = .ok (.aload_n 0, 1) := by decide +kernel
theorem dX6_undo_17 : decode cX6_undo 17 = .ok (.getfield 51, 3) := by decide +kernel
theorem dX6_undo_20 : decode cX6_undo 20 = .ok (.getfield 205, 3) := by decide +kernel
theorem dX6_undo_23 : decode cX6_undo 23 = .ok (.iload_n 1, 1) := by decide +kernel
theorem dX6_undo_24 : decode cX6_undo 24 = .ok (.iaload, 1) := by decide +kernel
theorem dX6_undo_25 : decode cX6_undo 25 = .ok (.aload_n 0, 1) := by decide +kernel
theorem dX6_undo_26 : decode cX6_undo 26 = .ok (.getfield 51, 3) := by decide +kernel
theorem dX6_undo_29 : decode cX6_undo 29 = .ok (.getfield 208, 3) := by decide +kernel
theorem dX6_undo_32 : decode cX6_undo 32 = .ok (.iload_n 1, 1) := by decide +kernel
theorem dX6_undo_33 : decode cX6_undo 33 = .ok (.iaload, 1) := by decide +kernel
theorem dX6_undo_34 : decode cX6_undo 34 = .ok (.aload_n 0, 1) := by decide +kernel
theorem dX6_undo_35 : decode cX6_undo 35 = .ok (.getfield 51, 3) := by decide +kernel
theorem dX6_undo_38 : decode cX6_undo 38 = .ok (.getfield 211, 3) := by decide +kernel
theorem dX6_undo_41 : decode cX6_undo 41 = .ok (.iload_n 1, 1) := by decide +kernel
theorem dX6_undo_42 : decode cX6_undo 42 = .ok (.iaload, 1) := by decide +kernel
theorem dX6_undo_43 : decode cX6_undo 43 = .ok (.aload_n 0, 1) := by decide +kernel
theorem dX6_undo_44 : decode cX6_undo 44 = .ok (.getfield 51, 3) := by decide +kernel
theorem dX6_undo_47 : decode cX6_undo 47 = .ok (.getfield 214, 3) := by decide +kernel
theorem dX6_undo_50 : decode cX6_undo 50 = .ok (.iload_n 1, 1) := by decide +kernel
theorem dX6_undo_51 : decode cX6_undo 51 = .ok (.laload, 1) := by decide +kernel
theorem dX6_undo_52 : decode cX6_undo 52 = .ok (.invokevirtual 217, 3) := by decide +kernel
theorem dX6_undo_55 : decode cX6_undo 55 = .ok (.iconst 1, 1) := by decide +kernel
theorem dX6_undo_56 : decode cX6_undo 56 = .ok (.ireturn, 1) := by decide +kernel
theorem dX6_put_0 : decode cX6_put 0 = .ok (.aload_n 0, 1) := by decide +kernel
theorem dX6_put_1 : decode cX6_put 1 = .ok (.iload_n 1, 1) := by decide +kernel
theorem dX6_put_2 : decode cX6_put 2 = .ok (.invokevirtual 220, 3) := by decide +kernel
theorem dX6_put_5 : decode cX6_put 5 = .ok (.ifCond .eq 14, 3) := by decide +kernel
theorem dX6_put_8 : decode cX6_put 8 = .ok (.aload_n 0, 1) := by decide +kernel
theorem dX6_put_9 : decode cX6_put 9 = .ok (.iload_n 2, 1) := by decide +kernel
theorem dX6_put_10 : decode cX6_put 10 = .ok (.iload_n 3, 1) := by decide +kernel
theorem dX6_put_11 : decode cX6_put 11 = .ok (.iload 4, 2) := by decide +kernel
theorem dX6_put_13 : decode cX6_put 13 = .ok (.invokevirtual 223, 3) := by decide +kernel
theorem dX6_put_16 : decode cX6_put 16 = .ok (.ifCond .ne 9, 3) := by decide +kernel
theorem dX6_put_19 : decode cX6_put 19 = .ok (.aload_n 0, 1) := by decide +kernel
theorem dX6_put_20 : decode cX6_put 20 = .ok (.iconst 1, 1) := by decide +kernel
theorem dX6_put_21 : decode cX6_put 21 = .ok (.invokevirtual 227, 3) := by decide +kernel
theorem dX6_put_24 : decode cX6_put 24 = .ok (.ireturn, 1) := by decide +kernel
theorem dX6_put_25 : decode cX6_put 25 = .ok (.aload_n 0, 1) := by decide +kernel
theorem dX6_put_26 : decode cX6_put 26 = .ok (.getfield 57, 3) := by decide +kernel
theorem dX6_put_29 : decode cX6_put 29 = .ok (.iload_n 1, 1) := by decide +kernel
theorem dX6_put_30 : decode cX6_put 30 = .ok (.aaload, 1) := by decide +kernel
theorem dX6_put_31 : decode cX6_put 31 = .ok (.astore 5, 2) := by decide +kernel
theorem dX6_put_33 : decode cX6_put 33 = .ok (.iload_n 2, 1) := by decide +kernel
theorem dX6_put_34 : decode cX6_put 34 = .ok (.tableswitch 86 1 4 #[30, 54, 64, 76], 30) := by decide +kernel
theorem dX6_put_64 : decode cX6_put 64 = .ok (.aload 5, 2) := by decide +kernel
theorem dX6_put_66 : decode cX6_put 66 = .ok (.iconst 1, 1) := by decide +kernel
theorem dX6_put_67 : decode cX6_put 67 = .ok (.invokevirtual 230, 3) := by decide +kernel
theorem dX6_put_70 : decode cX6_put 70 = .ok (.aload 5, 2) := by decide +kernel
theorem dX6_put_72 : decode cX6_put 72 = .ok (.aload_n 0, 1) := by decide +kernel
theorem dX6_put_73 : decode cX6_put 73 = .ok (.getfield 20, 3) := by decide +kernel
theorem dX6_put_76 : decode cX6_put 76 = .ok (.getfield 114, 3) := by decide +kernel
theorem dX6_put_79 : decode cX6_put 79 = .ok (.iload_n 3, 1) := by decide +kernel
theorem dX6_put_80 : decode cX6_put 80 = .ok (.iaload, 1) := by decide +kernel
theorem dX6_put_81 : decode cX6_put 81 = .ok (.i2l, 1) := by decide +kernel
theorem dX6_put_82 : decode cX6_put 82 = .ok (.invokevirtual 233, 3) := by decide +kernel
theorem dX6_put_85 : decode cX6_put 85 = .ok (.goto 41, 3) := by decide +kernel
theorem dX6_put_88 : decode cX6_put 88 = .ok (.aload_n 0, 1) := by decide +kernel
theorem dX6_put_89 : decode cX6_put 89 = .ok (.aload 5, 2) := by decide +kernel
theorem dX6_put_91 : decode cX6_put 91 = .ok (.iload_n 3, 1) := by decide +kernel
theorem dX6_put_92 : decode cX6_put 92 = .ok (.invokevirtual 237, 3) := by decide +kernel
theorem dX6_put_95 : decode cX6_put 95 = .ok (.goto 31, 3) := by decide +kernel
theorem dX6_put_98 : decode cX6_put 98 = .ok (.aload_n 0, 1) := by decide +kernel
theorem dX6_put_99 : decode cX6_put 99 = .ok (.aload 5, 2) := by decide +kernel
theorem dX6_put_101 : decode cX6_put 101 = .ok (.iload_n 3, 1) := by decide +kernel
theorem dX6_put_102 : decode cX6_put 102 = .ok (.iload 4, 2) := by decide +kernel
theorem dX6_put_104 : decode cX6_put 104 = .ok (.invokevirtual 241, 3) := by decide +kernel
theorem dX6_put_107 : decode cX6_put 107 = .ok (.goto 19, 3) := by decide +kernel
theorem dX6_put_110 : decode cX6_put 110 = .ok (.aload_n 0, 1) := by decide +kernel
theorem dX6_put_111 : decode cX6_put 111 = .ok (.aload 5, 2) := by decide +kernel
theorem dX6_put_113 : decode cX6_put 113 = .ok (.iload_n 3, 1) := by decide +kernel
theorem dX6_put_114 : decode cX6_put 114 = .ok (.invokevirtual 245, 3) := by decide +kernel
theorem dX6_put_117 : decode cX6_put 117 = .ok (.goto 9, 3) := by decide +kernel
theorem dX6_put_120 : decode cX6_put 120 = .ok (.aload 5, 2) := by decide +kernel
theorem dX6_put_122 : decode cX6_put 122 = .ok (.iconst 0, 1) := by decide +kernel
theorem dX6_put_123 : decode cX6_put 123 = .ok (.invokevirtual 230, 3) := by decide +kernel
theorem dX6_put_126 : decode cX6_put 126 = .ok (.aload_n 0, 1) := by decide +kernel
theorem dX6_put_127 : decode cX6_put 127 = .ok (.iconst 0, 1) := by decide +kernel
theorem dX6_put_128 : decode cX6_put 128 = .ok (.putfield 65, 3) := by decide +kernel
theorem dX6_put_131 : decode cX6_put 131 = .ok (.iconst 1, 1) := by decide +kernel
theorem dX6_put_132 : decode cX6_put 132 = .ok (.ireturn, 1) := by decide +kernel
theorem dX6_forge_0 : decode cX6_forge 0 = .ok (.aload_n 0, 1) := by decide +kernel
theorem dX6_forge_1 : decode cX6_forge 1 = .ok (.iload_n 1, 1) := by decide +kernel
theorem dX6_forge_2 : decode cX6_forge 2 = .ok (.invokevirtual 220, 3) := by decide +kernel
theorem dX6_forge_5 : decode cX6_forge 5 = .ok (.ifCond .eq 25, 3) := by decide +kernel
theorem dX6_forge_8 : decode cX6_forge 8 = .ok (.iload_n 2, 1) := by decide +kernel
theorem dX6_forge_9 : decode cX6_forge 9 = .ok (.ifCond .lt 21, 3) := by decide +kernel
theorem dX6_forge_12 : decode cX6_forge 12 = .ok (.iload_n 2, 1) := by decide +kernel
theorem dX6_forge_13 : decode cX6_forge 13 = .ok (.bipush 8, 2) := by decide +kernel
theorem dX6_forge_15 : decode cX6_forge 15 = .ok (.if_icmp .gt 15, 3) := by decide +kernel
theorem dX6_forge_18 : decode cX6_forge 18 = .ok (.iload_n 3, 1) := by decide +kernel
theorem dX6_forge_19 : decode cX6_forge 19 = .ok (.bipush (-100), 2) := by decide +kernel
theorem dX6_forge_21 : decode cX6_forge 21 = .ok (.if_icmp .lt 9, 3) := by decide +kernel
theorem dX6_forge_24 : decode cX6_forge 24 = .ok (.iload_n 3, 1) := by decide +kernel
theorem dX6_forge_25 : decode cX6_forge 25 = .ok (.bipush 100, 2) := by decide +kernel
theorem dX6_forge_27 : decode cX6_forge 27 = .ok (.if_icmp .le 9, 3) := by decide +kernel
theorem dX6_forge_30 : decode cX6_forge 30 = .ok (.aload_n 0, 1) := by decide +kernel
theorem dX6_forge_31 : decode cX6_forge 31 = .ok (.iconst 1, 1) := by decide +kernel
theorem dX6_forge_32 : decode cX6_forge 32 = .ok (.invokevirtual 227, 3) := by decide +kernel
theorem dX6_forge_35 : decode cX6_forge 35 = .ok (.ireturn, 1) := by decide +kernel
theorem dX6_forge_36 : decode cX6_forge 36 = .ok (.aload_n 0, 1) := by decide +kernel
theorem dX6_forge_37 : decode cX6_forge 37 = .ok (.getfield 57, 3) := by decide +kernel
theorem dX6_forge_40 : decode cX6_forge 40 = .ok (.iload_n 1, 1) := by decide +kernel
theorem dX6_forge_41 : decode cX6_forge 41 = .ok (.aaload, 1) := by decide +kernel
theorem dX6_forge_42 : decode cX6_forge 42 = .ok (.astore 4, 2) := by decide +kernel
theorem dX6_forge_44 : decode cX6_forge 44 = .ok (.iload_n 2, 1) := by decide +kernel
theorem dX6_forge_45 : decode cX6_forge 45 = .ok (.tableswitch 139 0 7 #[47, 56, 65, 73, 82, 101, 109, 116], 47) := by decide +kernel
theorem dX6_forge_92 : decode cX6_forge 92 = .ok (.aload_n 0, 1) := by decide +kernel
theorem dX6_forge_93 : decode cX6_forge 93 = .ok (.aload 4, 2) := by decide +kernel
theorem dX6_forge_95 : decode cX6_forge 95 = .ok (.iconst 1, 1) := by decide +kernel
theorem dX6_forge_96 : decode cX6_forge 96 = .ok (.iconst 0, 1) := by decide +kernel
theorem dX6_forge_97 : decode cX6_forge 97 = .ok (.invokevirtual 248, 3) := by decide +kernel
theorem dX6_forge_100 : decode cX6_forge 100 = .ok (.ireturn, 1) := by decide +kernel
theorem dX6_forge_101 : decode cX6_forge 101 = .ok (.aload_n 0, 1) := by decide +kernel
theorem dX6_forge_102 : decode cX6_forge 102 = .ok (.aload 4, 2) := by decide +kernel
theorem dX6_forge_104 : decode cX6_forge 104 = .ok (.iconst 2, 1) := by decide +kernel
theorem dX6_forge_105 : decode cX6_forge 105 = .ok (.iload_n 3, 1) := by decide +kernel
theorem dX6_forge_106 : decode cX6_forge 106 = .ok (.invokevirtual 248, 3) := by decide +kernel
theorem dX6_forge_109 : decode cX6_forge 109 = .ok (.ireturn, 1) := by decide +kernel
theorem dX6_forge_110 : decode cX6_forge 110 = .ok (.aload_n 0, 1) := by decide +kernel
theorem dX6_forge_111 : decode cX6_forge 111 = .ok (.aload 4, 2) := by decide +kernel
theorem dX6_forge_113 : decode cX6_forge 113 = .ok (.iload_n 3, 1) := by decide +kernel
theorem dX6_forge_114 : decode cX6_forge 114 = .ok (.invokevirtual 252, 3) := by decide +kernel
theorem dX6_forge_117 : decode cX6_forge 117 = .ok (.ireturn, 1) := by decide +kernel
theorem dX6_forge_118 : decode cX6_forge 118 = .ok (.aload_n 0, 1) := by decide +kernel
theorem dX6_forge_119 : decode cX6_forge 119 = .ok (.aload 4, 2) := by decide +kernel
theorem dX6_forge_121 : decode cX6_forge 121 = .ok (.iconst 4, 1) := by decide +kernel
theorem dX6_forge_122 : decode cX6_forge 122 = .ok (.iload_n 3, 1) := by decide +kernel
theorem dX6_forge_123 : decode cX6_forge 123 = .ok (.invokevirtual 248, 3) := by decide +kernel
theorem dX6_forge_126 : decode cX6_forge 126 = .ok (.ireturn, 1) := by decide +kernel
theorem dX6_forge_127 : decode cX6_forge 127 = .ok (.iload_n 3, 1) := by decide +kernel
theorem dX6_forge_128 : decode cX6_forge 128 = .ok (.ifCond .ge 12, 3) := by decide +kernel
theorem dX6_forge_131 : decode cX6_forge 131 = .ok (.aload_n 0, 1) := by decide +kernel
theorem dX6_forge_132 : decode cX6_forge 132 = .ok (.bipush 13, 2) := by decide +kernel
theorem dX6_forge_134 : decode cX6_forge 134 = .ok (.invokevirtual 227, 3) := by decide +kernel
theorem dX6_forge_137 : decode cX6_forge 137 = .ok (.goto 8, 3) := by decide +kernel
theorem dX6_forge_140 : decode cX6_forge 140 = .ok (.aload_n 0, 1) := by decide +kernel
theorem dX6_forge_141 : decode cX6_forge 141 = .ok (.iload_n 3, 1) := by decide +kernel
theorem dX6_forge_142 : decode cX6_forge 142 = .ok (.invokevirtual 256, 3) := by decide +kernel
theorem dX6_forge_145 : decode cX6_forge 145 = .ok (.ireturn, 1) := by decide +kernel
theorem dX6_forge_146 : decode cX6_forge 146 = .ok (.aload_n 0, 1) := by decide +kernel
theorem dX6_forge_147 : decode cX6_forge 147 = .ok (.aload 4, 2) := by decide +kernel
theorem dX6_forge_149 : decode cX6_forge 149 = .ok (.iload_n 3, 1) := by decide +kernel
theorem dX6_forge_150 : decode cX6_forge 150 = .ok (.invokevirtual 259, 3) := by decide +kernel
theorem dX6_forge_153 : decode cX6_forge 153 = .ok (.ireturn, 1) := by decide +kernel
theorem dX6_forge_154 : decode cX6_forge 154 = .ok (.aload_n 0, 1) := by decide +kernel
theorem dX6_forge_155 : decode cX6_forge 155 = .ok (.aload 4, 2) := by decide +kernel
theorem dX6_forge_157 : decode cX6_forge 157 = .ok (.invokevirtual 262, 3) := by decide +kernel
theorem dX6_forge_160 : decode cX6_forge 160 = .ok (.ireturn, 1) := by decide +kernel
theorem dX6_forge_161 : decode cX6_forge 161 = .ok (.iload_n 3, 1) := by decide +kernel
theorem dX6_forge_162 : decode cX6_forge 162 = .ok (.ifCond .ne 12, 3) := by decide +kernel
theorem dX6_forge_165 : decode cX6_forge 165 = .ok (.aload_n 0, 1) := by decide +kernel
theorem dX6_forge_166 : decode cX6_forge 166 = .ok (.bipush 15, 2) := by decide +kernel
theorem dX6_forge_168 : decode cX6_forge 168 = .ok (.invokevirtual 227, 3) := by decide +kernel
theorem dX6_forge_171 : decode cX6_forge 171 = .ok (.goto 12, 3) := by decide +kernel
theorem dX6_forge_174 : decode cX6_forge 174 = .ok (.aload_n 0, 1) := by decide +kernel
theorem dX6_forge_175 : decode cX6_forge 175 = .ok (.sipush 1000, 3) := by decide +kernel
theorem dX6_forge_178 : decode cX6_forge 178 = .ok (.iload_n 3, 1) := by decide +kernel
theorem dX6_forge_179 : decode cX6_forge 179 = .ok (.idiv, 1) := by decide +kernel
theorem dX6_forge_180 : decode cX6_forge 180 = .ok (.invokevirtual 256, 3) := by decide +kernel
theorem dX6_forge_183 : decode cX6_forge 183 = .ok (.ireturn, 1) := by decide +kernel
theorem dX6_forge_184 : decode cX6_forge 184 = .ok (.aload_n 0, 1) := by decide +kernel
theorem dX6_forge_185 : decode cX6_forge 185 = .ok (.bipush 10, 2) := by decide +kernel
theorem dX6_forge_187 : decode cX6_forge 187 = .ok (.invokevirtual 227, 3) := by decide +kernel
theorem dX6_forge_190 : decode cX6_forge 190 = .ok (.ireturn, 1) := by decide +kernel
theorem dX6_status_0 : decode cX6_status 0 = .ok (.aload_n 0, 1) := by decide +kernel
theorem dX6_status_1 : decode cX6_status 1 = .ok (.getfield 65, 3) := by decide +kernel
theorem dX6_status_4 : decode cX6_status 4 = .ok (.ireturn, 1) := by decide +kernel
theorem dX6_isKnot_0 : decode cX6_isKnot 0 = .ok (.iload_n 1, 1) := by decide +kernel
theorem dX6_isKnot_1 : decode cX6_isKnot 1 = .ok (.ifCond .lt 15, 3) := by decide +kernel
theorem dX6_isKnot_4 : decode cX6_isKnot 4 = .ok (.iload_n 1, 1) := by decide +kernel
theorem dX6_isKnot_5 : decode cX6_isKnot 5 = .ok (.aload_n 0, 1) := by decide +kernel
theorem dX6_isKnot_6 : decode cX6_isKnot 6 = .ok (.getfield 69, 3) := by decide +kernel
theorem dX6_isKnot_9 : decode cX6_isKnot 9 = .ok (.if_icmp .ge 7, 3) := by decide +kernel
theorem dX6_isKnot_12 : decode cX6_isKnot 12 = .ok (.iconst 1, 1) := by decide +kernel
theorem dX6_isKnot_13 : decode cX6_isKnot 13 = .ok (.goto 4, 3) := by decide +kernel
theorem dX6_isKnot_16 : decode cX6_isKnot 16 = .ok (.iconst 0, 1) := by decide +kernel
theorem dX6_isKnot_17 : decode cX6_isKnot 17 = .ok (.ireturn, 1) := by decide +kernel
theorem dX6_isTray_0 : decode cX6_isTray 0 = .ok (.iload_n 1, 1) := by decide +kernel
theorem dX6_isTray_1 : decode cX6_isTray 1 = .ok (.ifCond .lt 13, 3) := by decide +kernel
theorem dX6_isTray_4 : decode cX6_isTray 4 = .ok (.iload_n 1, 1) := by decide +kernel
theorem dX6_isTray_5 : decode cX6_isTray 5 = .ok (.bipush 6, 2) := by decide +kernel
theorem dX6_isTray_7 : decode cX6_isTray 7 = .ok (.if_icmp .ge 7, 3) := by decide +kernel
theorem dX6_isTray_10 : decode cX6_isTray 10 = .ok (.iconst 1, 1) := by decide +kernel
theorem dX6_isTray_11 : decode cX6_isTray 11 = .ok (.goto 4, 3) := by decide +kernel
theorem dX6_isTray_14 : decode cX6_isTray 14 = .ok (.iconst 0, 1) := by decide +kernel
theorem dX6_isTray_15 : decode cX6_isTray 15 = .ok (.ireturn, 1) := by decide +kernel
theorem dX6_layTrack_0 : decode cX6_layTrack 0 = .ok (.aload_n 0, 1) := by decide +kernel
theorem dX6_layTrack_1 : decode cX6_layTrack 1 = .ok (.iload_n 1, 1) := by decide +kernel
theorem dX6_layTrack_2 : decode cX6_layTrack 2 = .ok (.invokevirtual 78, 3) := by decide +kernel
theorem dX6_layTrack_5 : decode cX6_layTrack 5 = .ok (.ifCond .eq 11, 3) := by decide +kernel
theorem dX6_layTrack_8 : decode cX6_layTrack 8 = .ok (.aload_n 0, 1) := by decide +kernel
theorem dX6_layTrack_9 : decode cX6_layTrack 9 = .ok (.iload_n 2, 1) := by decide +kernel
theorem dX6_layTrack_10 : decode cX6_layTrack 10 = .ok (.invokevirtual 78, 3) := by decide +kernel
theorem dX6_layTrack_13 : decode cX6_layTrack 13 = .ok (.ifCond .ne 6, 3) := by decide +kernel
theorem dX6_layTrack_16 : decode cX6_layTrack 16 = .ok (.bipush (-2), 2) := by decide +kernel
theorem dX6_layTrack_18 : decode cX6_layTrack 18 = .ok (.ireturn, 1) := by decide +kernel
theorem dX6_layTrack_19 : decode cX6_layTrack 19 = .ok (.aload_n 0, 1) := by decide +kernel
theorem dX6_layTrack_20 : decode cX6_layTrack 20 = .ok (.iload_n 2, 1) := by decide +kernel
theorem dX6_layTrack_21 : decode cX6_layTrack 21 = .ok (.invokevirtual 148, 3) := by decide +kernel
theorem dX6_layTrack_24 : decode cX6_layTrack 24 = .ok (.aload_n 0, 1) := by decide +kernel
theorem dX6_layTrack_25 : decode cX6_layTrack 25 = .ok (.getfield 37, 3) := by decide +kernel
theorem dX6_layTrack_28 : decode cX6_layTrack 28 = .ok (.aload_n 0, 1) := by decide +kernel
theorem dX6_layTrack_29 : decode cX6_layTrack 29 = .ok (.getfield 20, 3) := by decide +kernel
theorem dX6_layTrack_32 : decode cX6_layTrack 32 = .ok (.aload_n 0, 1) := by decide +kernel
theorem dX6_layTrack_33 : decode cX6_layTrack 33 = .ok (.getfield 27, 3) := by decide +kernel
theorem dX6_layTrack_36 : decode cX6_layTrack 36 = .ok (.iload_n 1, 1) := by decide +kernel
theorem dX6_layTrack_37 : decode cX6_layTrack 37 = .ok (.invokevirtual 266, 3) := by decide +kernel
theorem dX6_layTrack_40 : decode cX6_layTrack 40 = .ok (.aload_n 0, 1) := by decide +kernel
theorem dX6_layTrack_41 : decode cX6_layTrack 41 = .ok (.getfield 37, 3) := by decide +kernel
theorem dX6_layTrack_44 : decode cX6_layTrack 44 = .ok (.getfield 269, 3) := by decide +kernel
theorem dX6_layTrack_47 : decode cX6_layTrack 47 = .ok (.ireturn, 1) := by decide +kernel
theorem dX6_floodPart_0 : decode cX6_floodPart 0 = .ok (.aload_n 0, 1) := by decide +kernel
theorem dX6_floodPart_1 : decode cX6_floodPart 1 = .ok (.getfield 27, 3) := by decide +kernel
theorem dX6_floodPart_4 : decode cX6_floodPart 4 = .ok (.aload_n 0, 1) := by decide +kernel
theorem dX6_floodPart_5 : decode cX6_floodPart 5 = .ok (.getfield 20, 3) := by decide +kernel
theorem dX6_floodPart_8 : decode cX6_floodPart 8 = .ok (.iload_n 1, 1) := by decide +kernel
theorem dX6_floodPart_9 : decode cX6_floodPart 9 = .ok (.iconst (-1), 1) := by decide +kernel
theorem dX6_floodPart_10 : decode cX6_floodPart 10 = .ok (.iconst 0, 1) := by decide +kernel
theorem dX6_floodPart_11 : decode cX6_floodPart 11 = .ok (.invokevirtual 270, 3) := by decide +kernel
theorem dX6_floodPart_14 : decode cX6_floodPart 14 = .ok (.return_, 1) := by decide +kernel
theorem dX6_findRoot_0 : decode cX6_findRoot 0 = .ok (.aload_n 0, 1) := by decide +kernel
theorem dX6_findRoot_1 : decode cX6_findRoot 1 = .ok (.getfield 27, 3) := by decide +kernel
theorem dX6_findRoot_4 : decode cX6_findRoot 4 = .ok (.aload_n 0, 1) := by decide +kernel
theorem dX6_findRoot_5 : decode cX6_findRoot 5 = .ok (.getfield 20, 3) := by decide +kernel
theorem dX6_findRoot_8 : decode cX6_findRoot 8 = .ok (.iload_n 1, 1) := by decide +kernel
theorem dX6_findRoot_9 : decode cX6_findRoot 9 = .ok (.iconst (-1), 1) := by decide +kernel
theorem dX6_findRoot_10 : decode cX6_findRoot 10 = .ok (.iconst 0, 1) := by decide +kernel
theorem dX6_findRoot_11 : decode cX6_findRoot 11 = .ok (.invokevirtual 270, 3) := by decide +kernel
theorem dX6_findRoot_14 : decode cX6_findRoot 14 = .ok (.iload_n 1, 1) := by decide +kernel
theorem dX6_findRoot_15 : decode cX6_findRoot 15 = .ok (.istore_n 2, 1) := by decide +kernel
theorem dX6_findRoot_16 : decode cX6_findRoot 16 = .ok (.iconst 0, 1) := by decide +kernel
theorem dX6_findRoot_17 : decode cX6_findRoot 17 = .ok (.istore_n 3, 1) := by decide +kernel
theorem dX6_findRoot_18 : decode cX6_findRoot 18 = .ok (.iload_n 3, 1) := by decide +kernel
theorem dX6_findRoot_19 : decode cX6_findRoot 19 = .ok (.aload_n 0, 1) := by decide +kernel
theorem dX6_findRoot_20 : decode cX6_findRoot 20 = .ok (.getfield 27, 3) := by decide +kernel
theorem dX6_findRoot_23 : decode cX6_findRoot 23 = .ok (.getfield 152, 3) := by decide +kernel
theorem dX6_findRoot_26 : decode cX6_findRoot 26 = .ok (.if_icmp .ge 61, 3) := by decide +kernel
theorem dX6_findRoot_29 : decode cX6_findRoot 29 = .ok (.aload_n 0, 1) := by decide +kernel
theorem dX6_findRoot_30 : decode cX6_findRoot 30 = .ok (.getfield 27, 3) := by decide +kernel
theorem dX6_findRoot_33 : decode cX6_findRoot 33 = .ok (.getfield 195, 3) := by decide +kernel
theorem dX6_findRoot_36 : decode cX6_findRoot 36 = .ok (.iload_n 3, 1) := by decide +kernel
theorem dX6_findRoot_37 : decode cX6_findRoot 37 = .ok (.iaload, 1) := by decide +kernel
theorem dX6_findRoot_38 : decode cX6_findRoot 38 = .ok (.istore 4, 2) := by decide +kernel
theorem dX6_findRoot_40 : decode cX6_findRoot 40 = .ok (.aload_n 0, 1) := by decide +kernel
theorem dX6_findRoot_41 : decode cX6_findRoot 41 = .ok (.getfield 13, 3) := by decide +kernel
theorem dX6_findRoot_44 : decode cX6_findRoot 44 = .ok (.iload 4, 2) := by decide +kernel
theorem dX6_findRoot_46 : decode cX6_findRoot 46 = .ok (.iaload, 1) := by decide +kernel
theorem dX6_findRoot_47 : decode cX6_findRoot 47 = .ok (.aload_n 0, 1) := by decide +kernel
theorem dX6_findRoot_48 : decode cX6_findRoot 48 = .ok (.getfield 13, 3) := by decide +kernel
theorem dX6_findRoot_51 : decode cX6_findRoot 51 = .ok (.iload_n 2, 1) := by decide +kernel
theorem dX6_findRoot_52 : decode cX6_findRoot 52 = .ok (.iaload, 1) := by decide +kernel
theorem dX6_findRoot_53 : decode cX6_findRoot 53 = .ok (.if_icmp .gt 25, 3) := by decide +kernel
theorem dX6_findRoot_56 : decode cX6_findRoot 56 = .ok (.aload_n 0, 1) := by decide +kernel
theorem dX6_findRoot_57 : decode cX6_findRoot 57 = .ok (.getfield 13, 3) := by decide +kernel
theorem dX6_findRoot_60 : decode cX6_findRoot 60 = .ok (.iload 4, 2) := by decide +kernel
theorem dX6_findRoot_62 : decode cX6_findRoot 62 = .ok (.iaload, 1) := by decide +kernel
theorem dX6_findRoot_63 : decode cX6_findRoot 63 = .ok (.aload_n 0, 1) := by decide +kernel
theorem dX6_findRoot_64 : decode cX6_findRoot 64 = .ok (.getfield 13, 3) := by decide +kernel
theorem dX6_findRoot_67 : decode cX6_findRoot 67 = .ok (.iload_n 2, 1) := by decide +kernel
theorem dX6_findRoot_68 : decode cX6_findRoot 68 = .ok (.iaload, 1) := by decide +kernel
theorem dX6_findRoot_69 : decode cX6_findRoot 69 = .ok (.if_icmp .ne 12, 3) := by decide +kernel
theorem dX6_findRoot_72 : decode cX6_findRoot 72 = .ok (.iload 4, 2) := by decide +kernel
theorem dX6_findRoot_74 : decode cX6_findRoot 74 = .ok (.iload_n 2, 1) := by decide +kernel
theorem dX6_findRoot_75 : decode cX6_findRoot 75 = .ok (.if_icmp .ge 6, 3) := by decide +kernel
theorem dX6_findRoot_78 : decode cX6_findRoot 78 = .ok (.iload 4, 2) := by decide +kernel
theorem dX6_findRoot_80 : decode cX6_findRoot 80 = .ok (.istore_n 2, 1) := by decide +kernel
theorem dX6_findRoot_81 : decode cX6_findRoot 81 = .ok (.iinc 3 1, 3) := by decide +kernel
theorem dX6_findRoot_84 : decode cX6_findRoot 84 = .ok (.goto (-66), 3) := by decide +kernel
theorem dX6_findRoot_87 : decode cX6_findRoot 87 = .ok (.iload_n 2, 1) := by decide +kernel
theorem dX6_findRoot_88 : decode cX6_findRoot 88 = .ok (.ireturn, 1) := by decide +kernel
theorem dX6_floodFromRoot_0 : decode cX6_floodFromRoot 0 = .ok (.aload_n 0, 1) := by decide +kernel
theorem dX6_floodFromRoot_1 : decode cX6_floodFromRoot 1 = .ok (.getfield 27, 3) := by decide +kernel
theorem dX6_floodFromRoot_4 : decode cX6_floodFromRoot 4 = .ok (.aload_n 0, 1) := by decide +kernel
theorem dX6_floodFromRoot_5 : decode cX6_floodFromRoot 5 = .ok (.getfield 20, 3) := by decide +kernel
theorem dX6_floodFromRoot_8 : decode cX6_floodFromRoot 8 = .ok (.aload_n 0, 1) := by decide +kernel
theorem dX6_floodFromRoot_9 : decode cX6_floodFromRoot 9 = .ok (.iload_n 1, 1) := by decide +kernel
theorem dX6_floodFromRoot_10 : decode cX6_floodFromRoot 10 = .ok (.invokevirtual 173, 3) := by decide +kernel
theorem dX6_floodFromRoot_13 : decode cX6_floodFromRoot 13 = .ok (.iconst (-1), 1) := by decide +kernel
theorem dX6_floodFromRoot_14 : decode cX6_floodFromRoot 14 = .ok (.iconst 0, 1) := by decide +kernel
theorem dX6_floodFromRoot_15 : decode cX6_floodFromRoot 15 = .ok (.invokevirtual 270, 3) := by decide +kernel
theorem dX6_floodFromRoot_18 : decode cX6_floodFromRoot 18 = .ok (.return_, 1) := by decide +kernel
theorem dX6_floodBelow_0 : decode cX6_floodBelow 0 = .ok (.aload_n 0, 1) := by decide +kernel
theorem dX6_floodBelow_1 : decode cX6_floodBelow 1 = .ok (.getfield 27, 3) := by decide +kernel
theorem dX6_floodBelow_4 : decode cX6_floodBelow 4 = .ok (.aload_n 0, 1) := by decide +kernel
theorem dX6_floodBelow_5 : decode cX6_floodBelow 5 = .ok (.getfield 20, 3) := by decide +kernel
theorem dX6_floodBelow_8 : decode cX6_floodBelow 8 = .ok (.aload_n 0, 1) := by decide +kernel
theorem dX6_floodBelow_9 : decode cX6_floodBelow 9 = .ok (.iload_n 1, 1) := by decide +kernel
theorem dX6_floodBelow_10 : decode cX6_floodBelow 10 = .ok (.invokevirtual 173, 3) := by decide +kernel
theorem dX6_floodBelow_13 : decode cX6_floodBelow 13 = .ok (.iconst (-1), 1) := by decide +kernel
theorem dX6_floodBelow_14 : decode cX6_floodBelow 14 = .ok (.iconst 0, 1) := by decide +kernel
theorem dX6_floodBelow_15 : decode cX6_floodBelow 15 = .ok (.invokevirtual 270, 3) := by decide +kernel
theorem dX6_floodBelow_18 : decode cX6_floodBelow 18 = .ok (.aload_n 0, 1) := by decide +kernel
theorem dX6_floodBelow_19 : decode cX6_floodBelow 19 = .ok (.getfield 27, 3) := by decide +kernel
theorem dX6_floodBelow_22 : decode cX6_floodBelow 22 = .ok (.aload_n 0, 1) := by decide +kernel
theorem dX6_floodBelow_23 : decode cX6_floodBelow 23 = .ok (.getfield 20, 3) := by decide +kernel
theorem dX6_floodBelow_26 : decode cX6_floodBelow 26 = .ok (.iload_n 1, 1) := by decide +kernel
theorem dX6_floodBelow_27 : decode cX6_floodBelow 27 = .ok (.aload_n 0, 1) := by decide +kernel
theorem dX6_floodBelow_28 : decode cX6_floodBelow 28 = .ok (.getfield 27, 3) := by decide +kernel
theorem dX6_floodBelow_31 : decode cX6_floodBelow 31 = .ok (.getfield 274, 3) := by decide +kernel
theorem dX6_floodBelow_34 : decode cX6_floodBelow 34 = .ok (.iload_n 1, 1) := by decide +kernel
theorem dX6_floodBelow_35 : decode cX6_floodBelow 35 = .ok (.iaload, 1) := by decide +kernel
theorem dX6_floodBelow_36 : decode cX6_floodBelow 36 = .ok (.iconst 0, 1) := by decide +kernel
theorem dX6_floodBelow_37 : decode cX6_floodBelow 37 = .ok (.invokevirtual 270, 3) := by decide +kernel
theorem dX6_floodBelow_40 : decode cX6_floodBelow 40 = .ok (.return_, 1) := by decide +kernel
theorem dX6_addOnTrack_0 : decode cX6_addOnTrack 0 = .ok (.iconst 0, 1) := by decide +kernel
theorem dX6_addOnTrack_1 : decode cX6_addOnTrack 1 = .ok (.istore_n 3, 1) := by decide +kernel
theorem dX6_addOnTrack_2 : decode cX6_addOnTrack 2 = .ok (.iload_n 3, 1) := by decide +kernel
theorem dX6_addOnTrack_3 : decode cX6_addOnTrack 3 = .ok (.aload_n 0, 1) := by decide +kernel
theorem dX6_addOnTrack_4 : decode cX6_addOnTrack 4 = .ok (.getfield 37, 3) := by decide +kernel
theorem dX6_addOnTrack_7 : decode cX6_addOnTrack 7 = .ok (.getfield 269, 3) := by decide +kernel
theorem dX6_addOnTrack_10 : decode cX6_addOnTrack 10 = .ok (.if_icmp .gt 27, 3) := by decide +kernel
theorem dX6_addOnTrack_13 : decode cX6_addOnTrack 13 = .ok (.aload_n 0, 1) := by decide +kernel
theorem dX6_addOnTrack_14 : decode cX6_addOnTrack 14 = .ok (.getfield 9, 3) := by decide +kernel
theorem dX6_addOnTrack_17 : decode cX6_addOnTrack 17 = .ok (.aload_n 0, 1) := by decide +kernel
theorem dX6_addOnTrack_18 : decode cX6_addOnTrack 18 = .ok (.getfield 37, 3) := by decide +kernel
theorem dX6_addOnTrack_21 : decode cX6_addOnTrack 21 = .ok (.getfield 157, 3) := by decide +kernel
theorem dX6_addOnTrack_24 : decode cX6_addOnTrack 24 = .ok (.iload_n 3, 1) := by decide +kernel
theorem dX6_addOnTrack_25 : decode cX6_addOnTrack 25 = .ok (.iaload, 1) := by decide +kernel
theorem dX6_addOnTrack_26 : decode cX6_addOnTrack 26 = .ok (.dup2, 1) := by decide +kernel
theorem dX6_addOnTrack_27 : decode cX6_addOnTrack 27 = .ok (.laload, 1) := by decide +kernel
theorem dX6_addOnTrack_28 : decode cX6_addOnTrack 28 = .ok (.lload_n 1, 1) := by decide +kernel
theorem dX6_addOnTrack_29 : decode cX6_addOnTrack 29 = .ok (.ladd, 1) := by decide +kernel
theorem dX6_addOnTrack_30 : decode cX6_addOnTrack 30 = .ok (.lastore, 1) := by decide +kernel
theorem dX6_addOnTrack_31 : decode cX6_addOnTrack 31 = .ok (.iinc 3 1, 3) := by decide +kernel
theorem dX6_addOnTrack_34 : decode cX6_addOnTrack 34 = .ok (.goto (-32), 3) := by decide +kernel
theorem dX6_addOnTrack_37 : decode cX6_addOnTrack 37 = .ok (.aload_n 0, 1) := by decide +kernel
theorem dX6_addOnTrack_38 : decode cX6_addOnTrack 38 = .ok (.getfield 37, 3) := by decide +kernel
theorem dX6_addOnTrack_41 : decode cX6_addOnTrack 41 = .ok (.getfield 269, 3) := by decide +kernel
theorem dX6_addOnTrack_44 : decode cX6_addOnTrack 44 = .ok (.iconst 1, 1) := by decide +kernel
theorem dX6_addOnTrack_45 : decode cX6_addOnTrack 45 = .ok (.iadd, 1) := by decide +kernel
theorem dX6_addOnTrack_46 : decode cX6_addOnTrack 46 = .ok (.ireturn, 1) := by decide +kernel
theorem dX6_addOnFlood_0 : decode cX6_addOnFlood 0 = .ok (.iconst 0, 1) := by decide +kernel
theorem dX6_addOnFlood_1 : decode cX6_addOnFlood 1 = .ok (.istore_n 3, 1) := by decide +kernel
theorem dX6_addOnFlood_2 : decode cX6_addOnFlood 2 = .ok (.iload_n 3, 1) := by decide +kernel
theorem dX6_addOnFlood_3 : decode cX6_addOnFlood 3 = .ok (.aload_n 0, 1) := by decide +kernel
theorem dX6_addOnFlood_4 : decode cX6_addOnFlood 4 = .ok (.getfield 27, 3) := by decide +kernel
theorem dX6_addOnFlood_7 : decode cX6_addOnFlood 7 = .ok (.getfield 152, 3) := by decide +kernel
theorem dX6_addOnFlood_10 : decode cX6_addOnFlood 10 = .ok (.if_icmp .ge 27, 3) := by decide +kernel
theorem dX6_addOnFlood_13 : decode cX6_addOnFlood 13 = .ok (.aload_n 0, 1) := by decide +kernel
theorem dX6_addOnFlood_14 : decode cX6_addOnFlood 14 = .ok (.getfield 9, 3) := by decide +kernel
theorem dX6_addOnFlood_17 : decode cX6_addOnFlood 17 = .ok (.aload_n 0, 1) := by decide +kernel
theorem dX6_addOnFlood_18 : decode cX6_addOnFlood 18 = .ok (.getfield 27, 3) := by decide +kernel
theorem dX6_addOnFlood_21 : decode cX6_addOnFlood 21 = .ok (.getfield 195, 3) := by decide +kernel
theorem dX6_addOnFlood_24 : decode cX6_addOnFlood 24 = .ok (.iload_n 3, 1) := by decide +kernel
theorem dX6_addOnFlood_25 : decode cX6_addOnFlood 25 = .ok (.iaload, 1) := by decide +kernel
theorem dX6_addOnFlood_26 : decode cX6_addOnFlood 26 = .ok (.dup2, 1) := by decide +kernel
theorem dX6_addOnFlood_27 : decode cX6_addOnFlood 27 = .ok (.laload, 1) := by decide +kernel
theorem dX6_addOnFlood_28 : decode cX6_addOnFlood 28 = .ok (.lload_n 1, 1) := by decide +kernel
theorem dX6_addOnFlood_29 : decode cX6_addOnFlood 29 = .ok (.ladd, 1) := by decide +kernel
theorem dX6_addOnFlood_30 : decode cX6_addOnFlood 30 = .ok (.lastore, 1) := by decide +kernel
theorem dX6_addOnFlood_31 : decode cX6_addOnFlood 31 = .ok (.iinc 3 1, 3) := by decide +kernel
theorem dX6_addOnFlood_34 : decode cX6_addOnFlood 34 = .ok (.goto (-32), 3) := by decide +kernel
theorem dX6_addOnFlood_37 : decode cX6_addOnFlood 37 = .ok (.aload_n 0, 1) := by decide +kernel
theorem dX6_addOnFlood_38 : decode cX6_addOnFlood 38 = .ok (.getfield 27, 3) := by decide +kernel
theorem dX6_addOnFlood_41 : decode cX6_addOnFlood 41 = .ok (.getfield 152, 3) := by decide +kernel
theorem dX6_addOnFlood_44 : decode cX6_addOnFlood 44 = .ok (.ireturn, 1) := by decide +kernel
theorem dX6_displaceHeavier_0 : decode cX6_displaceHeavier 0 = .ok (.aload_n 0, 1) := by decide +kernel
theorem dX6_displaceHeavier_1 : decode cX6_displaceHeavier 1 = .ok (.getfield 37, 3) := by decide +kernel
theorem dX6_displaceHeavier_4 : decode cX6_displaceHeavier 4 = .ok (.aload_n 0, 1) := by decide +kernel
theorem dX6_displaceHeavier_5 : decode cX6_displaceHeavier 5 = .ok (.getfield 20, 3) := by decide +kernel
theorem dX6_displaceHeavier_8 : decode cX6_displaceHeavier 8 = .ok (.invokevirtual 159, 3) := by decide +kernel
theorem dX6_displaceHeavier_11 : decode cX6_displaceHeavier 11 = .ok (.istore_n 2, 1) := by decide +kernel
theorem dX6_displaceHeavier_12 : decode cX6_displaceHeavier 12 = .ok (.iload_n 2, 1) := by decide +kernel
theorem dX6_displaceHeavier_13 : decode cX6_displaceHeavier 13 = .ok (.iconst (-1), 1) := by decide +kernel
theorem dX6_displaceHeavier_14 : decode cX6_displaceHeavier 14 = .ok (.if_icmp .eq 15, 3) := by decide +kernel
theorem dX6_displaceHeavier_17 : decode cX6_displaceHeavier 17 = .ok (.aload_n 0, 1) := by decide +kernel
theorem dX6_displaceHeavier_18 : decode cX6_displaceHeavier 18 = .ok (.getfield 20, 3) := by decide +kernel
theorem dX6_displaceHeavier_21 : decode cX6_displaceHeavier 21 = .ok (.iload_n 2, 1) := by decide +kernel
theorem dX6_displaceHeavier_22 : decode cX6_displaceHeavier 22 = .ok (.iload_n 1, 1) := by decide +kernel
theorem dX6_displaceHeavier_23 : decode cX6_displaceHeavier 23 = .ok (.invokevirtual 277, 3) := by decide +kernel
theorem dX6_displaceHeavier_26 : decode cX6_displaceHeavier 26 = .ok (.ifCond .ne 5, 3) := by decide +kernel
theorem dX6_displaceHeavier_29 : decode cX6_displaceHeavier 29 = .ok (.iconst (-1), 1) := by decide +kernel
theorem dX6_displaceHeavier_30 : decode cX6_displaceHeavier 30 = .ok (.ireturn, 1) := by decide +kernel
theorem dX6_displaceHeavier_31 : decode cX6_displaceHeavier 31 = .ok (.aload_n 0, 1) := by decide +kernel
theorem dX6_displaceHeavier_32 : decode cX6_displaceHeavier 32 = .ok (.getfield 20, 3) := by decide +kernel
theorem dX6_displaceHeavier_35 : decode cX6_displaceHeavier 35 = .ok (.getfield 101, 3) := by decide +kernel
theorem dX6_displaceHeavier_38 : decode cX6_displaceHeavier 38 = .ok (.iload_n 2, 1) := by decide +kernel
theorem dX6_displaceHeavier_39 : decode cX6_displaceHeavier 39 = .ok (.iconst 2, 1) := by decide +kernel
theorem dX6_displaceHeavier_40 : decode cX6_displaceHeavier 40 = .ok (.iastore, 1) := by decide +kernel
theorem dX6_displaceHeavier_41 : decode cX6_displaceHeavier 41 = .ok (.aload_n 0, 1) := by decide +kernel
theorem dX6_displaceHeavier_42 : decode cX6_displaceHeavier 42 = .ok (.getfield 20, 3) := by decide +kernel
theorem dX6_displaceHeavier_45 : decode cX6_displaceHeavier 45 = .ok (.getfield 101, 3) := by decide +kernel
theorem dX6_displaceHeavier_48 : decode cX6_displaceHeavier 48 = .ok (.iload_n 1, 1) := by decide +kernel
theorem dX6_displaceHeavier_49 : decode cX6_displaceHeavier 49 = .ok (.iconst 1, 1) := by decide +kernel
theorem dX6_displaceHeavier_50 : decode cX6_displaceHeavier 50 = .ok (.iastore, 1) := by decide +kernel
theorem dX6_displaceHeavier_51 : decode cX6_displaceHeavier 51 = .ok (.iload_n 2, 1) := by decide +kernel
theorem dX6_displaceHeavier_52 : decode cX6_displaceHeavier 52 = .ok (.ireturn, 1) := by decide +kernel
theorem dX6_findHeir_0 : decode cX6_findHeir 0 = .ok (.aload_n 0, 1) := by decide +kernel
theorem dX6_findHeir_1 : decode cX6_findHeir 1 = .ok (.getfield 61, 3) := by decide +kernel
theorem dX6_findHeir_4 : decode cX6_findHeir 4 = .ok (.lookupswitch 41 #[(1, 28), (2, 35)], 28) := by decide +kernel
theorem dX6_findHeir_32 : decode cX6_findHeir 32 = .ok (.aload_n 0, 1) := by decide +kernel
theorem dX6_findHeir_33 : decode cX6_findHeir 33 = .ok (.iload_n 1, 1) := by decide +kernel
theorem dX6_findHeir_34 : decode cX6_findHeir 34 = .ok (.iload_n 2, 1) := by decide +kernel
theorem dX6_findHeir_35 : decode cX6_findHeir 35 = .ok (.invokevirtual 281, 3) := by decide +kernel
theorem dX6_findHeir_38 : decode cX6_findHeir 38 = .ok (.ireturn, 1) := by decide +kernel
theorem dX6_findHeir_39 : decode cX6_findHeir 39 = .ok (.aload_n 0, 1) := by decide +kernel
theorem dX6_findHeir_40 : decode cX6_findHeir 40 = .ok (.iload_n 1, 1) := by decide +kernel
theorem dX6_findHeir_41 : decode cX6_findHeir 41 = .ok (.invokevirtual 284, 3) := by decide +kernel
theorem dX6_findHeir_44 : decode cX6_findHeir 44 = .ok (.ireturn, 1) := by decide +kernel
theorem dX6_findHeir_45 : decode cX6_findHeir 45 = .ok (.iconst (-1), 1) := by decide +kernel
theorem dX6_findHeir_46 : decode cX6_findHeir 46 = .ok (.ireturn, 1) := by decide +kernel
theorem dX6_findHeirByLevels_0 : decode cX6_findHeirByLevels 0 = .ok (.aload_n 0, 1) := by decide +kernel
theorem dX6_findHeirByLevels_1 : decode cX6_findHeirByLevels 1 = .ok (.getfield 20, 3) := by decide +kernel
theorem dX6_findHeirByLevels_4 : decode cX6_findHeirByLevels 4 = .ok (.getfield 120, 3) := by decide +kernel
theorem dX6_findHeirByLevels_7 : decode cX6_findHeirByLevels 7 = .ok (.iload_n 1, 1) := by decide +kernel
theorem dX6_findHeirByLevels_8 : decode cX6_findHeirByLevels 8 = .ok (.iaload, 1) := by decide +kernel
theorem dX6_findHeirByLevels_9 : decode cX6_findHeirByLevels 9 = .ok (.istore_n 3, 1) := by decide +kernel
theorem dX6_findHeirByLevels_10 : decode cX6_findHeirByLevels 10 = .ok (.iload_n 3, 1) := by decide +kernel
theorem dX6_findHeirByLevels_11 : decode cX6_findHeirByLevels 11 = .ok (.ifCond .lt 47, 3) := by decide +kernel
theorem dX6_findHeirByLevels_14 : decode cX6_findHeirByLevels 14 = .ok (.aload_n 0, 1) := by decide +kernel
theorem dX6_findHeirByLevels_15 : decode cX6_findHeirByLevels 15 = .ok (.iload_n 1, 1) := by decide +kernel
theorem dX6_findHeirByLevels_16 : decode cX6_findHeirByLevels 16 = .ok (.iload_n 3, 1) := by decide +kernel
theorem dX6_findHeirByLevels_17 : decode cX6_findHeirByLevels 17 = .ok (.invokevirtual 287, 3) := by decide +kernel
theorem dX6_findHeirByLevels_20 : decode cX6_findHeirByLevels 20 = .ok (.astore 4, 2) := by decide +kernel
theorem dX6_findHeirByLevels_22 : decode cX6_findHeirByLevels 22 = .ok (.iload_n 2, 1) := by decide +kernel
theorem dX6_findHeirByLevels_23 : decode cX6_findHeirByLevels 23 = .ok (.ifCond .eq 10, 3) := by decide +kernel
theorem dX6_findHeirByLevels_26 : decode cX6_findHeirByLevels 26 = .ok (.aload_n 0, 1) := by decide +kernel
theorem dX6_findHeirByLevels_27 : decode cX6_findHeirByLevels 27 = .ok (.aload 4, 2) := by decide +kernel
theorem dX6_findHeirByLevels_29 : decode cX6_findHeirByLevels 29 = .ok (.iload_n 3, 1) := by decide +kernel
theorem dX6_findHeirByLevels_30 : decode cX6_findHeirByLevels 30 = .ok (.invokevirtual 291, 3) := by decide +kernel
theorem dX6_findHeirByLevels_33 : decode cX6_findHeirByLevels 33 = .ok (.aload_n 0, 1) := by decide +kernel
theorem dX6_findHeirByLevels_34 : decode cX6_findHeirByLevels 34 = .ok (.aload 4, 2) := by decide +kernel
theorem dX6_findHeirByLevels_36 : decode cX6_findHeirByLevels 36 = .ok (.iload_n 3, 1) := by decide +kernel
theorem dX6_findHeirByLevels_37 : decode cX6_findHeirByLevels 37 = .ok (.iload_n 2, 1) := by decide +kernel
theorem dX6_findHeirByLevels_38 : decode cX6_findHeirByLevels 38 = .ok (.invokevirtual 295, 3) := by decide +kernel
theorem dX6_findHeirByLevels_41 : decode cX6_findHeirByLevels 41 = .ok (.istore 5, 2) := by decide +kernel
theorem dX6_findHeirByLevels_43 : decode cX6_findHeirByLevels 43 = .ok (.iload 5, 2) := by decide +kernel
theorem dX6_findHeirByLevels_45 : decode cX6_findHeirByLevels 45 = .ok (.iconst (-1), 1) := by decide +kernel
theorem dX6_findHeirByLevels_46 : decode cX6_findHeirByLevels 46 = .ok (.if_icmp .eq 6, 3) := by decide +kernel
theorem dX6_findHeirByLevels_49 : decode cX6_findHeirByLevels 49 = .ok (.iload 5, 2) := by decide +kernel
theorem dX6_findHeirByLevels_51 : decode cX6_findHeirByLevels 51 = .ok (.ireturn, 1) := by decide +kernel
theorem dX6_findHeirByLevels_52 : decode cX6_findHeirByLevels 52 = .ok (.iinc 3 (-1), 3) := by decide +kernel
theorem dX6_findHeirByLevels_55 : decode cX6_findHeirByLevels 55 = .ok (.goto (-45), 3) := by decide +kernel
theorem dX6_findHeirByLevels_58 : decode cX6_findHeirByLevels 58 = .ok (.iconst (-1), 1) := by decide +kernel
theorem dX6_findHeirByLevels_59 : decode cX6_findHeirByLevels 59 = .ok (.ireturn, 1) := by decide +kernel
theorem dX6_floodSmaller_0 : decode cX6_floodSmaller 0 = .ok (.aload_n 0, 1) := by decide +kernel
theorem dX6_floodSmaller_1 : decode cX6_floodSmaller 1 = .ok (.getfield 27, 3) := by decide +kernel
theorem dX6_floodSmaller_4 : decode cX6_floodSmaller 4 = .ok (.aload_n 0, 1) := by decide +kernel
theorem dX6_floodSmaller_5 : decode cX6_floodSmaller 5 = .ok (.getfield 20, 3) := by decide +kernel
theorem dX6_floodSmaller_8 : decode cX6_floodSmaller 8 = .ok (.aload_n 0, 1) := by decide +kernel
theorem dX6_floodSmaller_9 : decode cX6_floodSmaller 9 = .ok (.getfield 20, 3) := by decide +kernel
theorem dX6_floodSmaller_12 : decode cX6_floodSmaller 12 = .ok (.getfield 114, 3) := by decide +kernel
theorem dX6_floodSmaller_15 : decode cX6_floodSmaller 15 = .ok (.iload_n 1, 1) := by decide +kernel
theorem dX6_floodSmaller_16 : decode cX6_floodSmaller 16 = .ok (.iaload, 1) := by decide +kernel
theorem dX6_floodSmaller_17 : decode cX6_floodSmaller 17 = .ok (.iload_n 1, 1) := by decide +kernel
theorem dX6_floodSmaller_18 : decode cX6_floodSmaller 18 = .ok (.iload_n 2, 1) := by decide +kernel
theorem dX6_floodSmaller_19 : decode cX6_floodSmaller 19 = .ok (.invokevirtual 270, 3) := by decide +kernel
theorem dX6_floodSmaller_22 : decode cX6_floodSmaller 22 = .ok (.aload_n 0, 1) := by decide +kernel
theorem dX6_floodSmaller_23 : decode cX6_floodSmaller 23 = .ok (.getfield 31, 3) := by decide +kernel
theorem dX6_floodSmaller_26 : decode cX6_floodSmaller 26 = .ok (.aload_n 0, 1) := by decide +kernel
theorem dX6_floodSmaller_27 : decode cX6_floodSmaller 27 = .ok (.getfield 20, 3) := by decide +kernel
theorem dX6_floodSmaller_30 : decode cX6_floodSmaller 30 = .ok (.aload_n 0, 1) := by decide +kernel
theorem dX6_floodSmaller_31 : decode cX6_floodSmaller 31 = .ok (.getfield 20, 3) := by decide +kernel
theorem dX6_floodSmaller_34 : decode cX6_floodSmaller 34 = .ok (.getfield 117, 3) := by decide +kernel
theorem dX6_floodSmaller_37 : decode cX6_floodSmaller 37 = .ok (.iload_n 1, 1) := by decide +kernel
theorem dX6_floodSmaller_38 : decode cX6_floodSmaller 38 = .ok (.iaload, 1) := by decide +kernel
theorem dX6_floodSmaller_39 : decode cX6_floodSmaller 39 = .ok (.iload_n 1, 1) := by decide +kernel
theorem dX6_floodSmaller_40 : decode cX6_floodSmaller 40 = .ok (.iload_n 2, 1) := by decide +kernel
theorem dX6_floodSmaller_41 : decode cX6_floodSmaller 41 = .ok (.invokevirtual 270, 3) := by decide +kernel
theorem dX6_floodSmaller_44 : decode cX6_floodSmaller 44 = .ok (.aload_n 0, 1) := by decide +kernel
theorem dX6_floodSmaller_45 : decode cX6_floodSmaller 45 = .ok (.getfield 27, 3) := by decide +kernel
theorem dX6_floodSmaller_48 : decode cX6_floodSmaller 48 = .ok (.getfield 152, 3) := by decide +kernel
theorem dX6_floodSmaller_51 : decode cX6_floodSmaller 51 = .ok (.aload_n 0, 1) := by decide +kernel
theorem dX6_floodSmaller_52 : decode cX6_floodSmaller 52 = .ok (.getfield 31, 3) := by decide +kernel
theorem dX6_floodSmaller_55 : decode cX6_floodSmaller 55 = .ok (.getfield 152, 3) := by decide +kernel
theorem dX6_floodSmaller_58 : decode cX6_floodSmaller 58 = .ok (.if_icmp .gt 10, 3) := by decide +kernel
theorem dX6_floodSmaller_61 : decode cX6_floodSmaller 61 = .ok (.aload_n 0, 1) := by decide +kernel
theorem dX6_floodSmaller_62 : decode cX6_floodSmaller 62 = .ok (.getfield 27, 3) := by decide +kernel
theorem dX6_floodSmaller_65 : decode cX6_floodSmaller 65 = .ok (.goto 7, 3) := by decide +kernel
theorem dX6_floodSmaller_68 : decode cX6_floodSmaller 68 = .ok (.aload_n 0, 1) := by decide +kernel
theorem dX6_floodSmaller_69 : decode cX6_floodSmaller 69 = .ok (.getfield 31, 3) := by decide +kernel
theorem dX6_floodSmaller_72 : decode cX6_floodSmaller 72 = .ok (.areturn, 1) := by decide +kernel
theorem dX6_raiseTrees_0 : decode cX6_raiseTrees 0 = .ok (.iconst 0, 1) := by decide +kernel
theorem dX6_raiseTrees_1 : decode cX6_raiseTrees 1 = .ok (.istore_n 3, 1) := by decide +kernel
theorem dX6_raiseTrees_2 : decode cX6_raiseTrees 2 = .ok (.iload_n 3, 1) := by decide +kernel
theorem dX6_raiseTrees_3 : decode cX6_raiseTrees 3 = .ok (.aload_n 0, 1) := by decide +kernel
theorem dX6_raiseTrees_4 : decode cX6_raiseTrees 4 = .ok (.getfield 20, 3) := by decide +kernel
theorem dX6_raiseTrees_7 : decode cX6_raiseTrees 7 = .ok (.getfield 75, 3) := by decide +kernel
theorem dX6_raiseTrees_10 : decode cX6_raiseTrees 10 = .ok (.if_icmp .ge 43, 3) := by decide +kernel
theorem dX6_raiseTrees_13 : decode cX6_raiseTrees 13 = .ok (.aload_n 0, 1) := by decide +kernel
theorem dX6_raiseTrees_14 : decode cX6_raiseTrees 14 = .ok (.getfield 20, 3) := by decide +kernel
theorem dX6_raiseTrees_17 : decode cX6_raiseTrees 17 = .ok (.iload_n 3, 1) := by decide +kernel
theorem dX6_raiseTrees_18 : decode cX6_raiseTrees 18 = .ok (.iconst 1, 1) := by decide +kernel
theorem dX6_raiseTrees_19 : decode cX6_raiseTrees 19 = .ok (.iload_n 2, 1) := by decide +kernel
theorem dX6_raiseTrees_20 : decode cX6_raiseTrees 20 = .ok (.invokevirtual 299, 3) := by decide +kernel
theorem dX6_raiseTrees_23 : decode cX6_raiseTrees 23 = .ok (.ifCond .eq 24, 3) := by decide +kernel
theorem dX6_raiseTrees_26 : decode cX6_raiseTrees 26 = .ok (.aload_n 1, 1) := by decide +kernel
theorem dX6_raiseTrees_27 : decode cX6_raiseTrees 27 = .ok (.aload_n 0, 1) := by decide +kernel
theorem dX6_raiseTrees_28 : decode cX6_raiseTrees 28 = .ok (.getfield 20, 3) := by decide +kernel
theorem dX6_raiseTrees_31 : decode cX6_raiseTrees 31 = .ok (.iload_n 3, 1) := by decide +kernel
theorem dX6_raiseTrees_32 : decode cX6_raiseTrees 32 = .ok (.invokevirtual 302, 3) := by decide +kernel
theorem dX6_raiseTrees_35 : decode cX6_raiseTrees 35 = .ok (.iconst 2, 1) := by decide +kernel
theorem dX6_raiseTrees_36 : decode cX6_raiseTrees 36 = .ok (.if_icmp .ne 11, 3) := by decide +kernel
theorem dX6_raiseTrees_39 : decode cX6_raiseTrees 39 = .ok (.aload_n 0, 1) := by decide +kernel
theorem dX6_raiseTrees_40 : decode cX6_raiseTrees 40 = .ok (.getfield 20, 3) := by decide +kernel
theorem dX6_raiseTrees_43 : decode cX6_raiseTrees 43 = .ok (.iload_n 3, 1) := by decide +kernel
theorem dX6_raiseTrees_44 : decode cX6_raiseTrees 44 = .ok (.invokevirtual 305, 3) := by decide +kernel
theorem dX6_raiseTrees_47 : decode cX6_raiseTrees 47 = .ok (.iinc 3 1, 3) := by decide +kernel
theorem dX6_raiseTrees_50 : decode cX6_raiseTrees 50 = .ok (.goto (-48), 3) := by decide +kernel
theorem dX6_raiseTrees_53 : decode cX6_raiseTrees 53 = .ok (.return_, 1) := by decide +kernel
theorem dX6_findHeirAt_0 : decode cX6_findHeirAt 0 = .ok (.iconst 0, 1) := by decide +kernel
theorem dX6_findHeirAt_1 : decode cX6_findHeirAt 1 = .ok (.istore 4, 2) := by decide +kernel
theorem dX6_findHeirAt_3 : decode cX6_findHeirAt 3 = .ok (.iload 4, 2) := by decide +kernel
theorem dX6_findHeirAt_5 : decode cX6_findHeirAt 5 = .ok (.aload_n 0, 1) := by decide +kernel
theorem dX6_findHeirAt_6 : decode cX6_findHeirAt 6 = .ok (.getfield 20, 3) := by decide +kernel
theorem dX6_findHeirAt_9 : decode cX6_findHeirAt 9 = .ok (.getfield 75, 3) := by decide +kernel
theorem dX6_findHeirAt_12 : decode cX6_findHeirAt 12 = .ok (.if_icmp .ge 66, 3) := by decide +kernel
theorem dX6_findHeirAt_15 : decode cX6_findHeirAt 15 = .ok (.aload_n 0, 1) := by decide +kernel
theorem dX6_findHeirAt_16 : decode cX6_findHeirAt 16 = .ok (.getfield 20, 3) := by decide +kernel
theorem dX6_findHeirAt_19 : decode cX6_findHeirAt 19 = .ok (.iload 4, 2) := by decide +kernel
theorem dX6_findHeirAt_21 : decode cX6_findHeirAt 21 = .ok (.iconst 2, 1) := by decide +kernel
theorem dX6_findHeirAt_22 : decode cX6_findHeirAt 22 = .ok (.iload_n 2, 1) := by decide +kernel
theorem dX6_findHeirAt_23 : decode cX6_findHeirAt 23 = .ok (.invokevirtual 299, 3) := by decide +kernel
theorem dX6_findHeirAt_26 : decode cX6_findHeirAt 26 = .ok (.ifCond .ne 6, 3) := by decide +kernel
theorem dX6_findHeirAt_29 : decode cX6_findHeirAt 29 = .ok (.goto 43, 3) := by decide +kernel
theorem dX6_findHeirAt_32 : decode cX6_findHeirAt 32 = .ok (.aload_n 1, 1) := by decide +kernel
theorem dX6_findHeirAt_33 : decode cX6_findHeirAt 33 = .ok (.aload_n 0, 1) := by decide +kernel
theorem dX6_findHeirAt_34 : decode cX6_findHeirAt 34 = .ok (.getfield 20, 3) := by decide +kernel
theorem dX6_findHeirAt_37 : decode cX6_findHeirAt 37 = .ok (.iload 4, 2) := by decide +kernel
theorem dX6_findHeirAt_39 : decode cX6_findHeirAt 39 = .ok (.invokevirtual 302, 3) := by decide +kernel
theorem dX6_findHeirAt_42 : decode cX6_findHeirAt 42 = .ok (.istore 5, 2) := by decide +kernel
theorem dX6_findHeirAt_44 : decode cX6_findHeirAt 44 = .ok (.iload 5, 2) := by decide +kernel
theorem dX6_findHeirAt_46 : decode cX6_findHeirAt 46 = .ok (.iconst 1, 1) := by decide +kernel
theorem dX6_findHeirAt_47 : decode cX6_findHeirAt 47 = .ok (.if_icmp .ne 6, 3) := by decide +kernel
theorem dX6_findHeirAt_50 : decode cX6_findHeirAt 50 = .ok (.iload 4, 2) := by decide +kernel
theorem dX6_findHeirAt_52 : decode cX6_findHeirAt 52 = .ok (.ireturn, 1) := by decide +kernel
theorem dX6_findHeirAt_53 : decode cX6_findHeirAt 53 = .ok (.iload 5, 2) := by decide +kernel
theorem dX6_findHeirAt_55 : decode cX6_findHeirAt 55 = .ok (.iconst 2, 1) := by decide +kernel
theorem dX6_findHeirAt_56 : decode cX6_findHeirAt 56 = .ok (.if_icmp .ne 16, 3) := by decide +kernel
theorem dX6_findHeirAt_59 : decode cX6_findHeirAt 59 = .ok (.iload_n 3, 1) := by decide +kernel
theorem dX6_findHeirAt_60 : decode cX6_findHeirAt 60 = .ok (.ifCond .eq 12, 3) := by decide +kernel
theorem dX6_findHeirAt_63 : decode cX6_findHeirAt 63 = .ok (.aload_n 0, 1) := by decide +kernel
theorem dX6_findHeirAt_64 : decode cX6_findHeirAt 64 = .ok (.getfield 20, 3) := by decide +kernel
theorem dX6_findHeirAt_67 : decode cX6_findHeirAt 67 = .ok (.iload 4, 2) := by decide +kernel
theorem dX6_findHeirAt_69 : decode cX6_findHeirAt 69 = .ok (.invokevirtual 305, 3) := by decide +kernel
theorem dX6_findHeirAt_72 : decode cX6_findHeirAt 72 = .ok (.iinc 4 1, 3) := by decide +kernel
theorem dX6_findHeirAt_75 : decode cX6_findHeirAt 75 = .ok (.goto (-72), 3) := by decide +kernel
theorem dX6_findHeirAt_78 : decode cX6_findHeirAt 78 = .ok (.iconst (-1), 1) := by decide +kernel
theorem dX6_findHeirAt_79 : decode cX6_findHeirAt 79 = .ok (.ireturn, 1) := by decide +kernel
theorem dX6_findLightestAcross_0 : decode cX6_findLightestAcross 0 = .ok (.aload_n 0, 1) := by decide +kernel
theorem dX6_findLightestAcross_1 : decode cX6_findLightestAcross 1 = .ok (.getfield 27, 3) := by decide +kernel
theorem dX6_findLightestAcross_4 : decode cX6_findLightestAcross 4 = .ok (.aload_n 0, 1) := by decide +kernel
theorem dX6_findLightestAcross_5 : decode cX6_findLightestAcross 5 = .ok (.getfield 20, 3) := by decide +kernel
theorem dX6_findLightestAcross_8 : decode cX6_findLightestAcross 8 = .ok (.aload_n 0, 1) := by decide +kernel
theorem dX6_findLightestAcross_9 : decode cX6_findLightestAcross 9 = .ok (.getfield 20, 3) := by decide +kernel
theorem dX6_findLightestAcross_12 : decode cX6_findLightestAcross 12 = .ok (.getfield 114, 3) := by decide +kernel
theorem dX6_findLightestAcross_15 : decode cX6_findLightestAcross 15 = .ok (.iload_n 1, 1) := by decide +kernel
theorem dX6_findLightestAcross_16 : decode cX6_findLightestAcross 16 = .ok (.iaload, 1) := by decide +kernel
theorem dX6_findLightestAcross_17 : decode cX6_findLightestAcross 17 = .ok (.iload_n 1, 1) := by decide +kernel
theorem dX6_findLightestAcross_18 : decode cX6_findLightestAcross 18 = .ok (.iconst 0, 1) := by decide +kernel
theorem dX6_findLightestAcross_19 : decode cX6_findLightestAcross 19 = .ok (.invokevirtual 270, 3) := by decide +kernel
theorem dX6_findLightestAcross_22 : decode cX6_findLightestAcross 22 = .ok (.iconst (-1), 1) := by decide +kernel
theorem dX6_findLightestAcross_23 : decode cX6_findLightestAcross 23 = .ok (.istore_n 2, 1) := by decide +kernel
theorem dX6_findLightestAcross_24 : decode cX6_findLightestAcross 24 = .ok (.iconst 0, 1) := by decide +kernel
theorem dX6_findLightestAcross_25 : decode cX6_findLightestAcross 25 = .ok (.istore_n 3, 1) := by decide +kernel
theorem dX6_findLightestAcross_26 : decode cX6_findLightestAcross 26 = .ok (.iload_n 3, 1) := by decide +kernel
theorem dX6_findLightestAcross_27 : decode cX6_findLightestAcross 27 = .ok (.aload_n 0, 1) := by decide +kernel
theorem dX6_findLightestAcross_28 : decode cX6_findLightestAcross 28 = .ok (.getfield 20, 3) := by decide +kernel
theorem dX6_findLightestAcross_31 : decode cX6_findLightestAcross 31 = .ok (.getfield 75, 3) := by decide +kernel
theorem dX6_findLightestAcross_34 : decode cX6_findLightestAcross 34 = .ok (.if_icmp .ge 57, 3) := by decide +kernel
theorem dX6_findLightestAcross_37 : decode cX6_findLightestAcross 37 = .ok (.aload_n 0, 1) := by decide +kernel
theorem dX6_findLightestAcross_38 : decode cX6_findLightestAcross 38 = .ok (.getfield 20, 3) := by decide +kernel
theorem dX6_findLightestAcross_41 : decode cX6_findLightestAcross 41 = .ok (.getfield 101, 3) := by decide +kernel
theorem dX6_findLightestAcross_44 : decode cX6_findLightestAcross 44 = .ok (.iload_n 3, 1) := by decide +kernel
theorem dX6_findLightestAcross_45 : decode cX6_findLightestAcross 45 = .ok (.iaload, 1) := by decide +kernel
theorem dX6_findLightestAcross_46 : decode cX6_findLightestAcross 46 = .ok (.iconst 2, 1) := by decide +kernel
theorem dX6_findLightestAcross_47 : decode cX6_findLightestAcross 47 = .ok (.if_icmp .ne 38, 3) := by decide +kernel
theorem dX6_findLightestAcross_50 : decode cX6_findLightestAcross 50 = .ok (.aload_n 0, 1) := by decide +kernel
theorem dX6_findLightestAcross_51 : decode cX6_findLightestAcross 51 = .ok (.getfield 27, 3) := by decide +kernel
theorem dX6_findLightestAcross_54 : decode cX6_findLightestAcross 54 = .ok (.aload_n 0, 1) := by decide +kernel
theorem dX6_findLightestAcross_55 : decode cX6_findLightestAcross 55 = .ok (.getfield 20, 3) := by decide +kernel
theorem dX6_findLightestAcross_58 : decode cX6_findLightestAcross 58 = .ok (.iload_n 3, 1) := by decide +kernel
theorem dX6_findLightestAcross_59 : decode cX6_findLightestAcross 59 = .ok (.invokevirtual 302, 3) := by decide +kernel
theorem dX6_findLightestAcross_62 : decode cX6_findLightestAcross 62 = .ok (.iconst 1, 1) := by decide +kernel
theorem dX6_findLightestAcross_63 : decode cX6_findLightestAcross 63 = .ok (.if_icmp .ne 22, 3) := by decide +kernel
theorem dX6_findLightestAcross_66 : decode cX6_findLightestAcross 66 = .ok (.iload_n 2, 1) := by decide +kernel
theorem dX6_findLightestAcross_67 : decode cX6_findLightestAcross 67 = .ok (.iconst (-1), 1) := by decide +kernel
theorem dX6_findLightestAcross_68 : decode cX6_findLightestAcross 68 = .ok (.if_icmp .eq 15, 3) := by decide +kernel
theorem dX6_findLightestAcross_71 : decode cX6_findLightestAcross 71 = .ok (.aload_n 0, 1) := by decide +kernel
theorem dX6_findLightestAcross_72 : decode cX6_findLightestAcross 72 = .ok (.getfield 20, 3) := by decide +kernel
theorem dX6_findLightestAcross_75 : decode cX6_findLightestAcross 75 = .ok (.iload_n 2, 1) := by decide +kernel
theorem dX6_findLightestAcross_76 : decode cX6_findLightestAcross 76 = .ok (.iload_n 3, 1) := by decide +kernel
theorem dX6_findLightestAcross_77 : decode cX6_findLightestAcross 77 = .ok (.invokevirtual 277, 3) := by decide +kernel
theorem dX6_findLightestAcross_80 : decode cX6_findLightestAcross 80 = .ok (.ifCond .eq 5, 3) := by decide +kernel
theorem dX6_findLightestAcross_83 : decode cX6_findLightestAcross 83 = .ok (.iload_n 3, 1) := by decide +kernel
theorem dX6_findLightestAcross_84 : decode cX6_findLightestAcross 84 = .ok (.istore_n 2, 1) := by decide +kernel
theorem dX6_findLightestAcross_85 : decode cX6_findLightestAcross 85 = .ok (.iinc 3 1, 3) := by decide +kernel
theorem dX6_findLightestAcross_88 : decode cX6_findLightestAcross 88 = .ok (.goto (-62), 3) := by decide +kernel
theorem dX6_findLightestAcross_91 : decode cX6_findLightestAcross 91 = .ok (.iload_n 2, 1) := by decide +kernel
theorem dX6_findLightestAcross_92 : decode cX6_findLightestAcross 92 = .ok (.ireturn, 1) := by decide +kernel
theorem dX6_takeBack_0 : decode cX6_takeBack 0 = .ok (.iload_n 1, 1) := by decide +kernel
theorem dX6_takeBack_1 : decode cX6_takeBack 1 = .ok (.tableswitch 115 0 4 #[35, 46, 64, 80, 90], 35) := by decide +kernel
theorem dX6_takeBack_36 : decode cX6_takeBack 36 = .ok (.aload_n 0, 1) := by decide +kernel
theorem dX6_takeBack_37 : decode cX6_takeBack 37 = .ok (.getfield 9, 3) := by decide +kernel
theorem dX6_takeBack_40 : decode cX6_takeBack 40 = .ok (.iload_n 2, 1) := by decide +kernel
theorem dX6_takeBack_41 : decode cX6_takeBack 41 = .ok (.lload 4, 2) := by decide +kernel
theorem dX6_takeBack_43 : decode cX6_takeBack 43 = .ok (.lastore, 1) := by decide +kernel
theorem dX6_takeBack_44 : decode cX6_takeBack 44 = .ok (.goto 91, 3) := by decide +kernel
theorem dX6_takeBack_47 : decode cX6_takeBack 47 = .ok (.aload_n 0, 1) := by decide +kernel
theorem dX6_takeBack_48 : decode cX6_takeBack 48 = .ok (.iload_n 2, 1) := by decide +kernel
theorem dX6_takeBack_49 : decode cX6_takeBack 49 = .ok (.iload_n 3, 1) := by decide +kernel
theorem dX6_takeBack_50 : decode cX6_takeBack 50 = .ok (.invokevirtual 82, 3) := by decide +kernel
theorem dX6_takeBack_53 : decode cX6_takeBack 53 = .ok (.pop, 1) := by decide +kernel
theorem dX6_takeBack_54 : decode cX6_takeBack 54 = .ok (.aload_n 0, 1) := by decide +kernel
theorem dX6_takeBack_55 : decode cX6_takeBack 55 = .ok (.lload 4, 2) := by decide +kernel
theorem dX6_takeBack_57 : decode cX6_takeBack 57 = .ok (.lneg, 1) := by decide +kernel
theorem dX6_takeBack_58 : decode cX6_takeBack 58 = .ok (.invokevirtual 169, 3) := by decide +kernel
theorem dX6_takeBack_61 : decode cX6_takeBack 61 = .ok (.pop, 1) := by decide +kernel
theorem dX6_takeBack_62 : decode cX6_takeBack 62 = .ok (.goto 73, 3) := by decide +kernel
theorem dX6_takeBack_65 : decode cX6_takeBack 65 = .ok (.aload_n 0, 1) := by decide +kernel
theorem dX6_takeBack_66 : decode cX6_takeBack 66 = .ok (.iload_n 2, 1) := by decide +kernel
theorem dX6_takeBack_67 : decode cX6_takeBack 67 = .ok (.invokevirtual 189, 3) := by decide +kernel
theorem dX6_takeBack_70 : decode cX6_takeBack 70 = .ok (.aload_n 0, 1) := by decide +kernel
theorem dX6_takeBack_71 : decode cX6_takeBack 71 = .ok (.lload 4, 2) := by decide +kernel
theorem dX6_takeBack_73 : decode cX6_takeBack 73 = .ok (.lneg, 1) := by decide +kernel
theorem dX6_takeBack_74 : decode cX6_takeBack 74 = .ok (.invokevirtual 198, 3) := by decide +kernel
theorem dX6_takeBack_77 : decode cX6_takeBack 77 = .ok (.pop, 1) := by decide +kernel
theorem dX6_takeBack_78 : decode cX6_takeBack 78 = .ok (.goto 57, 3) := by decide +kernel
theorem dX6_takeBack_81 : decode cX6_takeBack 81 = .ok (.aload_n 0, 1) := by decide +kernel
theorem dX6_takeBack_82 : decode cX6_takeBack 82 = .ok (.getfield 13, 3) := by decide +kernel
theorem dX6_takeBack_85 : decode cX6_takeBack 85 = .ok (.iload_n 2, 1) := by decide +kernel
theorem dX6_takeBack_86 : decode cX6_takeBack 86 = .ok (.iload_n 3, 1) := by decide +kernel
theorem dX6_takeBack_87 : decode cX6_takeBack 87 = .ok (.iastore, 1) := by decide +kernel
theorem dX6_takeBack_88 : decode cX6_takeBack 88 = .ok (.goto 47, 3) := by decide +kernel
theorem dX6_takeBack_91 : decode cX6_takeBack 91 = .ok (.aload_n 0, 1) := by decide +kernel
theorem dX6_takeBack_92 : decode cX6_takeBack 92 = .ok (.getfield 20, 3) := by decide +kernel
theorem dX6_takeBack_95 : decode cX6_takeBack 95 = .ok (.invokevirtual 308, 3) := by decide +kernel
theorem dX6_takeBack_98 : decode cX6_takeBack 98 = .ok (.iload_n 2, 1) := by decide +kernel
theorem dX6_takeBack_99 : decode cX6_takeBack 99 = .ok (.iconst (-1), 1) := by decide +kernel
theorem dX6_takeBack_100 : decode cX6_takeBack 100 = .ok (.if_icmp .eq 35, 3) := by decide +kernel
theorem dX6_takeBack_103 : decode cX6_takeBack 103 = .ok (.aload_n 0, 1) := by decide +kernel
theorem dX6_takeBack_104 : decode cX6_takeBack 104 = .ok (.getfield 20, 3) := by decide +kernel
theorem dX6_takeBack_107 : decode cX6_takeBack 107 = .ok (.getfield 101, 3) := by decide +kernel
theorem dX6_takeBack_110 : decode cX6_takeBack 110 = .ok (.iload_n 2, 1) := by decide +kernel
theorem dX6_takeBack_111 : decode cX6_takeBack 111 = .ok (.iconst 1, 1) := by decide +kernel
theorem dX6_takeBack_112 : decode cX6_takeBack 112 = .ok (.iastore, 1) := by decide +kernel
theorem dX6_takeBack_113 : decode cX6_takeBack 113 = .ok (.goto 22, 3) := by decide +kernel
theorem dX6_takeBack_116 : decode cX6_takeBack 116 = .ok (.aload_n 0, 1) := by decide +kernel
theorem dX6_takeBack_117 : decode cX6_takeBack 117 = .ok (.iload_n 2, 1) := by decide +kernel
theorem dX6_takeBack_118 : decode cX6_takeBack 118 = .ok (.iload_n 3, 1) := by decide +kernel
theorem dX6_takeBack_119 : decode cX6_takeBack 119 = .ok (.iload_n 1, 1) := by decide +kernel
theorem dX6_takeBack_120 : decode cX6_takeBack 120 = .ok (.iconst 5, 1) := by decide +kernel
theorem dX6_takeBack_121 : decode cX6_takeBack 121 = .ok (.if_icmp .ne 7, 3) := by decide +kernel
theorem dX6_takeBack_124 : decode cX6_takeBack 124 = .ok (.iconst 1, 1) := by decide +kernel
theorem dX6_takeBack_125 : decode cX6_takeBack 125 = .ok (.goto 4, 3) := by decide +kernel
theorem dX6_takeBack_128 : decode cX6_takeBack 128 = .ok (.iconst 2, 1) := by decide +kernel
theorem dX6_takeBack_129 : decode cX6_takeBack 129 = .ok (.lload 4, 2) := by decide +kernel
theorem dX6_takeBack_131 : decode cX6_takeBack 131 = .ok (.l2i, 1) := by decide +kernel
theorem dX6_takeBack_132 : decode cX6_takeBack 132 = .ok (.invokevirtual 311, 3) := by decide +kernel
theorem dX6_takeBack_135 : decode cX6_takeBack 135 = .ok (.return_, 1) := by decide +kernel
theorem dX6_takeBackCut_0 : decode cX6_takeBackCut 0 = .ok (.iload_n 2, 1) := by decide +kernel
theorem dX6_takeBackCut_1 : decode cX6_takeBackCut 1 = .ok (.iconst (-1), 1) := by decide +kernel
theorem dX6_takeBackCut_2 : decode cX6_takeBackCut 2 = .ok (.if_icmp .eq 13, 3) := by decide +kernel
theorem dX6_takeBackCut_5 : decode cX6_takeBackCut 5 = .ok (.aload_n 0, 1) := by decide +kernel
theorem dX6_takeBackCut_6 : decode cX6_takeBackCut 6 = .ok (.getfield 20, 3) := by decide +kernel
theorem dX6_takeBackCut_9 : decode cX6_takeBackCut 9 = .ok (.getfield 101, 3) := by decide +kernel
theorem dX6_takeBackCut_12 : decode cX6_takeBackCut 12 = .ok (.iload_n 2, 1) := by decide +kernel
theorem dX6_takeBackCut_13 : decode cX6_takeBackCut 13 = .ok (.iconst 2, 1) := by decide +kernel
theorem dX6_takeBackCut_14 : decode cX6_takeBackCut 14 = .ok (.iastore, 1) := by decide +kernel
theorem dX6_takeBackCut_15 : decode cX6_takeBackCut 15 = .ok (.aload_n 0, 1) := by decide +kernel
theorem dX6_takeBackCut_16 : decode cX6_takeBackCut 16 = .ok (.getfield 20, 3) := by decide +kernel
theorem dX6_takeBackCut_19 : decode cX6_takeBackCut 19 = .ok (.getfield 101, 3) := by decide +kernel
theorem dX6_takeBackCut_22 : decode cX6_takeBackCut 22 = .ok (.iload_n 1, 1) := by decide +kernel
theorem dX6_takeBackCut_23 : decode cX6_takeBackCut 23 = .ok (.iload_n 3, 1) := by decide +kernel
theorem dX6_takeBackCut_24 : decode cX6_takeBackCut 24 = .ok (.iastore, 1) := by decide +kernel
theorem dX6_takeBackCut_25 : decode cX6_takeBackCut 25 = .ok (.aload_n 0, 1) := by decide +kernel
theorem dX6_takeBackCut_26 : decode cX6_takeBackCut 26 = .ok (.getfield 20, 3) := by decide +kernel
theorem dX6_takeBackCut_29 : decode cX6_takeBackCut 29 = .ok (.iload 4, 2) := by decide +kernel
theorem dX6_takeBackCut_31 : decode cX6_takeBackCut 31 = .ok (.invokevirtual 315, 3) := by decide +kernel
theorem dX6_takeBackCut_34 : decode cX6_takeBackCut 34 = .ok (.return_, 1) := by decide +kernel
theorem dX6_refuse_0 : decode cX6_refuse 0 = .ok (.aload_n 0, 1) := by decide +kernel
theorem dX6_refuse_1 : decode cX6_refuse 1 = .ok (.iload_n 1, 1) := by decide +kernel
theorem dX6_refuse_2 : decode cX6_refuse 2 = .ok (.putfield 65, 3) := by decide +kernel
theorem dX6_refuse_5 : decode cX6_refuse 5 = .ok (.iconst (-1), 1) := by decide +kernel
theorem dX6_refuse_6 : decode cX6_refuse 6 = .ok (.ireturn, 1) := by decide +kernel
theorem dX6_grant_0 : decode cX6_grant 0 = .ok (.aload_n 0, 1) := by decide +kernel
theorem dX6_grant_1 : decode cX6_grant 1 = .ok (.iconst 0, 1) := by decide +kernel
theorem dX6_grant_2 : decode cX6_grant 2 = .ok (.putfield 65, 3) := by decide +kernel
theorem dX6_grant_5 : decode cX6_grant 5 = .ok (.iload_n 1, 1) := by decide +kernel
theorem dX6_grant_6 : decode cX6_grant 6 = .ok (.ireturn, 1) := by decide +kernel
theorem dX6_canPut_0 : decode cX6_canPut 0 = .ok (.iload_n 1, 1) := by decide +kernel
theorem dX6_canPut_1 : decode cX6_canPut 1 = .ok (.tableswitch 67 0 4 #[35, 37, 46, 52, 46], 35) := by decide +kernel
theorem dX6_canPut_36 : decode cX6_canPut 36 = .ok (.iconst 1, 1) := by decide +kernel
theorem dX6_canPut_37 : decode cX6_canPut 37 = .ok (.ireturn, 1) := by decide +kernel
theorem dX6_canPut_38 : decode cX6_canPut 38 = .ok (.aload_n 0, 1) := by decide +kernel
theorem dX6_canPut_39 : decode cX6_canPut 39 = .ok (.getfield 20, 3) := by decide +kernel
theorem dX6_canPut_42 : decode cX6_canPut 42 = .ok (.iload_n 2, 1) := by decide +kernel
theorem dX6_canPut_43 : decode cX6_canPut 43 = .ok (.invokevirtual 98, 3) := by decide +kernel
theorem dX6_canPut_46 : decode cX6_canPut 46 = .ok (.ireturn, 1) := by decide +kernel
theorem dX6_canPut_47 : decode cX6_canPut 47 = .ok (.aload_n 0, 1) := by decide +kernel
theorem dX6_canPut_48 : decode cX6_canPut 48 = .ok (.iload_n 2, 1) := by decide +kernel
theorem dX6_canPut_49 : decode cX6_canPut 49 = .ok (.invokevirtual 78, 3) := by decide +kernel
theorem dX6_canPut_52 : decode cX6_canPut 52 = .ok (.ireturn, 1) := by decide +kernel
theorem dX6_canPut_53 : decode cX6_canPut 53 = .ok (.aload_n 0, 1) := by decide +kernel
theorem dX6_canPut_54 : decode cX6_canPut 54 = .ok (.iload_n 2, 1) := by decide +kernel
theorem dX6_canPut_55 : decode cX6_canPut 55 = .ok (.iload_n 3, 1) := by decide +kernel
theorem dX6_canPut_56 : decode cX6_canPut 56 = .ok (.invokevirtual 82, 3) := by decide +kernel
theorem dX6_canPut_59 : decode cX6_canPut 59 = .ok (.ifCond .lt 7, 3) := by decide +kernel
theorem dX6_canPut_62 : decode cX6_canPut 62 = .ok (.iconst 1, 1) := by decide +kernel
theorem dX6_canPut_63 : decode cX6_canPut 63 = .ok (.goto 4, 3) := by decide +kernel
theorem dX6_canPut_66 : decode cX6_canPut 66 = .ok (.iconst 0, 1) := by decide +kernel
theorem dX6_canPut_67 : decode cX6_canPut 67 = .ok (.ireturn, 1) := by decide +kernel
theorem dX6_canPut_68 : decode cX6_canPut 68 = .ok (.iconst 0, 1) := by decide +kernel
theorem dX6_canPut_69 : decode cX6_canPut 69 = .ok (.ireturn, 1) := by decide +kernel
theorem dX6_putKnots_0 : decode cX6_putKnots 0 = .ok (.aload_n 0, 1) := by decide +kernel
theorem dX6_putKnots_1 : decode cX6_putKnots 1 = .ok (.iload_n 2, 1) := by decide +kernel
theorem dX6_putKnots_2 : decode cX6_putKnots 2 = .ok (.invokevirtual 148, 3) := by decide +kernel
theorem dX6_putKnots_5 : decode cX6_putKnots 5 = .ok (.aload_n 1, 1) := by decide +kernel
theorem dX6_putKnots_6 : decode cX6_putKnots 6 = .ok (.iconst 2, 1) := by decide +kernel
theorem dX6_putKnots_7 : decode cX6_putKnots 7 = .ok (.invokevirtual 230, 3) := by decide +kernel
theorem dX6_putKnots_10 : decode cX6_putKnots 10 = .ok (.iconst 0, 1) := by decide +kernel
theorem dX6_putKnots_11 : decode cX6_putKnots 11 = .ok (.istore_n 3, 1) := by decide +kernel
theorem dX6_putKnots_12 : decode cX6_putKnots 12 = .ok (.iload_n 3, 1) := by decide +kernel
theorem dX6_putKnots_13 : decode cX6_putKnots 13 = .ok (.aload_n 0, 1) := by decide +kernel
theorem dX6_putKnots_14 : decode cX6_putKnots 14 = .ok (.getfield 69, 3) := by decide +kernel
theorem dX6_putKnots_17 : decode cX6_putKnots 17 = .ok (.if_icmp .ge 27, 3) := by decide +kernel
theorem dX6_putKnots_20 : decode cX6_putKnots 20 = .ok (.aload_n 0, 1) := by decide +kernel
theorem dX6_putKnots_21 : decode cX6_putKnots 21 = .ok (.getfield 27, 3) := by decide +kernel
theorem dX6_putKnots_24 : decode cX6_putKnots 24 = .ok (.getfield 153, 3) := by decide +kernel
theorem dX6_putKnots_27 : decode cX6_putKnots 27 = .ok (.iload_n 3, 1) := by decide +kernel
theorem dX6_putKnots_28 : decode cX6_putKnots 28 = .ok (.baload, 1) := by decide +kernel
theorem dX6_putKnots_29 : decode cX6_putKnots 29 = .ok (.ifCond .eq 9, 3) := by decide +kernel
theorem dX6_putKnots_32 : decode cX6_putKnots 32 = .ok (.aload_n 1, 1) := by decide +kernel
theorem dX6_putKnots_33 : decode cX6_putKnots 33 = .ok (.iload_n 3, 1) := by decide +kernel
theorem dX6_putKnots_34 : decode cX6_putKnots 34 = .ok (.i2l, 1) := by decide +kernel
theorem dX6_putKnots_35 : decode cX6_putKnots 35 = .ok (.invokevirtual 233, 3) := by decide +kernel
theorem dX6_putKnots_38 : decode cX6_putKnots 38 = .ok (.iinc 3 1, 3) := by decide +kernel
theorem dX6_putKnots_41 : decode cX6_putKnots 41 = .ok (.goto (-29), 3) := by decide +kernel
theorem dX6_putKnots_44 : decode cX6_putKnots 44 = .ok (.return_, 1) := by decide +kernel
theorem dX6_putWeights_0 : decode cX6_putWeights 0 = .ok (.aload_n 0, 1) := by decide +kernel
theorem dX6_putWeights_1 : decode cX6_putWeights 1 = .ok (.iload_n 2, 1) := by decide +kernel
theorem dX6_putWeights_2 : decode cX6_putWeights 2 = .ok (.iload_n 3, 1) := by decide +kernel
theorem dX6_putWeights_3 : decode cX6_putWeights 3 = .ok (.invokevirtual 82, 3) := by decide +kernel
theorem dX6_putWeights_6 : decode cX6_putWeights 6 = .ok (.istore 4, 2) := by decide +kernel
theorem dX6_putWeights_8 : decode cX6_putWeights 8 = .ok (.aload_n 1, 1) := by decide +kernel
theorem dX6_putWeights_9 : decode cX6_putWeights 9 = .ok (.iconst 3, 1) := by decide +kernel
theorem dX6_putWeights_10 : decode cX6_putWeights 10 = .ok (.invokevirtual 230, 3) := by decide +kernel
theorem dX6_putWeights_13 : decode cX6_putWeights 13 = .ok (.iconst 0, 1) := by decide +kernel
theorem dX6_putWeights_14 : decode cX6_putWeights 14 = .ok (.istore 5, 2) := by decide +kernel
theorem dX6_putWeights_16 : decode cX6_putWeights 16 = .ok (.iload 5, 2) := by decide +kernel
theorem dX6_putWeights_18 : decode cX6_putWeights 18 = .ok (.iload 4, 2) := by decide +kernel
theorem dX6_putWeights_20 : decode cX6_putWeights 20 = .ok (.if_icmp .ge 31, 3) := by decide +kernel
theorem dX6_putWeights_23 : decode cX6_putWeights 23 = .ok (.aload_n 1, 1) := by decide +kernel
theorem dX6_putWeights_24 : decode cX6_putWeights 24 = .ok (.aload_n 0, 1) := by decide +kernel
theorem dX6_putWeights_25 : decode cX6_putWeights 25 = .ok (.getfield 20, 3) := by decide +kernel
theorem dX6_putWeights_28 : decode cX6_putWeights 28 = .ok (.getfield 131, 3) := by decide +kernel
theorem dX6_putWeights_31 : decode cX6_putWeights 31 = .ok (.aload_n 0, 1) := by decide +kernel
theorem dX6_putWeights_32 : decode cX6_putWeights 32 = .ok (.getfield 37, 3) := by decide +kernel
theorem dX6_putWeights_35 : decode cX6_putWeights 35 = .ok (.getfield 318, 3) := by decide +kernel
theorem dX6_putWeights_38 : decode cX6_putWeights 38 = .ok (.iload 5, 2) := by decide +kernel
theorem dX6_putWeights_40 : decode cX6_putWeights 40 = .ok (.iaload, 1) := by decide +kernel
theorem dX6_putWeights_41 : decode cX6_putWeights 41 = .ok (.laload, 1) := by decide +kernel
theorem dX6_putWeights_42 : decode cX6_putWeights 42 = .ok (.invokevirtual 233, 3) := by decide +kernel
theorem dX6_putWeights_45 : decode cX6_putWeights 45 = .ok (.iinc 5 1, 3) := by decide +kernel
theorem dX6_putWeights_48 : decode cX6_putWeights 48 = .ok (.goto (-32), 3) := by decide +kernel
theorem dX6_putWeights_51 : decode cX6_putWeights 51 = .ok (.return_, 1) := by decide +kernel
theorem dX6_putTruths_0 : decode cX6_putTruths 0 = .ok (.aload_n 0, 1) := by decide +kernel
theorem dX6_putTruths_1 : decode cX6_putTruths 1 = .ok (.iload_n 2, 1) := by decide +kernel
theorem dX6_putTruths_2 : decode cX6_putTruths 2 = .ok (.invokevirtual 148, 3) := by decide +kernel
theorem dX6_putTruths_5 : decode cX6_putTruths 5 = .ok (.aload_n 1, 1) := by decide +kernel
