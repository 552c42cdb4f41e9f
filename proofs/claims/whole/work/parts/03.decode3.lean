theorem dX6_putTruths_6 : decode cX6_putTruths 6 = .ok (.iconst 4, 1) := by decide +kernel
theorem dX6_putTruths_7 : decode cX6_putTruths 7 = .ok (.invokevirtual 230, 3) := by decide +kernel
theorem dX6_putTruths_10 : decode cX6_putTruths 10 = .ok (.iconst 0, 1) := by decide +kernel
theorem dX6_putTruths_11 : decode cX6_putTruths 11 = .ok (.istore_n 3, 1) := by decide +kernel
theorem dX6_putTruths_12 : decode cX6_putTruths 12 = .ok (.iload_n 3, 1) := by decide +kernel
theorem dX6_putTruths_13 : decode cX6_putTruths 13 = .ok (.aload_n 0, 1) := by decide +kernel
theorem dX6_putTruths_14 : decode cX6_putTruths 14 = .ok (.getfield 69, 3) := by decide +kernel
theorem dX6_putTruths_17 : decode cX6_putTruths 17 = .ok (.if_icmp .ge 30, 3) := by decide +kernel
theorem dX6_putTruths_20 : decode cX6_putTruths 20 = .ok (.aload_n 1, 1) := by decide +kernel
theorem dX6_putTruths_21 : decode cX6_putTruths 21 = .ok (.aload_n 0, 1) := by decide +kernel
theorem dX6_putTruths_22 : decode cX6_putTruths 22 = .ok (.getfield 27, 3) := by decide +kernel
theorem dX6_putTruths_25 : decode cX6_putTruths 25 = .ok (.getfield 153, 3) := by decide +kernel
theorem dX6_putTruths_28 : decode cX6_putTruths 28 = .ok (.iload_n 3, 1) := by decide +kernel
theorem dX6_putTruths_29 : decode cX6_putTruths 29 = .ok (.baload, 1) := by decide +kernel
theorem dX6_putTruths_30 : decode cX6_putTruths 30 = .ok (.ifCond .eq 7, 3) := by decide +kernel
theorem dX6_putTruths_33 : decode cX6_putTruths 33 = .ok (.lconst 1, 1) := by decide +kernel
theorem dX6_putTruths_34 : decode cX6_putTruths 34 = .ok (.goto 4, 3) := by decide +kernel
theorem dX6_putTruths_37 : decode cX6_putTruths 37 = .ok (.lconst 0, 1) := by decide +kernel
theorem dX6_putTruths_38 : decode cX6_putTruths 38 = .ok (.invokevirtual 233, 3) := by decide +kernel
theorem dX6_putTruths_41 : decode cX6_putTruths 41 = .ok (.iinc 3 1, 3) := by decide +kernel
theorem dX6_putTruths_44 : decode cX6_putTruths 44 = .ok (.goto (-32), 3) := by decide +kernel
theorem dX6_putTruths_47 : decode cX6_putTruths 47 = .ok (.return_, 1) := by decide +kernel
theorem dX6_whyNot_0 : decode cX6_whyNot 0 = .ok (.aload_n 1, 1) := by decide +kernel
theorem dX6_whyNot_1 : decode cX6_whyNot 1 = .ok (.getfield 321, 3) := by decide +kernel
theorem dX6_whyNot_4 : decode cX6_whyNot 4 = .ok (.ifCond .ne 6, 3) := by decide +kernel
theorem dX6_whyNot_7 : decode cX6_whyNot 7 = .ok (.bipush 10, 2) := by decide +kernel
theorem dX6_whyNot_9 : decode cX6_whyNot 9 = .ok (.ireturn, 1) := by decide +kernel
theorem dX6_whyNot_10 : decode cX6_whyNot 10 = .ok (.aload_n 1, 1) := by decide +kernel
theorem dX6_whyNot_11 : decode cX6_whyNot 11 = .ok (.getfield 321, 3) := by decide +kernel
theorem dX6_whyNot_14 : decode cX6_whyNot 14 = .ok (.iload_n 2, 1) := by decide +kernel
theorem dX6_whyNot_15 : decode cX6_whyNot 15 = .ok (.if_icmp .ne 7, 3) := by decide +kernel
theorem dX6_whyNot_18 : decode cX6_whyNot 18 = .ok (.iconst 0, 1) := by decide +kernel
theorem dX6_whyNot_19 : decode cX6_whyNot 19 = .ok (.goto 5, 3) := by decide +kernel
theorem dX6_whyNot_22 : decode cX6_whyNot 22 = .ok (.bipush 11, 2) := by decide +kernel
theorem dX6_whyNot_24 : decode cX6_whyNot 24 = .ok (.ireturn, 1) := by decide +kernel
theorem dX6_pick_0 : decode cX6_pick 0 = .ok (.aload_n 0, 1) := by decide +kernel
theorem dX6_pick_1 : decode cX6_pick 1 = .ok (.aload_n 1, 1) := by decide +kernel
theorem dX6_pick_2 : decode cX6_pick 2 = .ok (.iload_n 2, 1) := by decide +kernel
theorem dX6_pick_3 : decode cX6_pick 3 = .ok (.invokevirtual 324, 3) := by decide +kernel
theorem dX6_pick_6 : decode cX6_pick 6 = .ok (.istore 4, 2) := by decide +kernel
theorem dX6_pick_8 : decode cX6_pick 8 = .ok (.iload 4, 2) := by decide +kernel
theorem dX6_pick_10 : decode cX6_pick 10 = .ok (.ifCond .eq 10, 3) := by decide +kernel
theorem dX6_pick_13 : decode cX6_pick 13 = .ok (.aload_n 0, 1) := by decide +kernel
theorem dX6_pick_14 : decode cX6_pick 14 = .ok (.iload 4, 2) := by decide +kernel
theorem dX6_pick_16 : decode cX6_pick 16 = .ok (.invokevirtual 227, 3) := by decide +kernel
theorem dX6_pick_19 : decode cX6_pick 19 = .ok (.ireturn, 1) := by decide +kernel
theorem dX6_pick_20 : decode cX6_pick 20 = .ok (.iload_n 3, 1) := by decide +kernel
theorem dX6_pick_21 : decode cX6_pick 21 = .ok (.ifCond .lt 11, 3) := by decide +kernel
theorem dX6_pick_24 : decode cX6_pick 24 = .ok (.iload_n 3, 1) := by decide +kernel
theorem dX6_pick_25 : decode cX6_pick 25 = .ok (.aload_n 1, 1) := by decide +kernel
theorem dX6_pick_26 : decode cX6_pick 26 = .ok (.getfield 327, 3) := by decide +kernel
theorem dX6_pick_29 : decode cX6_pick 29 = .ok (.if_icmp .lt 10, 3) := by decide +kernel
theorem dX6_pick_32 : decode cX6_pick 32 = .ok (.aload_n 0, 1) := by decide +kernel
theorem dX6_pick_33 : decode cX6_pick 33 = .ok (.bipush 12, 2) := by decide +kernel
theorem dX6_pick_35 : decode cX6_pick 35 = .ok (.invokevirtual 227, 3) := by decide +kernel
theorem dX6_pick_38 : decode cX6_pick 38 = .ok (.ireturn, 1) := by decide +kernel
theorem dX6_pick_39 : decode cX6_pick 39 = .ok (.aload_n 0, 1) := by decide +kernel
theorem dX6_pick_40 : decode cX6_pick 40 = .ok (.aload_n 1, 1) := by decide +kernel
theorem dX6_pick_41 : decode cX6_pick 41 = .ok (.getfield 328, 3) := by decide +kernel
theorem dX6_pick_44 : decode cX6_pick 44 = .ok (.iload_n 3, 1) := by decide +kernel
theorem dX6_pick_45 : decode cX6_pick 45 = .ok (.laload, 1) := by decide +kernel
theorem dX6_pick_46 : decode cX6_pick 46 = .ok (.l2i, 1) := by decide +kernel
theorem dX6_pick_47 : decode cX6_pick 47 = .ok (.invokevirtual 256, 3) := by decide +kernel
theorem dX6_pick_50 : decode cX6_pick 50 = .ok (.ireturn, 1) := by decide +kernel
theorem dX6_countLike_0 : decode cX6_countLike 0 = .ok (.aload_n 0, 1) := by decide +kernel
theorem dX6_countLike_1 : decode cX6_countLike 1 = .ok (.aload_n 1, 1) := by decide +kernel
theorem dX6_countLike_2 : decode cX6_countLike 2 = .ok (.iconst 3, 1) := by decide +kernel
theorem dX6_countLike_3 : decode cX6_countLike 3 = .ok (.invokevirtual 324, 3) := by decide +kernel
theorem dX6_countLike_6 : decode cX6_countLike 6 = .ok (.istore_n 3, 1) := by decide +kernel
theorem dX6_countLike_7 : decode cX6_countLike 7 = .ok (.iload_n 3, 1) := by decide +kernel
theorem dX6_countLike_8 : decode cX6_countLike 8 = .ok (.ifCond .eq 9, 3) := by decide +kernel
theorem dX6_countLike_11 : decode cX6_countLike 11 = .ok (.aload_n 0, 1) := by decide +kernel
theorem dX6_countLike_12 : decode cX6_countLike 12 = .ok (.iload_n 3, 1) := by decide +kernel
theorem dX6_countLike_13 : decode cX6_countLike 13 = .ok (.invokevirtual 227, 3) := by decide +kernel
theorem dX6_countLike_16 : decode cX6_countLike 16 = .ok (.ireturn, 1) := by decide +kernel
theorem dX6_countLike_17 : decode cX6_countLike 17 = .ok (.iconst 0, 1) := by decide +kernel
theorem dX6_countLike_18 : decode cX6_countLike 18 = .ok (.istore 4, 2) := by decide +kernel
theorem dX6_countLike_20 : decode cX6_countLike 20 = .ok (.iconst 0, 1) := by decide +kernel
theorem dX6_countLike_21 : decode cX6_countLike 21 = .ok (.istore 5, 2) := by decide +kernel
theorem dX6_countLike_23 : decode cX6_countLike 23 = .ok (.iload 5, 2) := by decide +kernel
theorem dX6_countLike_25 : decode cX6_countLike 25 = .ok (.aload_n 1, 1) := by decide +kernel
theorem dX6_countLike_26 : decode cX6_countLike 26 = .ok (.getfield 327, 3) := by decide +kernel
theorem dX6_countLike_29 : decode cX6_countLike 29 = .ok (.if_icmp .ge 25, 3) := by decide +kernel
theorem dX6_countLike_32 : decode cX6_countLike 32 = .ok (.aload_n 1, 1) := by decide +kernel
theorem dX6_countLike_33 : decode cX6_countLike 33 = .ok (.getfield 328, 3) := by decide +kernel
theorem dX6_countLike_36 : decode cX6_countLike 36 = .ok (.iload 5, 2) := by decide +kernel
theorem dX6_countLike_38 : decode cX6_countLike 38 = .ok (.laload, 1) := by decide +kernel
theorem dX6_countLike_39 : decode cX6_countLike 39 = .ok (.iload_n 2, 1) := by decide +kernel
theorem dX6_countLike_40 : decode cX6_countLike 40 = .ok (.i2l, 1) := by decide +kernel
theorem dX6_countLike_41 : decode cX6_countLike 41 = .ok (.lcmp, 1) := by decide +kernel
theorem dX6_countLike_42 : decode cX6_countLike 42 = .ok (.ifCond .ne 6, 3) := by decide +kernel
theorem dX6_countLike_45 : decode cX6_countLike 45 = .ok (.iinc 4 1, 3) := by decide +kernel
theorem dX6_countLike_48 : decode cX6_countLike 48 = .ok (.iinc 5 1, 3) := by decide +kernel
theorem dX6_countLike_51 : decode cX6_countLike 51 = .ok (.goto (-28), 3) := by decide +kernel
theorem dX6_countLike_54 : decode cX6_countLike 54 = .ok (.aload_n 0, 1) := by decide +kernel
theorem dX6_countLike_55 : decode cX6_countLike 55 = .ok (.iload 4, 2) := by decide +kernel
theorem dX6_countLike_57 : decode cX6_countLike 57 = .ok (.invokevirtual 256, 3) := by decide +kernel
theorem dX6_countLike_60 : decode cX6_countLike 60 = .ok (.ireturn, 1) := by decide +kernel
theorem dX6_sumOfCopy_0 : decode cX6_sumOfCopy 0 = .ok (.aload_n 0, 1) := by decide +kernel
theorem dX6_sumOfCopy_1 : decode cX6_sumOfCopy 1 = .ok (.aload_n 1, 1) := by decide +kernel
theorem dX6_sumOfCopy_2 : decode cX6_sumOfCopy 2 = .ok (.iconst 2, 1) := by decide +kernel
theorem dX6_sumOfCopy_3 : decode cX6_sumOfCopy 3 = .ok (.invokevirtual 324, 3) := by decide +kernel
theorem dX6_sumOfCopy_6 : decode cX6_sumOfCopy 6 = .ok (.istore_n 3, 1) := by decide +kernel
theorem dX6_sumOfCopy_7 : decode cX6_sumOfCopy 7 = .ok (.iload_n 3, 1) := by decide +kernel
theorem dX6_sumOfCopy_8 : decode cX6_sumOfCopy 8 = .ok (.ifCond .eq 9, 3) := by decide +kernel
theorem dX6_sumOfCopy_11 : decode cX6_sumOfCopy 11 = .ok (.aload_n 0, 1) := by decide +kernel
theorem dX6_sumOfCopy_12 : decode cX6_sumOfCopy 12 = .ok (.iload_n 3, 1) := by decide +kernel
theorem dX6_sumOfCopy_13 : decode cX6_sumOfCopy 13 = .ok (.invokevirtual 227, 3) := by decide +kernel
theorem dX6_sumOfCopy_16 : decode cX6_sumOfCopy 16 = .ok (.ireturn, 1) := by decide +kernel
theorem dX6_sumOfCopy_17 : decode cX6_sumOfCopy 17 = .ok (.iload_n 2, 1) := by decide +kernel
theorem dX6_sumOfCopy_18 : decode cX6_sumOfCopy 18 = .ok (.ifCond .lt 19, 3) := by decide +kernel
theorem dX6_sumOfCopy_21 : decode cX6_sumOfCopy 21 = .ok (.iload_n 2, 1) := by decide +kernel
theorem dX6_sumOfCopy_22 : decode cX6_sumOfCopy 22 = .ok (.aload_n 1, 1) := by decide +kernel
theorem dX6_sumOfCopy_23 : decode cX6_sumOfCopy 23 = .ok (.getfield 327, 3) := by decide +kernel
theorem dX6_sumOfCopy_26 : decode cX6_sumOfCopy 26 = .ok (.if_icmp .gt 11, 3) := by decide +kernel
theorem dX6_sumOfCopy_29 : decode cX6_sumOfCopy 29 = .ok (.iload_n 2, 1) := by decide +kernel
theorem dX6_sumOfCopy_30 : decode cX6_sumOfCopy 30 = .ok (.iload_n 2, 1) := by decide +kernel
theorem dX6_sumOfCopy_31 : decode cX6_sumOfCopy 31 = .ok (.iadd, 1) := by decide +kernel
theorem dX6_sumOfCopy_32 : decode cX6_sumOfCopy 32 = .ok (.bipush 8, 2) := by decide +kernel
theorem dX6_sumOfCopy_34 : decode cX6_sumOfCopy 34 = .ok (.if_icmp .le 10, 3) := by decide +kernel
theorem dX6_sumOfCopy_37 : decode cX6_sumOfCopy 37 = .ok (.aload_n 0, 1) := by decide +kernel
theorem dX6_sumOfCopy_38 : decode cX6_sumOfCopy 38 = .ok (.bipush 12, 2) := by decide +kernel
theorem dX6_sumOfCopy_40 : decode cX6_sumOfCopy 40 = .ok (.invokevirtual 227, 3) := by decide +kernel
theorem dX6_sumOfCopy_43 : decode cX6_sumOfCopy 43 = .ok (.ireturn, 1) := by decide +kernel
theorem dX6_sumOfCopy_44 : decode cX6_sumOfCopy 44 = .ok (.iconst 0, 1) := by decide +kernel
theorem dX6_sumOfCopy_45 : decode cX6_sumOfCopy 45 = .ok (.istore 4, 2) := by decide +kernel
theorem dX6_sumOfCopy_47 : decode cX6_sumOfCopy 47 = .ok (.iconst 0, 1) := by decide +kernel
theorem dX6_sumOfCopy_48 : decode cX6_sumOfCopy 48 = .ok (.istore 5, 2) := by decide +kernel
theorem dX6_sumOfCopy_50 : decode cX6_sumOfCopy 50 = .ok (.iload 5, 2) := by decide +kernel
theorem dX6_sumOfCopy_52 : decode cX6_sumOfCopy 52 = .ok (.iload_n 2, 1) := by decide +kernel
theorem dX6_sumOfCopy_53 : decode cX6_sumOfCopy 53 = .ok (.if_icmp .ge 22, 3) := by decide +kernel
theorem dX6_sumOfCopy_56 : decode cX6_sumOfCopy 56 = .ok (.iload 4, 2) := by decide +kernel
theorem dX6_sumOfCopy_58 : decode cX6_sumOfCopy 58 = .ok (.aload_n 1, 1) := by decide +kernel
theorem dX6_sumOfCopy_59 : decode cX6_sumOfCopy 59 = .ok (.getfield 328, 3) := by decide +kernel
theorem dX6_sumOfCopy_62 : decode cX6_sumOfCopy 62 = .ok (.iload 5, 2) := by decide +kernel
theorem dX6_sumOfCopy_64 : decode cX6_sumOfCopy 64 = .ok (.laload, 1) := by decide +kernel
theorem dX6_sumOfCopy_65 : decode cX6_sumOfCopy 65 = .ok (.l2i, 1) := by decide +kernel
theorem dX6_sumOfCopy_66 : decode cX6_sumOfCopy 66 = .ok (.iadd, 1) := by decide +kernel
theorem dX6_sumOfCopy_67 : decode cX6_sumOfCopy 67 = .ok (.istore 4, 2) := by decide +kernel
theorem dX6_sumOfCopy_69 : decode cX6_sumOfCopy 69 = .ok (.iinc 5 1, 3) := by decide +kernel
theorem dX6_sumOfCopy_72 : decode cX6_sumOfCopy 72 = .ok (.goto (-22), 3) := by decide +kernel
theorem dX6_sumOfCopy_75 : decode cX6_sumOfCopy 75 = .ok (.aload_n 0, 1) := by decide +kernel
theorem dX6_sumOfCopy_76 : decode cX6_sumOfCopy 76 = .ok (.iload 4, 2) := by decide +kernel
theorem dX6_sumOfCopy_78 : decode cX6_sumOfCopy 78 = .ok (.invokevirtual 256, 3) := by decide +kernel
theorem dX6_sumOfCopy_81 : decode cX6_sumOfCopy 81 = .ok (.ireturn, 1) := by decide +kernel
theorem dX6_layIntoRows_0 : decode cX6_layIntoRows 0 = .ok (.aload_n 1, 1) := by decide +kernel
theorem dX6_layIntoRows_1 : decode cX6_layIntoRows 1 = .ok (.getfield 321, 3) := by decide +kernel
theorem dX6_layIntoRows_4 : decode cX6_layIntoRows 4 = .ok (.ifCond .ne 9, 3) := by decide +kernel
theorem dX6_layIntoRows_7 : decode cX6_layIntoRows 7 = .ok (.aload_n 0, 1) := by decide +kernel
theorem dX6_layIntoRows_8 : decode cX6_layIntoRows 8 = .ok (.iconst 0, 1) := by decide +kernel
theorem dX6_layIntoRows_9 : decode cX6_layIntoRows 9 = .ok (.invokevirtual 256, 3) := by decide +kernel
theorem dX6_layIntoRows_12 : decode cX6_layIntoRows 12 = .ok (.ireturn, 1) := by decide +kernel
theorem dX6_layIntoRows_13 : decode cX6_layIntoRows 13 = .ok (.aload_n 1, 1) := by decide +kernel
theorem dX6_layIntoRows_14 : decode cX6_layIntoRows 14 = .ok (.getfield 321, 3) := by decide +kernel
theorem dX6_layIntoRows_17 : decode cX6_layIntoRows 17 = .ok (.iconst 3, 1) := by decide +kernel
theorem dX6_layIntoRows_18 : decode cX6_layIntoRows 18 = .ok (.if_icmp .ne 14, 3) := by decide +kernel
theorem dX6_layIntoRows_21 : decode cX6_layIntoRows 21 = .ok (.aload_n 0, 1) := by decide +kernel
theorem dX6_layIntoRows_22 : decode cX6_layIntoRows 22 = .ok (.aload_n 1, 1) := by decide +kernel
theorem dX6_layIntoRows_23 : decode cX6_layIntoRows 23 = .ok (.getfield 327, 3) := by decide +kernel
theorem dX6_layIntoRows_26 : decode cX6_layIntoRows 26 = .ok (.invokevirtual 256, 3) := by decide +kernel
theorem dX6_layIntoRows_29 : decode cX6_layIntoRows 29 = .ok (.goto 9, 3) := by decide +kernel
theorem dX6_layIntoRows_32 : decode cX6_layIntoRows 32 = .ok (.aload_n 0, 1) := by decide +kernel
theorem dX6_layIntoRows_33 : decode cX6_layIntoRows 33 = .ok (.bipush 14, 2) := by decide +kernel
theorem dX6_layIntoRows_35 : decode cX6_layIntoRows 35 = .ok (.invokevirtual 227, 3) := by decide +kernel
theorem dX6_layIntoRows_38 : decode cX6_layIntoRows 38 = .ok (.ireturn, 1) := by decide +kernel
theorem dX7_init_0 : decode cX7_init 0 = .ok (.aload_n 0, 1) := by decide +kernel
theorem dX7_init_1 : decode cX7_init 1 = .ok (.invokespecial 1, 3) := by decide +kernel
theorem dX7_init_4 : decode cX7_init 4 = .ok (.aload_n 0, 1) := by decide +kernel
theorem dX7_init_5 : decode cX7_init 5 = .ok (.bipush 100, 2) := by decide +kernel
theorem dX7_init_7 : decode cX7_init 7 = .ok (.newarray .long, 2) := by decide +kernel
theorem dX7_init_9 : decode cX7_init 9 = .ok (.putfield 7, 3) := by decide +kernel
theorem dX7_init_12 : decode cX7_init 12 = .ok (.aload_n 0, 1) := by decide +kernel
theorem dX7_init_13 : decode cX7_init 13 = .ok (.bipush 100, 2) := by decide +kernel
theorem dX7_init_15 : decode cX7_init 15 = .ok (.newarray .int, 2) := by decide +kernel
theorem dX7_init_17 : decode cX7_init 17 = .ok (.putfield 13, 3) := by decide +kernel
theorem dX7_init_20 : decode cX7_init 20 = .ok (.aload_n 0, 1) := by decide +kernel
theorem dX7_init_21 : decode cX7_init 21 = .ok (.sipush 300, 3) := by decide +kernel
theorem dX7_init_24 : decode cX7_init 24 = .ok (.newarray .int, 2) := by decide +kernel
theorem dX7_init_26 : decode cX7_init 26 = .ok (.putfield 17, 3) := by decide +kernel
theorem dX7_init_29 : decode cX7_init 29 = .ok (.aload_n 0, 1) := by decide +kernel
theorem dX7_init_30 : decode cX7_init 30 = .ok (.sipush 300, 3) := by decide +kernel
theorem dX7_init_33 : decode cX7_init 33 = .ok (.newarray .int, 2) := by decide +kernel
theorem dX7_init_35 : decode cX7_init 35 = .ok (.putfield 20, 3) := by decide +kernel
theorem dX7_init_38 : decode cX7_init 38 = .ok (.aload_n 0, 1) := by decide +kernel
theorem dX7_init_39 : decode cX7_init 39 = .ok (.sipush 300, 3) := by decide +kernel
theorem dX7_init_42 : decode cX7_init 42 = .ok (.newarray .int, 2) := by decide +kernel
theorem dX7_init_44 : decode cX7_init 44 = .ok (.putfield 23, 3) := by decide +kernel
theorem dX7_init_47 : decode cX7_init 47 = .ok (.aload_n 0, 1) := by decide +kernel
theorem dX7_init_48 : decode cX7_init 48 = .ok (.sipush 300, 3) := by decide +kernel
theorem dX7_init_51 : decode cX7_init 51 = .ok (.newarray .int, 2) := by decide +kernel
theorem dX7_init_53 : decode cX7_init 53 = .ok (.putfield 26, 3) := by decide +kernel
theorem dX7_init_56 : decode cX7_init 56 = .ok (.aload_n 0, 1) := by decide +kernel
theorem dX7_init_57 : decode cX7_init 57 = .ok (.sipush 300, 3) := by decide +kernel
theorem dX7_init_60 : decode cX7_init 60 = .ok (.newarray .long, 2) := by decide +kernel
theorem dX7_init_62 : decode cX7_init 62 = .ok (.putfield 29, 3) := by decide +kernel
theorem dX7_init_65 : decode cX7_init 65 = .ok (.aload_n 0, 1) := by decide +kernel
theorem dX7_init_66 : decode cX7_init 66 = .ok (.sipush 2100, 3) := by decide +kernel
theorem dX7_init_69 : decode cX7_init 69 = .ok (.newarray .long, 2) := by decide +kernel
theorem dX7_init_71 : decode cX7_init 71 = .ok (.putfield 32, 3) := by decide +kernel
theorem dX7_init_74 : decode cX7_init 74 = .ok (.aload_n 0, 1) := by decide +kernel
theorem dX7_init_75 : decode cX7_init 75 = .ok (.sipush 2100, 3) := by decide +kernel
theorem dX7_init_78 : decode cX7_init 78 = .ok (.newarray .int, 2) := by decide +kernel
theorem dX7_init_80 : decode cX7_init 80 = .ok (.putfield 35, 3) := by decide +kernel
theorem dX7_init_83 : decode cX7_init 83 = .ok (.aload_n 0, 1) := by decide +kernel
theorem dX7_init_84 : decode cX7_init 84 = .ok (.sipush 6300, 3) := by decide +kernel
theorem dX7_init_87 : decode cX7_init 87 = .ok (.newarray .int, 2) := by decide +kernel
theorem dX7_init_89 : decode cX7_init 89 = .ok (.putfield 38, 3) := by decide +kernel
theorem dX7_init_92 : decode cX7_init 92 = .ok (.aload_n 0, 1) := by decide +kernel
theorem dX7_init_93 : decode cX7_init 93 = .ok (.sipush 6300, 3) := by decide +kernel
theorem dX7_init_96 : decode cX7_init 96 = .ok (.newarray .int, 2) := by decide +kernel
theorem dX7_init_98 : decode cX7_init 98 = .ok (.putfield 41, 3) := by decide +kernel
theorem dX7_init_101 : decode cX7_init 101 = .ok (.aload_n 0, 1) := by decide +kernel
theorem dX7_init_102 : decode cX7_init 102 = .ok (.bipush 21, 2) := by decide +kernel
theorem dX7_init_104 : decode cX7_init 104 = .ok (.newarray .int, 2) := by decide +kernel
theorem dX7_init_106 : decode cX7_init 106 = .ok (.putfield 44, 3) := by decide +kernel
theorem dX7_init_109 : decode cX7_init 109 = .ok (.aload_n 0, 1) := by decide +kernel
theorem dX7_init_110 : decode cX7_init 110 = .ok (.bipush 21, 2) := by decide +kernel
theorem dX7_init_112 : decode cX7_init 112 = .ok (.newarray .int, 2) := by decide +kernel
theorem dX7_init_114 : decode cX7_init 114 = .ok (.putfield 47, 3) := by decide +kernel
theorem dX7_init_117 : decode cX7_init 117 = .ok (.aload_n 0, 1) := by decide +kernel
theorem dX7_init_118 : decode cX7_init 118 = .ok (.bipush 21, 2) := by decide +kernel
theorem dX7_init_120 : decode cX7_init 120 = .ok (.newarray .int, 2) := by decide +kernel
theorem dX7_init_122 : decode cX7_init 122 = .ok (.putfield 50, 3) := by decide +kernel
theorem dX7_init_125 : decode cX7_init 125 = .ok (.aload_n 0, 1) := by decide +kernel
theorem dX7_init_126 : decode cX7_init 126 = .ok (.bipush 100, 2) := by decide +kernel
theorem dX7_init_128 : decode cX7_init 128 = .ok (.newarray .boolean, 2) := by decide +kernel
theorem dX7_init_130 : decode cX7_init 130 = .ok (.putfield 53, 3) := by decide +kernel
theorem dX7_init_133 : decode cX7_init 133 = .ok (.aload_n 0, 1) := by decide +kernel
theorem dX7_init_134 : decode cX7_init 134 = .ok (.bipush 100, 2) := by decide +kernel
theorem dX7_init_136 : decode cX7_init 136 = .ok (.newarray .boolean, 2) := by decide +kernel
theorem dX7_init_138 : decode cX7_init 138 = .ok (.putfield 57, 3) := by decide +kernel
theorem dX7_init_141 : decode cX7_init 141 = .ok (.aload_n 0, 1) := by decide +kernel
theorem dX7_init_142 : decode cX7_init 142 = .ok (.bipush 100, 2) := by decide +kernel
theorem dX7_init_144 : decode cX7_init 144 = .ok (.newarray .int, 2) := by decide +kernel
theorem dX7_init_146 : decode cX7_init 146 = .ok (.putfield 60, 3) := by decide +kernel
theorem dX7_init_149 : decode cX7_init 149 = .ok (.aload_n 0, 1) := by decide +kernel
theorem dX7_init_150 : decode cX7_init 150 = .ok (.bipush 100, 2) := by decide +kernel
theorem dX7_init_152 : decode cX7_init 152 = .ok (.newarray .int, 2) := by decide +kernel
theorem dX7_init_154 : decode cX7_init 154 = .ok (.putfield 63, 3) := by decide +kernel
theorem dX7_init_157 : decode cX7_init 157 = .ok (.aload_n 0, 1) := by decide +kernel
theorem dX7_init_158 : decode cX7_init 158 = .ok (.bipush 100, 2) := by decide +kernel
theorem dX7_init_160 : decode cX7_init 160 = .ok (.newarray .int, 2) := by decide +kernel
theorem dX7_init_162 : decode cX7_init 162 = .ok (.putfield 66, 3) := by decide +kernel
theorem dX7_init_165 : decode cX7_init 165 = .ok (.aload_n 0, 1) := by decide +kernel
theorem dX7_init_166 : decode cX7_init 166 = .ok (.bipush 100, 2) := by decide +kernel
theorem dX7_init_168 : decode cX7_init 168 = .ok (.newarray .int, 2) := by decide +kernel
theorem dX7_init_170 : decode cX7_init 170 = .ok (.putfield 69, 3) := by decide +kernel
theorem dX7_init_173 : decode cX7_init 173 = .ok (.aload_n 0, 1) := by decide +kernel
theorem dX7_init_174 : decode cX7_init 174 = .ok (.bipush 6, 2) := by decide +kernel
theorem dX7_init_176 : decode cX7_init 176 = .ok (.newarray .int, 2) := by decide +kernel
theorem dX7_init_178 : decode cX7_init 178 = .ok (.putfield 72, 3) := by decide +kernel
theorem dX7_init_181 : decode cX7_init 181 = .ok (.aload_n 0, 1) := by decide +kernel
theorem dX7_init_182 : decode cX7_init 182 = .ok (.bipush 6, 2) := by decide +kernel
theorem dX7_init_184 : decode cX7_init 184 = .ok (.newarray .int, 2) := by decide +kernel
theorem dX7_init_186 : decode cX7_init 186 = .ok (.putfield 75, 3) := by decide +kernel
theorem dX7_init_189 : decode cX7_init 189 = .ok (.aload_n 0, 1) := by decide +kernel
theorem dX7_init_190 : decode cX7_init 190 = .ok (.sipush 600, 3) := by decide +kernel
theorem dX7_init_193 : decode cX7_init 193 = .ok (.newarray .int, 2) := by decide +kernel
theorem dX7_init_195 : decode cX7_init 195 = .ok (.putfield 78, 3) := by decide +kernel
theorem dX7_init_198 : decode cX7_init 198 = .ok (.aload_n 0, 1) := by decide +kernel
theorem dX7_init_199 : decode cX7_init 199 = .ok (.sipush 600, 3) := by decide +kernel
theorem dX7_init_202 : decode cX7_init 202 = .ok (.newarray .long, 2) := by decide +kernel
theorem dX7_init_204 : decode cX7_init 204 = .ok (.putfield 81, 3) := by decide +kernel
theorem dX7_init_207 : decode cX7_init 207 = .ok (.return_, 1) := by decide +kernel
theorem dX7_isKnot_0 : decode cX7_isKnot 0 = .ok (.iload_n 1, 1) := by decide +kernel
theorem dX7_isKnot_1 : decode cX7_isKnot 1 = .ok (.ifCond .lt 15, 3) := by decide +kernel
theorem dX7_isKnot_4 : decode cX7_isKnot 4 = .ok (.iload_n 1, 1) := by decide +kernel
theorem dX7_isKnot_5 : decode cX7_isKnot 5 = .ok (.aload_n 0, 1) := by decide +kernel
theorem dX7_isKnot_6 : decode cX7_isKnot 6 = .ok (.getfield 84, 3) := by decide +kernel
theorem dX7_isKnot_9 : decode cX7_isKnot 9 = .ok (.if_icmp .ge 7, 3) := by decide +kernel
theorem dX7_isKnot_12 : decode cX7_isKnot 12 = .ok (.iconst 1, 1) := by decide +kernel
theorem dX7_isKnot_13 : decode cX7_isKnot 13 = .ok (.goto 4, 3) := by decide +kernel
theorem dX7_isKnot_16 : decode cX7_isKnot 16 = .ok (.iconst 0, 1) := by decide +kernel
theorem dX7_isKnot_17 : decode cX7_isKnot 17 = .ok (.ireturn, 1) := by decide +kernel
theorem dX7_isThere_0 : decode cX7_isThere 0 = .ok (.iload_n 1, 1) := by decide +kernel
theorem dX7_isThere_1 : decode cX7_isThere 1 = .ok (.ifCond .lt 24, 3) := by decide +kernel
theorem dX7_isThere_4 : decode cX7_isThere 4 = .ok (.iload_n 1, 1) := by decide +kernel
theorem dX7_isThere_5 : decode cX7_isThere 5 = .ok (.aload_n 0, 1) := by decide +kernel
theorem dX7_isThere_6 : decode cX7_isThere 6 = .ok (.getfield 88, 3) := by decide +kernel
theorem dX7_isThere_9 : decode cX7_isThere 9 = .ok (.if_icmp .ge 16, 3) := by decide +kernel
theorem dX7_isThere_12 : decode cX7_isThere 12 = .ok (.aload_n 0, 1) := by decide +kernel
theorem dX7_isThere_13 : decode cX7_isThere 13 = .ok (.getfield 23, 3) := by decide +kernel
theorem dX7_isThere_16 : decode cX7_isThere 16 = .ok (.iload_n 1, 1) := by decide +kernel
theorem dX7_isThere_17 : decode cX7_isThere 17 = .ok (.iaload, 1) := by decide +kernel
theorem dX7_isThere_18 : decode cX7_isThere 18 = .ok (.ifCond .eq 7, 3) := by decide +kernel
theorem dX7_isThere_21 : decode cX7_isThere 21 = .ok (.iconst 1, 1) := by decide +kernel
theorem dX7_isThere_22 : decode cX7_isThere 22 = .ok (.goto 4, 3) := by decide +kernel
theorem dX7_isThere_25 : decode cX7_isThere 25 = .ok (.iconst 0, 1) := by decide +kernel
theorem dX7_isThere_26 : decode cX7_isThere 26 = .ok (.ireturn, 1) := by decide +kernel
theorem dX7_keep_0 : decode cX7_keep 0 = .ok (.iconst 0, 1) := by decide +kernel
theorem dX7_keep_1 : decode cX7_keep 1 = .ok (.istore_n 2, 1) := by decide +kernel
theorem dX7_keep_2 : decode cX7_keep 2 = .ok (.iload_n 2, 1) := by decide +kernel
theorem dX7_keep_3 : decode cX7_keep 3 = .ok (.aload_n 0, 1) := by decide +kernel
theorem dX7_keep_4 : decode cX7_keep 4 = .ok (.getfield 84, 3) := by decide +kernel
theorem dX7_keep_7 : decode cX7_keep 7 = .ok (.if_icmp .ge 43, 3) := by decide +kernel
theorem dX7_keep_10 : decode cX7_keep 10 = .ok (.aload_n 0, 1) := by decide +kernel
theorem dX7_keep_11 : decode cX7_keep 11 = .ok (.getfield 32, 3) := by decide +kernel
theorem dX7_keep_14 : decode cX7_keep 14 = .ok (.bipush 100, 2) := by decide +kernel
theorem dX7_keep_16 : decode cX7_keep 16 = .ok (.iload_n 1, 1) := by decide +kernel
theorem dX7_keep_17 : decode cX7_keep 17 = .ok (.imul, 1) := by decide +kernel
theorem dX7_keep_18 : decode cX7_keep 18 = .ok (.iload_n 2, 1) := by decide +kernel
theorem dX7_keep_19 : decode cX7_keep 19 = .ok (.iadd, 1) := by decide +kernel
theorem dX7_keep_20 : decode cX7_keep 20 = .ok (.aload_n 0, 1) := by decide +kernel
theorem dX7_keep_21 : decode cX7_keep 21 = .ok (.getfield 7, 3) := by decide +kernel
theorem dX7_keep_24 : decode cX7_keep 24 = .ok (.iload_n 2, 1) := by decide +kernel
theorem dX7_keep_25 : decode cX7_keep 25 = .ok (.laload, 1) := by decide +kernel
theorem dX7_keep_26 : decode cX7_keep 26 = .ok (.lastore, 1) := by decide +kernel
theorem dX7_keep_27 : decode cX7_keep 27 = .ok (.aload_n 0, 1) := by decide +kernel
theorem dX7_keep_28 : decode cX7_keep 28 = .ok (.getfield 35, 3) := by decide +kernel
theorem dX7_keep_31 : decode cX7_keep 31 = .ok (.bipush 100, 2) := by decide +kernel
theorem dX7_keep_33 : decode cX7_keep 33 = .ok (.iload_n 1, 1) := by decide +kernel
theorem dX7_keep_34 : decode cX7_keep 34 = .ok (.imul, 1) := by decide +kernel
theorem dX7_keep_35 : decode cX7_keep 35 = .ok (.iload_n 2, 1) := by decide +kernel
theorem dX7_keep_36 : decode cX7_keep 36 = .ok (.iadd, 1) := by decide +kernel
theorem dX7_keep_37 : decode cX7_keep 37 = .ok (.aload_n 0, 1) := by decide +kernel
theorem dX7_keep_38 : decode cX7_keep 38 = .ok (.getfield 13, 3) := by decide +kernel
theorem dX7_keep_41 : decode cX7_keep 41 = .ok (.iload_n 2, 1) := by decide +kernel
theorem dX7_keep_42 : decode cX7_keep 42 = .ok (.iaload, 1) := by decide +kernel
theorem dX7_keep_43 : decode cX7_keep 43 = .ok (.iastore, 1) := by decide +kernel
theorem dX7_keep_44 : decode cX7_keep 44 = .ok (.iinc 2 1, 3) := by decide +kernel
theorem dX7_keep_47 : decode cX7_keep 47 = .ok (.goto (-45), 3) := by decide +kernel
theorem dX7_keep_50 : decode cX7_keep 50 = .ok (.iconst 0, 1) := by decide +kernel
theorem dX7_keep_51 : decode cX7_keep 51 = .ok (.istore_n 2, 1) := by decide +kernel
theorem dX7_keep_52 : decode cX7_keep 52 = .ok (.iload_n 2, 1) := by decide +kernel
theorem dX7_keep_53 : decode cX7_keep 53 = .ok (.aload_n 0, 1) := by decide +kernel
theorem dX7_keep_54 : decode cX7_keep 54 = .ok (.getfield 88, 3) := by decide +kernel
theorem dX7_keep_57 : decode cX7_keep 57 = .ok (.if_icmp .ge 45, 3) := by decide +kernel
theorem dX7_keep_60 : decode cX7_keep 60 = .ok (.aload_n 0, 1) := by decide +kernel
theorem dX7_keep_61 : decode cX7_keep 61 = .ok (.getfield 38, 3) := by decide +kernel
theorem dX7_keep_64 : decode cX7_keep 64 = .ok (.sipush 300, 3) := by decide +kernel
theorem dX7_keep_67 : decode cX7_keep 67 = .ok (.iload_n 1, 1) := by decide +kernel
theorem dX7_keep_68 : decode cX7_keep 68 = .ok (.imul, 1) := by decide +kernel
theorem dX7_keep_69 : decode cX7_keep 69 = .ok (.iload_n 2, 1) := by decide +kernel
theorem dX7_keep_70 : decode cX7_keep 70 = .ok (.iadd, 1) := by decide +kernel
theorem dX7_keep_71 : decode cX7_keep 71 = .ok (.aload_n 0, 1) := by decide +kernel
theorem dX7_keep_72 : decode cX7_keep 72 = .ok (.getfield 23, 3) := by decide +kernel
theorem dX7_keep_75 : decode cX7_keep 75 = .ok (.iload_n 2, 1) := by decide +kernel
theorem dX7_keep_76 : decode cX7_keep 76 = .ok (.iaload, 1) := by decide +kernel
theorem dX7_keep_77 : decode cX7_keep 77 = .ok (.iastore, 1) := by decide +kernel
theorem dX7_keep_78 : decode cX7_keep 78 = .ok (.aload_n 0, 1) := by decide +kernel
theorem dX7_keep_79 : decode cX7_keep 79 = .ok (.getfield 41, 3) := by decide +kernel
theorem dX7_keep_82 : decode cX7_keep 82 = .ok (.sipush 300, 3) := by decide +kernel
theorem dX7_keep_85 : decode cX7_keep 85 = .ok (.iload_n 1, 1) := by decide +kernel
theorem dX7_keep_86 : decode cX7_keep 86 = .ok (.imul, 1) := by decide +kernel
theorem dX7_keep_87 : decode cX7_keep 87 = .ok (.iload_n 2, 1) := by decide +kernel
theorem dX7_keep_88 : decode cX7_keep 88 = .ok (.iadd, 1) := by decide +kernel
theorem dX7_keep_89 : decode cX7_keep 89 = .ok (.aload_n 0, 1) := by decide +kernel
theorem dX7_keep_90 : decode cX7_keep 90 = .ok (.getfield 26, 3) := by decide +kernel
theorem dX7_keep_93 : decode cX7_keep 93 = .ok (.iload_n 2, 1) := by decide +kernel
theorem dX7_keep_94 : decode cX7_keep 94 = .ok (.iaload, 1) := by decide +kernel
theorem dX7_keep_95 : decode cX7_keep 95 = .ok (.iastore, 1) := by decide +kernel
theorem dX7_keep_96 : decode cX7_keep 96 = .ok (.iinc 2 1, 3) := by decide +kernel
theorem dX7_keep_99 : decode cX7_keep 99 = .ok (.goto (-47), 3) := by decide +kernel
theorem dX7_keep_102 : decode cX7_keep 102 = .ok (.aload_n 0, 1) := by decide +kernel
theorem dX7_keep_103 : decode cX7_keep 103 = .ok (.getfield 44, 3) := by decide +kernel
theorem dX7_keep_106 : decode cX7_keep 106 = .ok (.iload_n 1, 1) := by decide +kernel
theorem dX7_keep_107 : decode cX7_keep 107 = .ok (.aload_n 0, 1) := by decide +kernel
theorem dX7_keep_108 : decode cX7_keep 108 = .ok (.getfield 88, 3) := by decide +kernel
theorem dX7_keep_111 : decode cX7_keep 111 = .ok (.iastore, 1) := by decide +kernel
theorem dX7_keep_112 : decode cX7_keep 112 = .ok (.aload_n 0, 1) := by decide +kernel
theorem dX7_keep_113 : decode cX7_keep 113 = .ok (.getfield 47, 3) := by decide +kernel
theorem dX7_keep_116 : decode cX7_keep 116 = .ok (.iload_n 1, 1) := by decide +kernel
theorem dX7_keep_117 : decode cX7_keep 117 = .ok (.aload_n 0, 1) := by decide +kernel
theorem dX7_keep_118 : decode cX7_keep 118 = .ok (.getfield 91, 3) := by decide +kernel
theorem dX7_keep_121 : decode cX7_keep 121 = .ok (.iastore, 1) := by decide +kernel
theorem dX7_keep_122 : decode cX7_keep 122 = .ok (.aload_n 0, 1) := by decide +kernel
theorem dX7_keep_123 : decode cX7_keep 123 = .ok (.getfield 50, 3) := by decide +kernel
theorem dX7_keep_126 : decode cX7_keep 126 = .ok (.iload_n 1, 1) := by decide +kernel
theorem dX7_keep_127 : decode cX7_keep 127 = .ok (.aload_n 0, 1) := by decide +kernel
theorem dX7_keep_128 : decode cX7_keep 128 = .ok (.getfield 94, 3) := by decide +kernel
theorem dX7_keep_131 : decode cX7_keep 131 = .ok (.iastore, 1) := by decide +kernel
theorem dX7_keep_132 : decode cX7_keep 132 = .ok (.return_, 1) := by decide +kernel
theorem dX7_back_0 : decode cX7_back 0 = .ok (.iconst 0, 1) := by decide +kernel
theorem dX7_back_1 : decode cX7_back 1 = .ok (.istore_n 2, 1) := by decide +kernel
theorem dX7_back_2 : decode cX7_back 2 = .ok (.iload_n 2, 1) := by decide +kernel
theorem dX7_back_3 : decode cX7_back 3 = .ok (.aload_n 0, 1) := by decide +kernel
theorem dX7_back_4 : decode cX7_back 4 = .ok (.getfield 84, 3) := by decide +kernel
theorem dX7_back_7 : decode cX7_back 7 = .ok (.if_icmp .ge 43, 3) := by decide +kernel
theorem dX7_back_10 : decode cX7_back 10 = .ok (.aload_n 0, 1) := by decide +kernel
theorem dX7_back_11 : decode cX7_back 11 = .ok (.getfield 7, 3) := by decide +kernel
theorem dX7_back_14 : decode cX7_back 14 = .ok (.iload_n 2, 1) := by decide +kernel
theorem dX7_back_15 : decode cX7_back 15 = .ok (.aload_n 0, 1) := by decide +kernel
theorem dX7_back_16 : decode cX7_back 16 = .ok (.getfield 32, 3) := by decide +kernel
theorem dX7_back_19 : decode cX7_back 19 = .ok (.bipush 100, 2) := by decide +kernel
theorem dX7_back_21 : decode cX7_back 21 = .ok (.iload_n 1, 1) := by decide +kernel
theorem dX7_back_22 : decode cX7_back 22 = .ok (.imul, 1) := by decide +kernel
theorem dX7_back_23 : decode cX7_back 23 = .ok (.iload_n 2, 1) := by decide +kernel
theorem dX7_back_24 : decode cX7_back 24 = .ok (.iadd, 1) := by decide +kernel
theorem dX7_back_25 : decode cX7_back 25 = .ok (.laload, 1) := by decide +kernel
theorem dX7_back_26 : decode cX7_back 26 = .ok (.lastore, 1) := by decide +kernel
theorem dX7_back_27 : decode cX7_back 27 = .ok (.aload_n 0, 1) := by decide +kernel
theorem dX7_back_28 : decode cX7_back 28 = .ok (.getfield 13, 3) := by decide +kernel
theorem dX7_back_31 : decode cX7_back 31 = .ok (.iload_n 2, 1) := by decide +kernel
theorem dX7_back_32 : decode cX7_back 32 = .ok (.aload_n 0, 1) := by decide +kernel
theorem dX7_back_33 : decode cX7_back 33 = .ok (.getfield 35, 3) := by decide +kernel
theorem dX7_back_36 : decode cX7_back 36 = .ok (.bipush 100, 2) := by decide +kernel
theorem dX7_back_38 : decode cX7_back 38 = .ok (.iload_n 1, 1) := by decide +kernel
theorem dX7_back_39 : decode cX7_back 39 = .ok (.imul, 1) := by decide +kernel
theorem dX7_back_40 : decode cX7_back 40 = .ok (.iload_n 2, 1) := by decide +kernel
theorem dX7_back_41 : decode cX7_back 41 = .ok (.iadd, 1) := by decide +kernel
theorem dX7_back_42 : decode cX7_back 42 = .ok (.iaload, 1) := by decide +kernel
theorem dX7_back_43 : decode cX7_back 43 = .ok (.iastore, 1) := by decide +kernel
theorem dX7_back_44 : decode cX7_back 44 = .ok (.iinc 2 1, 3) := by decide +kernel
theorem dX7_back_47 : decode cX7_back 47 = .ok (.goto (-45), 3) := by decide +kernel
theorem dX7_back_50 : decode cX7_back 50 = .ok (.aload_n 0, 1) := by decide +kernel
theorem dX7_back_51 : decode cX7_back 51 = .ok (.aload_n 0, 1) := by decide +kernel
theorem dX7_back_52 : decode cX7_back 52 = .ok (.getfield 44, 3) := by decide +kernel
theorem dX7_back_55 : decode cX7_back 55 = .ok (.iload_n 1, 1) := by decide +kernel
theorem dX7_back_56 : decode cX7_back 56 = .ok (.iaload, 1) := by decide +kernel
theorem dX7_back_57 : decode cX7_back 57 = .ok (.putfield 88, 3) := by decide +kernel
theorem dX7_back_60 : decode cX7_back 60 = .ok (.iconst 0, 1) := by decide +kernel
theorem dX7_back_61 : decode cX7_back 61 = .ok (.istore_n 2, 1) := by decide +kernel
theorem dX7_back_62 : decode cX7_back 62 = .ok (.iload_n 2, 1) := by decide +kernel
theorem dX7_back_63 : decode cX7_back 63 = .ok (.aload_n 0, 1) := by decide +kernel
theorem dX7_back_64 : decode cX7_back 64 = .ok (.getfield 88, 3) := by decide +kernel
theorem dX7_back_67 : decode cX7_back 67 = .ok (.if_icmp .ge 45, 3) := by decide +kernel
theorem dX7_back_70 : decode cX7_back 70 = .ok (.aload_n 0, 1) := by decide +kernel
theorem dX7_back_71 : decode cX7_back 71 = .ok (.getfield 23, 3) := by decide +kernel
theorem dX7_back_74 : decode cX7_back 74 = .ok (.iload_n 2, 1) := by decide +kernel
theorem dX7_back_75 : decode cX7_back 75 = .ok (.aload_n 0, 1) := by decide +kernel
theorem dX7_back_76 : decode cX7_back 76 = .ok (.getfield 38, 3) := by decide +kernel
theorem dX7_back_79 : decode cX7_back 79 = .ok (.sipush 300, 3) := by decide +kernel
theorem dX7_back_82 : decode cX7_back 82 = .ok (.iload_n 1, 1) := by decide +kernel
theorem dX7_back_83 : decode cX7_back 83 = .ok (.imul, 1) := by decide +kernel
theorem dX7_back_84 : decode cX7_back 84 = .ok (.iload_n 2, 1) := by decide +kernel
theorem dX7_back_85 : decode cX7_back 85 = .ok (.iadd, 1) := by decide +kernel
theorem dX7_back_86 : decode cX7_back 86 = .ok (.iaload, 1) := by decide +kernel
theorem dX7_back_87 : decode cX7_back 87 = .ok (.iastore, 1) := by decide +kernel
theorem dX7_back_88 : decode cX7_back 88 = .ok (.aload_n 0, 1) := by decide +kernel
theorem dX7_back_89 : decode cX7_back 89 = .ok (.getfield 26, 3) := by decide +kernel
theorem dX7_back_92 : decode cX7_back 92 = .ok (.iload_n 2, 1) := by decide +kernel
theorem dX7_back_93 : decode cX7_back 93 = .ok (.aload_n 0, 1) := by decide +kernel
theorem dX7_back_94 : decode cX7_back 94 = .ok (.getfield 41, 3) := by decide +kernel
theorem dX7_back_97 : decode cX7_back 97 = .ok (.sipush 300, 3) := by decide +kernel
theorem dX7_back_100 : decode cX7_back 100 = .ok (.iload_n 1, 1) := by decide +kernel
theorem dX7_back_101 : decode cX7_back 101 = .ok (.imul, 1) := by decide +kernel
theorem dX7_back_102 : decode cX7_back 102 = .ok (.iload_n 2, 1) := by decide +kernel
theorem dX7_back_103 : decode cX7_back 103 = .ok (.iadd, 1) := by decide +kernel
theorem dX7_back_104 : decode cX7_back 104 = .ok (.iaload, 1) := by decide +kernel
theorem dX7_back_105 : decode cX7_back 105 = .ok (.iastore, 1) := by decide +kernel
theorem dX7_back_106 : decode cX7_back 106 = .ok (.iinc 2 1, 3) := by decide +kernel
theorem dX7_back_109 : decode cX7_back 109 = .ok (.goto (-47), 3) := by decide +kernel
theorem dX7_back_112 : decode cX7_back 112 = .ok (.aload_n 0, 1) := by decide +kernel
theorem dX7_back_113 : decode cX7_back 113 = .ok (.aload_n 0, 1) := by decide +kernel
theorem dX7_back_114 : decode cX7_back 114 = .ok (.getfield 47, 3) := by decide +kernel
theorem dX7_back_117 : decode cX7_back 117 = .ok (.iload_n 1, 1) := by decide +kernel
theorem dX7_back_118 : decode cX7_back 118 = .ok (.iaload, 1) := by decide +kernel
theorem dX7_back_119 : decode cX7_back 119 = .ok (.putfield 91, 3) := by decide +kernel
theorem dX7_back_122 : decode cX7_back 122 = .ok (.aload_n 0, 1) := by decide +kernel
theorem dX7_back_123 : decode cX7_back 123 = .ok (.aload_n 0, 1) := by decide +kernel
theorem dX7_back_124 : decode cX7_back 124 = .ok (.getfield 50, 3) := by decide +kernel
theorem dX7_back_127 : decode cX7_back 127 = .ok (.iload_n 1, 1) := by decide +kernel
theorem dX7_back_128 : decode cX7_back 128 = .ok (.iaload, 1) := by decide +kernel
theorem dX7_back_129 : decode cX7_back 129 = .ok (.putfield 94, 3) := by decide +kernel
theorem dX7_back_132 : decode cX7_back 132 = .ok (.return_, 1) := by decide +kernel
theorem dX7_move_0 : decode cX7_move 0 = .ok (.iconst 0, 1) := by decide +kernel
theorem dX7_move_1 : decode cX7_move 1 = .ok (.istore_n 3, 1) := by decide +kernel
theorem dX7_move_2 : decode cX7_move 2 = .ok (.iload_n 3, 1) := by decide +kernel
theorem dX7_move_3 : decode cX7_move 3 = .ok (.bipush 100, 2) := by decide +kernel
theorem dX7_move_5 : decode cX7_move 5 = .ok (.if_icmp .ge 53, 3) := by decide +kernel
theorem dX7_move_8 : decode cX7_move 8 = .ok (.aload_n 0, 1) := by decide +kernel
theorem dX7_move_9 : decode cX7_move 9 = .ok (.getfield 32, 3) := by decide +kernel
theorem dX7_move_12 : decode cX7_move 12 = .ok (.bipush 100, 2) := by decide +kernel
theorem dX7_move_14 : decode cX7_move 14 = .ok (.iload_n 2, 1) := by decide +kernel
theorem dX7_move_15 : decode cX7_move 15 = .ok (.imul, 1) := by decide +kernel
theorem dX7_move_16 : decode cX7_move 16 = .ok (.iload_n 3, 1) := by decide +kernel
theorem dX7_move_17 : decode cX7_move 17 = .ok (.iadd, 1) := by decide +kernel
theorem dX7_move_18 : decode cX7_move 18 = .ok (.aload_n 0, 1) := by decide +kernel
theorem dX7_move_19 : decode cX7_move 19 = .ok (.getfield 32, 3) := by decide +kernel
theorem dX7_move_22 : decode cX7_move 22 = .ok (.bipush 100, 2) := by decide +kernel
theorem dX7_move_24 : decode cX7_move 24 = .ok (.iload_n 1, 1) := by decide +kernel
theorem dX7_move_25 : decode cX7_move 25 = .ok (.imul, 1) := by decide +kernel
theorem dX7_move_26 : decode cX7_move 26 = .ok (.iload_n 3, 1) := by decide +kernel
theorem dX7_move_27 : decode cX7_move 27 = .ok (.iadd, 1) := by decide +kernel
theorem dX7_move_28 : decode cX7_move 28 = .ok (.laload, 1) := by decide +kernel
theorem dX7_move_29 : decode cX7_move 29 = .ok (.lastore, 1) := by decide +kernel
theorem dX7_move_30 : decode cX7_move 30 = .ok (.aload_n 0, 1) := by decide +kernel
theorem dX7_move_31 : decode cX7_move 31 = .ok (.getfield 35, 3) := by decide +kernel
theorem dX7_move_34 : decode cX7_move 34 = .ok (.bipush 100, 2) := by decide +kernel
theorem dX7_move_36 : decode cX7_move 36 = .ok (.iload_n 2, 1) := by decide +kernel
theorem dX7_move_37 : decode cX7_move 37 = .ok (.imul, 1) := by decide +kernel
theorem dX7_move_38 : decode cX7_move 38 = .ok (.iload_n 3, 1) := by decide +kernel
theorem dX7_move_39 : decode cX7_move 39 = .ok (.iadd, 1) := by decide +kernel
theorem dX7_move_40 : decode cX7_move 40 = .ok (.aload_n 0, 1) := by decide +kernel
theorem dX7_move_41 : decode cX7_move 41 = .ok (.getfield 35, 3) := by decide +kernel
theorem dX7_move_44 : decode cX7_move 44 = .ok (.bipush 100, 2) := by decide +kernel
theorem dX7_move_46 : decode cX7_move 46 = .ok (.iload_n 1, 1) := by decide +kernel
theorem dX7_move_47 : decode cX7_move 47 = .ok (.imul, 1) := by decide +kernel
theorem dX7_move_48 : decode cX7_move 48 = .ok (.iload_n 3, 1) := by decide +kernel
theorem dX7_move_49 : decode cX7_move 49 = .ok (.iadd, 1) := by decide +kernel
theorem dX7_move_50 : decode cX7_move 50 = .ok (.iaload, 1) := by decide +kernel
theorem dX7_move_51 : decode cX7_move 51 = .ok (.iastore, 1) := by decide +kernel
theorem dX7_move_52 : decode cX7_move 52 = .ok (.iinc 3 1, 3) := by decide +kernel
theorem dX7_move_55 : decode cX7_move 55 = .ok (.goto (-53), 3) := by decide +kernel
theorem dX7_move_58 : decode cX7_move 58 = .ok (.iconst 0, 1) := by decide +kernel
theorem dX7_move_59 : decode cX7_move 59 = .ok (.istore_n 3, 1) := by decide +kernel
theorem dX7_move_60 : decode cX7_move 60 = .ok (.iload_n 3, 1) := by decide +kernel
theorem dX7_move_61 : decode cX7_move 61 = .ok (.sipush 300, 3) := by decide +kernel
theorem dX7_move_64 : decode cX7_move 64 = .ok (.if_icmp .ge 57, 3) := by decide +kernel
theorem dX7_move_67 : decode cX7_move 67 = .ok (.aload_n 0, 1) := by decide +kernel
theorem dX7_move_68 : decode cX7_move 68 = .ok (.getfield 38, 3) := by decide +kernel
theorem dX7_move_71 : decode cX7_move 71 = .ok (.sipush 300, 3) := by decide +kernel
theorem dX7_move_74 : decode cX7_move 74 = .ok (.iload_n 2, 1) := by decide +kernel
theorem dX7_move_75 : decode cX7_move 75 = .ok (.imul, 1) := by decide +kernel
theorem dX7_move_76 : decode cX7_move 76 = .ok (.iload_n 3, 1) := by decide +kernel
theorem dX7_move_77 : decode cX7_move 77 = .ok (.iadd, 1) := by decide +kernel
theorem dX7_move_78 : decode cX7_move 78 = .ok (.aload_n 0, 1) := by decide +kernel
theorem dX7_move_79 : decode cX7_move 79 = .ok (.getfield 38, 3) := by decide +kernel
theorem dX7_move_82 : decode cX7_move 82 = .ok (.sipush 300, 3) := by decide +kernel
theorem dX7_move_85 : decode cX7_move 85 = .ok (.iload_n 1, 1) := by decide +kernel
theorem dX7_move_86 : decode cX7_move 86 = .ok (.imul, 1) := by decide +kernel
theorem dX7_move_87 : decode cX7_move 87 = .ok (.iload_n 3, 1) := by decide +kernel
theorem dX7_move_88 : decode cX7_move 88 = .ok (.iadd, 1) := by decide +kernel
theorem dX7_move_89 : decode cX7_move 89 = .ok (.iaload, 1) := by decide +kernel
theorem dX7_move_90 : decode cX7_move 90 = .ok (.iastore, 1) := by decide +kernel
theorem dX7_move_91 : decode cX7_move 91 = .ok (.aload_n 0, 1) := by decide +kernel
theorem dX7_move_92 : decode cX7_move 92 = .ok (.getfield 41, 3) := by decide +kernel
theorem dX7_move_95 : decode cX7_move 95 = .ok (.sipush 300, 3) := by decide +kernel
theorem dX7_move_98 : decode cX7_move 98 = .ok (.iload_n 2, 1) := by decide +kernel
theorem dX7_move_99 : decode cX7_move 99 = .ok (.imul, 1) := by decide +kernel
theorem dX7_move_100 : decode cX7_move 100 = .ok (.iload_n 3, 1) := by decide +kernel
theorem dX7_move_101 : decode cX7_move 101 = .ok (.iadd, 1) := by decide +kernel
theorem dX7_move_102 : decode cX7_move 102 = .ok (.aload_n 0, 1) := by decide +kernel
theorem dX7_move_103 : decode cX7_move 103 = .ok (.getfield 41, 3) := by decide +kernel
theorem dX7_move_106 : decode cX7_move 106 = .ok (.sipush 300, 3) := by decide +kernel
theorem dX7_move_109 : decode cX7_move 109 = .ok (.iload_n 1, 1) := by decide +kernel
theorem dX7_move_110 : decode cX7_move 110 = .ok (.imul, 1) := by decide +kernel
theorem dX7_move_111 : decode cX7_move 111 = .ok (.iload_n 3, 1) := by decide +kernel
theorem dX7_move_112 : decode cX7_move 112 = .ok (.iadd, 1) := by decide +kernel
theorem dX7_move_113 : decode cX7_move 113 = .ok (.iaload, 1) := by decide +kernel
theorem dX7_move_114 : decode cX7_move 114 = .ok (.iastore, 1) := by decide +kernel
theorem dX7_move_115 : decode cX7_move 115 = .ok (.iinc 3 1, 3) := by decide +kernel
theorem dX7_move_118 : decode cX7_move 118 = .ok (.goto (-58), 3) := by decide +kernel
theorem dX7_move_121 : decode cX7_move 121 = .ok (.aload_n 0, 1) := by decide +kernel
theorem dX7_move_122 : decode cX7_move 122 = .ok (.getfield 44, 3) := by decide +kernel
theorem dX7_move_125 : decode cX7_move 125 = .ok (.iload_n 2, 1) := by decide +kernel
theorem dX7_move_126 : decode cX7_move 126 = .ok (.aload_n 0, 1) := by decide +kernel
theorem dX7_move_127 : decode cX7_move 127 = .ok (.getfield 44, 3) := by decide +kernel
theorem dX7_move_130 : decode cX7_move 130 = .ok (.iload_n 1, 1) := by decide +kernel
theorem dX7_move_131 : decode cX7_move 131 = .ok (.iaload, 1) := by decide +kernel
theorem dX7_move_132 : decode cX7_move 132 = .ok (.iastore, 1) := by decide +kernel
theorem dX7_move_133 : decode cX7_move 133 = .ok (.aload_n 0, 1) := by decide +kernel
theorem dX7_move_134 : decode cX7_move 134 = .ok (.getfield 47, 3) := by decide +kernel
theorem dX7_move_137 : decode cX7_move 137 = .ok (.iload_n 2, 1) := by decide +kernel
theorem dX7_move_138 : decode cX7_move 138 = .ok (.aload_n 0, 1) := by decide +kernel
theorem dX7_move_139 : decode cX7_move 139 = .ok (.getfield 47, 3) := by decide +kernel
theorem dX7_move_142 : decode cX7_move 142 = .ok (.iload_n 1, 1) := by decide +kernel
theorem dX7_move_143 : decode cX7_move 143 = .ok (.iaload, 1) := by decide +kernel
theorem dX7_move_144 : decode cX7_move 144 = .ok (.iastore, 1) := by decide +kernel
theorem dX7_move_145 : decode cX7_move 145 = .ok (.aload_n 0, 1) := by decide +kernel
theorem dX7_move_146 : decode cX7_move 146 = .ok (.getfield 50, 3) := by decide +kernel
theorem dX7_move_149 : decode cX7_move 149 = .ok (.iload_n 2, 1) := by decide +kernel
theorem dX7_move_150 : decode cX7_move 150 = .ok (.aload_n 0, 1) := by decide +kernel
theorem dX7_move_151 : decode cX7_move 151 = .ok (.getfield 50, 3) := by decide +kernel
theorem dX7_move_154 : decode cX7_move 154 = .ok (.iload_n 1, 1) := by decide +kernel
theorem dX7_move_155 : decode cX7_move 155 = .ok (.iaload, 1) := by decide +kernel
theorem dX7_move_156 : decode cX7_move 156 = .ok (.iastore, 1) := by decide +kernel
theorem dX7_move_157 : decode cX7_move 157 = .ok (.return_, 1) := by decide +kernel
theorem dX7_changes_0 : decode cX7_changes 0 = .ok (.aload_n 0, 1) := by decide +kernel
theorem dX7_changes_1 : decode cX7_changes 1 = .ok (.getfield 97, 3) := by decide +kernel
theorem dX7_changes_4 : decode cX7_changes 4 = .ok (.bipush 20, 2) := by decide +kernel
theorem dX7_changes_6 : decode cX7_changes 6 = .ok (.if_icmp .ne 35, 3) := by decide +kernel
theorem dX7_changes_9 : decode cX7_changes 9 = .ok (.iconst 1, 1) := by decide +kernel
theorem dX7_changes_10 : decode cX7_changes 10 = .ok (.istore_n 1, 1) := by decide +kernel
theorem dX7_changes_11 : decode cX7_changes 11 = .ok (.iload_n 1, 1) := by decide +kernel
theorem dX7_changes_12 : decode cX7_changes 12 = .ok (.bipush 20, 2) := by decide +kernel
theorem dX7_changes_14 : decode cX7_changes 14 = .ok (.if_icmp .ge 17, 3) := by decide +kernel
theorem dX7_changes_17 : decode cX7_changes 17 = .ok (.aload_n 0, 1) := by decide +kernel
theorem dX7_changes_18 : decode cX7_changes 18 = .ok (.iload_n 1, 1) := by decide +kernel
theorem dX7_changes_19 : decode cX7_changes 19 = .ok (.iload_n 1, 1) := by decide +kernel
theorem dX7_changes_20 : decode cX7_changes 20 = .ok (.iconst 1, 1) := by decide +kernel
theorem dX7_changes_21 : decode cX7_changes 21 = .ok (.isub, 1) := by decide +kernel
theorem dX7_changes_22 : decode cX7_changes 22 = .ok (.invokevirtual 100, 3) := by decide +kernel
theorem dX7_changes_25 : decode cX7_changes 25 = .ok (.iinc 1 1, 3) := by decide +kernel
theorem dX7_changes_28 : decode cX7_changes 28 = .ok (.goto (-17), 3) := by decide +kernel
theorem dX7_changes_31 : decode cX7_changes 31 = .ok (.aload_n 0, 1) := by decide +kernel
theorem dX7_changes_32 : decode cX7_changes 32 = .ok (.dup, 1) := by decide +kernel
theorem dX7_changes_33 : decode cX7_changes 33 = .ok (.getfield 97, 3) := by decide +kernel
theorem dX7_changes_36 : decode cX7_changes 36 = .ok (.iconst 1, 1) := by decide +kernel
theorem dX7_changes_37 : decode cX7_changes 37 = .ok (.isub, 1) := by decide +kernel
theorem dX7_changes_38 : decode cX7_changes 38 = .ok (.putfield 97, 3) := by decide +kernel
theorem dX7_changes_41 : decode cX7_changes 41 = .ok (.aload_n 0, 1) := by decide +kernel
theorem dX7_changes_42 : decode cX7_changes 42 = .ok (.aload_n 0, 1) := by decide +kernel
theorem dX7_changes_43 : decode cX7_changes 43 = .ok (.dup, 1) := by decide +kernel
theorem dX7_changes_44 : decode cX7_changes 44 = .ok (.getfield 97, 3) := by decide +kernel
theorem dX7_changes_47 : decode cX7_changes 47 = .ok (.dup_x1, 1) := by decide +kernel
theorem dX7_changes_48 : decode cX7_changes 48 = .ok (.iconst 1, 1) := by decide +kernel
theorem dX7_changes_49 : decode cX7_changes 49 = .ok (.iadd, 1) := by decide +kernel
theorem dX7_changes_50 : decode cX7_changes 50 = .ok (.putfield 97, 3) := by decide +kernel
theorem dX7_changes_53 : decode cX7_changes 53 = .ok (.invokevirtual 104, 3) := by decide +kernel
theorem dX7_changes_56 : decode cX7_changes 56 = .ok (.return_, 1) := by decide +kernel
theorem dX7_undo_0 : decode cX7_undo 0 = .ok (.aload_n 0, 1) := by decide +kernel
theorem dX7_undo_1 : decode cX7_undo 1 = .ok (.getfield 97, 3) := by decide +kernel
theorem dX7_undo_4 : decode cX7_undo 4 = .ok (.ifCond .ne 5, 3) := by decide +kernel
theorem dX7_undo_7 : decode cX7_undo 7 = .ok (.iconst (-1), 1) := by decide +kernel
theorem dX7_undo_8 : decode cX7_undo 8 = .ok (.ireturn, 1) := by decide +kernel
theorem dX7_undo_9 : decode cX7_undo 9 = .ok (.aload_n 0, 1) := by decide +kernel
theorem dX7_undo_10 : decode cX7_undo 10 = .ok (.aload_n 0, 1) := by decide +kernel
theorem dX7_undo_11 : decode cX7_undo 11 = .ok (.dup, 1) := by decide +kernel
theorem dX7_undo_12 : decode cX7_undo 12 = .ok (.getfield 97, 3) := by decide +kernel
theorem dX7_undo_15 : decode cX7_undo 15 = .ok (.iconst 1, 1) := by decide +kernel
theorem dX7_undo_16 : decode cX7_undo 16 = .ok (.isub, 1) := by decide +kernel
theorem dX7_undo_17 : decode cX7_undo 17 = .ok (.dup_x1, 1) := by decide +kernel
theorem dX7_undo_18 : decode cX7_undo 18 = .ok (.putfield 97, 3) := by decide +kernel
theorem dX7_undo_21 : decode cX7_undo 21 = .ok (.invokevirtual 108, 3) := by decide +kernel
theorem dX7_undo_24 : decode cX7_undo 24 = .ok (.iconst 1, 1) := by decide +kernel
theorem dX7_undo_25 : decode cX7_undo 25 = .ok (.ireturn, 1) := by decide +kernel
theorem dX7_reach_0 : decode cX7_reach 0 = .ok (.iconst 0, 1) := by decide +kernel
theorem dX7_reach_1 : decode cX7_reach 1 = .ok (.istore 7, 2) := by decide +kernel
theorem dX7_reach_3 : decode cX7_reach 3 = .ok (.iload 7, 2) := by decide +kernel
theorem dX7_reach_5 : decode cX7_reach 5 = .ok (.aload_n 0, 1) := by decide +kernel
theorem dX7_reach_6 : decode cX7_reach 6 = .ok (.getfield 84, 3) := by decide +kernel
theorem dX7_reach_9 : decode cX7_reach 9 = .ok (.if_icmp .ge 14, 3) := by decide +kernel
theorem dX7_reach_12 : decode cX7_reach 12 = .ok (.aload_n 3, 1) := by decide +kernel
theorem dX7_reach_13 : decode cX7_reach 13 = .ok (.iload 7, 2) := by decide +kernel
theorem dX7_reach_15 : decode cX7_reach 15 = .ok (.iconst 0, 1) := by decide +kernel
theorem dX7_reach_16 : decode cX7_reach 16 = .ok (.bastore, 1) := by decide +kernel
theorem dX7_reach_17 : decode cX7_reach 17 = .ok (.iinc 7 1, 3) := by decide +kernel
theorem dX7_reach_20 : decode cX7_reach 20 = .ok (.goto (-17), 3) := by decide +kernel
theorem dX7_reach_23 : decode cX7_reach 23 = .ok (.aload_n 3, 1) := by decide +kernel
theorem dX7_reach_24 : decode cX7_reach 24 = .ok (.iload_n 1, 1) := by decide +kernel
theorem dX7_reach_25 : decode cX7_reach 25 = .ok (.iconst 1, 1) := by decide +kernel
theorem dX7_reach_26 : decode cX7_reach 26 = .ok (.bastore, 1) := by decide +kernel
theorem dX7_reach_27 : decode cX7_reach 27 = .ok (.aload_n 0, 1) := by decide +kernel
theorem dX7_reach_28 : decode cX7_reach 28 = .ok (.getfield 63, 3) := by decide +kernel
theorem dX7_reach_31 : decode cX7_reach 31 = .ok (.iload_n 1, 1) := by decide +kernel
theorem dX7_reach_32 : decode cX7_reach 32 = .ok (.iconst (-1), 1) := by decide +kernel
theorem dX7_reach_33 : decode cX7_reach 33 = .ok (.iastore, 1) := by decide +kernel
theorem dX7_reach_34 : decode cX7_reach 34 = .ok (.iconst 0, 1) := by decide +kernel
theorem dX7_reach_35 : decode cX7_reach 35 = .ok (.istore 7, 2) := by decide +kernel
theorem dX7_reach_37 : decode cX7_reach 37 = .ok (.iconst 0, 1) := by decide +kernel
theorem dX7_reach_38 : decode cX7_reach 38 = .ok (.istore 8, 2) := by decide +kernel
theorem dX7_reach_40 : decode cX7_reach 40 = .ok (.aload_n 0, 1) := by decide +kernel
theorem dX7_reach_41 : decode cX7_reach 41 = .ok (.getfield 60, 3) := by decide +kernel
theorem dX7_reach_44 : decode cX7_reach 44 = .ok (.iload 8, 2) := by decide +kernel
theorem dX7_reach_46 : decode cX7_reach 46 = .ok (.iinc 8 1, 3) := by decide +kernel
theorem dX7_reach_49 : decode cX7_reach 49 = .ok (.iload_n 1, 1) := by decide +kernel
theorem dX7_reach_50 : decode cX7_reach 50 = .ok (.iastore, 1) := by decide +kernel
theorem dX7_reach_51 : decode cX7_reach 51 = .ok (.iload 7, 2) := by decide +kernel
theorem dX7_reach_53 : decode cX7_reach 53 = .ok (.iload 8, 2) := by decide +kernel
theorem dX7_reach_55 : decode cX7_reach 55 = .ok (.if_icmp .ge 189, 3) := by decide +kernel
theorem dX7_reach_58 : decode cX7_reach 58 = .ok (.aload_n 0, 1) := by decide +kernel
theorem dX7_reach_59 : decode cX7_reach 59 = .ok (.getfield 60, 3) := by decide +kernel
theorem dX7_reach_62 : decode cX7_reach 62 = .ok (.iload 7, 2) := by decide +kernel
theorem dX7_reach_64 : decode cX7_reach 64 = .ok (.iinc 7 1, 3) := by decide +kernel
theorem dX7_reach_67 : decode cX7_reach 67 = .ok (.iaload, 1) := by decide +kernel
theorem dX7_reach_68 : decode cX7_reach 68 = .ok (.istore 9, 2) := by decide +kernel
theorem dX7_reach_70 : decode cX7_reach 70 = .ok (.iconst 0, 1) := by decide +kernel
theorem dX7_reach_71 : decode cX7_reach 71 = .ok (.istore 10, 2) := by decide +kernel
theorem dX7_reach_73 : decode cX7_reach 73 = .ok (.iload 10, 2) := by decide +kernel
theorem dX7_reach_75 : decode cX7_reach 75 = .ok (.aload_n 0, 1) := by decide +kernel
theorem dX7_reach_76 : decode cX7_reach 76 = .ok (.getfield 88, 3) := by decide +kernel
theorem dX7_reach_79 : decode cX7_reach 79 = .ok (.if_icmp .ge 162, 3) := by decide +kernel
theorem dX7_reach_82 : decode cX7_reach 82 = .ok (.iload 10, 2) := by decide +kernel
theorem dX7_reach_84 : decode cX7_reach 84 = .ok (.iload 5, 2) := by decide +kernel
theorem dX7_reach_86 : decode cX7_reach 86 = .ok (.if_icmp .eq 149, 3) := by decide +kernel
theorem dX7_reach_89 : decode cX7_reach 89 = .ok (.aload_n 0, 1) := by decide +kernel
theorem dX7_reach_90 : decode cX7_reach 90 = .ok (.getfield 23, 3) := by decide +kernel
theorem dX7_reach_93 : decode cX7_reach 93 = .ok (.iload 10, 2) := by decide +kernel
theorem dX7_reach_95 : decode cX7_reach 95 = .ok (.iaload, 1) := by decide +kernel
theorem dX7_reach_96 : decode cX7_reach 96 = .ok (.ifCond .eq 139, 3) := by decide +kernel
theorem dX7_reach_99 : decode cX7_reach 99 = .ok (.aload_n 0, 1) := by decide +kernel
theorem dX7_reach_100 : decode cX7_reach 100 = .ok (.getfield 23, 3) := by decide +kernel
theorem dX7_reach_103 : decode cX7_reach 103 = .ok (.iload 10, 2) := by decide +kernel
theorem dX7_reach_105 : decode cX7_reach 105 = .ok (.iaload, 1) := by decide +kernel
theorem dX7_reach_106 : decode cX7_reach 106 = .ok (.iconst 2, 1) := by decide +kernel
theorem dX7_reach_107 : decode cX7_reach 107 = .ok (.if_icmp .ne 8, 3) := by decide +kernel
theorem dX7_reach_110 : decode cX7_reach 110 = .ok (.iload 4, 2) := by decide +kernel
theorem dX7_reach_112 : decode cX7_reach 112 = .ok (.ifCond .eq 123, 3) := by decide +kernel
theorem dX7_reach_115 : decode cX7_reach 115 = .ok (.aload_n 0, 1) := by decide +kernel
theorem dX7_reach_116 : decode cX7_reach 116 = .ok (.getfield 26, 3) := by decide +kernel
theorem dX7_reach_119 : decode cX7_reach 119 = .ok (.iload 10, 2) := by decide +kernel
theorem dX7_reach_121 : decode cX7_reach 121 = .ok (.iaload, 1) := by decide +kernel
theorem dX7_reach_122 : decode cX7_reach 122 = .ok (.iload_n 2, 1) := by decide +kernel
theorem dX7_reach_123 : decode cX7_reach 123 = .ok (.if_icmp .ge 11, 3) := by decide +kernel
theorem dX7_reach_126 : decode cX7_reach 126 = .ok (.iload 4, 2) := by decide +kernel
theorem dX7_reach_128 : decode cX7_reach 128 = .ok (.ifCond .ne 6, 3) := by decide +kernel
theorem dX7_reach_131 : decode cX7_reach 131 = .ok (.goto 104, 3) := by decide +kernel
theorem dX7_reach_134 : decode cX7_reach 134 = .ok (.aload_n 0, 1) := by decide +kernel
theorem dX7_reach_135 : decode cX7_reach 135 = .ok (.getfield 17, 3) := by decide +kernel
theorem dX7_reach_138 : decode cX7_reach 138 = .ok (.iload 10, 2) := by decide +kernel
theorem dX7_reach_140 : decode cX7_reach 140 = .ok (.iaload, 1) := by decide +kernel
theorem dX7_reach_141 : decode cX7_reach 141 = .ok (.iload 9, 2) := by decide +kernel
theorem dX7_reach_143 : decode cX7_reach 143 = .ok (.if_icmp .eq 18, 3) := by decide +kernel
theorem dX7_reach_146 : decode cX7_reach 146 = .ok (.aload_n 0, 1) := by decide +kernel
theorem dX7_reach_147 : decode cX7_reach 147 = .ok (.getfield 20, 3) := by decide +kernel
theorem dX7_reach_150 : decode cX7_reach 150 = .ok (.iload 10, 2) := by decide +kernel
theorem dX7_reach_152 : decode cX7_reach 152 = .ok (.iaload, 1) := by decide +kernel
theorem dX7_reach_153 : decode cX7_reach 153 = .ok (.iload 9, 2) := by decide +kernel
theorem dX7_reach_155 : decode cX7_reach 155 = .ok (.if_icmp .eq 6, 3) := by decide +kernel
theorem dX7_reach_158 : decode cX7_reach 158 = .ok (.goto 77, 3) := by decide +kernel
theorem dX7_reach_161 : decode cX7_reach 161 = .ok (.aload_n 0, 1) := by decide +kernel
theorem dX7_reach_162 : decode cX7_reach 162 = .ok (.getfield 17, 3) := by decide +kernel
theorem dX7_reach_165 : decode cX7_reach 165 = .ok (.iload 10, 2) := by decide +kernel
theorem dX7_reach_167 : decode cX7_reach 167 = .ok (.iaload, 1) := by decide +kernel
theorem dX7_reach_168 : decode cX7_reach 168 = .ok (.iload 9, 2) := by decide +kernel
theorem dX7_reach_170 : decode cX7_reach 170 = .ok (.if_icmp .ne 13, 3) := by decide +kernel
theorem dX7_reach_173 : decode cX7_reach 173 = .ok (.aload_n 0, 1) := by decide +kernel
theorem dX7_reach_174 : decode cX7_reach 174 = .ok (.getfield 20, 3) := by decide +kernel
theorem dX7_reach_177 : decode cX7_reach 177 = .ok (.iload 10, 2) := by decide +kernel
theorem dX7_reach_179 : decode cX7_reach 179 = .ok (.iaload, 1) := by decide +kernel
theorem dX7_reach_180 : decode cX7_reach 180 = .ok (.goto 10, 3) := by decide +kernel
theorem dX7_reach_183 : decode cX7_reach 183 = .ok (.aload_n 0, 1) := by decide +kernel
theorem dX7_reach_184 : decode cX7_reach 184 = .ok (.getfield 17, 3) := by decide +kernel
theorem dX7_reach_187 : decode cX7_reach 187 = .ok (.iload 10, 2) := by decide +kernel
theorem dX7_reach_189 : decode cX7_reach 189 = .ok (.iaload, 1) := by decide +kernel
theorem dX7_reach_190 : decode cX7_reach 190 = .ok (.istore 11, 2) := by decide +kernel
theorem dX7_reach_192 : decode cX7_reach 192 = .ok (.aload_n 3, 1) := by decide +kernel
theorem dX7_reach_193 : decode cX7_reach 193 = .ok (.iload 11, 2) := by decide +kernel
theorem dX7_reach_195 : decode cX7_reach 195 = .ok (.baload, 1) := by decide +kernel
theorem dX7_reach_196 : decode cX7_reach 196 = .ok (.ifCond .ne 39, 3) := by decide +kernel
theorem dX7_reach_199 : decode cX7_reach 199 = .ok (.iload 11, 2) := by decide +kernel
theorem dX7_reach_201 : decode cX7_reach 201 = .ok (.iload 6, 2) := by decide +kernel
theorem dX7_reach_203 : decode cX7_reach 203 = .ok (.if_icmp .ne 6, 3) := by decide +kernel
theorem dX7_reach_206 : decode cX7_reach 206 = .ok (.goto 29, 3) := by decide +kernel
theorem dX7_reach_209 : decode cX7_reach 209 = .ok (.aload_n 3, 1) := by decide +kernel
theorem dX7_reach_210 : decode cX7_reach 210 = .ok (.iload 11, 2) := by decide +kernel
theorem dX7_reach_212 : decode cX7_reach 212 = .ok (.iconst 1, 1) := by decide +kernel
theorem dX7_reach_213 : decode cX7_reach 213 = .ok (.bastore, 1) := by decide +kernel
theorem dX7_reach_214 : decode cX7_reach 214 = .ok (.aload_n 0, 1) := by decide +kernel
theorem dX7_reach_215 : decode cX7_reach 215 = .ok (.getfield 63, 3) := by decide +kernel
theorem dX7_reach_218 : decode cX7_reach 218 = .ok (.iload 11, 2) := by decide +kernel
theorem dX7_reach_220 : decode cX7_reach 220 = .ok (.iload 10, 2) := by decide +kernel
theorem dX7_reach_222 : decode cX7_reach 222 = .ok (.iastore, 1) := by decide +kernel
theorem dX7_reach_223 : decode cX7_reach 223 = .ok (.aload_n 0, 1) := by decide +kernel
theorem dX7_reach_224 : decode cX7_reach 224 = .ok (.getfield 60, 3) := by decide +kernel
theorem dX7_reach_227 : decode cX7_reach 227 = .ok (.iload 8, 2) := by decide +kernel
theorem dX7_reach_229 : decode cX7_reach 229 = .ok (.iinc 8 1, 3) := by decide +kernel
theorem dX7_reach_232 : decode cX7_reach 232 = .ok (.iload 11, 2) := by decide +kernel
theorem dX7_reach_234 : decode cX7_reach 234 = .ok (.iastore, 1) := by decide +kernel
theorem dX7_reach_235 : decode cX7_reach 235 = .ok (.iinc 10 1, 3) := by decide +kernel
theorem dX7_reach_238 : decode cX7_reach 238 = .ok (.goto (-165), 3) := by decide +kernel
theorem dX7_reach_241 : decode cX7_reach 241 = .ok (.goto (-190), 3) := by decide +kernel
theorem dX7_reach_244 : decode cX7_reach 244 = .ok (.iload 8, 2) := by decide +kernel
theorem dX7_reach_246 : decode cX7_reach 246 = .ok (.ireturn, 1) := by decide +kernel
theorem dX7_part_0 : decode cX7_part 0 = .ok (.aload_n 0, 1) := by decide +kernel
theorem dX7_part_1 : decode cX7_part 1 = .ok (.iload_n 1, 1) := by decide +kernel
theorem dX7_part_2 : decode cX7_part 2 = .ok (.iconst 0, 1) := by decide +kernel
theorem dX7_part_3 : decode cX7_part 3 = .ok (.aload_n 0, 1) := by decide +kernel
theorem dX7_part_4 : decode cX7_part 4 = .ok (.getfield 53, 3) := by decide +kernel
theorem dX7_part_7 : decode cX7_part 7 = .ok (.iconst 0, 1) := by decide +kernel
theorem dX7_part_8 : decode cX7_part 8 = .ok (.iconst (-1), 1) := by decide +kernel
theorem dX7_part_9 : decode cX7_part 9 = .ok (.iconst (-1), 1) := by decide +kernel
theorem dX7_part_10 : decode cX7_part 10 = .ok (.invokevirtual 111, 3) := by decide +kernel
theorem dX7_part_13 : decode cX7_part 13 = .ok (.ireturn, 1) := by decide +kernel
theorem dX7_isTogether_0 : decode cX7_isTogether 0 = .ok (.aload_n 0, 1) := by decide +kernel
theorem dX7_isTogether_1 : decode cX7_isTogether 1 = .ok (.iload_n 1, 1) := by decide +kernel
theorem dX7_isTogether_2 : decode cX7_isTogether 2 = .ok (.invokevirtual 115, 3) := by decide +kernel
theorem dX7_isTogether_5 : decode cX7_isTogether 5 = .ok (.pop, 1) := by decide +kernel
theorem dX7_isTogether_6 : decode cX7_isTogether 6 = .ok (.aload_n 0, 1) := by decide +kernel
theorem dX7_isTogether_7 : decode cX7_isTogether 7 = .ok (.getfield 53, 3) := by decide +kernel
theorem dX7_isTogether_10 : decode cX7_isTogether 10 = .ok (.iload_n 2, 1) := by decide +kernel
theorem dX7_isTogether_11 : decode cX7_isTogether 11 = .ok (.baload, 1) := by decide +kernel
theorem dX7_isTogether_12 : decode cX7_isTogether 12 = .ok (.ireturn, 1) := by decide +kernel
theorem dX7_finds_0 : decode cX7_finds 0 = .ok (.aload_n 0, 1) := by decide +kernel
theorem dX7_finds_1 : decode cX7_finds 1 = .ok (.iload_n 2, 1) := by decide +kernel
theorem dX7_finds_2 : decode cX7_finds 2 = .ok (.invokevirtual 115, 3) := by decide +kernel
theorem dX7_finds_5 : decode cX7_finds 5 = .ok (.pop, 1) := by decide +kernel
theorem dX7_finds_6 : decode cX7_finds 6 = .ok (.aload_n 0, 1) := by decide +kernel
theorem dX7_finds_7 : decode cX7_finds 7 = .ok (.getfield 53, 3) := by decide +kernel
theorem dX7_finds_10 : decode cX7_finds 10 = .ok (.iload_n 1, 1) := by decide +kernel
theorem dX7_finds_11 : decode cX7_finds 11 = .ok (.baload, 1) := by decide +kernel
theorem dX7_finds_12 : decode cX7_finds 12 = .ok (.ifCond .ne 5, 3) := by decide +kernel
theorem dX7_finds_15 : decode cX7_finds 15 = .ok (.iconst 0, 1) := by decide +kernel
theorem dX7_finds_16 : decode cX7_finds 16 = .ok (.ireturn, 1) := by decide +kernel
theorem dX7_finds_17 : decode cX7_finds 17 = .ok (.aload_n 0, 1) := by decide +kernel
theorem dX7_finds_18 : decode cX7_finds 18 = .ok (.iconst 0, 1) := by decide +kernel
theorem dX7_finds_19 : decode cX7_finds 19 = .ok (.putfield 119, 3) := by decide +kernel
theorem dX7_finds_22 : decode cX7_finds 22 = .ok (.iload_n 1, 1) := by decide +kernel
theorem dX7_finds_23 : decode cX7_finds 23 = .ok (.istore_n 3, 1) := by decide +kernel
theorem dX7_finds_24 : decode cX7_finds 24 = .ok (.aload_n 0, 1) := by decide +kernel
theorem dX7_finds_25 : decode cX7_finds 25 = .ok (.getfield 66, 3) := by decide +kernel
theorem dX7_finds_28 : decode cX7_finds 28 = .ok (.aload_n 0, 1) := by decide +kernel
theorem dX7_finds_29 : decode cX7_finds 29 = .ok (.dup, 1) := by decide +kernel
theorem dX7_finds_30 : decode cX7_finds 30 = .ok (.getfield 119, 3) := by decide +kernel
theorem dX7_finds_33 : decode cX7_finds 33 = .ok (.dup_x1, 1) := by decide +kernel
theorem dX7_finds_34 : decode cX7_finds 34 = .ok (.iconst 1, 1) := by decide +kernel
theorem dX7_finds_35 : decode cX7_finds 35 = .ok (.iadd, 1) := by decide +kernel
theorem dX7_finds_36 : decode cX7_finds 36 = .ok (.putfield 119, 3) := by decide +kernel
theorem dX7_finds_39 : decode cX7_finds 39 = .ok (.iload_n 1, 1) := by decide +kernel
theorem dX7_finds_40 : decode cX7_finds 40 = .ok (.iastore, 1) := by decide +kernel
theorem dX7_finds_41 : decode cX7_finds 41 = .ok (.iload_n 3, 1) := by decide +kernel
theorem dX7_finds_42 : decode cX7_finds 42 = .ok (.iload_n 2, 1) := by decide +kernel
theorem dX7_finds_43 : decode cX7_finds 43 = .ok (.if_icmp .eq 71, 3) := by decide +kernel
theorem dX7_finds_46 : decode cX7_finds 46 = .ok (.aload_n 0, 1) := by decide +kernel
theorem dX7_finds_47 : decode cX7_finds 47 = .ok (.getfield 63, 3) := by decide +kernel
theorem dX7_finds_50 : decode cX7_finds 50 = .ok (.iload_n 3, 1) := by decide +kernel
theorem dX7_finds_51 : decode cX7_finds 51 = .ok (.iaload, 1) := by decide +kernel
theorem dX7_finds_52 : decode cX7_finds 52 = .ok (.istore 4, 2) := by decide +kernel
theorem dX7_finds_54 : decode cX7_finds 54 = .ok (.aload_n 0, 1) := by decide +kernel
theorem dX7_finds_55 : decode cX7_finds 55 = .ok (.getfield 17, 3) := by decide +kernel
theorem dX7_finds_58 : decode cX7_finds 58 = .ok (.iload 4, 2) := by decide +kernel
theorem dX7_finds_60 : decode cX7_finds 60 = .ok (.iaload, 1) := by decide +kernel
theorem dX7_finds_61 : decode cX7_finds 61 = .ok (.iload_n 3, 1) := by decide +kernel
theorem dX7_finds_62 : decode cX7_finds 62 = .ok (.if_icmp .ne 13, 3) := by decide +kernel
theorem dX7_finds_65 : decode cX7_finds 65 = .ok (.aload_n 0, 1) := by decide +kernel
theorem dX7_finds_66 : decode cX7_finds 66 = .ok (.getfield 20, 3) := by decide +kernel
theorem dX7_finds_69 : decode cX7_finds 69 = .ok (.iload 4, 2) := by decide +kernel
theorem dX7_finds_71 : decode cX7_finds 71 = .ok (.iaload, 1) := by decide +kernel
theorem dX7_finds_72 : decode cX7_finds 72 = .ok (.goto 10, 3) := by decide +kernel
theorem dX7_finds_75 : decode cX7_finds 75 = .ok (.aload_n 0, 1) := by decide +kernel
theorem dX7_finds_76 : decode cX7_finds 76 = .ok (.getfield 17, 3) := by decide +kernel
theorem dX7_finds_79 : decode cX7_finds 79 = .ok (.iload 4, 2) := by decide +kernel
theorem dX7_finds_81 : decode cX7_finds 81 = .ok (.iaload, 1) := by decide +kernel
theorem dX7_finds_82 : decode cX7_finds 82 = .ok (.istore_n 3, 1) := by decide +kernel
theorem dX7_finds_83 : decode cX7_finds 83 = .ok (.aload_n 0, 1) := by decide +kernel
theorem dX7_finds_84 : decode cX7_finds 84 = .ok (.getfield 69, 3) := by decide +kernel
theorem dX7_finds_87 : decode cX7_finds 87 = .ok (.aload_n 0, 1) := by decide +kernel
theorem dX7_finds_88 : decode cX7_finds 88 = .ok (.getfield 119, 3) := by decide +kernel
theorem dX7_finds_91 : decode cX7_finds 91 = .ok (.iload 4, 2) := by decide +kernel
theorem dX7_finds_93 : decode cX7_finds 93 = .ok (.iastore, 1) := by decide +kernel
theorem dX7_finds_94 : decode cX7_finds 94 = .ok (.aload_n 0, 1) := by decide +kernel
theorem dX7_finds_95 : decode cX7_finds 95 = .ok (.getfield 66, 3) := by decide +kernel
theorem dX7_finds_98 : decode cX7_finds 98 = .ok (.aload_n 0, 1) := by decide +kernel
theorem dX7_finds_99 : decode cX7_finds 99 = .ok (.dup, 1) := by decide +kernel
theorem dX7_finds_100 : decode cX7_finds 100 = .ok (.getfield 119, 3) := by decide +kernel
theorem dX7_finds_103 : decode cX7_finds 103 = .ok (.dup_x1, 1) := by decide +kernel
theorem dX7_finds_104 : decode cX7_finds 104 = .ok (.iconst 1, 1) := by decide +kernel
theorem dX7_finds_105 : decode cX7_finds 105 = .ok (.iadd, 1) := by decide +kernel
theorem dX7_finds_106 : decode cX7_finds 106 = .ok (.putfield 119, 3) := by decide +kernel
theorem dX7_finds_109 : decode cX7_finds 109 = .ok (.iload_n 3, 1) := by decide +kernel
theorem dX7_finds_110 : decode cX7_finds 110 = .ok (.iastore, 1) := by decide +kernel
theorem dX7_finds_111 : decode cX7_finds 111 = .ok (.goto (-70), 3) := by decide +kernel
theorem dX7_finds_114 : decode cX7_finds 114 = .ok (.iconst 1, 1) := by decide +kernel
theorem dX7_finds_115 : decode cX7_finds 115 = .ok (.ireturn, 1) := by decide +kernel
theorem dX7_isHeavier_0 : decode cX7_isHeavier 0 = .ok (.aload_n 0, 1) := by decide +kernel
theorem dX7_isHeavier_1 : decode cX7_isHeavier 1 = .ok (.getfield 29, 3) := by decide +kernel
theorem dX7_isHeavier_4 : decode cX7_isHeavier 4 = .ok (.iload_n 1, 1) := by decide +kernel
theorem dX7_isHeavier_5 : decode cX7_isHeavier 5 = .ok (.laload, 1) := by decide +kernel
theorem dX7_isHeavier_6 : decode cX7_isHeavier 6 = .ok (.aload_n 0, 1) := by decide +kernel
theorem dX7_isHeavier_7 : decode cX7_isHeavier 7 = .ok (.getfield 29, 3) := by decide +kernel
theorem dX7_isHeavier_10 : decode cX7_isHeavier 10 = .ok (.iload_n 2, 1) := by decide +kernel
theorem dX7_isHeavier_11 : decode cX7_isHeavier 11 = .ok (.laload, 1) := by decide +kernel
theorem dX7_isHeavier_12 : decode cX7_isHeavier 12 = .ok (.lcmp, 1) := by decide +kernel
theorem dX7_isHeavier_13 : decode cX7_isHeavier 13 = .ok (.ifCond .eq 27, 3) := by decide +kernel
theorem dX7_isHeavier_16 : decode cX7_isHeavier 16 = .ok (.aload_n 0, 1) := by decide +kernel
theorem dX7_isHeavier_17 : decode cX7_isHeavier 17 = .ok (.getfield 29, 3) := by decide +kernel
theorem dX7_isHeavier_20 : decode cX7_isHeavier 20 = .ok (.iload_n 1, 1) := by decide +kernel
theorem dX7_isHeavier_21 : decode cX7_isHeavier 21 = .ok (.laload, 1) := by decide +kernel
theorem dX7_isHeavier_22 : decode cX7_isHeavier 22 = .ok (.aload_n 0, 1) := by decide +kernel
theorem dX7_isHeavier_23 : decode cX7_isHeavier 23 = .ok (.getfield 29, 3) := by decide +kernel
theorem dX7_isHeavier_26 : decode cX7_isHeavier 26 = .ok (.iload_n 2, 1) := by decide +kernel
theorem dX7_isHeavier_27 : decode cX7_isHeavier 27 = .ok (.laload, 1) := by decide +kernel
theorem dX7_isHeavier_28 : decode cX7_isHeavier 28 = .ok (.lcmp, 1) := by decide +kernel
theorem dX7_isHeavier_29 : decode cX7_isHeavier 29 = .ok (.ifCond .le 7, 3) := by decide +kernel
theorem dX7_isHeavier_32 : decode cX7_isHeavier 32 = .ok (.iconst 1, 1) := by decide +kernel
theorem dX7_isHeavier_33 : decode cX7_isHeavier 33 = .ok (.goto 17, 3) := by decide +kernel
theorem dX7_isHeavier_36 : decode cX7_isHeavier 36 = .ok (.iconst 0, 1) := by decide +kernel
theorem dX7_isHeavier_37 : decode cX7_isHeavier 37 = .ok (.goto 13, 3) := by decide +kernel
theorem dX7_isHeavier_40 : decode cX7_isHeavier 40 = .ok (.iload_n 1, 1) := by decide +kernel
theorem dX7_isHeavier_41 : decode cX7_isHeavier 41 = .ok (.iload_n 2, 1) := by decide +kernel
theorem dX7_isHeavier_42 : decode cX7_isHeavier 42 = .ok (.if_icmp .le 7, 3) := by decide +kernel
theorem dX7_isHeavier_45 : decode cX7_isHeavier 45 = .ok (.iconst 1, 1) := by decide +kernel
theorem dX7_isHeavier_46 : decode cX7_isHeavier 46 = .ok (.goto 4, 3) := by decide +kernel
theorem dX7_isHeavier_49 : decode cX7_isHeavier 49 = .ok (.iconst 0, 1) := by decide +kernel
theorem dX7_isHeavier_50 : decode cX7_isHeavier 50 = .ok (.ireturn, 1) := by decide +kernel
theorem dX7_heaviestOfWay_0 : decode cX7_heaviestOfWay 0 = .ok (.iconst (-1), 1) := by decide +kernel
theorem dX7_heaviestOfWay_1 : decode cX7_heaviestOfWay 1 = .ok (.istore_n 1, 1) := by decide +kernel
theorem dX7_heaviestOfWay_2 : decode cX7_heaviestOfWay 2 = .ok (.iconst 1, 1) := by decide +kernel
theorem dX7_heaviestOfWay_3 : decode cX7_heaviestOfWay 3 = .ok (.istore_n 2, 1) := by decide +kernel
theorem dX7_heaviestOfWay_4 : decode cX7_heaviestOfWay 4 = .ok (.iload_n 2, 1) := by decide +kernel
theorem dX7_heaviestOfWay_5 : decode cX7_heaviestOfWay 5 = .ok (.aload_n 0, 1) := by decide +kernel
theorem dX7_heaviestOfWay_6 : decode cX7_heaviestOfWay 6 = .ok (.getfield 119, 3) := by decide +kernel
theorem dX7_heaviestOfWay_9 : decode cX7_heaviestOfWay 9 = .ok (.if_icmp .ge 35, 3) := by decide +kernel
theorem dX7_heaviestOfWay_12 : decode cX7_heaviestOfWay 12 = .ok (.iload_n 1, 1) := by decide +kernel
theorem dX7_heaviestOfWay_13 : decode cX7_heaviestOfWay 13 = .ok (.iconst (-1), 1) := by decide +kernel
theorem dX7_heaviestOfWay_14 : decode cX7_heaviestOfWay 14 = .ok (.if_icmp .eq 17, 3) := by decide +kernel
theorem dX7_heaviestOfWay_17 : decode cX7_heaviestOfWay 17 = .ok (.aload_n 0, 1) := by decide +kernel
theorem dX7_heaviestOfWay_18 : decode cX7_heaviestOfWay 18 = .ok (.aload_n 0, 1) := by decide +kernel
theorem dX7_heaviestOfWay_19 : decode cX7_heaviestOfWay 19 = .ok (.getfield 69, 3) := by decide +kernel
theorem dX7_heaviestOfWay_22 : decode cX7_heaviestOfWay 22 = .ok (.iload_n 2, 1) := by decide +kernel
theorem dX7_heaviestOfWay_23 : decode cX7_heaviestOfWay 23 = .ok (.iaload, 1) := by decide +kernel
theorem dX7_heaviestOfWay_24 : decode cX7_heaviestOfWay 24 = .ok (.iload_n 1, 1) := by decide +kernel
theorem dX7_heaviestOfWay_25 : decode cX7_heaviestOfWay 25 = .ok (.invokevirtual 122, 3) := by decide +kernel
theorem dX7_heaviestOfWay_28 : decode cX7_heaviestOfWay 28 = .ok (.ifCond .eq 10, 3) := by decide +kernel
theorem dX7_heaviestOfWay_31 : decode cX7_heaviestOfWay 31 = .ok (.aload_n 0, 1) := by decide +kernel
theorem dX7_heaviestOfWay_32 : decode cX7_heaviestOfWay 32 = .ok (.getfield 69, 3) := by decide +kernel
theorem dX7_heaviestOfWay_35 : decode cX7_heaviestOfWay 35 = .ok (.iload_n 2, 1) := by decide +kernel
theorem dX7_heaviestOfWay_36 : decode cX7_heaviestOfWay 36 = .ok (.iaload, 1) := by decide +kernel
theorem dX7_heaviestOfWay_37 : decode cX7_heaviestOfWay 37 = .ok (.istore_n 1, 1) := by decide +kernel
theorem dX7_heaviestOfWay_38 : decode cX7_heaviestOfWay 38 = .ok (.iinc 2 1, 3) := by decide +kernel
theorem dX7_heaviestOfWay_41 : decode cX7_heaviestOfWay 41 = .ok (.goto (-37), 3) := by decide +kernel
theorem dX7_heaviestOfWay_44 : decode cX7_heaviestOfWay 44 = .ok (.iload_n 1, 1) := by decide +kernel
theorem dX7_heaviestOfWay_45 : decode cX7_heaviestOfWay 45 = .ok (.ireturn, 1) := by decide +kernel
theorem dX7_rootOf_0 : decode cX7_rootOf 0 = .ok (.aload_n 0, 1) := by decide +kernel
theorem dX7_rootOf_1 : decode cX7_rootOf 1 = .ok (.iload_n 1, 1) := by decide +kernel
theorem dX7_rootOf_2 : decode cX7_rootOf 2 = .ok (.invokevirtual 115, 3) := by decide +kernel
theorem dX7_rootOf_5 : decode cX7_rootOf 5 = .ok (.pop, 1) := by decide +kernel
theorem dX7_rootOf_6 : decode cX7_rootOf 6 = .ok (.iconst (-1), 1) := by decide +kernel
theorem dX7_rootOf_7 : decode cX7_rootOf 7 = .ok (.istore_n 2, 1) := by decide +kernel
theorem dX7_rootOf_8 : decode cX7_rootOf 8 = .ok (.iconst 0, 1) := by decide +kernel
theorem dX7_rootOf_9 : decode cX7_rootOf 9 = .ok (.istore_n 3, 1) := by decide +kernel
theorem dX7_rootOf_10 : decode cX7_rootOf 10 = .ok (.iload_n 3, 1) := by decide +kernel
theorem dX7_rootOf_11 : decode cX7_rootOf 11 = .ok (.aload_n 0, 1) := by decide +kernel
theorem dX7_rootOf_12 : decode cX7_rootOf 12 = .ok (.getfield 84, 3) := by decide +kernel
theorem dX7_rootOf_15 : decode cX7_rootOf 15 = .ok (.if_icmp .ge 40, 3) := by decide +kernel
theorem dX7_rootOf_18 : decode cX7_rootOf 18 = .ok (.aload_n 0, 1) := by decide +kernel
theorem dX7_rootOf_19 : decode cX7_rootOf 19 = .ok (.getfield 53, 3) := by decide +kernel
theorem dX7_rootOf_22 : decode cX7_rootOf 22 = .ok (.iload_n 3, 1) := by decide +kernel
theorem dX7_rootOf_23 : decode cX7_rootOf 23 = .ok (.baload, 1) := by decide +kernel
