theorem dX7_member_2 : decode cX7_member 2 = .ok (.invokevirtual 129, 3) := by decide +kernel
theorem dX7_member_5 : decode cX7_member 5 = .ok (.ifCond .ne 6, 3) := by decide +kernel
theorem dX7_member_8 : decode cX7_member 8 = .ok (.bipush (-2), 2) := by decide +kernel
theorem dX7_member_10 : decode cX7_member 10 = .ok (.ireturn, 1) := by decide +kernel
theorem dX7_member_11 : decode cX7_member 11 = .ok (.aload_n 0, 1) := by decide +kernel
theorem dX7_member_12 : decode cX7_member 12 = .ok (.iload_n 1, 1) := by decide +kernel
theorem dX7_member_13 : decode cX7_member 13 = .ok (.invokevirtual 115, 3) := by decide +kernel
theorem dX7_member_16 : decode cX7_member 16 = .ok (.pop, 1) := by decide +kernel
theorem dX7_member_17 : decode cX7_member 17 = .ok (.iconst 0, 1) := by decide +kernel
theorem dX7_member_18 : decode cX7_member 18 = .ok (.istore_n 3, 1) := by decide +kernel
theorem dX7_member_19 : decode cX7_member 19 = .ok (.iconst 0, 1) := by decide +kernel
theorem dX7_member_20 : decode cX7_member 20 = .ok (.istore 4, 2) := by decide +kernel
theorem dX7_member_22 : decode cX7_member 22 = .ok (.iload 4, 2) := by decide +kernel
theorem dX7_member_24 : decode cX7_member 24 = .ok (.aload_n 0, 1) := by decide +kernel
theorem dX7_member_25 : decode cX7_member 25 = .ok (.getfield 84, 3) := by decide +kernel
theorem dX7_member_28 : decode cX7_member 28 = .ok (.if_icmp .ge 30, 3) := by decide +kernel
theorem dX7_member_31 : decode cX7_member 31 = .ok (.aload_n 0, 1) := by decide +kernel
theorem dX7_member_32 : decode cX7_member 32 = .ok (.getfield 53, 3) := by decide +kernel
theorem dX7_member_35 : decode cX7_member 35 = .ok (.iload 4, 2) := by decide +kernel
theorem dX7_member_37 : decode cX7_member 37 = .ok (.baload, 1) := by decide +kernel
theorem dX7_member_38 : decode cX7_member 38 = .ok (.ifCond .eq 14, 3) := by decide +kernel
theorem dX7_member_41 : decode cX7_member 41 = .ok (.iload_n 3, 1) := by decide +kernel
theorem dX7_member_42 : decode cX7_member 42 = .ok (.iinc 3 1, 3) := by decide +kernel
theorem dX7_member_45 : decode cX7_member 45 = .ok (.iload_n 2, 1) := by decide +kernel
theorem dX7_member_46 : decode cX7_member 46 = .ok (.if_icmp .ne 6, 3) := by decide +kernel
theorem dX7_member_49 : decode cX7_member 49 = .ok (.iload 4, 2) := by decide +kernel
theorem dX7_member_51 : decode cX7_member 51 = .ok (.ireturn, 1) := by decide +kernel
theorem dX7_member_52 : decode cX7_member 52 = .ok (.iinc 4 1, 3) := by decide +kernel
theorem dX7_member_55 : decode cX7_member 55 = .ok (.goto (-33), 3) := by decide +kernel
theorem dX7_member_58 : decode cX7_member 58 = .ok (.iconst (-1), 1) := by decide +kernel
theorem dX7_member_59 : decode cX7_member 59 = .ok (.ireturn, 1) := by decide +kernel
theorem dX7_way_0 : decode cX7_way 0 = .ok (.aload_n 0, 1) := by decide +kernel
theorem dX7_way_1 : decode cX7_way 1 = .ok (.iload_n 1, 1) := by decide +kernel
theorem dX7_way_2 : decode cX7_way 2 = .ok (.invokevirtual 129, 3) := by decide +kernel
theorem dX7_way_5 : decode cX7_way 5 = .ok (.ifCond .eq 11, 3) := by decide +kernel
theorem dX7_way_8 : decode cX7_way 8 = .ok (.aload_n 0, 1) := by decide +kernel
theorem dX7_way_9 : decode cX7_way 9 = .ok (.iload_n 2, 1) := by decide +kernel
theorem dX7_way_10 : decode cX7_way 10 = .ok (.invokevirtual 129, 3) := by decide +kernel
theorem dX7_way_13 : decode cX7_way 13 = .ok (.ifCond .ne 6, 3) := by decide +kernel
theorem dX7_way_16 : decode cX7_way 16 = .ok (.bipush (-2), 2) := by decide +kernel
theorem dX7_way_18 : decode cX7_way 18 = .ok (.ireturn, 1) := by decide +kernel
theorem dX7_way_19 : decode cX7_way 19 = .ok (.aload_n 0, 1) := by decide +kernel
theorem dX7_way_20 : decode cX7_way 20 = .ok (.iload_n 1, 1) := by decide +kernel
theorem dX7_way_21 : decode cX7_way 21 = .ok (.iload_n 2, 1) := by decide +kernel
theorem dX7_way_22 : decode cX7_way 22 = .ok (.invokevirtual 139, 3) := by decide +kernel
theorem dX7_way_25 : decode cX7_way 25 = .ok (.ifCond .eq 12, 3) := by decide +kernel
theorem dX7_way_28 : decode cX7_way 28 = .ok (.aload_n 0, 1) := by decide +kernel
theorem dX7_way_29 : decode cX7_way 29 = .ok (.getfield 119, 3) := by decide +kernel
theorem dX7_way_32 : decode cX7_way 32 = .ok (.iconst 1, 1) := by decide +kernel
theorem dX7_way_33 : decode cX7_way 33 = .ok (.isub, 1) := by decide +kernel
theorem dX7_way_34 : decode cX7_way 34 = .ok (.goto 4, 3) := by decide +kernel
theorem dX7_way_37 : decode cX7_way 37 = .ok (.iconst (-1), 1) := by decide +kernel
theorem dX7_way_38 : decode cX7_way 38 = .ok (.ireturn, 1) := by decide +kernel
theorem dX7_between_0 : decode cX7_between 0 = .ok (.aload_n 0, 1) := by decide +kernel
theorem dX7_between_1 : decode cX7_between 1 = .ok (.iload_n 1, 1) := by decide +kernel
theorem dX7_between_2 : decode cX7_between 2 = .ok (.invokevirtual 129, 3) := by decide +kernel
theorem dX7_between_5 : decode cX7_between 5 = .ok (.ifCond .eq 11, 3) := by decide +kernel
theorem dX7_between_8 : decode cX7_between 8 = .ok (.aload_n 0, 1) := by decide +kernel
theorem dX7_between_9 : decode cX7_between 9 = .ok (.iload_n 2, 1) := by decide +kernel
theorem dX7_between_10 : decode cX7_between 10 = .ok (.invokevirtual 129, 3) := by decide +kernel
theorem dX7_between_13 : decode cX7_between 13 = .ok (.ifCond .ne 6, 3) := by decide +kernel
theorem dX7_between_16 : decode cX7_between 16 = .ok (.bipush (-2), 2) := by decide +kernel
theorem dX7_between_18 : decode cX7_between 18 = .ok (.ireturn, 1) := by decide +kernel
theorem dX7_between_19 : decode cX7_between 19 = .ok (.aload_n 0, 1) := by decide +kernel
theorem dX7_between_20 : decode cX7_between 20 = .ok (.iload_n 1, 1) := by decide +kernel
theorem dX7_between_21 : decode cX7_between 21 = .ok (.iload_n 2, 1) := by decide +kernel
theorem dX7_between_22 : decode cX7_between 22 = .ok (.invokevirtual 139, 3) := by decide +kernel
theorem dX7_between_25 : decode cX7_between 25 = .ok (.ifCond .eq 24, 3) := by decide +kernel
theorem dX7_between_28 : decode cX7_between 28 = .ok (.iload_n 3, 1) := by decide +kernel
theorem dX7_between_29 : decode cX7_between 29 = .ok (.ifCond .lt 20, 3) := by decide +kernel
theorem dX7_between_32 : decode cX7_between 32 = .ok (.iload_n 3, 1) := by decide +kernel
theorem dX7_between_33 : decode cX7_between 33 = .ok (.aload_n 0, 1) := by decide +kernel
theorem dX7_between_34 : decode cX7_between 34 = .ok (.getfield 119, 3) := by decide +kernel
theorem dX7_between_37 : decode cX7_between 37 = .ok (.if_icmp .ge 12, 3) := by decide +kernel
theorem dX7_between_40 : decode cX7_between 40 = .ok (.aload_n 0, 1) := by decide +kernel
theorem dX7_between_41 : decode cX7_between 41 = .ok (.getfield 66, 3) := by decide +kernel
theorem dX7_between_44 : decode cX7_between 44 = .ok (.iload_n 3, 1) := by decide +kernel
theorem dX7_between_45 : decode cX7_between 45 = .ok (.iaload, 1) := by decide +kernel
theorem dX7_between_46 : decode cX7_between 46 = .ok (.goto 4, 3) := by decide +kernel
theorem dX7_between_49 : decode cX7_between 49 = .ok (.iconst (-1), 1) := by decide +kernel
theorem dX7_between_50 : decode cX7_between 50 = .ok (.ireturn, 1) := by decide +kernel
theorem dX7_heaviest_0 : decode cX7_heaviest 0 = .ok (.aload_n 0, 1) := by decide +kernel
theorem dX7_heaviest_1 : decode cX7_heaviest 1 = .ok (.iload_n 1, 1) := by decide +kernel
theorem dX7_heaviest_2 : decode cX7_heaviest 2 = .ok (.invokevirtual 129, 3) := by decide +kernel
theorem dX7_heaviest_5 : decode cX7_heaviest 5 = .ok (.ifCond .eq 11, 3) := by decide +kernel
theorem dX7_heaviest_8 : decode cX7_heaviest 8 = .ok (.aload_n 0, 1) := by decide +kernel
theorem dX7_heaviest_9 : decode cX7_heaviest 9 = .ok (.iload_n 2, 1) := by decide +kernel
theorem dX7_heaviest_10 : decode cX7_heaviest 10 = .ok (.invokevirtual 129, 3) := by decide +kernel
theorem dX7_heaviest_13 : decode cX7_heaviest 13 = .ok (.ifCond .ne 6, 3) := by decide +kernel
theorem dX7_heaviest_16 : decode cX7_heaviest 16 = .ok (.bipush (-2), 2) := by decide +kernel
theorem dX7_heaviest_18 : decode cX7_heaviest 18 = .ok (.ireturn, 1) := by decide +kernel
theorem dX7_heaviest_19 : decode cX7_heaviest 19 = .ok (.aload_n 0, 1) := by decide +kernel
theorem dX7_heaviest_20 : decode cX7_heaviest 20 = .ok (.iload_n 1, 1) := by decide +kernel
theorem dX7_heaviest_21 : decode cX7_heaviest 21 = .ok (.iload_n 2, 1) := by decide +kernel
theorem dX7_heaviest_22 : decode cX7_heaviest 22 = .ok (.invokevirtual 139, 3) := by decide +kernel
theorem dX7_heaviest_25 : decode cX7_heaviest 25 = .ok (.ifCond .eq 10, 3) := by decide +kernel
theorem dX7_heaviest_28 : decode cX7_heaviest 28 = .ok (.aload_n 0, 1) := by decide +kernel
theorem dX7_heaviest_29 : decode cX7_heaviest 29 = .ok (.invokevirtual 142, 3) := by decide +kernel
theorem dX7_heaviest_32 : decode cX7_heaviest 32 = .ok (.goto 4, 3) := by decide +kernel
theorem dX7_heaviest_35 : decode cX7_heaviest 35 = .ok (.iconst (-1), 1) := by decide +kernel
theorem dX7_heaviest_36 : decode cX7_heaviest 36 = .ok (.ireturn, 1) := by decide +kernel
theorem dX7_sum_0 : decode cX7_sum 0 = .ok (.aload_n 0, 1) := by decide +kernel
theorem dX7_sum_1 : decode cX7_sum 1 = .ok (.iload_n 1, 1) := by decide +kernel
theorem dX7_sum_2 : decode cX7_sum 2 = .ok (.invokevirtual 129, 3) := by decide +kernel
theorem dX7_sum_5 : decode cX7_sum 5 = .ok (.ifCond .eq 20, 3) := by decide +kernel
theorem dX7_sum_8 : decode cX7_sum 8 = .ok (.aload_n 0, 1) := by decide +kernel
theorem dX7_sum_9 : decode cX7_sum 9 = .ok (.iload_n 2, 1) := by decide +kernel
theorem dX7_sum_10 : decode cX7_sum 10 = .ok (.invokevirtual 129, 3) := by decide +kernel
theorem dX7_sum_13 : decode cX7_sum 13 = .ok (.ifCond .eq 12, 3) := by decide +kernel
theorem dX7_sum_16 : decode cX7_sum 16 = .ok (.aload_n 0, 1) := by decide +kernel
theorem dX7_sum_17 : decode cX7_sum 17 = .ok (.iload_n 1, 1) := by decide +kernel
theorem dX7_sum_18 : decode cX7_sum 18 = .ok (.iload_n 2, 1) := by decide +kernel
theorem dX7_sum_19 : decode cX7_sum 19 = .ok (.invokevirtual 139, 3) := by decide +kernel
theorem dX7_sum_22 : decode cX7_sum 22 = .ok (.ifCond .ne 7, 3) := by decide +kernel
theorem dX7_sum_25 : decode cX7_sum 25 = .ok (.ldc2_w 161, 3) := by decide +kernel
theorem dX7_sum_28 : decode cX7_sum 28 = .ok (.lreturn, 1) := by decide +kernel
theorem dX7_sum_29 : decode cX7_sum 29 = .ok (.lconst 0, 1) := by decide +kernel
theorem dX7_sum_30 : decode cX7_sum 30 = .ok (.lstore_n 3, 1) := by decide +kernel
theorem dX7_sum_31 : decode cX7_sum 31 = .ok (.iconst 0, 1) := by decide +kernel
theorem dX7_sum_32 : decode cX7_sum 32 = .ok (.istore 5, 2) := by decide +kernel
theorem dX7_sum_34 : decode cX7_sum 34 = .ok (.iload 5, 2) := by decide +kernel
theorem dX7_sum_36 : decode cX7_sum 36 = .ok (.aload_n 0, 1) := by decide +kernel
theorem dX7_sum_37 : decode cX7_sum 37 = .ok (.getfield 119, 3) := by decide +kernel
theorem dX7_sum_40 : decode cX7_sum 40 = .ok (.if_icmp .ge 24, 3) := by decide +kernel
theorem dX7_sum_43 : decode cX7_sum 43 = .ok (.lload_n 3, 1) := by decide +kernel
theorem dX7_sum_44 : decode cX7_sum 44 = .ok (.aload_n 0, 1) := by decide +kernel
theorem dX7_sum_45 : decode cX7_sum 45 = .ok (.getfield 7, 3) := by decide +kernel
theorem dX7_sum_48 : decode cX7_sum 48 = .ok (.aload_n 0, 1) := by decide +kernel
theorem dX7_sum_49 : decode cX7_sum 49 = .ok (.getfield 66, 3) := by decide +kernel
theorem dX7_sum_52 : decode cX7_sum 52 = .ok (.iload 5, 2) := by decide +kernel
theorem dX7_sum_54 : decode cX7_sum 54 = .ok (.iaload, 1) := by decide +kernel
theorem dX7_sum_55 : decode cX7_sum 55 = .ok (.laload, 1) := by decide +kernel
theorem dX7_sum_56 : decode cX7_sum 56 = .ok (.ladd, 1) := by decide +kernel
theorem dX7_sum_57 : decode cX7_sum 57 = .ok (.lstore_n 3, 1) := by decide +kernel
theorem dX7_sum_58 : decode cX7_sum 58 = .ok (.iinc 5 1, 3) := by decide +kernel
theorem dX7_sum_61 : decode cX7_sum 61 = .ok (.goto (-27), 3) := by decide +kernel
theorem dX7_sum_64 : decode cX7_sum 64 = .ok (.lload_n 3, 1) := by decide +kernel
theorem dX7_sum_65 : decode cX7_sum 65 = .ok (.lreturn, 1) := by decide +kernel
theorem dX7_least_0 : decode cX7_least 0 = .ok (.aload_n 0, 1) := by decide +kernel
theorem dX7_least_1 : decode cX7_least 1 = .ok (.iload_n 1, 1) := by decide +kernel
theorem dX7_least_2 : decode cX7_least 2 = .ok (.invokevirtual 129, 3) := by decide +kernel
theorem dX7_least_5 : decode cX7_least 5 = .ok (.ifCond .eq 20, 3) := by decide +kernel
theorem dX7_least_8 : decode cX7_least 8 = .ok (.aload_n 0, 1) := by decide +kernel
theorem dX7_least_9 : decode cX7_least 9 = .ok (.iload_n 2, 1) := by decide +kernel
theorem dX7_least_10 : decode cX7_least 10 = .ok (.invokevirtual 129, 3) := by decide +kernel
theorem dX7_least_13 : decode cX7_least 13 = .ok (.ifCond .eq 12, 3) := by decide +kernel
theorem dX7_least_16 : decode cX7_least 16 = .ok (.aload_n 0, 1) := by decide +kernel
theorem dX7_least_17 : decode cX7_least 17 = .ok (.iload_n 1, 1) := by decide +kernel
theorem dX7_least_18 : decode cX7_least 18 = .ok (.iload_n 2, 1) := by decide +kernel
theorem dX7_least_19 : decode cX7_least 19 = .ok (.invokevirtual 139, 3) := by decide +kernel
theorem dX7_least_22 : decode cX7_least 22 = .ok (.ifCond .ne 7, 3) := by decide +kernel
theorem dX7_least_25 : decode cX7_least 25 = .ok (.ldc2_w 161, 3) := by decide +kernel
theorem dX7_least_28 : decode cX7_least 28 = .ok (.lreturn, 1) := by decide +kernel
theorem dX7_least_29 : decode cX7_least 29 = .ok (.aload_n 0, 1) := by decide +kernel
theorem dX7_least_30 : decode cX7_least 30 = .ok (.getfield 7, 3) := by decide +kernel
theorem dX7_least_33 : decode cX7_least 33 = .ok (.iload_n 1, 1) := by decide +kernel
theorem dX7_least_34 : decode cX7_least 34 = .ok (.laload, 1) := by decide +kernel
theorem dX7_least_35 : decode cX7_least 35 = .ok (.lstore_n 3, 1) := by decide +kernel
theorem dX7_least_36 : decode cX7_least 36 = .ok (.iconst 0, 1) := by decide +kernel
theorem dX7_least_37 : decode cX7_least 37 = .ok (.istore 5, 2) := by decide +kernel
theorem dX7_least_39 : decode cX7_least 39 = .ok (.iload 5, 2) := by decide +kernel
theorem dX7_least_41 : decode cX7_least 41 = .ok (.aload_n 0, 1) := by decide +kernel
theorem dX7_least_42 : decode cX7_least 42 = .ok (.getfield 119, 3) := by decide +kernel
theorem dX7_least_45 : decode cX7_least 45 = .ok (.if_icmp .ge 39, 3) := by decide +kernel
theorem dX7_least_48 : decode cX7_least 48 = .ok (.aload_n 0, 1) := by decide +kernel
theorem dX7_least_49 : decode cX7_least 49 = .ok (.getfield 7, 3) := by decide +kernel
theorem dX7_least_52 : decode cX7_least 52 = .ok (.aload_n 0, 1) := by decide +kernel
theorem dX7_least_53 : decode cX7_least 53 = .ok (.getfield 66, 3) := by decide +kernel
theorem dX7_least_56 : decode cX7_least 56 = .ok (.iload 5, 2) := by decide +kernel
theorem dX7_least_58 : decode cX7_least 58 = .ok (.iaload, 1) := by decide +kernel
theorem dX7_least_59 : decode cX7_least 59 = .ok (.laload, 1) := by decide +kernel
theorem dX7_least_60 : decode cX7_least 60 = .ok (.lload_n 3, 1) := by decide +kernel
theorem dX7_least_61 : decode cX7_least 61 = .ok (.lcmp, 1) := by decide +kernel
theorem dX7_least_62 : decode cX7_least 62 = .ok (.ifCond .ge 16, 3) := by decide +kernel
theorem dX7_least_65 : decode cX7_least 65 = .ok (.aload_n 0, 1) := by decide +kernel
theorem dX7_least_66 : decode cX7_least 66 = .ok (.getfield 7, 3) := by decide +kernel
theorem dX7_least_69 : decode cX7_least 69 = .ok (.aload_n 0, 1) := by decide +kernel
theorem dX7_least_70 : decode cX7_least 70 = .ok (.getfield 66, 3) := by decide +kernel
theorem dX7_least_73 : decode cX7_least 73 = .ok (.iload 5, 2) := by decide +kernel
theorem dX7_least_75 : decode cX7_least 75 = .ok (.iaload, 1) := by decide +kernel
theorem dX7_least_76 : decode cX7_least 76 = .ok (.laload, 1) := by decide +kernel
theorem dX7_least_77 : decode cX7_least 77 = .ok (.lstore_n 3, 1) := by decide +kernel
theorem dX7_least_78 : decode cX7_least 78 = .ok (.iinc 5 1, 3) := by decide +kernel
theorem dX7_least_81 : decode cX7_least 81 = .ok (.goto (-42), 3) := by decide +kernel
theorem dX7_least_84 : decode cX7_least 84 = .ok (.lload_n 3, 1) := by decide +kernel
theorem dX7_least_85 : decode cX7_least 85 = .ok (.lreturn, 1) := by decide +kernel
theorem dX7_add_0 : decode cX7_add 0 = .ok (.aload_n 0, 1) := by decide +kernel
theorem dX7_add_1 : decode cX7_add 1 = .ok (.iload_n 1, 1) := by decide +kernel
theorem dX7_add_2 : decode cX7_add 2 = .ok (.invokevirtual 129, 3) := by decide +kernel
theorem dX7_add_5 : decode cX7_add 5 = .ok (.ifCond .eq 11, 3) := by decide +kernel
theorem dX7_add_8 : decode cX7_add 8 = .ok (.aload_n 0, 1) := by decide +kernel
theorem dX7_add_9 : decode cX7_add 9 = .ok (.iload_n 2, 1) := by decide +kernel
theorem dX7_add_10 : decode cX7_add 10 = .ok (.invokevirtual 129, 3) := by decide +kernel
theorem dX7_add_13 : decode cX7_add 13 = .ok (.ifCond .ne 6, 3) := by decide +kernel
theorem dX7_add_16 : decode cX7_add 16 = .ok (.bipush (-2), 2) := by decide +kernel
theorem dX7_add_18 : decode cX7_add 18 = .ok (.ireturn, 1) := by decide +kernel
theorem dX7_add_19 : decode cX7_add 19 = .ok (.aload_n 0, 1) := by decide +kernel
theorem dX7_add_20 : decode cX7_add 20 = .ok (.iload_n 1, 1) := by decide +kernel
theorem dX7_add_21 : decode cX7_add 21 = .ok (.iload_n 2, 1) := by decide +kernel
theorem dX7_add_22 : decode cX7_add 22 = .ok (.invokevirtual 139, 3) := by decide +kernel
theorem dX7_add_25 : decode cX7_add 25 = .ok (.ifCond .ne 6, 3) := by decide +kernel
theorem dX7_add_28 : decode cX7_add 28 = .ok (.bipush (-3), 2) := by decide +kernel
theorem dX7_add_30 : decode cX7_add 30 = .ok (.ireturn, 1) := by decide +kernel
theorem dX7_add_31 : decode cX7_add 31 = .ok (.aload_n 0, 1) := by decide +kernel
theorem dX7_add_32 : decode cX7_add 32 = .ok (.invokevirtual 136, 3) := by decide +kernel
theorem dX7_add_35 : decode cX7_add 35 = .ok (.iconst 0, 1) := by decide +kernel
theorem dX7_add_36 : decode cX7_add 36 = .ok (.istore 5, 2) := by decide +kernel
theorem dX7_add_38 : decode cX7_add 38 = .ok (.iload 5, 2) := by decide +kernel
theorem dX7_add_40 : decode cX7_add 40 = .ok (.aload_n 0, 1) := by decide +kernel
theorem dX7_add_41 : decode cX7_add 41 = .ok (.getfield 119, 3) := by decide +kernel
theorem dX7_add_44 : decode cX7_add 44 = .ok (.if_icmp .ge 25, 3) := by decide +kernel
theorem dX7_add_47 : decode cX7_add 47 = .ok (.aload_n 0, 1) := by decide +kernel
theorem dX7_add_48 : decode cX7_add 48 = .ok (.getfield 7, 3) := by decide +kernel
theorem dX7_add_51 : decode cX7_add 51 = .ok (.aload_n 0, 1) := by decide +kernel
theorem dX7_add_52 : decode cX7_add 52 = .ok (.getfield 66, 3) := by decide +kernel
theorem dX7_add_55 : decode cX7_add 55 = .ok (.iload 5, 2) := by decide +kernel
theorem dX7_add_57 : decode cX7_add 57 = .ok (.iaload, 1) := by decide +kernel
theorem dX7_add_58 : decode cX7_add 58 = .ok (.dup2, 1) := by decide +kernel
theorem dX7_add_59 : decode cX7_add 59 = .ok (.laload, 1) := by decide +kernel
theorem dX7_add_60 : decode cX7_add 60 = .ok (.lload_n 3, 1) := by decide +kernel
theorem dX7_add_61 : decode cX7_add 61 = .ok (.ladd, 1) := by decide +kernel
theorem dX7_add_62 : decode cX7_add 62 = .ok (.lastore, 1) := by decide +kernel
theorem dX7_add_63 : decode cX7_add 63 = .ok (.iinc 5 1, 3) := by decide +kernel
theorem dX7_add_66 : decode cX7_add 66 = .ok (.goto (-28), 3) := by decide +kernel
theorem dX7_add_69 : decode cX7_add 69 = .ok (.aload_n 0, 1) := by decide +kernel
theorem dX7_add_70 : decode cX7_add 70 = .ok (.getfield 119, 3) := by decide +kernel
theorem dX7_add_73 : decode cX7_add 73 = .ok (.ireturn, 1) := by decide +kernel
theorem dX7_value_0 : decode cX7_value 0 = .ok (.aload_n 0, 1) := by decide +kernel
theorem dX7_value_1 : decode cX7_value 1 = .ok (.iload_n 1, 1) := by decide +kernel
theorem dX7_value_2 : decode cX7_value 2 = .ok (.invokevirtual 129, 3) := by decide +kernel
theorem dX7_value_5 : decode cX7_value 5 = .ok (.ifCond .eq 12, 3) := by decide +kernel
theorem dX7_value_8 : decode cX7_value 8 = .ok (.aload_n 0, 1) := by decide +kernel
theorem dX7_value_9 : decode cX7_value 9 = .ok (.getfield 7, 3) := by decide +kernel
theorem dX7_value_12 : decode cX7_value 12 = .ok (.iload_n 1, 1) := by decide +kernel
theorem dX7_value_13 : decode cX7_value 13 = .ok (.laload, 1) := by decide +kernel
theorem dX7_value_14 : decode cX7_value 14 = .ok (.goto 6, 3) := by decide +kernel
theorem dX7_value_17 : decode cX7_value 17 = .ok (.ldc2_w 161, 3) := by decide +kernel
theorem dX7_value_20 : decode cX7_value 20 = .ok (.lreturn, 1) := by decide +kernel
theorem dX7_set_0 : decode cX7_set 0 = .ok (.aload_n 0, 1) := by decide +kernel
theorem dX7_set_1 : decode cX7_set 1 = .ok (.iload_n 1, 1) := by decide +kernel
theorem dX7_set_2 : decode cX7_set 2 = .ok (.invokevirtual 129, 3) := by decide +kernel
theorem dX7_set_5 : decode cX7_set 5 = .ok (.ifCond .ne 6, 3) := by decide +kernel
theorem dX7_set_8 : decode cX7_set 8 = .ok (.bipush (-2), 2) := by decide +kernel
theorem dX7_set_10 : decode cX7_set 10 = .ok (.ireturn, 1) := by decide +kernel
theorem dX7_set_11 : decode cX7_set 11 = .ok (.aload_n 0, 1) := by decide +kernel
theorem dX7_set_12 : decode cX7_set 12 = .ok (.invokevirtual 136, 3) := by decide +kernel
theorem dX7_set_15 : decode cX7_set 15 = .ok (.aload_n 0, 1) := by decide +kernel
theorem dX7_set_16 : decode cX7_set 16 = .ok (.getfield 7, 3) := by decide +kernel
theorem dX7_set_19 : decode cX7_set 19 = .ok (.iload_n 1, 1) := by decide +kernel
theorem dX7_set_20 : decode cX7_set 20 = .ok (.lload_n 2, 1) := by decide +kernel
theorem dX7_set_21 : decode cX7_set 21 = .ok (.lastore, 1) := by decide +kernel
theorem dX7_set_22 : decode cX7_set 22 = .ok (.iconst 1, 1) := by decide +kernel
theorem dX7_set_23 : decode cX7_set 23 = .ok (.ireturn, 1) := by decide +kernel
theorem dX7_root_0 : decode cX7_root 0 = .ok (.aload_n 0, 1) := by decide +kernel
theorem dX7_root_1 : decode cX7_root 1 = .ok (.iload_n 1, 1) := by decide +kernel
theorem dX7_root_2 : decode cX7_root 2 = .ok (.invokevirtual 129, 3) := by decide +kernel
theorem dX7_root_5 : decode cX7_root 5 = .ok (.ifCond .ne 6, 3) := by decide +kernel
theorem dX7_root_8 : decode cX7_root 8 = .ok (.bipush (-2), 2) := by decide +kernel
theorem dX7_root_10 : decode cX7_root 10 = .ok (.ireturn, 1) := by decide +kernel
theorem dX7_root_11 : decode cX7_root 11 = .ok (.aload_n 0, 1) := by decide +kernel
theorem dX7_root_12 : decode cX7_root 12 = .ok (.iload_n 1, 1) := by decide +kernel
theorem dX7_root_13 : decode cX7_root 13 = .ok (.invokevirtual 169, 3) := by decide +kernel
theorem dX7_root_16 : decode cX7_root 16 = .ok (.istore_n 2, 1) := by decide +kernel
theorem dX7_root_17 : decode cX7_root 17 = .ok (.aload_n 0, 1) := by decide +kernel
theorem dX7_root_18 : decode cX7_root 18 = .ok (.invokevirtual 136, 3) := by decide +kernel
theorem dX7_root_21 : decode cX7_root 21 = .ok (.aload_n 0, 1) := by decide +kernel
theorem dX7_root_22 : decode cX7_root 22 = .ok (.getfield 13, 3) := by decide +kernel
theorem dX7_root_25 : decode cX7_root 25 = .ok (.iload_n 1, 1) := by decide +kernel
theorem dX7_root_26 : decode cX7_root 26 = .ok (.aload_n 0, 1) := by decide +kernel
theorem dX7_root_27 : decode cX7_root 27 = .ok (.dup, 1) := by decide +kernel
theorem dX7_root_28 : decode cX7_root 28 = .ok (.getfield 91, 3) := by decide +kernel
theorem dX7_root_31 : decode cX7_root 31 = .ok (.iconst 1, 1) := by decide +kernel
theorem dX7_root_32 : decode cX7_root 32 = .ok (.iadd, 1) := by decide +kernel
theorem dX7_root_33 : decode cX7_root 33 = .ok (.dup_x1, 1) := by decide +kernel
theorem dX7_root_34 : decode cX7_root 34 = .ok (.putfield 91, 3) := by decide +kernel
theorem dX7_root_37 : decode cX7_root 37 = .ok (.iastore, 1) := by decide +kernel
theorem dX7_root_38 : decode cX7_root 38 = .ok (.iload_n 2, 1) := by decide +kernel
theorem dX7_root_39 : decode cX7_root 39 = .ok (.ireturn, 1) := by decide +kernel
theorem dX7_marksBelow_0 : decode cX7_marksBelow 0 = .ok (.aload_n 0, 1) := by decide +kernel
theorem dX7_marksBelow_1 : decode cX7_marksBelow 1 = .ok (.iload_n 1, 1) := by decide +kernel
theorem dX7_marksBelow_2 : decode cX7_marksBelow 2 = .ok (.invokevirtual 169, 3) := by decide +kernel
theorem dX7_marksBelow_5 : decode cX7_marksBelow 5 = .ok (.istore_n 2, 1) := by decide +kernel
theorem dX7_marksBelow_6 : decode cX7_marksBelow 6 = .ok (.iconst 0, 1) := by decide +kernel
theorem dX7_marksBelow_7 : decode cX7_marksBelow 7 = .ok (.istore_n 3, 1) := by decide +kernel
theorem dX7_marksBelow_8 : decode cX7_marksBelow 8 = .ok (.iconst 0, 1) := by decide +kernel
theorem dX7_marksBelow_9 : decode cX7_marksBelow 9 = .ok (.istore 4, 2) := by decide +kernel
theorem dX7_marksBelow_11 : decode cX7_marksBelow 11 = .ok (.iload 4, 2) := by decide +kernel
theorem dX7_marksBelow_13 : decode cX7_marksBelow 13 = .ok (.aload_n 0, 1) := by decide +kernel
theorem dX7_marksBelow_14 : decode cX7_marksBelow 14 = .ok (.getfield 84, 3) := by decide +kernel
theorem dX7_marksBelow_17 : decode cX7_marksBelow 17 = .ok (.if_icmp .ge 80, 3) := by decide +kernel
theorem dX7_marksBelow_20 : decode cX7_marksBelow 20 = .ok (.aload_n 0, 1) := by decide +kernel
theorem dX7_marksBelow_21 : decode cX7_marksBelow 21 = .ok (.getfield 57, 3) := by decide +kernel
theorem dX7_marksBelow_24 : decode cX7_marksBelow 24 = .ok (.iload 4, 2) := by decide +kernel
theorem dX7_marksBelow_26 : decode cX7_marksBelow 26 = .ok (.iconst 0, 1) := by decide +kernel
theorem dX7_marksBelow_27 : decode cX7_marksBelow 27 = .ok (.bastore, 1) := by decide +kernel
theorem dX7_marksBelow_28 : decode cX7_marksBelow 28 = .ok (.aload_n 0, 1) := by decide +kernel
theorem dX7_marksBelow_29 : decode cX7_marksBelow 29 = .ok (.iload 4, 2) := by decide +kernel
theorem dX7_marksBelow_31 : decode cX7_marksBelow 31 = .ok (.iload_n 2, 1) := by decide +kernel
theorem dX7_marksBelow_32 : decode cX7_marksBelow 32 = .ok (.invokevirtual 139, 3) := by decide +kernel
theorem dX7_marksBelow_35 : decode cX7_marksBelow 35 = .ok (.ifCond .ne 6, 3) := by decide +kernel
theorem dX7_marksBelow_38 : decode cX7_marksBelow 38 = .ok (.goto 53, 3) := by decide +kernel
theorem dX7_marksBelow_41 : decode cX7_marksBelow 41 = .ok (.iconst 0, 1) := by decide +kernel
theorem dX7_marksBelow_42 : decode cX7_marksBelow 42 = .ok (.istore 5, 2) := by decide +kernel
theorem dX7_marksBelow_44 : decode cX7_marksBelow 44 = .ok (.iload 5, 2) := by decide +kernel
theorem dX7_marksBelow_46 : decode cX7_marksBelow 46 = .ok (.aload_n 0, 1) := by decide +kernel
theorem dX7_marksBelow_47 : decode cX7_marksBelow 47 = .ok (.getfield 119, 3) := by decide +kernel
theorem dX7_marksBelow_50 : decode cX7_marksBelow 50 = .ok (.if_icmp .ge 28, 3) := by decide +kernel
theorem dX7_marksBelow_53 : decode cX7_marksBelow 53 = .ok (.aload_n 0, 1) := by decide +kernel
theorem dX7_marksBelow_54 : decode cX7_marksBelow 54 = .ok (.getfield 66, 3) := by decide +kernel
theorem dX7_marksBelow_57 : decode cX7_marksBelow 57 = .ok (.iload 5, 2) := by decide +kernel
theorem dX7_marksBelow_59 : decode cX7_marksBelow 59 = .ok (.iaload, 1) := by decide +kernel
theorem dX7_marksBelow_60 : decode cX7_marksBelow 60 = .ok (.iload_n 1, 1) := by decide +kernel
theorem dX7_marksBelow_61 : decode cX7_marksBelow 61 = .ok (.if_icmp .ne 11, 3) := by decide +kernel
theorem dX7_marksBelow_64 : decode cX7_marksBelow 64 = .ok (.aload_n 0, 1) := by decide +kernel
theorem dX7_marksBelow_65 : decode cX7_marksBelow 65 = .ok (.getfield 57, 3) := by decide +kernel
theorem dX7_marksBelow_68 : decode cX7_marksBelow 68 = .ok (.iload 4, 2) := by decide +kernel
theorem dX7_marksBelow_70 : decode cX7_marksBelow 70 = .ok (.iconst 1, 1) := by decide +kernel
theorem dX7_marksBelow_71 : decode cX7_marksBelow 71 = .ok (.bastore, 1) := by decide +kernel
theorem dX7_marksBelow_72 : decode cX7_marksBelow 72 = .ok (.iinc 5 1, 3) := by decide +kernel
theorem dX7_marksBelow_75 : decode cX7_marksBelow 75 = .ok (.goto (-31), 3) := by decide +kernel
theorem dX7_marksBelow_78 : decode cX7_marksBelow 78 = .ok (.aload_n 0, 1) := by decide +kernel
theorem dX7_marksBelow_79 : decode cX7_marksBelow 79 = .ok (.getfield 57, 3) := by decide +kernel
theorem dX7_marksBelow_82 : decode cX7_marksBelow 82 = .ok (.iload 4, 2) := by decide +kernel
theorem dX7_marksBelow_84 : decode cX7_marksBelow 84 = .ok (.baload, 1) := by decide +kernel
theorem dX7_marksBelow_85 : decode cX7_marksBelow 85 = .ok (.ifCond .eq 6, 3) := by decide +kernel
theorem dX7_marksBelow_88 : decode cX7_marksBelow 88 = .ok (.iinc 3 1, 3) := by decide +kernel
theorem dX7_marksBelow_91 : decode cX7_marksBelow 91 = .ok (.iinc 4 1, 3) := by decide +kernel
theorem dX7_marksBelow_94 : decode cX7_marksBelow 94 = .ok (.goto (-83), 3) := by decide +kernel
theorem dX7_marksBelow_97 : decode cX7_marksBelow 97 = .ok (.iload_n 3, 1) := by decide +kernel
theorem dX7_marksBelow_98 : decode cX7_marksBelow 98 = .ok (.ireturn, 1) := by decide +kernel
theorem dX7_below_0 : decode cX7_below 0 = .ok (.aload_n 0, 1) := by decide +kernel
theorem dX7_below_1 : decode cX7_below 1 = .ok (.iload_n 1, 1) := by decide +kernel
theorem dX7_below_2 : decode cX7_below 2 = .ok (.invokevirtual 129, 3) := by decide +kernel
theorem dX7_below_5 : decode cX7_below 5 = .ok (.ifCond .eq 12, 3) := by decide +kernel
theorem dX7_below_8 : decode cX7_below 8 = .ok (.iload_n 2, 1) := by decide +kernel
theorem dX7_below_9 : decode cX7_below 9 = .ok (.ifCond .lt 8, 3) := by decide +kernel
theorem dX7_below_12 : decode cX7_below 12 = .ok (.iload_n 2, 1) := by decide +kernel
theorem dX7_below_13 : decode cX7_below 13 = .ok (.iconst 4, 1) := by decide +kernel
theorem dX7_below_14 : decode cX7_below 14 = .ok (.if_icmp .le 6, 3) := by decide +kernel
theorem dX7_below_17 : decode cX7_below 17 = .ok (.bipush (-2), 2) := by decide +kernel
theorem dX7_below_19 : decode cX7_below 19 = .ok (.ireturn, 1) := by decide +kernel
theorem dX7_below_20 : decode cX7_below 20 = .ok (.aload_n 0, 1) := by decide +kernel
theorem dX7_below_21 : decode cX7_below 21 = .ok (.iload_n 1, 1) := by decide +kernel
theorem dX7_below_22 : decode cX7_below 22 = .ok (.invokevirtual 169, 3) := by decide +kernel
theorem dX7_below_25 : decode cX7_below 25 = .ok (.istore_n 3, 1) := by decide +kernel
theorem dX7_below_26 : decode cX7_below 26 = .ok (.iload_n 2, 1) := by decide +kernel
theorem dX7_below_27 : decode cX7_below 27 = .ok (.tableswitch 77 0 3 #[29, 31, 57, 71], 29) := by decide +kernel
theorem dX7_below_56 : decode cX7_below 56 = .ok (.iload_n 3, 1) := by decide +kernel
theorem dX7_below_57 : decode cX7_below 57 = .ok (.ireturn, 1) := by decide +kernel
theorem dX7_below_58 : decode cX7_below 58 = .ok (.aload_n 0, 1) := by decide +kernel
theorem dX7_below_59 : decode cX7_below 59 = .ok (.iload_n 1, 1) := by decide +kernel
theorem dX7_below_60 : decode cX7_below 60 = .ok (.iload_n 3, 1) := by decide +kernel
theorem dX7_below_61 : decode cX7_below 61 = .ok (.invokevirtual 139, 3) := by decide +kernel
theorem dX7_below_64 : decode cX7_below 64 = .ok (.pop, 1) := by decide +kernel
theorem dX7_below_65 : decode cX7_below 65 = .ok (.aload_n 0, 1) := by decide +kernel
theorem dX7_below_66 : decode cX7_below 66 = .ok (.getfield 119, 3) := by decide +kernel
theorem dX7_below_69 : decode cX7_below 69 = .ok (.iconst 1, 1) := by decide +kernel
theorem dX7_below_70 : decode cX7_below 70 = .ok (.if_icmp .le 12, 3) := by decide +kernel
theorem dX7_below_73 : decode cX7_below 73 = .ok (.aload_n 0, 1) := by decide +kernel
theorem dX7_below_74 : decode cX7_below 74 = .ok (.getfield 66, 3) := by decide +kernel
theorem dX7_below_77 : decode cX7_below 77 = .ok (.iconst 1, 1) := by decide +kernel
theorem dX7_below_78 : decode cX7_below 78 = .ok (.iaload, 1) := by decide +kernel
theorem dX7_below_79 : decode cX7_below 79 = .ok (.goto 4, 3) := by decide +kernel
theorem dX7_below_82 : decode cX7_below 82 = .ok (.iconst (-1), 1) := by decide +kernel
theorem dX7_below_83 : decode cX7_below 83 = .ok (.ireturn, 1) := by decide +kernel
theorem dX7_below_84 : decode cX7_below 84 = .ok (.aload_n 0, 1) := by decide +kernel
theorem dX7_below_85 : decode cX7_below 85 = .ok (.iload_n 1, 1) := by decide +kernel
theorem dX7_below_86 : decode cX7_below 86 = .ok (.iload_n 3, 1) := by decide +kernel
theorem dX7_below_87 : decode cX7_below 87 = .ok (.invokevirtual 139, 3) := by decide +kernel
theorem dX7_below_90 : decode cX7_below 90 = .ok (.pop, 1) := by decide +kernel
theorem dX7_below_91 : decode cX7_below 91 = .ok (.aload_n 0, 1) := by decide +kernel
theorem dX7_below_92 : decode cX7_below 92 = .ok (.getfield 119, 3) := by decide +kernel
theorem dX7_below_95 : decode cX7_below 95 = .ok (.iconst 1, 1) := by decide +kernel
theorem dX7_below_96 : decode cX7_below 96 = .ok (.isub, 1) := by decide +kernel
theorem dX7_below_97 : decode cX7_below 97 = .ok (.ireturn, 1) := by decide +kernel
theorem dX7_below_98 : decode cX7_below 98 = .ok (.aload_n 0, 1) := by decide +kernel
theorem dX7_below_99 : decode cX7_below 99 = .ok (.iload_n 1, 1) := by decide +kernel
theorem dX7_below_100 : decode cX7_below 100 = .ok (.invokevirtual 172, 3) := by decide +kernel
theorem dX7_below_103 : decode cX7_below 103 = .ok (.ireturn, 1) := by decide +kernel
theorem dX7_below_104 : decode cX7_below 104 = .ok (.aload_n 0, 1) := by decide +kernel
theorem dX7_below_105 : decode cX7_below 105 = .ok (.iload_n 1, 1) := by decide +kernel
theorem dX7_below_106 : decode cX7_below 106 = .ok (.invokevirtual 166, 3) := by decide +kernel
theorem dX7_below_109 : decode cX7_below 109 = .ok (.ifCond .eq 7, 3) := by decide +kernel
theorem dX7_below_112 : decode cX7_below 112 = .ok (.iconst 1, 1) := by decide +kernel
theorem dX7_below_113 : decode cX7_below 113 = .ok (.goto 4, 3) := by decide +kernel
theorem dX7_below_116 : decode cX7_below 116 = .ok (.iconst 0, 1) := by decide +kernel
theorem dX7_below_117 : decode cX7_below 117 = .ok (.ireturn, 1) := by decide +kernel
theorem dX7_meet_0 : decode cX7_meet 0 = .ok (.aload_n 0, 1) := by decide +kernel
theorem dX7_meet_1 : decode cX7_meet 1 = .ok (.iload_n 1, 1) := by decide +kernel
theorem dX7_meet_2 : decode cX7_meet 2 = .ok (.invokevirtual 129, 3) := by decide +kernel
theorem dX7_meet_5 : decode cX7_meet 5 = .ok (.ifCond .eq 11, 3) := by decide +kernel
theorem dX7_meet_8 : decode cX7_meet 8 = .ok (.aload_n 0, 1) := by decide +kernel
theorem dX7_meet_9 : decode cX7_meet 9 = .ok (.iload_n 2, 1) := by decide +kernel
theorem dX7_meet_10 : decode cX7_meet 10 = .ok (.invokevirtual 129, 3) := by decide +kernel
theorem dX7_meet_13 : decode cX7_meet 13 = .ok (.ifCond .ne 6, 3) := by decide +kernel
theorem dX7_meet_16 : decode cX7_meet 16 = .ok (.bipush (-2), 2) := by decide +kernel
theorem dX7_meet_18 : decode cX7_meet 18 = .ok (.ireturn, 1) := by decide +kernel
theorem dX7_meet_19 : decode cX7_meet 19 = .ok (.aload_n 0, 1) := by decide +kernel
theorem dX7_meet_20 : decode cX7_meet 20 = .ok (.iload_n 1, 1) := by decide +kernel
theorem dX7_meet_21 : decode cX7_meet 21 = .ok (.iload_n 2, 1) := by decide +kernel
theorem dX7_meet_22 : decode cX7_meet 22 = .ok (.invokevirtual 133, 3) := by decide +kernel
theorem dX7_meet_25 : decode cX7_meet 25 = .ok (.ifCond .ne 5, 3) := by decide +kernel
theorem dX7_meet_28 : decode cX7_meet 28 = .ok (.iconst (-1), 1) := by decide +kernel
theorem dX7_meet_29 : decode cX7_meet 29 = .ok (.ireturn, 1) := by decide +kernel
theorem dX7_meet_30 : decode cX7_meet 30 = .ok (.aload_n 0, 1) := by decide +kernel
theorem dX7_meet_31 : decode cX7_meet 31 = .ok (.iload_n 1, 1) := by decide +kernel
theorem dX7_meet_32 : decode cX7_meet 32 = .ok (.invokevirtual 169, 3) := by decide +kernel
theorem dX7_meet_35 : decode cX7_meet 35 = .ok (.istore_n 3, 1) := by decide +kernel
theorem dX7_meet_36 : decode cX7_meet 36 = .ok (.aload_n 0, 1) := by decide +kernel
theorem dX7_meet_37 : decode cX7_meet 37 = .ok (.iload_n 2, 1) := by decide +kernel
theorem dX7_meet_38 : decode cX7_meet 38 = .ok (.iload_n 3, 1) := by decide +kernel
theorem dX7_meet_39 : decode cX7_meet 39 = .ok (.invokevirtual 139, 3) := by decide +kernel
theorem dX7_meet_42 : decode cX7_meet 42 = .ok (.pop, 1) := by decide +kernel
theorem dX7_meet_43 : decode cX7_meet 43 = .ok (.iconst 0, 1) := by decide +kernel
theorem dX7_meet_44 : decode cX7_meet 44 = .ok (.istore 4, 2) := by decide +kernel
theorem dX7_meet_46 : decode cX7_meet 46 = .ok (.iload 4, 2) := by decide +kernel
theorem dX7_meet_48 : decode cX7_meet 48 = .ok (.aload_n 0, 1) := by decide +kernel
theorem dX7_meet_49 : decode cX7_meet 49 = .ok (.getfield 84, 3) := by decide +kernel
theorem dX7_meet_52 : decode cX7_meet 52 = .ok (.if_icmp .ge 17, 3) := by decide +kernel
theorem dX7_meet_55 : decode cX7_meet 55 = .ok (.aload_n 0, 1) := by decide +kernel
theorem dX7_meet_56 : decode cX7_meet 56 = .ok (.getfield 57, 3) := by decide +kernel
theorem dX7_meet_59 : decode cX7_meet 59 = .ok (.iload 4, 2) := by decide +kernel
theorem dX7_meet_61 : decode cX7_meet 61 = .ok (.iconst 0, 1) := by decide +kernel
theorem dX7_meet_62 : decode cX7_meet 62 = .ok (.bastore, 1) := by decide +kernel
theorem dX7_meet_63 : decode cX7_meet 63 = .ok (.iinc 4 1, 3) := by decide +kernel
theorem dX7_meet_66 : decode cX7_meet 66 = .ok (.goto (-20), 3) := by decide +kernel
theorem dX7_meet_69 : decode cX7_meet 69 = .ok (.iconst 0, 1) := by decide +kernel
theorem dX7_meet_70 : decode cX7_meet 70 = .ok (.istore 4, 2) := by decide +kernel
theorem dX7_meet_72 : decode cX7_meet 72 = .ok (.iload 4, 2) := by decide +kernel
theorem dX7_meet_74 : decode cX7_meet 74 = .ok (.aload_n 0, 1) := by decide +kernel
theorem dX7_meet_75 : decode cX7_meet 75 = .ok (.getfield 119, 3) := by decide +kernel
theorem dX7_meet_78 : decode cX7_meet 78 = .ok (.if_icmp .ge 22, 3) := by decide +kernel
theorem dX7_meet_81 : decode cX7_meet 81 = .ok (.aload_n 0, 1) := by decide +kernel
theorem dX7_meet_82 : decode cX7_meet 82 = .ok (.getfield 57, 3) := by decide +kernel
theorem dX7_meet_85 : decode cX7_meet 85 = .ok (.aload_n 0, 1) := by decide +kernel
theorem dX7_meet_86 : decode cX7_meet 86 = .ok (.getfield 66, 3) := by decide +kernel
theorem dX7_meet_89 : decode cX7_meet 89 = .ok (.iload 4, 2) := by decide +kernel
theorem dX7_meet_91 : decode cX7_meet 91 = .ok (.iaload, 1) := by decide +kernel
theorem dX7_meet_92 : decode cX7_meet 92 = .ok (.iconst 1, 1) := by decide +kernel
theorem dX7_meet_93 : decode cX7_meet 93 = .ok (.bastore, 1) := by decide +kernel
theorem dX7_meet_94 : decode cX7_meet 94 = .ok (.iinc 4 1, 3) := by decide +kernel
theorem dX7_meet_97 : decode cX7_meet 97 = .ok (.goto (-25), 3) := by decide +kernel
theorem dX7_meet_100 : decode cX7_meet 100 = .ok (.aload_n 0, 1) := by decide +kernel
theorem dX7_meet_101 : decode cX7_meet 101 = .ok (.iload_n 1, 1) := by decide +kernel
theorem dX7_meet_102 : decode cX7_meet 102 = .ok (.iload_n 3, 1) := by decide +kernel
theorem dX7_meet_103 : decode cX7_meet 103 = .ok (.invokevirtual 139, 3) := by decide +kernel
theorem dX7_meet_106 : decode cX7_meet 106 = .ok (.pop, 1) := by decide +kernel
theorem dX7_meet_107 : decode cX7_meet 107 = .ok (.iconst 0, 1) := by decide +kernel
theorem dX7_meet_108 : decode cX7_meet 108 = .ok (.istore 4, 2) := by decide +kernel
theorem dX7_meet_110 : decode cX7_meet 110 = .ok (.iload 4, 2) := by decide +kernel
theorem dX7_meet_112 : decode cX7_meet 112 = .ok (.aload_n 0, 1) := by decide +kernel
theorem dX7_meet_113 : decode cX7_meet 113 = .ok (.getfield 119, 3) := by decide +kernel
theorem dX7_meet_116 : decode cX7_meet 116 = .ok (.if_icmp .ge 32, 3) := by decide +kernel
theorem dX7_meet_119 : decode cX7_meet 119 = .ok (.aload_n 0, 1) := by decide +kernel
theorem dX7_meet_120 : decode cX7_meet 120 = .ok (.getfield 57, 3) := by decide +kernel
theorem dX7_meet_123 : decode cX7_meet 123 = .ok (.aload_n 0, 1) := by decide +kernel
theorem dX7_meet_124 : decode cX7_meet 124 = .ok (.getfield 66, 3) := by decide +kernel
theorem dX7_meet_127 : decode cX7_meet 127 = .ok (.iload 4, 2) := by decide +kernel
theorem dX7_meet_129 : decode cX7_meet 129 = .ok (.iaload, 1) := by decide +kernel
theorem dX7_meet_130 : decode cX7_meet 130 = .ok (.baload, 1) := by decide +kernel
theorem dX7_meet_131 : decode cX7_meet 131 = .ok (.ifCond .eq 11, 3) := by decide +kernel
theorem dX7_meet_134 : decode cX7_meet 134 = .ok (.aload_n 0, 1) := by decide +kernel
theorem dX7_meet_135 : decode cX7_meet 135 = .ok (.getfield 66, 3) := by decide +kernel
theorem dX7_meet_138 : decode cX7_meet 138 = .ok (.iload 4, 2) := by decide +kernel
theorem dX7_meet_140 : decode cX7_meet 140 = .ok (.iaload, 1) := by decide +kernel
theorem dX7_meet_141 : decode cX7_meet 141 = .ok (.ireturn, 1) := by decide +kernel
theorem dX7_meet_142 : decode cX7_meet 142 = .ok (.iinc 4 1, 3) := by decide +kernel
theorem dX7_meet_145 : decode cX7_meet 145 = .ok (.goto (-35), 3) := by decide +kernel
theorem dX7_meet_148 : decode cX7_meet 148 = .ok (.iconst (-1), 1) := by decide +kernel
theorem dX7_meet_149 : decode cX7_meet 149 = .ok (.ireturn, 1) := by decide +kernel
theorem dX7_sumBelow_0 : decode cX7_sumBelow 0 = .ok (.aload_n 0, 1) := by decide +kernel
theorem dX7_sumBelow_1 : decode cX7_sumBelow 1 = .ok (.iload_n 1, 1) := by decide +kernel
theorem dX7_sumBelow_2 : decode cX7_sumBelow 2 = .ok (.invokevirtual 129, 3) := by decide +kernel
theorem dX7_sumBelow_5 : decode cX7_sumBelow 5 = .ok (.ifCond .ne 7, 3) := by decide +kernel
theorem dX7_sumBelow_8 : decode cX7_sumBelow 8 = .ok (.ldc2_w 161, 3) := by decide +kernel
theorem dX7_sumBelow_11 : decode cX7_sumBelow 11 = .ok (.lreturn, 1) := by decide +kernel
theorem dX7_sumBelow_12 : decode cX7_sumBelow 12 = .ok (.aload_n 0, 1) := by decide +kernel
theorem dX7_sumBelow_13 : decode cX7_sumBelow 13 = .ok (.iload_n 1, 1) := by decide +kernel
theorem dX7_sumBelow_14 : decode cX7_sumBelow 14 = .ok (.invokevirtual 172, 3) := by decide +kernel
theorem dX7_sumBelow_17 : decode cX7_sumBelow 17 = .ok (.pop, 1) := by decide +kernel
theorem dX7_sumBelow_18 : decode cX7_sumBelow 18 = .ok (.lconst 0, 1) := by decide +kernel
theorem dX7_sumBelow_19 : decode cX7_sumBelow 19 = .ok (.lstore_n 2, 1) := by decide +kernel
theorem dX7_sumBelow_20 : decode cX7_sumBelow 20 = .ok (.iconst 0, 1) := by decide +kernel
theorem dX7_sumBelow_21 : decode cX7_sumBelow 21 = .ok (.istore 4, 2) := by decide +kernel
theorem dX7_sumBelow_23 : decode cX7_sumBelow 23 = .ok (.iload 4, 2) := by decide +kernel
theorem dX7_sumBelow_25 : decode cX7_sumBelow 25 = .ok (.aload_n 0, 1) := by decide +kernel
theorem dX7_sumBelow_26 : decode cX7_sumBelow 26 = .ok (.getfield 84, 3) := by decide +kernel
theorem dX7_sumBelow_29 : decode cX7_sumBelow 29 = .ok (.if_icmp .ge 29, 3) := by decide +kernel
theorem dX7_sumBelow_32 : decode cX7_sumBelow 32 = .ok (.aload_n 0, 1) := by decide +kernel
theorem dX7_sumBelow_33 : decode cX7_sumBelow 33 = .ok (.getfield 57, 3) := by decide +kernel
theorem dX7_sumBelow_36 : decode cX7_sumBelow 36 = .ok (.iload 4, 2) := by decide +kernel
theorem dX7_sumBelow_38 : decode cX7_sumBelow 38 = .ok (.baload, 1) := by decide +kernel
theorem dX7_sumBelow_39 : decode cX7_sumBelow 39 = .ok (.ifCond .eq 13, 3) := by decide +kernel
theorem dX7_sumBelow_42 : decode cX7_sumBelow 42 = .ok (.lload_n 2, 1) := by decide +kernel
theorem dX7_sumBelow_43 : decode cX7_sumBelow 43 = .ok (.aload_n 0, 1) := by decide +kernel
theorem dX7_sumBelow_44 : decode cX7_sumBelow 44 = .ok (.getfield 7, 3) := by decide +kernel
theorem dX7_sumBelow_47 : decode cX7_sumBelow 47 = .ok (.iload 4, 2) := by decide +kernel
theorem dX7_sumBelow_49 : decode cX7_sumBelow 49 = .ok (.laload, 1) := by decide +kernel
theorem dX7_sumBelow_50 : decode cX7_sumBelow 50 = .ok (.ladd, 1) := by decide +kernel
theorem dX7_sumBelow_51 : decode cX7_sumBelow 51 = .ok (.lstore_n 2, 1) := by decide +kernel
theorem dX7_sumBelow_52 : decode cX7_sumBelow 52 = .ok (.iinc 4 1, 3) := by decide +kernel
theorem dX7_sumBelow_55 : decode cX7_sumBelow 55 = .ok (.goto (-32), 3) := by decide +kernel
theorem dX7_sumBelow_58 : decode cX7_sumBelow 58 = .ok (.lload_n 2, 1) := by decide +kernel
theorem dX7_sumBelow_59 : decode cX7_sumBelow 59 = .ok (.lreturn, 1) := by decide +kernel
theorem dX7_addBelow_0 : decode cX7_addBelow 0 = .ok (.aload_n 0, 1) := by decide +kernel
theorem dX7_addBelow_1 : decode cX7_addBelow 1 = .ok (.iload_n 1, 1) := by decide +kernel
theorem dX7_addBelow_2 : decode cX7_addBelow 2 = .ok (.invokevirtual 129, 3) := by decide +kernel
theorem dX7_addBelow_5 : decode cX7_addBelow 5 = .ok (.ifCond .ne 6, 3) := by decide +kernel
theorem dX7_addBelow_8 : decode cX7_addBelow 8 = .ok (.bipush (-2), 2) := by decide +kernel
theorem dX7_addBelow_10 : decode cX7_addBelow 10 = .ok (.ireturn, 1) := by decide +kernel
theorem dX7_addBelow_11 : decode cX7_addBelow 11 = .ok (.aload_n 0, 1) := by decide +kernel
theorem dX7_addBelow_12 : decode cX7_addBelow 12 = .ok (.iload_n 1, 1) := by decide +kernel
theorem dX7_addBelow_13 : decode cX7_addBelow 13 = .ok (.invokevirtual 172, 3) := by decide +kernel
theorem dX7_addBelow_16 : decode cX7_addBelow 16 = .ok (.istore 4, 2) := by decide +kernel
theorem dX7_addBelow_18 : decode cX7_addBelow 18 = .ok (.aload_n 0, 1) := by decide +kernel
theorem dX7_addBelow_19 : decode cX7_addBelow 19 = .ok (.invokevirtual 136, 3) := by decide +kernel
theorem dX7_addBelow_22 : decode cX7_addBelow 22 = .ok (.iconst 0, 1) := by decide +kernel
theorem dX7_addBelow_23 : decode cX7_addBelow 23 = .ok (.istore 5, 2) := by decide +kernel
theorem dX7_addBelow_25 : decode cX7_addBelow 25 = .ok (.iload 5, 2) := by decide +kernel
theorem dX7_addBelow_27 : decode cX7_addBelow 27 = .ok (.aload_n 0, 1) := by decide +kernel
theorem dX7_addBelow_28 : decode cX7_addBelow 28 = .ok (.getfield 84, 3) := by decide +kernel
theorem dX7_addBelow_31 : decode cX7_addBelow 31 = .ok (.if_icmp .ge 30, 3) := by decide +kernel
theorem dX7_addBelow_34 : decode cX7_addBelow 34 = .ok (.aload_n 0, 1) := by decide +kernel
theorem dX7_addBelow_35 : decode cX7_addBelow 35 = .ok (.getfield 57, 3) := by decide +kernel
theorem dX7_addBelow_38 : decode cX7_addBelow 38 = .ok (.iload 5, 2) := by decide +kernel
theorem dX7_addBelow_40 : decode cX7_addBelow 40 = .ok (.baload, 1) := by decide +kernel
theorem dX7_addBelow_41 : decode cX7_addBelow 41 = .ok (.ifCond .eq 14, 3) := by decide +kernel
theorem dX7_addBelow_44 : decode cX7_addBelow 44 = .ok (.aload_n 0, 1) := by decide +kernel
theorem dX7_addBelow_45 : decode cX7_addBelow 45 = .ok (.getfield 7, 3) := by decide +kernel
theorem dX7_addBelow_48 : decode cX7_addBelow 48 = .ok (.iload 5, 2) := by decide +kernel
theorem dX7_addBelow_50 : decode cX7_addBelow 50 = .ok (.dup2, 1) := by decide +kernel
theorem dX7_addBelow_51 : decode cX7_addBelow 51 = .ok (.laload, 1) := by decide +kernel
theorem dX7_addBelow_52 : decode cX7_addBelow 52 = .ok (.lload_n 2, 1) := by decide +kernel
theorem dX7_addBelow_53 : decode cX7_addBelow 53 = .ok (.ladd, 1) := by decide +kernel
theorem dX7_addBelow_54 : decode cX7_addBelow 54 = .ok (.lastore, 1) := by decide +kernel
theorem dX7_addBelow_55 : decode cX7_addBelow 55 = .ok (.iinc 5 1, 3) := by decide +kernel
theorem dX7_addBelow_58 : decode cX7_addBelow 58 = .ok (.goto (-33), 3) := by decide +kernel
theorem dX7_addBelow_61 : decode cX7_addBelow 61 = .ok (.iload 4, 2) := by decide +kernel
theorem dX7_addBelow_63 : decode cX7_addBelow 63 = .ok (.ireturn, 1) := by decide +kernel
theorem dX7_refused_0 : decode cX7_refused 0 = .ok (.aload_n 0, 1) := by decide +kernel
theorem dX7_refused_1 : decode cX7_refused 1 = .ok (.iload_n 1, 1) := by decide +kernel
theorem dX7_refused_2 : decode cX7_refused 2 = .ok (.putfield 175, 3) := by decide +kernel
theorem dX7_refused_5 : decode cX7_refused 5 = .ok (.iconst (-1), 1) := by decide +kernel
theorem dX7_refused_6 : decode cX7_refused 6 = .ok (.ireturn, 1) := by decide +kernel
theorem dX7_done_0 : decode cX7_done 0 = .ok (.aload_n 0, 1) := by decide +kernel
theorem dX7_done_1 : decode cX7_done 1 = .ok (.iconst 0, 1) := by decide +kernel
theorem dX7_done_2 : decode cX7_done 2 = .ok (.putfield 175, 3) := by decide +kernel
theorem dX7_done_5 : decode cX7_done 5 = .ok (.iload_n 1, 1) := by decide +kernel
theorem dX7_done_6 : decode cX7_done 6 = .ok (.ireturn, 1) := by decide +kernel
theorem dX7_put_0 : decode cX7_put 0 = .ok (.iload_n 1, 1) := by decide +kernel
theorem dX7_put_1 : decode cX7_put 1 = .ok (.ifCond .lt 17, 3) := by decide +kernel
theorem dX7_put_4 : decode cX7_put 4 = .ok (.iload_n 1, 1) := by decide +kernel
theorem dX7_put_5 : decode cX7_put 5 = .ok (.iconst 5, 1) := by decide +kernel
theorem dX7_put_6 : decode cX7_put 6 = .ok (.if_icmp .gt 12, 3) := by decide +kernel
theorem dX7_put_9 : decode cX7_put 9 = .ok (.iload_n 2, 1) := by decide +kernel
theorem dX7_put_10 : decode cX7_put 10 = .ok (.ifCond .lt 8, 3) := by decide +kernel
theorem dX7_put_13 : decode cX7_put 13 = .ok (.iload_n 2, 1) := by decide +kernel
theorem dX7_put_14 : decode cX7_put 14 = .ok (.iconst 4, 1) := by decide +kernel
theorem dX7_put_15 : decode cX7_put 15 = .ok (.if_icmp .le 9, 3) := by decide +kernel
theorem dX7_put_18 : decode cX7_put 18 = .ok (.aload_n 0, 1) := by decide +kernel
theorem dX7_put_19 : decode cX7_put 19 = .ok (.iconst 1, 1) := by decide +kernel
theorem dX7_put_20 : decode cX7_put 20 = .ok (.invokevirtual 178, 3) := by decide +kernel
theorem dX7_put_23 : decode cX7_put 23 = .ok (.ireturn, 1) := by decide +kernel
theorem dX7_put_24 : decode cX7_put 24 = .ok (.iload_n 2, 1) := by decide +kernel
theorem dX7_put_25 : decode cX7_put 25 = .ok (.iconst 1, 1) := by decide +kernel
theorem dX7_put_26 : decode cX7_put 26 = .ok (.if_icmp .ne 11, 3) := by decide +kernel
theorem dX7_put_29 : decode cX7_put 29 = .ok (.aload_n 0, 1) := by decide +kernel
theorem dX7_put_30 : decode cX7_put 30 = .ok (.iload_n 3, 1) := by decide +kernel
theorem dX7_put_31 : decode cX7_put 31 = .ok (.invokevirtual 152, 3) := by decide +kernel
theorem dX7_put_34 : decode cX7_put 34 = .ok (.ifCond .eq 40, 3) := by decide +kernel
theorem dX7_put_37 : decode cX7_put 37 = .ok (.iload_n 2, 1) := by decide +kernel
theorem dX7_put_38 : decode cX7_put 38 = .ok (.iconst 2, 1) := by decide +kernel
theorem dX7_put_39 : decode cX7_put 39 = .ok (.if_icmp .lt 11, 3) := by decide +kernel
theorem dX7_put_42 : decode cX7_put 42 = .ok (.aload_n 0, 1) := by decide +kernel
theorem dX7_put_43 : decode cX7_put 43 = .ok (.iload_n 3, 1) := by decide +kernel
theorem dX7_put_44 : decode cX7_put 44 = .ok (.invokevirtual 129, 3) := by decide +kernel
theorem dX7_put_47 : decode cX7_put 47 = .ok (.ifCond .eq 27, 3) := by decide +kernel
theorem dX7_put_50 : decode cX7_put 50 = .ok (.iload_n 2, 1) := by decide +kernel
theorem dX7_put_51 : decode cX7_put 51 = .ok (.iconst 3, 1) := by decide +kernel
theorem dX7_put_52 : decode cX7_put 52 = .ok (.if_icmp .ne 28, 3) := by decide +kernel
theorem dX7_put_55 : decode cX7_put 55 = .ok (.aload_n 0, 1) := by decide +kernel
theorem dX7_put_56 : decode cX7_put 56 = .ok (.iload 4, 2) := by decide +kernel
theorem dX7_put_58 : decode cX7_put 58 = .ok (.invokevirtual 129, 3) := by decide +kernel
theorem dX7_put_61 : decode cX7_put 61 = .ok (.ifCond .eq 13, 3) := by decide +kernel
theorem dX7_put_64 : decode cX7_put 64 = .ok (.aload_n 0, 1) := by decide +kernel
theorem dX7_put_65 : decode cX7_put 65 = .ok (.iload_n 3, 1) := by decide +kernel
theorem dX7_put_66 : decode cX7_put 66 = .ok (.iload 4, 2) := by decide +kernel
theorem dX7_put_68 : decode cX7_put 68 = .ok (.invokevirtual 139, 3) := by decide +kernel
theorem dX7_put_71 : decode cX7_put 71 = .ok (.ifCond .ne 9, 3) := by decide +kernel
theorem dX7_put_74 : decode cX7_put 74 = .ok (.aload_n 0, 1) := by decide +kernel
theorem dX7_put_75 : decode cX7_put 75 = .ok (.iconst 1, 1) := by decide +kernel
theorem dX7_put_76 : decode cX7_put 76 = .ok (.invokevirtual 178, 3) := by decide +kernel
theorem dX7_put_79 : decode cX7_put 79 = .ok (.ireturn, 1) := by decide +kernel
theorem dX7_put_80 : decode cX7_put 80 = .ok (.aload_n 0, 1) := by decide +kernel
theorem dX7_put_81 : decode cX7_put 81 = .ok (.getfield 72, 3) := by decide +kernel
theorem dX7_put_84 : decode cX7_put 84 = .ok (.iload_n 1, 1) := by decide +kernel
theorem dX7_put_85 : decode cX7_put 85 = .ok (.iload_n 2, 1) := by decide +kernel
theorem dX7_put_86 : decode cX7_put 86 = .ok (.iastore, 1) := by decide +kernel
theorem dX7_put_87 : decode cX7_put 87 = .ok (.aload_n 0, 1) := by decide +kernel
theorem dX7_put_88 : decode cX7_put 88 = .ok (.getfield 75, 3) := by decide +kernel
theorem dX7_put_91 : decode cX7_put 91 = .ok (.iload_n 1, 1) := by decide +kernel
theorem dX7_put_92 : decode cX7_put 92 = .ok (.iconst 0, 1) := by decide +kernel
theorem dX7_put_93 : decode cX7_put 93 = .ok (.iastore, 1) := by decide +kernel
theorem dX7_put_94 : decode cX7_put 94 = .ok (.bipush 100, 2) := by decide +kernel
theorem dX7_put_96 : decode cX7_put 96 = .ok (.iload_n 1, 1) := by decide +kernel
theorem dX7_put_97 : decode cX7_put 97 = .ok (.imul, 1) := by decide +kernel
theorem dX7_put_98 : decode cX7_put 98 = .ok (.istore 5, 2) := by decide +kernel
theorem dX7_put_100 : decode cX7_put 100 = .ok (.iload_n 2, 1) := by decide +kernel
theorem dX7_put_101 : decode cX7_put 101 = .ok (.iconst 1, 1) := by decide +kernel
theorem dX7_put_102 : decode cX7_put 102 = .ok (.if_icmp .ne 16, 3) := by decide +kernel
theorem dX7_put_105 : decode cX7_put 105 = .ok (.aload_n 0, 1) := by decide +kernel
theorem dX7_put_106 : decode cX7_put 106 = .ok (.getfield 78, 3) := by decide +kernel
theorem dX7_put_109 : decode cX7_put 109 = .ok (.iload 5, 2) := by decide +kernel
theorem dX7_put_111 : decode cX7_put 111 = .ok (.aload_n 0, 1) := by decide +kernel
theorem dX7_put_112 : decode cX7_put 112 = .ok (.getfield 17, 3) := by decide +kernel
theorem dX7_put_115 : decode cX7_put 115 = .ok (.iload_n 3, 1) := by decide +kernel
theorem dX7_put_116 : decode cX7_put 116 = .ok (.iaload, 1) := by decide +kernel
theorem dX7_put_117 : decode cX7_put 117 = .ok (.iastore, 1) := by decide +kernel
theorem dX7_put_118 : decode cX7_put 118 = .ok (.iload_n 2, 1) := by decide +kernel
theorem dX7_put_119 : decode cX7_put 119 = .ok (.iconst 2, 1) := by decide +kernel
theorem dX7_put_120 : decode cX7_put 120 = .ok (.if_icmp .eq 8, 3) := by decide +kernel
theorem dX7_put_123 : decode cX7_put 123 = .ok (.iload_n 2, 1) := by decide +kernel
theorem dX7_put_124 : decode cX7_put 124 = .ok (.iconst 4, 1) := by decide +kernel
theorem dX7_put_125 : decode cX7_put 125 = .ok (.if_icmp .ne 9, 3) := by decide +kernel
theorem dX7_put_128 : decode cX7_put 128 = .ok (.aload_n 0, 1) := by decide +kernel
theorem dX7_put_129 : decode cX7_put 129 = .ok (.iload_n 3, 1) := by decide +kernel
theorem dX7_put_130 : decode cX7_put 130 = .ok (.invokevirtual 115, 3) := by decide +kernel
theorem dX7_put_133 : decode cX7_put 133 = .ok (.pop, 1) := by decide +kernel
theorem dX7_put_134 : decode cX7_put 134 = .ok (.iconst 0, 1) := by decide +kernel
theorem dX7_put_135 : decode cX7_put 135 = .ok (.istore 6, 2) := by decide +kernel
theorem dX7_put_137 : decode cX7_put 137 = .ok (.iload 6, 2) := by decide +kernel
theorem dX7_put_139 : decode cX7_put 139 = .ok (.aload_n 0, 1) := by decide +kernel
theorem dX7_put_140 : decode cX7_put 140 = .ok (.getfield 84, 3) := by decide +kernel
theorem dX7_put_143 : decode cX7_put 143 = .ok (.if_icmp .ge 92, 3) := by decide +kernel
theorem dX7_put_146 : decode cX7_put 146 = .ok (.iload_n 2, 1) := by decide +kernel
theorem dX7_put_147 : decode cX7_put 147 = .ok (.iconst 2, 1) := by decide +kernel
theorem dX7_put_148 : decode cX7_put 148 = .ok (.if_icmp .eq 8, 3) := by decide +kernel
theorem dX7_put_151 : decode cX7_put 151 = .ok (.iload_n 2, 1) := by decide +kernel
theorem dX7_put_152 : decode cX7_put 152 = .ok (.iconst 4, 1) := by decide +kernel
theorem dX7_put_153 : decode cX7_put 153 = .ok (.if_icmp .ne 82, 3) := by decide +kernel
theorem dX7_put_156 : decode cX7_put 156 = .ok (.iload_n 2, 1) := by decide +kernel
theorem dX7_put_157 : decode cX7_put 157 = .ok (.iconst 4, 1) := by decide +kernel
theorem dX7_put_158 : decode cX7_put 158 = .ok (.if_icmp .ne 40, 3) := by decide +kernel
theorem dX7_put_161 : decode cX7_put 161 = .ok (.aload_n 0, 1) := by decide +kernel
theorem dX7_put_162 : decode cX7_put 162 = .ok (.getfield 78, 3) := by decide +kernel
theorem dX7_put_165 : decode cX7_put 165 = .ok (.iload 5, 2) := by decide +kernel
theorem dX7_put_167 : decode cX7_put 167 = .ok (.aload_n 0, 1) := by decide +kernel
theorem dX7_put_168 : decode cX7_put 168 = .ok (.getfield 75, 3) := by decide +kernel
theorem dX7_put_171 : decode cX7_put 171 = .ok (.iload_n 1, 1) := by decide +kernel
theorem dX7_put_172 : decode cX7_put 172 = .ok (.dup2, 1) := by decide +kernel
theorem dX7_put_173 : decode cX7_put 173 = .ok (.iaload, 1) := by decide +kernel
theorem dX7_put_174 : decode cX7_put 174 = .ok (.dup_x2, 1) := by decide +kernel
theorem dX7_put_175 : decode cX7_put 175 = .ok (.iconst 1, 1) := by decide +kernel
theorem dX7_put_176 : decode cX7_put 176 = .ok (.iadd, 1) := by decide +kernel
theorem dX7_put_177 : decode cX7_put 177 = .ok (.iastore, 1) := by decide +kernel
theorem dX7_put_178 : decode cX7_put 178 = .ok (.iadd, 1) := by decide +kernel
theorem dX7_put_179 : decode cX7_put 179 = .ok (.aload_n 0, 1) := by decide +kernel
theorem dX7_put_180 : decode cX7_put 180 = .ok (.getfield 53, 3) := by decide +kernel
theorem dX7_put_183 : decode cX7_put 183 = .ok (.iload 6, 2) := by decide +kernel
theorem dX7_put_185 : decode cX7_put 185 = .ok (.baload, 1) := by decide +kernel
theorem dX7_put_186 : decode cX7_put 186 = .ok (.ifCond .eq 7, 3) := by decide +kernel
theorem dX7_put_189 : decode cX7_put 189 = .ok (.iconst 1, 1) := by decide +kernel
theorem dX7_put_190 : decode cX7_put 190 = .ok (.goto 4, 3) := by decide +kernel
theorem dX7_put_193 : decode cX7_put 193 = .ok (.iconst 0, 1) := by decide +kernel
theorem dX7_put_194 : decode cX7_put 194 = .ok (.iastore, 1) := by decide +kernel
theorem dX7_put_195 : decode cX7_put 195 = .ok (.goto 34, 3) := by decide +kernel
theorem dX7_put_198 : decode cX7_put 198 = .ok (.aload_n 0, 1) := by decide +kernel
theorem dX7_put_199 : decode cX7_put 199 = .ok (.getfield 53, 3) := by decide +kernel
theorem dX7_put_202 : decode cX7_put 202 = .ok (.iload 6, 2) := by decide +kernel
theorem dX7_put_204 : decode cX7_put 204 = .ok (.baload, 1) := by decide +kernel
theorem dX7_put_205 : decode cX7_put 205 = .ok (.ifCond .eq 24, 3) := by decide +kernel
theorem dX7_put_208 : decode cX7_put 208 = .ok (.aload_n 0, 1) := by decide +kernel
theorem dX7_put_209 : decode cX7_put 209 = .ok (.getfield 78, 3) := by decide +kernel
theorem dX7_put_212 : decode cX7_put 212 = .ok (.iload 5, 2) := by decide +kernel
theorem dX7_put_214 : decode cX7_put 214 = .ok (.aload_n 0, 1) := by decide +kernel
theorem dX7_put_215 : decode cX7_put 215 = .ok (.getfield 75, 3) := by decide +kernel
theorem dX7_put_218 : decode cX7_put 218 = .ok (.iload_n 1, 1) := by decide +kernel
theorem dX7_put_219 : decode cX7_put 219 = .ok (.dup2, 1) := by decide +kernel
theorem dX7_put_220 : decode cX7_put 220 = .ok (.iaload, 1) := by decide +kernel
theorem dX7_put_221 : decode cX7_put 221 = .ok (.dup_x2, 1) := by decide +kernel
theorem dX7_put_222 : decode cX7_put 222 = .ok (.iconst 1, 1) := by decide +kernel
theorem dX7_put_223 : decode cX7_put 223 = .ok (.iadd, 1) := by decide +kernel
theorem dX7_put_224 : decode cX7_put 224 = .ok (.iastore, 1) := by decide +kernel
theorem dX7_put_225 : decode cX7_put 225 = .ok (.iadd, 1) := by decide +kernel
theorem dX7_put_226 : decode cX7_put 226 = .ok (.iload 6, 2) := by decide +kernel
theorem dX7_put_228 : decode cX7_put 228 = .ok (.iastore, 1) := by decide +kernel
theorem dX7_put_229 : decode cX7_put 229 = .ok (.iinc 6 1, 3) := by decide +kernel
theorem dX7_put_232 : decode cX7_put 232 = .ok (.goto (-95), 3) := by decide +kernel
theorem dX7_put_235 : decode cX7_put 235 = .ok (.iconst 1, 1) := by decide +kernel
theorem dX7_put_236 : decode cX7_put 236 = .ok (.istore 6, 2) := by decide +kernel
theorem dX7_put_238 : decode cX7_put 238 = .ok (.iload 6, 2) := by decide +kernel
theorem dX7_put_240 : decode cX7_put 240 = .ok (.aload_n 0, 1) := by decide +kernel
theorem dX7_put_241 : decode cX7_put 241 = .ok (.getfield 119, 3) := by decide +kernel
theorem dX7_put_244 : decode cX7_put 244 = .ok (.if_icmp .ge 45, 3) := by decide +kernel
theorem dX7_put_247 : decode cX7_put 247 = .ok (.iload_n 2, 1) := by decide +kernel
theorem dX7_put_248 : decode cX7_put 248 = .ok (.iconst 3, 1) := by decide +kernel
theorem dX7_put_249 : decode cX7_put 249 = .ok (.if_icmp .ne 40, 3) := by decide +kernel
theorem dX7_put_252 : decode cX7_put 252 = .ok (.aload_n 0, 1) := by decide +kernel
theorem dX7_put_253 : decode cX7_put 253 = .ok (.getfield 81, 3) := by decide +kernel
theorem dX7_put_256 : decode cX7_put 256 = .ok (.iload 5, 2) := by decide +kernel
theorem dX7_put_258 : decode cX7_put 258 = .ok (.aload_n 0, 1) := by decide +kernel
theorem dX7_put_259 : decode cX7_put 259 = .ok (.getfield 75, 3) := by decide +kernel
theorem dX7_put_262 : decode cX7_put 262 = .ok (.iload_n 1, 1) := by decide +kernel
theorem dX7_put_263 : decode cX7_put 263 = .ok (.dup2, 1) := by decide +kernel
theorem dX7_put_264 : decode cX7_put 264 = .ok (.iaload, 1) := by decide +kernel
theorem dX7_put_265 : decode cX7_put 265 = .ok (.dup_x2, 1) := by decide +kernel
theorem dX7_put_266 : decode cX7_put 266 = .ok (.iconst 1, 1) := by decide +kernel
theorem dX7_put_267 : decode cX7_put 267 = .ok (.iadd, 1) := by decide +kernel
theorem dX7_put_268 : decode cX7_put 268 = .ok (.iastore, 1) := by decide +kernel
theorem dX7_put_269 : decode cX7_put 269 = .ok (.iadd, 1) := by decide +kernel
theorem dX7_put_270 : decode cX7_put 270 = .ok (.aload_n 0, 1) := by decide +kernel
theorem dX7_put_271 : decode cX7_put 271 = .ok (.getfield 29, 3) := by decide +kernel
theorem dX7_put_274 : decode cX7_put 274 = .ok (.aload_n 0, 1) := by decide +kernel
theorem dX7_put_275 : decode cX7_put 275 = .ok (.getfield 69, 3) := by decide +kernel
theorem dX7_put_278 : decode cX7_put 278 = .ok (.iload 6, 2) := by decide +kernel
theorem dX7_put_280 : decode cX7_put 280 = .ok (.iaload, 1) := by decide +kernel
theorem dX7_put_281 : decode cX7_put 281 = .ok (.laload, 1) := by decide +kernel
theorem dX7_put_282 : decode cX7_put 282 = .ok (.lastore, 1) := by decide +kernel
theorem dX7_put_283 : decode cX7_put 283 = .ok (.iinc 6 1, 3) := by decide +kernel
theorem dX7_put_286 : decode cX7_put 286 = .ok (.goto (-48), 3) := by decide +kernel
theorem dX7_put_289 : decode cX7_put 289 = .ok (.aload_n 0, 1) := by decide +kernel
theorem dX7_put_290 : decode cX7_put 290 = .ok (.iconst 1, 1) := by decide +kernel
theorem dX7_put_291 : decode cX7_put 291 = .ok (.invokevirtual 181, 3) := by decide +kernel
theorem dX7_put_294 : decode cX7_put 294 = .ok (.ireturn, 1) := by decide +kernel
theorem dX7_forge_0 : decode cX7_forge 0 = .ok (.iload_n 1, 1) := by decide +kernel
theorem dX7_forge_1 : decode cX7_forge 1 = .ok (.ifCond .lt 30, 3) := by decide +kernel
theorem dX7_forge_4 : decode cX7_forge 4 = .ok (.iload_n 1, 1) := by decide +kernel
theorem dX7_forge_5 : decode cX7_forge 5 = .ok (.iconst 5, 1) := by decide +kernel
theorem dX7_forge_6 : decode cX7_forge 6 = .ok (.if_icmp .gt 25, 3) := by decide +kernel
theorem dX7_forge_9 : decode cX7_forge 9 = .ok (.iload_n 2, 1) := by decide +kernel
theorem dX7_forge_10 : decode cX7_forge 10 = .ok (.ifCond .lt 21, 3) := by decide +kernel
theorem dX7_forge_13 : decode cX7_forge 13 = .ok (.iload_n 2, 1) := by decide +kernel
theorem dX7_forge_14 : decode cX7_forge 14 = .ok (.bipush 8, 2) := by decide +kernel
theorem dX7_forge_16 : decode cX7_forge 16 = .ok (.if_icmp .gt 15, 3) := by decide +kernel
theorem dX7_forge_19 : decode cX7_forge 19 = .ok (.iload_n 3, 1) := by decide +kernel
theorem dX7_forge_20 : decode cX7_forge 20 = .ok (.bipush (-100), 2) := by decide +kernel
theorem dX7_forge_22 : decode cX7_forge 22 = .ok (.if_icmp .lt 9, 3) := by decide +kernel
theorem dX7_forge_25 : decode cX7_forge 25 = .ok (.iload_n 3, 1) := by decide +kernel
theorem dX7_forge_26 : decode cX7_forge 26 = .ok (.bipush 100, 2) := by decide +kernel
theorem dX7_forge_28 : decode cX7_forge 28 = .ok (.if_icmp .le 9, 3) := by decide +kernel
theorem dX7_forge_31 : decode cX7_forge 31 = .ok (.aload_n 0, 1) := by decide +kernel
theorem dX7_forge_32 : decode cX7_forge 32 = .ok (.iconst 1, 1) := by decide +kernel
theorem dX7_forge_33 : decode cX7_forge 33 = .ok (.invokevirtual 178, 3) := by decide +kernel
theorem dX7_forge_36 : decode cX7_forge 36 = .ok (.ireturn, 1) := by decide +kernel
theorem dX7_forge_37 : decode cX7_forge 37 = .ok (.aload_n 0, 1) := by decide +kernel
theorem dX7_forge_38 : decode cX7_forge 38 = .ok (.getfield 72, 3) := by decide +kernel
theorem dX7_forge_41 : decode cX7_forge 41 = .ok (.iload_n 1, 1) := by decide +kernel
theorem dX7_forge_42 : decode cX7_forge 42 = .ok (.iaload, 1) := by decide +kernel
theorem dX7_forge_43 : decode cX7_forge 43 = .ok (.istore 4, 2) := by decide +kernel
theorem dX7_forge_45 : decode cX7_forge 45 = .ok (.bipush 100, 2) := by decide +kernel
theorem dX7_forge_47 : decode cX7_forge 47 = .ok (.iload_n 1, 1) := by decide +kernel
theorem dX7_forge_48 : decode cX7_forge 48 = .ok (.imul, 1) := by decide +kernel
theorem dX7_forge_49 : decode cX7_forge 49 = .ok (.istore 5, 2) := by decide +kernel
theorem dX7_forge_51 : decode cX7_forge 51 = .ok (.iload_n 2, 1) := by decide +kernel
theorem dX7_forge_52 : decode cX7_forge 52 = .ok (.iconst 3, 1) := by decide +kernel
theorem dX7_forge_53 : decode cX7_forge 53 = .ok (.if_icmp .le 8, 3) := by decide +kernel
theorem dX7_forge_56 : decode cX7_forge 56 = .ok (.iload_n 2, 1) := by decide +kernel
theorem dX7_forge_57 : decode cX7_forge 57 = .ok (.iconst 5, 1) := by decide +kernel
theorem dX7_forge_58 : decode cX7_forge 58 = .ok (.if_icmp .ne 39, 3) := by decide +kernel
theorem dX7_forge_61 : decode cX7_forge 61 = .ok (.iload 4, 2) := by decide +kernel
theorem dX7_forge_63 : decode cX7_forge 63 = .ok (.ifCond .ne 10, 3) := by decide +kernel
theorem dX7_forge_66 : decode cX7_forge 66 = .ok (.aload_n 0, 1) := by decide +kernel
theorem dX7_forge_67 : decode cX7_forge 67 = .ok (.bipush 10, 2) := by decide +kernel
theorem dX7_forge_69 : decode cX7_forge 69 = .ok (.invokevirtual 178, 3) := by decide +kernel
theorem dX7_forge_72 : decode cX7_forge 72 = .ok (.ireturn, 1) := by decide +kernel
theorem dX7_forge_73 : decode cX7_forge 73 = .ok (.iload 4, 2) := by decide +kernel
theorem dX7_forge_75 : decode cX7_forge 75 = .ok (.iload_n 2, 1) := by decide +kernel
theorem dX7_forge_76 : decode cX7_forge 76 = .ok (.iconst 5, 1) := by decide +kernel
theorem dX7_forge_77 : decode cX7_forge 77 = .ok (.if_icmp .ne 7, 3) := by decide +kernel
theorem dX7_forge_80 : decode cX7_forge 80 = .ok (.iconst 2, 1) := by decide +kernel
theorem dX7_forge_81 : decode cX7_forge 81 = .ok (.goto 6, 3) := by decide +kernel
theorem dX7_forge_84 : decode cX7_forge 84 = .ok (.iload_n 2, 1) := by decide +kernel
theorem dX7_forge_85 : decode cX7_forge 85 = .ok (.iconst 1, 1) := by decide +kernel
theorem dX7_forge_86 : decode cX7_forge 86 = .ok (.iadd, 1) := by decide +kernel
theorem dX7_forge_87 : decode cX7_forge 87 = .ok (.if_icmp .eq 10, 3) := by decide +kernel
theorem dX7_forge_90 : decode cX7_forge 90 = .ok (.aload_n 0, 1) := by decide +kernel
theorem dX7_forge_91 : decode cX7_forge 91 = .ok (.bipush 11, 2) := by decide +kernel
theorem dX7_forge_93 : decode cX7_forge 93 = .ok (.invokevirtual 178, 3) := by decide +kernel
theorem dX7_forge_96 : decode cX7_forge 96 = .ok (.ireturn, 1) := by decide +kernel
theorem dX7_forge_97 : decode cX7_forge 97 = .ok (.iload_n 2, 1) := by decide +kernel
theorem dX7_forge_98 : decode cX7_forge 98 = .ok (.tableswitch 294 0 7 #[46, 58, 95, 58, 144, 163, 232, 271], 46) := by decide +kernel
theorem dX7_forge_144 : decode cX7_forge 144 = .ok (.aload_n 0, 1) := by decide +kernel
theorem dX7_forge_145 : decode cX7_forge 145 = .ok (.aload_n 0, 1) := by decide +kernel
theorem dX7_forge_146 : decode cX7_forge 146 = .ok (.getfield 78, 3) := by decide +kernel
theorem dX7_forge_149 : decode cX7_forge 149 = .ok (.iload 5, 2) := by decide +kernel
theorem dX7_forge_151 : decode cX7_forge 151 = .ok (.iaload, 1) := by decide +kernel
theorem dX7_forge_152 : decode cX7_forge 152 = .ok (.invokevirtual 181, 3) := by decide +kernel
theorem dX7_forge_155 : decode cX7_forge 155 = .ok (.ireturn, 1) := by decide +kernel
theorem dX7_forge_156 : decode cX7_forge 156 = .ok (.iload_n 3, 1) := by decide +kernel
theorem dX7_forge_157 : decode cX7_forge 157 = .ok (.ifCond .lt 13, 3) := by decide +kernel
theorem dX7_forge_160 : decode cX7_forge 160 = .ok (.iload_n 3, 1) := by decide +kernel
theorem dX7_forge_161 : decode cX7_forge 161 = .ok (.aload_n 0, 1) := by decide +kernel
theorem dX7_forge_162 : decode cX7_forge 162 = .ok (.getfield 75, 3) := by decide +kernel
theorem dX7_forge_165 : decode cX7_forge 165 = .ok (.iload_n 1, 1) := by decide +kernel
theorem dX7_forge_166 : decode cX7_forge 166 = .ok (.iaload, 1) := by decide +kernel
theorem dX7_forge_167 : decode cX7_forge 167 = .ok (.if_icmp .lt 12, 3) := by decide +kernel
theorem dX7_forge_170 : decode cX7_forge 170 = .ok (.aload_n 0, 1) := by decide +kernel
theorem dX7_forge_171 : decode cX7_forge 171 = .ok (.bipush 12, 2) := by decide +kernel
theorem dX7_forge_173 : decode cX7_forge 173 = .ok (.invokevirtual 178, 3) := by decide +kernel
theorem dX7_forge_176 : decode cX7_forge 176 = .ok (.goto 16, 3) := by decide +kernel
theorem dX7_forge_179 : decode cX7_forge 179 = .ok (.aload_n 0, 1) := by decide +kernel
theorem dX7_forge_180 : decode cX7_forge 180 = .ok (.aload_n 0, 1) := by decide +kernel
theorem dX7_forge_181 : decode cX7_forge 181 = .ok (.getfield 78, 3) := by decide +kernel
theorem dX7_forge_184 : decode cX7_forge 184 = .ok (.iload 5, 2) := by decide +kernel
theorem dX7_forge_186 : decode cX7_forge 186 = .ok (.iload_n 3, 1) := by decide +kernel
theorem dX7_forge_187 : decode cX7_forge 187 = .ok (.iadd, 1) := by decide +kernel
theorem dX7_forge_188 : decode cX7_forge 188 = .ok (.iaload, 1) := by decide +kernel
theorem dX7_forge_189 : decode cX7_forge 189 = .ok (.invokevirtual 181, 3) := by decide +kernel
theorem dX7_forge_192 : decode cX7_forge 192 = .ok (.ireturn, 1) := by decide +kernel
theorem dX7_forge_193 : decode cX7_forge 193 = .ok (.iconst 0, 1) := by decide +kernel
theorem dX7_forge_194 : decode cX7_forge 194 = .ok (.istore 6, 2) := by decide +kernel
theorem dX7_forge_196 : decode cX7_forge 196 = .ok (.iconst 0, 1) := by decide +kernel
theorem dX7_forge_197 : decode cX7_forge 197 = .ok (.istore 7, 2) := by decide +kernel
theorem dX7_forge_199 : decode cX7_forge 199 = .ok (.iload 7, 2) := by decide +kernel
theorem dX7_forge_201 : decode cX7_forge 201 = .ok (.aload_n 0, 1) := by decide +kernel
theorem dX7_forge_202 : decode cX7_forge 202 = .ok (.getfield 75, 3) := by decide +kernel
theorem dX7_forge_205 : decode cX7_forge 205 = .ok (.iload_n 1, 1) := by decide +kernel
theorem dX7_forge_206 : decode cX7_forge 206 = .ok (.iaload, 1) := by decide +kernel
theorem dX7_forge_207 : decode cX7_forge 207 = .ok (.if_icmp .ge 28, 3) := by decide +kernel
theorem dX7_forge_210 : decode cX7_forge 210 = .ok (.aload_n 0, 1) := by decide +kernel
theorem dX7_forge_211 : decode cX7_forge 211 = .ok (.getfield 81, 3) := by decide +kernel
theorem dX7_forge_214 : decode cX7_forge 214 = .ok (.iload 5, 2) := by decide +kernel
theorem dX7_forge_216 : decode cX7_forge 216 = .ok (.iload 7, 2) := by decide +kernel
theorem dX7_forge_218 : decode cX7_forge 218 = .ok (.iadd, 1) := by decide +kernel
theorem dX7_forge_219 : decode cX7_forge 219 = .ok (.laload, 1) := by decide +kernel
theorem dX7_forge_220 : decode cX7_forge 220 = .ok (.iload_n 3, 1) := by decide +kernel
theorem dX7_forge_221 : decode cX7_forge 221 = .ok (.i2l, 1) := by decide +kernel
theorem dX7_forge_222 : decode cX7_forge 222 = .ok (.lcmp, 1) := by decide +kernel
theorem dX7_forge_223 : decode cX7_forge 223 = .ok (.ifCond .ne 6, 3) := by decide +kernel
theorem dX7_forge_226 : decode cX7_forge 226 = .ok (.iinc 6 1, 3) := by decide +kernel
theorem dX7_forge_229 : decode cX7_forge 229 = .ok (.iinc 7 1, 3) := by decide +kernel
theorem dX7_forge_232 : decode cX7_forge 232 = .ok (.goto (-33), 3) := by decide +kernel
theorem dX7_forge_235 : decode cX7_forge 235 = .ok (.aload_n 0, 1) := by decide +kernel
theorem dX7_forge_236 : decode cX7_forge 236 = .ok (.iload 6, 2) := by decide +kernel
theorem dX7_forge_238 : decode cX7_forge 238 = .ok (.invokevirtual 181, 3) := by decide +kernel
theorem dX7_forge_241 : decode cX7_forge 241 = .ok (.ireturn, 1) := by decide +kernel
theorem dX7_forge_242 : decode cX7_forge 242 = .ok (.iload_n 3, 1) := by decide +kernel
theorem dX7_forge_243 : decode cX7_forge 243 = .ok (.ifCond .ge 12, 3) := by decide +kernel
theorem dX7_forge_246 : decode cX7_forge 246 = .ok (.aload_n 0, 1) := by decide +kernel
theorem dX7_forge_247 : decode cX7_forge 247 = .ok (.bipush 13, 2) := by decide +kernel
theorem dX7_forge_249 : decode cX7_forge 249 = .ok (.invokevirtual 178, 3) := by decide +kernel
theorem dX7_forge_252 : decode cX7_forge 252 = .ok (.goto 8, 3) := by decide +kernel
theorem dX7_forge_255 : decode cX7_forge 255 = .ok (.aload_n 0, 1) := by decide +kernel
theorem dX7_forge_256 : decode cX7_forge 256 = .ok (.iload_n 3, 1) := by decide +kernel
theorem dX7_forge_257 : decode cX7_forge 257 = .ok (.invokevirtual 181, 3) := by decide +kernel
theorem dX7_forge_260 : decode cX7_forge 260 = .ok (.ireturn, 1) := by decide +kernel
theorem dX7_forge_261 : decode cX7_forge 261 = .ok (.iload_n 3, 1) := by decide +kernel
theorem dX7_forge_262 : decode cX7_forge 262 = .ok (.ifCond .lt 21, 3) := by decide +kernel
theorem dX7_forge_265 : decode cX7_forge 265 = .ok (.iload_n 3, 1) := by decide +kernel
theorem dX7_forge_266 : decode cX7_forge 266 = .ok (.aload_n 0, 1) := by decide +kernel
theorem dX7_forge_267 : decode cX7_forge 267 = .ok (.getfield 75, 3) := by decide +kernel
theorem dX7_forge_270 : decode cX7_forge 270 = .ok (.iload_n 1, 1) := by decide +kernel
theorem dX7_forge_271 : decode cX7_forge 271 = .ok (.iaload, 1) := by decide +kernel
theorem dX7_forge_272 : decode cX7_forge 272 = .ok (.if_icmp .gt 11, 3) := by decide +kernel
theorem dX7_forge_275 : decode cX7_forge 275 = .ok (.iload_n 3, 1) := by decide +kernel
theorem dX7_forge_276 : decode cX7_forge 276 = .ok (.iload_n 3, 1) := by decide +kernel
theorem dX7_forge_277 : decode cX7_forge 277 = .ok (.iadd, 1) := by decide +kernel
theorem dX7_forge_278 : decode cX7_forge 278 = .ok (.bipush 8, 2) := by decide +kernel
theorem dX7_forge_280 : decode cX7_forge 280 = .ok (.if_icmp .le 10, 3) := by decide +kernel
theorem dX7_forge_283 : decode cX7_forge 283 = .ok (.aload_n 0, 1) := by decide +kernel
theorem dX7_forge_284 : decode cX7_forge 284 = .ok (.bipush 12, 2) := by decide +kernel
theorem dX7_forge_286 : decode cX7_forge 286 = .ok (.invokevirtual 178, 3) := by decide +kernel
theorem dX7_forge_289 : decode cX7_forge 289 = .ok (.ireturn, 1) := by decide +kernel
theorem dX7_forge_290 : decode cX7_forge 290 = .ok (.iconst 0, 1) := by decide +kernel
theorem dX7_forge_291 : decode cX7_forge 291 = .ok (.istore 6, 2) := by decide +kernel
theorem dX7_forge_293 : decode cX7_forge 293 = .ok (.iconst 0, 1) := by decide +kernel
theorem dX7_forge_294 : decode cX7_forge 294 = .ok (.istore 7, 2) := by decide +kernel
theorem dX7_forge_296 : decode cX7_forge 296 = .ok (.iload 7, 2) := by decide +kernel
theorem dX7_forge_298 : decode cX7_forge 298 = .ok (.iload_n 3, 1) := by decide +kernel
theorem dX7_forge_299 : decode cX7_forge 299 = .ok (.if_icmp .ge 24, 3) := by decide +kernel
theorem dX7_forge_302 : decode cX7_forge 302 = .ok (.iload 6, 2) := by decide +kernel
theorem dX7_forge_304 : decode cX7_forge 304 = .ok (.aload_n 0, 1) := by decide +kernel
theorem dX7_forge_305 : decode cX7_forge 305 = .ok (.getfield 78, 3) := by decide +kernel
theorem dX7_forge_308 : decode cX7_forge 308 = .ok (.iload 5, 2) := by decide +kernel
theorem dX7_forge_310 : decode cX7_forge 310 = .ok (.iload 7, 2) := by decide +kernel
theorem dX7_forge_312 : decode cX7_forge 312 = .ok (.iadd, 1) := by decide +kernel
theorem dX7_forge_313 : decode cX7_forge 313 = .ok (.iaload, 1) := by decide +kernel
theorem dX7_forge_314 : decode cX7_forge 314 = .ok (.iadd, 1) := by decide +kernel
theorem dX7_forge_315 : decode cX7_forge 315 = .ok (.istore 6, 2) := by decide +kernel
theorem dX7_forge_317 : decode cX7_forge 317 = .ok (.iinc 7 1, 3) := by decide +kernel
theorem dX7_forge_320 : decode cX7_forge 320 = .ok (.goto (-24), 3) := by decide +kernel
theorem dX7_forge_323 : decode cX7_forge 323 = .ok (.aload_n 0, 1) := by decide +kernel
theorem dX7_forge_324 : decode cX7_forge 324 = .ok (.iload 6, 2) := by decide +kernel
theorem dX7_forge_326 : decode cX7_forge 326 = .ok (.invokevirtual 181, 3) := by decide +kernel
theorem dX7_forge_329 : decode cX7_forge 329 = .ok (.ireturn, 1) := by decide +kernel
theorem dX7_forge_330 : decode cX7_forge 330 = .ok (.iload 4, 2) := by decide +kernel
theorem dX7_forge_332 : decode cX7_forge 332 = .ok (.ifCond .ne 11, 3) := by decide +kernel
theorem dX7_forge_335 : decode cX7_forge 335 = .ok (.aload_n 0, 1) := by decide +kernel
theorem dX7_forge_336 : decode cX7_forge 336 = .ok (.iconst 0, 1) := by decide +kernel
theorem dX7_forge_337 : decode cX7_forge 337 = .ok (.invokevirtual 181, 3) := by decide +kernel
theorem dX7_forge_340 : decode cX7_forge 340 = .ok (.goto 28, 3) := by decide +kernel
theorem dX7_forge_343 : decode cX7_forge 343 = .ok (.iload 4, 2) := by decide +kernel
theorem dX7_forge_345 : decode cX7_forge 345 = .ok (.iconst 3, 1) := by decide +kernel
theorem dX7_forge_346 : decode cX7_forge 346 = .ok (.if_icmp .ne 16, 3) := by decide +kernel
theorem dX7_forge_349 : decode cX7_forge 349 = .ok (.aload_n 0, 1) := by decide +kernel
theorem dX7_forge_350 : decode cX7_forge 350 = .ok (.aload_n 0, 1) := by decide +kernel
theorem dX7_forge_351 : decode cX7_forge 351 = .ok (.getfield 75, 3) := by decide +kernel
theorem dX7_forge_354 : decode cX7_forge 354 = .ok (.iload_n 1, 1) := by decide +kernel
theorem dX7_forge_355 : decode cX7_forge 355 = .ok (.iaload, 1) := by decide +kernel
theorem dX7_forge_356 : decode cX7_forge 356 = .ok (.invokevirtual 181, 3) := by decide +kernel
