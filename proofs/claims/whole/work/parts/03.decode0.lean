theorem dX0_init_0 : decode cX0_init 0 = .ok (.aload_n 0, 1) := by decide +kernel
theorem dX0_init_1 : decode cX0_init 1 = .ok (.invokespecial 3, 3) := by decide +kernel
theorem dX0_init_4 : decode cX0_init 4 = .ok (.aload_n 0, 1) := by decide +kernel
theorem dX0_init_5 : decode cX0_init 5 = .ok (.sipush 300, 3) := by decide +kernel
theorem dX0_init_8 : decode cX0_init 8 = .ok (.newarray .int, 2) := by decide +kernel
theorem dX0_init_10 : decode cX0_init 10 = .ok (.putfield 9, 3) := by decide +kernel
theorem dX0_init_13 : decode cX0_init 13 = .ok (.aload_n 0, 1) := by decide +kernel
theorem dX0_init_14 : decode cX0_init 14 = .ok (.sipush 300, 3) := by decide +kernel
theorem dX0_init_17 : decode cX0_init 17 = .ok (.newarray .int, 2) := by decide +kernel
theorem dX0_init_19 : decode cX0_init 19 = .ok (.putfield 15, 3) := by decide +kernel
theorem dX0_init_22 : decode cX0_init 22 = .ok (.aload_n 0, 1) := by decide +kernel
theorem dX0_init_23 : decode cX0_init 23 = .ok (.sipush 300, 3) := by decide +kernel
theorem dX0_init_26 : decode cX0_init 26 = .ok (.newarray .long, 2) := by decide +kernel
theorem dX0_init_28 : decode cX0_init 28 = .ok (.putfield 18, 3) := by decide +kernel
theorem dX0_init_31 : decode cX0_init 31 = .ok (.aload_n 0, 1) := by decide +kernel
theorem dX0_init_32 : decode cX0_init 32 = .ok (.sipush 300, 3) := by decide +kernel
theorem dX0_init_35 : decode cX0_init 35 = .ok (.newarray .int, 2) := by decide +kernel
theorem dX0_init_37 : decode cX0_init 37 = .ok (.putfield 22, 3) := by decide +kernel
theorem dX0_init_40 : decode cX0_init 40 = .ok (.aload_n 0, 1) := by decide +kernel
theorem dX0_init_41 : decode cX0_init 41 = .ok (.sipush 300, 3) := by decide +kernel
theorem dX0_init_44 : decode cX0_init 44 = .ok (.newarray .int, 2) := by decide +kernel
theorem dX0_init_46 : decode cX0_init 46 = .ok (.putfield 25, 3) := by decide +kernel
theorem dX0_init_49 : decode cX0_init 49 = .ok (.aload_n 0, 1) := by decide +kernel
theorem dX0_init_50 : decode cX0_init 50 = .ok (.bipush 100, 2) := by decide +kernel
theorem dX0_init_52 : decode cX0_init 52 = .ok (.newarray .int, 2) := by decide +kernel
theorem dX0_init_54 : decode cX0_init 54 = .ok (.putfield 28, 3) := by decide +kernel
theorem dX0_init_57 : decode cX0_init 57 = .ok (.aload_n 0, 1) := by decide +kernel
theorem dX0_init_58 : decode cX0_init 58 = .ok (.sipush 600, 3) := by decide +kernel
theorem dX0_init_61 : decode cX0_init 61 = .ok (.newarray .int, 2) := by decide +kernel
theorem dX0_init_63 : decode cX0_init 63 = .ok (.putfield 31, 3) := by decide +kernel
theorem dX0_init_66 : decode cX0_init 66 = .ok (.aload_n 0, 1) := by decide +kernel
theorem dX0_init_67 : decode cX0_init 67 = .ok (.sipush 1500, 3) := by decide +kernel
theorem dX0_init_70 : decode cX0_init 70 = .ok (.newarray .int, 2) := by decide +kernel
theorem dX0_init_72 : decode cX0_init 72 = .ok (.putfield 34, 3) := by decide +kernel
theorem dX0_init_75 : decode cX0_init 75 = .ok (.aload_n 0, 1) := by decide +kernel
theorem dX0_init_76 : decode cX0_init 76 = .ok (.getfield 28, 3) := by decide +kernel
theorem dX0_init_79 : decode cX0_init 79 = .ok (.iconst (-1), 1) := by decide +kernel
theorem dX0_init_80 : decode cX0_init 80 = .ok (.invokestatic 37, 3) := by decide +kernel
theorem dX0_init_83 : decode cX0_init 83 = .ok (.return_, 1) := by decide +kernel
theorem dX0_hasCome_0 : decode cX0_hasCome 0 = .ok (.iload_n 1, 1) := by decide +kernel
theorem dX0_hasCome_1 : decode cX0_hasCome 1 = .ok (.ifCond .lt 15, 3) := by decide +kernel
theorem dX0_hasCome_4 : decode cX0_hasCome 4 = .ok (.iload_n 1, 1) := by decide +kernel
theorem dX0_hasCome_5 : decode cX0_hasCome 5 = .ok (.aload_n 0, 1) := by decide +kernel
theorem dX0_hasCome_6 : decode cX0_hasCome 6 = .ok (.getfield 43, 3) := by decide +kernel
theorem dX0_hasCome_9 : decode cX0_hasCome 9 = .ok (.if_icmp .ge 7, 3) := by decide +kernel
theorem dX0_hasCome_12 : decode cX0_hasCome 12 = .ok (.iconst 1, 1) := by decide +kernel
theorem dX0_hasCome_13 : decode cX0_hasCome 13 = .ok (.goto 4, 3) := by decide +kernel
theorem dX0_hasCome_16 : decode cX0_hasCome 16 = .ok (.iconst 0, 1) := by decide +kernel
theorem dX0_hasCome_17 : decode cX0_hasCome 17 = .ok (.ireturn, 1) := by decide +kernel
theorem dX0_isThere_0 : decode cX0_isThere 0 = .ok (.aload_n 0, 1) := by decide +kernel
theorem dX0_isThere_1 : decode cX0_isThere 1 = .ok (.iload_n 1, 1) := by decide +kernel
theorem dX0_isThere_2 : decode cX0_isThere 2 = .ok (.invokevirtual 47, 3) := by decide +kernel
theorem dX0_isThere_5 : decode cX0_isThere 5 = .ok (.ifCond .eq 16, 3) := by decide +kernel
theorem dX0_isThere_8 : decode cX0_isThere 8 = .ok (.aload_n 0, 1) := by decide +kernel
theorem dX0_isThere_9 : decode cX0_isThere 9 = .ok (.getfield 22, 3) := by decide +kernel
theorem dX0_isThere_12 : decode cX0_isThere 12 = .ok (.iload_n 1, 1) := by decide +kernel
theorem dX0_isThere_13 : decode cX0_isThere 13 = .ok (.iaload, 1) := by decide +kernel
theorem dX0_isThere_14 : decode cX0_isThere 14 = .ok (.ifCond .eq 7, 3) := by decide +kernel
theorem dX0_isThere_17 : decode cX0_isThere 17 = .ok (.iconst 1, 1) := by decide +kernel
theorem dX0_isThere_18 : decode cX0_isThere 18 = .ok (.goto 4, 3) := by decide +kernel
theorem dX0_isThere_21 : decode cX0_isThere 21 = .ok (.iconst 0, 1) := by decide +kernel
theorem dX0_isThere_22 : decode cX0_isThere 22 = .ok (.ireturn, 1) := by decide +kernel
theorem dX0_isAt_0 : decode cX0_isAt 0 = .ok (.aload_n 0, 1) := by decide +kernel
theorem dX0_isAt_1 : decode cX0_isAt 1 = .ok (.getfield 22, 3) := by decide +kernel
theorem dX0_isAt_4 : decode cX0_isAt 4 = .ok (.iload_n 1, 1) := by decide +kernel
theorem dX0_isAt_5 : decode cX0_isAt 5 = .ok (.iaload, 1) := by decide +kernel
theorem dX0_isAt_6 : decode cX0_isAt 6 = .ok (.iload_n 2, 1) := by decide +kernel
theorem dX0_isAt_7 : decode cX0_isAt 7 = .ok (.if_icmp .ne 17, 3) := by decide +kernel
theorem dX0_isAt_10 : decode cX0_isAt 10 = .ok (.aload_n 0, 1) := by decide +kernel
theorem dX0_isAt_11 : decode cX0_isAt 11 = .ok (.getfield 25, 3) := by decide +kernel
theorem dX0_isAt_14 : decode cX0_isAt 14 = .ok (.iload_n 1, 1) := by decide +kernel
theorem dX0_isAt_15 : decode cX0_isAt 15 = .ok (.iaload, 1) := by decide +kernel
theorem dX0_isAt_16 : decode cX0_isAt 16 = .ok (.iload_n 3, 1) := by decide +kernel
theorem dX0_isAt_17 : decode cX0_isAt 17 = .ok (.if_icmp .ne 7, 3) := by decide +kernel
theorem dX0_isAt_20 : decode cX0_isAt 20 = .ok (.iconst 1, 1) := by decide +kernel
theorem dX0_isAt_21 : decode cX0_isAt 21 = .ok (.goto 4, 3) := by decide +kernel
theorem dX0_isAt_24 : decode cX0_isAt 24 = .ok (.iconst 0, 1) := by decide +kernel
theorem dX0_isAt_25 : decode cX0_isAt 25 = .ok (.ireturn, 1) := by decide +kernel
theorem dX0_isHeavier_0 : decode cX0_isHeavier 0 = .ok (.aload_n 0, 1) := by decide +kernel
theorem dX0_isHeavier_1 : decode cX0_isHeavier 1 = .ok (.getfield 18, 3) := by decide +kernel
theorem dX0_isHeavier_4 : decode cX0_isHeavier 4 = .ok (.iload_n 1, 1) := by decide +kernel
theorem dX0_isHeavier_5 : decode cX0_isHeavier 5 = .ok (.laload, 1) := by decide +kernel
theorem dX0_isHeavier_6 : decode cX0_isHeavier 6 = .ok (.aload_n 0, 1) := by decide +kernel
theorem dX0_isHeavier_7 : decode cX0_isHeavier 7 = .ok (.getfield 18, 3) := by decide +kernel
theorem dX0_isHeavier_10 : decode cX0_isHeavier 10 = .ok (.iload_n 2, 1) := by decide +kernel
theorem dX0_isHeavier_11 : decode cX0_isHeavier 11 = .ok (.laload, 1) := by decide +kernel
theorem dX0_isHeavier_12 : decode cX0_isHeavier 12 = .ok (.lcmp, 1) := by decide +kernel
theorem dX0_isHeavier_13 : decode cX0_isHeavier 13 = .ok (.ifCond .eq 27, 3) := by decide +kernel
theorem dX0_isHeavier_16 : decode cX0_isHeavier 16 = .ok (.aload_n 0, 1) := by decide +kernel
theorem dX0_isHeavier_17 : decode cX0_isHeavier 17 = .ok (.getfield 18, 3) := by decide +kernel
theorem dX0_isHeavier_20 : decode cX0_isHeavier 20 = .ok (.iload_n 1, 1) := by decide +kernel
theorem dX0_isHeavier_21 : decode cX0_isHeavier 21 = .ok (.laload, 1) := by decide +kernel
theorem dX0_isHeavier_22 : decode cX0_isHeavier 22 = .ok (.aload_n 0, 1) := by decide +kernel
theorem dX0_isHeavier_23 : decode cX0_isHeavier 23 = .ok (.getfield 18, 3) := by decide +kernel
theorem dX0_isHeavier_26 : decode cX0_isHeavier 26 = .ok (.iload_n 2, 1) := by decide +kernel
theorem dX0_isHeavier_27 : decode cX0_isHeavier 27 = .ok (.laload, 1) := by decide +kernel
theorem dX0_isHeavier_28 : decode cX0_isHeavier 28 = .ok (.lcmp, 1) := by decide +kernel
theorem dX0_isHeavier_29 : decode cX0_isHeavier 29 = .ok (.ifCond .le 7, 3) := by decide +kernel
theorem dX0_isHeavier_32 : decode cX0_isHeavier 32 = .ok (.iconst 1, 1) := by decide +kernel
theorem dX0_isHeavier_33 : decode cX0_isHeavier 33 = .ok (.goto 17, 3) := by decide +kernel
theorem dX0_isHeavier_36 : decode cX0_isHeavier 36 = .ok (.iconst 0, 1) := by decide +kernel
theorem dX0_isHeavier_37 : decode cX0_isHeavier 37 = .ok (.goto 13, 3) := by decide +kernel
theorem dX0_isHeavier_40 : decode cX0_isHeavier 40 = .ok (.iload_n 1, 1) := by decide +kernel
theorem dX0_isHeavier_41 : decode cX0_isHeavier 41 = .ok (.iload_n 2, 1) := by decide +kernel
theorem dX0_isHeavier_42 : decode cX0_isHeavier 42 = .ok (.if_icmp .le 7, 3) := by decide +kernel
theorem dX0_isHeavier_45 : decode cX0_isHeavier 45 = .ok (.iconst 1, 1) := by decide +kernel
theorem dX0_isHeavier_46 : decode cX0_isHeavier 46 = .ok (.goto 4, 3) := by decide +kernel
theorem dX0_isHeavier_49 : decode cX0_isHeavier 49 = .ok (.iconst 0, 1) := by decide +kernel
theorem dX0_isHeavier_50 : decode cX0_isHeavier 50 = .ok (.ireturn, 1) := by decide +kernel
theorem dX0_across_0 : decode cX0_across 0 = .ok (.aload_n 0, 1) := by decide +kernel
theorem dX0_across_1 : decode cX0_across 1 = .ok (.getfield 9, 3) := by decide +kernel
theorem dX0_across_4 : decode cX0_across 4 = .ok (.iload_n 1, 1) := by decide +kernel
theorem dX0_across_5 : decode cX0_across 5 = .ok (.iaload, 1) := by decide +kernel
theorem dX0_across_6 : decode cX0_across 6 = .ok (.iload_n 2, 1) := by decide +kernel
theorem dX0_across_7 : decode cX0_across 7 = .ok (.if_icmp .ne 12, 3) := by decide +kernel
theorem dX0_across_10 : decode cX0_across 10 = .ok (.aload_n 0, 1) := by decide +kernel
theorem dX0_across_11 : decode cX0_across 11 = .ok (.getfield 15, 3) := by decide +kernel
theorem dX0_across_14 : decode cX0_across 14 = .ok (.iload_n 1, 1) := by decide +kernel
theorem dX0_across_15 : decode cX0_across 15 = .ok (.iaload, 1) := by decide +kernel
theorem dX0_across_16 : decode cX0_across 16 = .ok (.goto 9, 3) := by decide +kernel
theorem dX0_across_19 : decode cX0_across 19 = .ok (.aload_n 0, 1) := by decide +kernel
theorem dX0_across_20 : decode cX0_across 20 = .ok (.getfield 9, 3) := by decide +kernel
theorem dX0_across_23 : decode cX0_across 23 = .ok (.iload_n 1, 1) := by decide +kernel
theorem dX0_across_24 : decode cX0_across 24 = .ok (.iaload, 1) := by decide +kernel
theorem dX0_across_25 : decode cX0_across 25 = .ok (.ireturn, 1) := by decide +kernel
theorem dX0_howMany_0 : decode cX0_howMany 0 = .ok (.iconst 0, 1) := by decide +kernel
theorem dX0_howMany_1 : decode cX0_howMany 1 = .ok (.istore_n 2, 1) := by decide +kernel
theorem dX0_howMany_2 : decode cX0_howMany 2 = .ok (.iconst 0, 1) := by decide +kernel
theorem dX0_howMany_3 : decode cX0_howMany 3 = .ok (.istore_n 3, 1) := by decide +kernel
theorem dX0_howMany_4 : decode cX0_howMany 4 = .ok (.iload_n 3, 1) := by decide +kernel
theorem dX0_howMany_5 : decode cX0_howMany 5 = .ok (.aload_n 0, 1) := by decide +kernel
theorem dX0_howMany_6 : decode cX0_howMany 6 = .ok (.getfield 43, 3) := by decide +kernel
theorem dX0_howMany_9 : decode cX0_howMany 9 = .ok (.if_icmp .ge 22, 3) := by decide +kernel
theorem dX0_howMany_12 : decode cX0_howMany 12 = .ok (.aload_n 0, 1) := by decide +kernel
theorem dX0_howMany_13 : decode cX0_howMany 13 = .ok (.getfield 22, 3) := by decide +kernel
theorem dX0_howMany_16 : decode cX0_howMany 16 = .ok (.iload_n 3, 1) := by decide +kernel
theorem dX0_howMany_17 : decode cX0_howMany 17 = .ok (.iaload, 1) := by decide +kernel
theorem dX0_howMany_18 : decode cX0_howMany 18 = .ok (.iload_n 1, 1) := by decide +kernel
theorem dX0_howMany_19 : decode cX0_howMany 19 = .ok (.if_icmp .ne 6, 3) := by decide +kernel
theorem dX0_howMany_22 : decode cX0_howMany 22 = .ok (.iinc 2 1, 3) := by decide +kernel
theorem dX0_howMany_25 : decode cX0_howMany 25 = .ok (.iinc 3 1, 3) := by decide +kernel
theorem dX0_howMany_28 : decode cX0_howMany 28 = .ok (.goto (-24), 3) := by decide +kernel
theorem dX0_howMany_31 : decode cX0_howMany 31 = .ok (.iload_n 2, 1) := by decide +kernel
theorem dX0_howMany_32 : decode cX0_howMany 32 = .ok (.ireturn, 1) := by decide +kernel
theorem dX0_append_0 : decode cX0_append 0 = .ok (.aload_n 0, 1) := by decide +kernel
theorem dX0_append_1 : decode cX0_append 1 = .ok (.getfield 43, 3) := by decide +kernel
theorem dX0_append_4 : decode cX0_append 4 = .ok (.istore 6, 2) := by decide +kernel
theorem dX0_append_6 : decode cX0_append 6 = .ok (.aload_n 0, 1) := by decide +kernel
theorem dX0_append_7 : decode cX0_append 7 = .ok (.getfield 9, 3) := by decide +kernel
theorem dX0_append_10 : decode cX0_append 10 = .ok (.iload 6, 2) := by decide +kernel
theorem dX0_append_12 : decode cX0_append 12 = .ok (.iload_n 1, 1) := by decide +kernel
theorem dX0_append_13 : decode cX0_append 13 = .ok (.iastore, 1) := by decide +kernel
theorem dX0_append_14 : decode cX0_append 14 = .ok (.aload_n 0, 1) := by decide +kernel
theorem dX0_append_15 : decode cX0_append 15 = .ok (.getfield 15, 3) := by decide +kernel
theorem dX0_append_18 : decode cX0_append 18 = .ok (.iload 6, 2) := by decide +kernel
theorem dX0_append_20 : decode cX0_append 20 = .ok (.iload_n 2, 1) := by decide +kernel
theorem dX0_append_21 : decode cX0_append 21 = .ok (.iastore, 1) := by decide +kernel
theorem dX0_append_22 : decode cX0_append 22 = .ok (.aload_n 0, 1) := by decide +kernel
theorem dX0_append_23 : decode cX0_append 23 = .ok (.getfield 18, 3) := by decide +kernel
theorem dX0_append_26 : decode cX0_append 26 = .ok (.iload 6, 2) := by decide +kernel
theorem dX0_append_28 : decode cX0_append 28 = .ok (.lload_n 3, 1) := by decide +kernel
theorem dX0_append_29 : decode cX0_append 29 = .ok (.lastore, 1) := by decide +kernel
theorem dX0_append_30 : decode cX0_append 30 = .ok (.aload_n 0, 1) := by decide +kernel
theorem dX0_append_31 : decode cX0_append 31 = .ok (.getfield 22, 3) := by decide +kernel
theorem dX0_append_34 : decode cX0_append 34 = .ok (.iload 6, 2) := by decide +kernel
theorem dX0_append_36 : decode cX0_append 36 = .ok (.iload 5, 2) := by decide +kernel
theorem dX0_append_38 : decode cX0_append 38 = .ok (.iastore, 1) := by decide +kernel
theorem dX0_append_39 : decode cX0_append 39 = .ok (.aload_n 0, 1) := by decide +kernel
theorem dX0_append_40 : decode cX0_append 40 = .ok (.getfield 25, 3) := by decide +kernel
theorem dX0_append_43 : decode cX0_append 43 = .ok (.iload 6, 2) := by decide +kernel
theorem dX0_append_45 : decode cX0_append 45 = .ok (.iconst 0, 1) := by decide +kernel
theorem dX0_append_46 : decode cX0_append 46 = .ok (.iastore, 1) := by decide +kernel
theorem dX0_append_47 : decode cX0_append 47 = .ok (.aload_n 0, 1) := by decide +kernel
theorem dX0_append_48 : decode cX0_append 48 = .ok (.iconst 2, 1) := by decide +kernel
theorem dX0_append_49 : decode cX0_append 49 = .ok (.iload 6, 2) := by decide +kernel
theorem dX0_append_51 : decode cX0_append 51 = .ok (.imul, 1) := by decide +kernel
theorem dX0_append_52 : decode cX0_append 52 = .ok (.iload_n 1, 1) := by decide +kernel
theorem dX0_append_53 : decode cX0_append 53 = .ok (.invokevirtual 51, 3) := by decide +kernel
theorem dX0_append_56 : decode cX0_append 56 = .ok (.aload_n 0, 1) := by decide +kernel
theorem dX0_append_57 : decode cX0_append 57 = .ok (.iconst 2, 1) := by decide +kernel
theorem dX0_append_58 : decode cX0_append 58 = .ok (.iload 6, 2) := by decide +kernel
theorem dX0_append_60 : decode cX0_append 60 = .ok (.imul, 1) := by decide +kernel
theorem dX0_append_61 : decode cX0_append 61 = .ok (.iconst 1, 1) := by decide +kernel
theorem dX0_append_62 : decode cX0_append 62 = .ok (.iadd, 1) := by decide +kernel
theorem dX0_append_63 : decode cX0_append 63 = .ok (.iload_n 2, 1) := by decide +kernel
theorem dX0_append_64 : decode cX0_append 64 = .ok (.invokevirtual 51, 3) := by decide +kernel
theorem dX0_append_67 : decode cX0_append 67 = .ok (.aload_n 0, 1) := by decide +kernel
theorem dX0_append_68 : decode cX0_append 68 = .ok (.dup, 1) := by decide +kernel
theorem dX0_append_69 : decode cX0_append 69 = .ok (.getfield 43, 3) := by decide +kernel
theorem dX0_append_72 : decode cX0_append 72 = .ok (.iconst 1, 1) := by decide +kernel
theorem dX0_append_73 : decode cX0_append 73 = .ok (.iadd, 1) := by decide +kernel
theorem dX0_append_74 : decode cX0_append 74 = .ok (.putfield 43, 3) := by decide +kernel
theorem dX0_append_77 : decode cX0_append 77 = .ok (.iload 6, 2) := by decide +kernel
theorem dX0_append_79 : decode cX0_append 79 = .ok (.ireturn, 1) := by decide +kernel
theorem dX0_chain_0 : decode cX0_chain 0 = .ok (.aload_n 0, 1) := by decide +kernel
theorem dX0_chain_1 : decode cX0_chain 1 = .ok (.getfield 31, 3) := by decide +kernel
theorem dX0_chain_4 : decode cX0_chain 4 = .ok (.iload_n 1, 1) := by decide +kernel
theorem dX0_chain_5 : decode cX0_chain 5 = .ok (.aload_n 0, 1) := by decide +kernel
theorem dX0_chain_6 : decode cX0_chain 6 = .ok (.getfield 28, 3) := by decide +kernel
theorem dX0_chain_9 : decode cX0_chain 9 = .ok (.iload_n 2, 1) := by decide +kernel
theorem dX0_chain_10 : decode cX0_chain 10 = .ok (.iaload, 1) := by decide +kernel
theorem dX0_chain_11 : decode cX0_chain 11 = .ok (.iastore, 1) := by decide +kernel
theorem dX0_chain_12 : decode cX0_chain 12 = .ok (.aload_n 0, 1) := by decide +kernel
theorem dX0_chain_13 : decode cX0_chain 13 = .ok (.getfield 28, 3) := by decide +kernel
theorem dX0_chain_16 : decode cX0_chain 16 = .ok (.iload_n 2, 1) := by decide +kernel
theorem dX0_chain_17 : decode cX0_chain 17 = .ok (.iload_n 1, 1) := by decide +kernel
theorem dX0_chain_18 : decode cX0_chain 18 = .ok (.iastore, 1) := by decide +kernel
theorem dX0_chain_19 : decode cX0_chain 19 = .ok (.return_, 1) := by decide +kernel
theorem dX0_dropLatest_0 : decode cX0_dropLatest 0 = .ok (.aload_n 0, 1) := by decide +kernel
theorem dX0_dropLatest_1 : decode cX0_dropLatest 1 = .ok (.getfield 43, 3) := by decide +kernel
theorem dX0_dropLatest_4 : decode cX0_dropLatest 4 = .ok (.ifCond .ne 4, 3) := by decide +kernel
theorem dX0_dropLatest_7 : decode cX0_dropLatest 7 = .ok (.return_, 1) := by decide +kernel
theorem dX0_dropLatest_8 : decode cX0_dropLatest 8 = .ok (.aload_n 0, 1) := by decide +kernel
theorem dX0_dropLatest_9 : decode cX0_dropLatest 9 = .ok (.dup, 1) := by decide +kernel
theorem dX0_dropLatest_10 : decode cX0_dropLatest 10 = .ok (.getfield 43, 3) := by decide +kernel
theorem dX0_dropLatest_13 : decode cX0_dropLatest 13 = .ok (.iconst 1, 1) := by decide +kernel
theorem dX0_dropLatest_14 : decode cX0_dropLatest 14 = .ok (.isub, 1) := by decide +kernel
theorem dX0_dropLatest_15 : decode cX0_dropLatest 15 = .ok (.putfield 43, 3) := by decide +kernel
theorem dX0_dropLatest_18 : decode cX0_dropLatest 18 = .ok (.aload_n 0, 1) := by decide +kernel
theorem dX0_dropLatest_19 : decode cX0_dropLatest 19 = .ok (.getfield 28, 3) := by decide +kernel
theorem dX0_dropLatest_22 : decode cX0_dropLatest 22 = .ok (.aload_n 0, 1) := by decide +kernel
theorem dX0_dropLatest_23 : decode cX0_dropLatest 23 = .ok (.getfield 9, 3) := by decide +kernel
theorem dX0_dropLatest_26 : decode cX0_dropLatest 26 = .ok (.aload_n 0, 1) := by decide +kernel
theorem dX0_dropLatest_27 : decode cX0_dropLatest 27 = .ok (.getfield 43, 3) := by decide +kernel
theorem dX0_dropLatest_30 : decode cX0_dropLatest 30 = .ok (.iaload, 1) := by decide +kernel
theorem dX0_dropLatest_31 : decode cX0_dropLatest 31 = .ok (.aload_n 0, 1) := by decide +kernel
theorem dX0_dropLatest_32 : decode cX0_dropLatest 32 = .ok (.getfield 31, 3) := by decide +kernel
theorem dX0_dropLatest_35 : decode cX0_dropLatest 35 = .ok (.iconst 2, 1) := by decide +kernel
theorem dX0_dropLatest_36 : decode cX0_dropLatest 36 = .ok (.aload_n 0, 1) := by decide +kernel
theorem dX0_dropLatest_37 : decode cX0_dropLatest 37 = .ok (.getfield 43, 3) := by decide +kernel
theorem dX0_dropLatest_40 : decode cX0_dropLatest 40 = .ok (.imul, 1) := by decide +kernel
theorem dX0_dropLatest_41 : decode cX0_dropLatest 41 = .ok (.iaload, 1) := by decide +kernel
theorem dX0_dropLatest_42 : decode cX0_dropLatest 42 = .ok (.iastore, 1) := by decide +kernel
theorem dX0_dropLatest_43 : decode cX0_dropLatest 43 = .ok (.aload_n 0, 1) := by decide +kernel
theorem dX0_dropLatest_44 : decode cX0_dropLatest 44 = .ok (.getfield 28, 3) := by decide +kernel
theorem dX0_dropLatest_47 : decode cX0_dropLatest 47 = .ok (.aload_n 0, 1) := by decide +kernel
theorem dX0_dropLatest_48 : decode cX0_dropLatest 48 = .ok (.getfield 15, 3) := by decide +kernel
theorem dX0_dropLatest_51 : decode cX0_dropLatest 51 = .ok (.aload_n 0, 1) := by decide +kernel
theorem dX0_dropLatest_52 : decode cX0_dropLatest 52 = .ok (.getfield 43, 3) := by decide +kernel
theorem dX0_dropLatest_55 : decode cX0_dropLatest 55 = .ok (.iaload, 1) := by decide +kernel
theorem dX0_dropLatest_56 : decode cX0_dropLatest 56 = .ok (.aload_n 0, 1) := by decide +kernel
theorem dX0_dropLatest_57 : decode cX0_dropLatest 57 = .ok (.getfield 31, 3) := by decide +kernel
theorem dX0_dropLatest_60 : decode cX0_dropLatest 60 = .ok (.iconst 2, 1) := by decide +kernel
theorem dX0_dropLatest_61 : decode cX0_dropLatest 61 = .ok (.aload_n 0, 1) := by decide +kernel
theorem dX0_dropLatest_62 : decode cX0_dropLatest 62 = .ok (.getfield 43, 3) := by decide +kernel
theorem dX0_dropLatest_65 : decode cX0_dropLatest 65 = .ok (.imul, 1) := by decide +kernel
theorem dX0_dropLatest_66 : decode cX0_dropLatest 66 = .ok (.iconst 1, 1) := by decide +kernel
theorem dX0_dropLatest_67 : decode cX0_dropLatest 67 = .ok (.iadd, 1) := by decide +kernel
theorem dX0_dropLatest_68 : decode cX0_dropLatest 68 = .ok (.iaload, 1) := by decide +kernel
theorem dX0_dropLatest_69 : decode cX0_dropLatest 69 = .ok (.iastore, 1) := by decide +kernel
theorem dX0_dropLatest_70 : decode cX0_dropLatest 70 = .ok (.return_, 1) := by decide +kernel
theorem dX0_raise_0 : decode cX0_raise 0 = .ok (.aload_n 0, 1) := by decide +kernel
theorem dX0_raise_1 : decode cX0_raise 1 = .ok (.getfield 55, 3) := by decide +kernel
theorem dX0_raise_4 : decode cX0_raise 4 = .ok (.aload_n 0, 1) := by decide +kernel
theorem dX0_raise_5 : decode cX0_raise 5 = .ok (.getfield 34, 3) := by decide +kernel
theorem dX0_raise_8 : decode cX0_raise 8 = .ok (.arraylength, 1) := by decide +kernel
theorem dX0_raise_9 : decode cX0_raise 9 = .ok (.if_icmp .ge 33, 3) := by decide +kernel
theorem dX0_raise_12 : decode cX0_raise 12 = .ok (.aload_n 0, 1) := by decide +kernel
theorem dX0_raise_13 : decode cX0_raise 13 = .ok (.getfield 34, 3) := by decide +kernel
theorem dX0_raise_16 : decode cX0_raise 16 = .ok (.aload_n 0, 1) := by decide +kernel
theorem dX0_raise_17 : decode cX0_raise 17 = .ok (.getfield 55, 3) := by decide +kernel
theorem dX0_raise_20 : decode cX0_raise 20 = .ok (.iload_n 1, 1) := by decide +kernel
theorem dX0_raise_21 : decode cX0_raise 21 = .ok (.iastore, 1) := by decide +kernel
theorem dX0_raise_22 : decode cX0_raise 22 = .ok (.aload_n 0, 1) := by decide +kernel
theorem dX0_raise_23 : decode cX0_raise 23 = .ok (.dup, 1) := by decide +kernel
theorem dX0_raise_24 : decode cX0_raise 24 = .ok (.getfield 55, 3) := by decide +kernel
theorem dX0_raise_27 : decode cX0_raise 27 = .ok (.iconst 1, 1) := by decide +kernel
theorem dX0_raise_28 : decode cX0_raise 28 = .ok (.iadd, 1) := by decide +kernel
theorem dX0_raise_29 : decode cX0_raise 29 = .ok (.putfield 55, 3) := by decide +kernel
theorem dX0_raise_32 : decode cX0_raise 32 = .ok (.aload_n 0, 1) := by decide +kernel
theorem dX0_raise_33 : decode cX0_raise 33 = .ok (.getfield 25, 3) := by decide +kernel
theorem dX0_raise_36 : decode cX0_raise 36 = .ok (.iload_n 1, 1) := by decide +kernel
theorem dX0_raise_37 : decode cX0_raise 37 = .ok (.dup2, 1) := by decide +kernel
theorem dX0_raise_38 : decode cX0_raise 38 = .ok (.iaload, 1) := by decide +kernel
theorem dX0_raise_39 : decode cX0_raise 39 = .ok (.iconst 1, 1) := by decide +kernel
theorem dX0_raise_40 : decode cX0_raise 40 = .ok (.iadd, 1) := by decide +kernel
theorem dX0_raise_41 : decode cX0_raise 41 = .ok (.iastore, 1) := by decide +kernel
theorem dX0_raise_42 : decode cX0_raise 42 = .ok (.return_, 1) := by decide +kernel
theorem dX0_lowerTo_0 : decode cX0_lowerTo 0 = .ok (.aload_n 0, 1) := by decide +kernel
theorem dX0_lowerTo_1 : decode cX0_lowerTo 1 = .ok (.getfield 55, 3) := by decide +kernel
theorem dX0_lowerTo_4 : decode cX0_lowerTo 4 = .ok (.iconst 1, 1) := by decide +kernel
theorem dX0_lowerTo_5 : decode cX0_lowerTo 5 = .ok (.isub, 1) := by decide +kernel
theorem dX0_lowerTo_6 : decode cX0_lowerTo 6 = .ok (.istore_n 2, 1) := by decide +kernel
theorem dX0_lowerTo_7 : decode cX0_lowerTo 7 = .ok (.iload_n 2, 1) := by decide +kernel
theorem dX0_lowerTo_8 : decode cX0_lowerTo 8 = .ok (.iload_n 1, 1) := by decide +kernel
theorem dX0_lowerTo_9 : decode cX0_lowerTo 9 = .ok (.if_icmp .lt 33, 3) := by decide +kernel
theorem dX0_lowerTo_12 : decode cX0_lowerTo 12 = .ok (.iload_n 2, 1) := by decide +kernel
theorem dX0_lowerTo_13 : decode cX0_lowerTo 13 = .ok (.ifCond .lt 29, 3) := by decide +kernel
theorem dX0_lowerTo_16 : decode cX0_lowerTo 16 = .ok (.aload_n 0, 1) := by decide +kernel
theorem dX0_lowerTo_17 : decode cX0_lowerTo 17 = .ok (.getfield 25, 3) := by decide +kernel
theorem dX0_lowerTo_20 : decode cX0_lowerTo 20 = .ok (.aload_n 0, 1) := by decide +kernel
theorem dX0_lowerTo_21 : decode cX0_lowerTo 21 = .ok (.getfield 34, 3) := by decide +kernel
theorem dX0_lowerTo_24 : decode cX0_lowerTo 24 = .ok (.iload_n 2, 1) := by decide +kernel
theorem dX0_lowerTo_25 : decode cX0_lowerTo 25 = .ok (.iaload, 1) := by decide +kernel
theorem dX0_lowerTo_26 : decode cX0_lowerTo 26 = .ok (.dup2, 1) := by decide +kernel
theorem dX0_lowerTo_27 : decode cX0_lowerTo 27 = .ok (.iaload, 1) := by decide +kernel
theorem dX0_lowerTo_28 : decode cX0_lowerTo 28 = .ok (.iconst 1, 1) := by decide +kernel
theorem dX0_lowerTo_29 : decode cX0_lowerTo 29 = .ok (.isub, 1) := by decide +kernel
theorem dX0_lowerTo_30 : decode cX0_lowerTo 30 = .ok (.iastore, 1) := by decide +kernel
theorem dX0_lowerTo_31 : decode cX0_lowerTo 31 = .ok (.aload_n 0, 1) := by decide +kernel
theorem dX0_lowerTo_32 : decode cX0_lowerTo 32 = .ok (.iload_n 2, 1) := by decide +kernel
theorem dX0_lowerTo_33 : decode cX0_lowerTo 33 = .ok (.putfield 55, 3) := by decide +kernel
theorem dX0_lowerTo_36 : decode cX0_lowerTo 36 = .ok (.iinc 2 (-1), 3) := by decide +kernel
theorem dX0_lowerTo_39 : decode cX0_lowerTo 39 = .ok (.goto (-32), 3) := by decide +kernel
theorem dX0_lowerTo_42 : decode cX0_lowerTo 42 = .ok (.return_, 1) := by decide +kernel
theorem dX1_init_0 : decode cX1_init 0 = .ok (.aload_n 0, 1) := by decide +kernel
theorem dX1_init_1 : decode cX1_init 1 = .ok (.invokespecial 3, 3) := by decide +kernel
theorem dX1_init_4 : decode cX1_init 4 = .ok (.aload_n 0, 1) := by decide +kernel
theorem dX1_init_5 : decode cX1_init 5 = .ok (.bipush 100, 2) := by decide +kernel
theorem dX1_init_7 : decode cX1_init 7 = .ok (.newarray .int, 2) := by decide +kernel
theorem dX1_init_9 : decode cX1_init 9 = .ok (.putfield 9, 3) := by decide +kernel
theorem dX1_init_12 : decode cX1_init 12 = .ok (.aload_n 0, 1) := by decide +kernel
theorem dX1_init_13 : decode cX1_init 13 = .ok (.bipush 100, 2) := by decide +kernel
theorem dX1_init_15 : decode cX1_init 15 = .ok (.newarray .int, 2) := by decide +kernel
theorem dX1_init_17 : decode cX1_init 17 = .ok (.putfield 15, 3) := by decide +kernel
theorem dX1_init_20 : decode cX1_init 20 = .ok (.aload_n 0, 1) := by decide +kernel
theorem dX1_init_21 : decode cX1_init 21 = .ok (.bipush 100, 2) := by decide +kernel
theorem dX1_init_23 : decode cX1_init 23 = .ok (.newarray .int, 2) := by decide +kernel
theorem dX1_init_25 : decode cX1_init 25 = .ok (.putfield 18, 3) := by decide +kernel
theorem dX1_init_28 : decode cX1_init 28 = .ok (.aload_n 0, 1) := by decide +kernel
theorem dX1_init_29 : decode cX1_init 29 = .ok (.bipush 100, 2) := by decide +kernel
theorem dX1_init_31 : decode cX1_init 31 = .ok (.newarray .boolean, 2) := by decide +kernel
theorem dX1_init_33 : decode cX1_init 33 = .ok (.putfield 21, 3) := by decide +kernel
theorem dX1_init_36 : decode cX1_init 36 = .ok (.return_, 1) := by decide +kernel
theorem dX1_spread_0 : decode cX1_spread 0 = .ok (.aload_n 0, 1) := by decide +kernel
theorem dX1_spread_1 : decode cX1_spread 1 = .ok (.invokevirtual 25, 3) := by decide +kernel
theorem dX1_spread_4 : decode cX1_spread 4 = .ok (.aload_n 0, 1) := by decide +kernel
theorem dX1_spread_5 : decode cX1_spread 5 = .ok (.iload_n 2, 1) := by decide +kernel
theorem dX1_spread_6 : decode cX1_spread 6 = .ok (.iconst (-1), 1) := by decide +kernel
theorem dX1_spread_7 : decode cX1_spread 7 = .ok (.iconst 0, 1) := by decide +kernel
theorem dX1_spread_8 : decode cX1_spread 8 = .ok (.invokevirtual 28, 3) := by decide +kernel
theorem dX1_spread_11 : decode cX1_spread 11 = .ok (.iconst 0, 1) := by decide +kernel
theorem dX1_spread_12 : decode cX1_spread 12 = .ok (.istore 5, 2) := by decide +kernel
theorem dX1_spread_14 : decode cX1_spread 14 = .ok (.iload 5, 2) := by decide +kernel
theorem dX1_spread_16 : decode cX1_spread 16 = .ok (.aload_n 0, 1) := by decide +kernel
theorem dX1_spread_17 : decode cX1_spread 17 = .ok (.getfield 32, 3) := by decide +kernel
theorem dX1_spread_20 : decode cX1_spread 20 = .ok (.if_icmp .ge 31, 3) := by decide +kernel
theorem dX1_spread_23 : decode cX1_spread 23 = .ok (.iload 5, 2) := by decide +kernel
theorem dX1_spread_25 : decode cX1_spread 25 = .ok (.bipush 100, 2) := by decide +kernel
theorem dX1_spread_27 : decode cX1_spread 27 = .ok (.if_icmp .ge 24, 3) := by decide +kernel
theorem dX1_spread_30 : decode cX1_spread 30 = .ok (.aload_n 0, 1) := by decide +kernel
theorem dX1_spread_31 : decode cX1_spread 31 = .ok (.aload_n 1, 1) := by decide +kernel
theorem dX1_spread_32 : decode cX1_spread 32 = .ok (.aload_n 0, 1) := by decide +kernel
theorem dX1_spread_33 : decode cX1_spread 33 = .ok (.getfield 9, 3) := by decide +kernel
theorem dX1_spread_36 : decode cX1_spread 36 = .ok (.iload 5, 2) := by decide +kernel
theorem dX1_spread_38 : decode cX1_spread 38 = .ok (.iaload, 1) := by decide +kernel
theorem dX1_spread_39 : decode cX1_spread 39 = .ok (.iload_n 3, 1) := by decide +kernel
theorem dX1_spread_40 : decode cX1_spread 40 = .ok (.iload 4, 2) := by decide +kernel
theorem dX1_spread_42 : decode cX1_spread 42 = .ok (.invokevirtual 36, 3) := by decide +kernel
theorem dX1_spread_45 : decode cX1_spread 45 = .ok (.iinc 5 1, 3) := by decide +kernel
theorem dX1_spread_48 : decode cX1_spread 48 = .ok (.goto (-34), 3) := by decide +kernel
theorem dX1_spread_51 : decode cX1_spread 51 = .ok (.return_, 1) := by decide +kernel
theorem dX1_clear_0 : decode cX1_clear 0 = .ok (.iconst 0, 1) := by decide +kernel
theorem dX1_clear_1 : decode cX1_clear 1 = .ok (.istore_n 1, 1) := by decide +kernel
theorem dX1_clear_2 : decode cX1_clear 2 = .ok (.iload_n 1, 1) := by decide +kernel
theorem dX1_clear_3 : decode cX1_clear 3 = .ok (.aload_n 0, 1) := by decide +kernel
theorem dX1_clear_4 : decode cX1_clear 4 = .ok (.getfield 32, 3) := by decide +kernel
theorem dX1_clear_7 : decode cX1_clear 7 = .ok (.if_icmp .ge 21, 3) := by decide +kernel
theorem dX1_clear_10 : decode cX1_clear 10 = .ok (.aload_n 0, 1) := by decide +kernel
theorem dX1_clear_11 : decode cX1_clear 11 = .ok (.getfield 21, 3) := by decide +kernel
theorem dX1_clear_14 : decode cX1_clear 14 = .ok (.aload_n 0, 1) := by decide +kernel
theorem dX1_clear_15 : decode cX1_clear 15 = .ok (.getfield 9, 3) := by decide +kernel
theorem dX1_clear_18 : decode cX1_clear 18 = .ok (.iload_n 1, 1) := by decide +kernel
theorem dX1_clear_19 : decode cX1_clear 19 = .ok (.iaload, 1) := by decide +kernel
theorem dX1_clear_20 : decode cX1_clear 20 = .ok (.iconst 0, 1) := by decide +kernel
theorem dX1_clear_21 : decode cX1_clear 21 = .ok (.bastore, 1) := by decide +kernel
theorem dX1_clear_22 : decode cX1_clear 22 = .ok (.iinc 1 1, 3) := by decide +kernel
theorem dX1_clear_25 : decode cX1_clear 25 = .ok (.goto (-23), 3) := by decide +kernel
theorem dX1_clear_28 : decode cX1_clear 28 = .ok (.aload_n 0, 1) := by decide +kernel
theorem dX1_clear_29 : decode cX1_clear 29 = .ok (.iconst 0, 1) := by decide +kernel
theorem dX1_clear_30 : decode cX1_clear 30 = .ok (.putfield 32, 3) := by decide +kernel
theorem dX1_clear_33 : decode cX1_clear 33 = .ok (.return_, 1) := by decide +kernel
theorem dX1_reach_0 : decode cX1_reach 0 = .ok (.aload_n 0, 1) := by decide +kernel
theorem dX1_reach_1 : decode cX1_reach 1 = .ok (.getfield 21, 3) := by decide +kernel
theorem dX1_reach_4 : decode cX1_reach 4 = .ok (.iload_n 1, 1) := by decide +kernel
theorem dX1_reach_5 : decode cX1_reach 5 = .ok (.iconst 1, 1) := by decide +kernel
theorem dX1_reach_6 : decode cX1_reach 6 = .ok (.bastore, 1) := by decide +kernel
theorem dX1_reach_7 : decode cX1_reach 7 = .ok (.aload_n 0, 1) := by decide +kernel
theorem dX1_reach_8 : decode cX1_reach 8 = .ok (.getfield 18, 3) := by decide +kernel
theorem dX1_reach_11 : decode cX1_reach 11 = .ok (.iload_n 1, 1) := by decide +kernel
theorem dX1_reach_12 : decode cX1_reach 12 = .ok (.iload_n 2, 1) := by decide +kernel
theorem dX1_reach_13 : decode cX1_reach 13 = .ok (.iastore, 1) := by decide +kernel
theorem dX1_reach_14 : decode cX1_reach 14 = .ok (.aload_n 0, 1) := by decide +kernel
theorem dX1_reach_15 : decode cX1_reach 15 = .ok (.getfield 15, 3) := by decide +kernel
theorem dX1_reach_18 : decode cX1_reach 18 = .ok (.iload_n 1, 1) := by decide +kernel
theorem dX1_reach_19 : decode cX1_reach 19 = .ok (.iload_n 3, 1) := by decide +kernel
theorem dX1_reach_20 : decode cX1_reach 20 = .ok (.iastore, 1) := by decide +kernel
theorem dX1_reach_21 : decode cX1_reach 21 = .ok (.aload_n 0, 1) := by decide +kernel
theorem dX1_reach_22 : decode cX1_reach 22 = .ok (.getfield 9, 3) := by decide +kernel
theorem dX1_reach_25 : decode cX1_reach 25 = .ok (.aload_n 0, 1) := by decide +kernel
theorem dX1_reach_26 : decode cX1_reach 26 = .ok (.getfield 32, 3) := by decide +kernel
theorem dX1_reach_29 : decode cX1_reach 29 = .ok (.iload_n 1, 1) := by decide +kernel
theorem dX1_reach_30 : decode cX1_reach 30 = .ok (.iastore, 1) := by decide +kernel
theorem dX1_reach_31 : decode cX1_reach 31 = .ok (.aload_n 0, 1) := by decide +kernel
theorem dX1_reach_32 : decode cX1_reach 32 = .ok (.dup, 1) := by decide +kernel
theorem dX1_reach_33 : decode cX1_reach 33 = .ok (.getfield 32, 3) := by decide +kernel
theorem dX1_reach_36 : decode cX1_reach 36 = .ok (.iconst 1, 1) := by decide +kernel
theorem dX1_reach_37 : decode cX1_reach 37 = .ok (.iadd, 1) := by decide +kernel
theorem dX1_reach_38 : decode cX1_reach 38 = .ok (.putfield 32, 3) := by decide +kernel
theorem dX1_reach_41 : decode cX1_reach 41 = .ok (.return_, 1) := by decide +kernel
theorem dX1_spreadFrom_0 : decode cX1_spreadFrom 0 = .ok (.aload_n 1, 1) := by decide +kernel
theorem dX1_spreadFrom_1 : decode cX1_spreadFrom 1 = .ok (.getfield 40, 3) := by decide +kernel
theorem dX1_spreadFrom_4 : decode cX1_spreadFrom 4 = .ok (.iload_n 2, 1) := by decide +kernel
theorem dX1_spreadFrom_5 : decode cX1_spreadFrom 5 = .ok (.iaload, 1) := by decide +kernel
theorem dX1_spreadFrom_6 : decode cX1_spreadFrom 6 = .ok (.istore 5, 2) := by decide +kernel
theorem dX1_spreadFrom_8 : decode cX1_spreadFrom 8 = .ok (.iconst 0, 1) := by decide +kernel
theorem dX1_spreadFrom_9 : decode cX1_spreadFrom 9 = .ok (.istore 6, 2) := by decide +kernel
theorem dX1_spreadFrom_11 : decode cX1_spreadFrom 11 = .ok (.iload 5, 2) := by decide +kernel
theorem dX1_spreadFrom_13 : decode cX1_spreadFrom 13 = .ok (.iconst (-1), 1) := by decide +kernel
theorem dX1_spreadFrom_14 : decode cX1_spreadFrom 14 = .ok (.if_icmp .eq 96, 3) := by decide +kernel
theorem dX1_spreadFrom_17 : decode cX1_spreadFrom 17 = .ok (.iload 6, 2) := by decide +kernel
theorem dX1_spreadFrom_19 : decode cX1_spreadFrom 19 = .ok (.sipush 300, 3) := by decide +kernel
theorem dX1_spreadFrom_22 : decode cX1_spreadFrom 22 = .ok (.if_icmp .ge 88, 3) := by decide +kernel
theorem dX1_spreadFrom_25 : decode cX1_spreadFrom 25 = .ok (.iload 5, 2) := by decide +kernel
theorem dX1_spreadFrom_27 : decode cX1_spreadFrom 27 = .ok (.iconst 2, 1) := by decide +kernel
theorem dX1_spreadFrom_28 : decode cX1_spreadFrom 28 = .ok (.idiv, 1) := by decide +kernel
theorem dX1_spreadFrom_29 : decode cX1_spreadFrom 29 = .ok (.istore 7, 2) := by decide +kernel
theorem dX1_spreadFrom_31 : decode cX1_spreadFrom 31 = .ok (.aload_n 1, 1) := by decide +kernel
theorem dX1_spreadFrom_32 : decode cX1_spreadFrom 32 = .ok (.iload 7, 2) := by decide +kernel
theorem dX1_spreadFrom_34 : decode cX1_spreadFrom 34 = .ok (.iload_n 2, 1) := by decide +kernel
theorem dX1_spreadFrom_35 : decode cX1_spreadFrom 35 = .ok (.invokevirtual 45, 3) := by decide +kernel
theorem dX1_spreadFrom_38 : decode cX1_spreadFrom 38 = .ok (.istore 8, 2) := by decide +kernel
theorem dX1_spreadFrom_40 : decode cX1_spreadFrom 40 = .ok (.aload_n 1, 1) := by decide +kernel
theorem dX1_spreadFrom_41 : decode cX1_spreadFrom 41 = .ok (.getfield 49, 3) := by decide +kernel
theorem dX1_spreadFrom_44 : decode cX1_spreadFrom 44 = .ok (.iload 7, 2) := by decide +kernel
theorem dX1_spreadFrom_46 : decode cX1_spreadFrom 46 = .ok (.iaload, 1) := by decide +kernel
theorem dX1_spreadFrom_47 : decode cX1_spreadFrom 47 = .ok (.iconst 1, 1) := by decide +kernel
theorem dX1_spreadFrom_48 : decode cX1_spreadFrom 48 = .ok (.if_icmp .ne 47, 3) := by decide +kernel
theorem dX1_spreadFrom_51 : decode cX1_spreadFrom 51 = .ok (.iload 7, 2) := by decide +kernel
theorem dX1_spreadFrom_53 : decode cX1_spreadFrom 53 = .ok (.iload_n 3, 1) := by decide +kernel
theorem dX1_spreadFrom_54 : decode cX1_spreadFrom 54 = .ok (.if_icmp .eq 41, 3) := by decide +kernel
theorem dX1_spreadFrom_57 : decode cX1_spreadFrom 57 = .ok (.aload_n 1, 1) := by decide +kernel
theorem dX1_spreadFrom_58 : decode cX1_spreadFrom 58 = .ok (.getfield 52, 3) := by decide +kernel
theorem dX1_spreadFrom_61 : decode cX1_spreadFrom 61 = .ok (.iload 7, 2) := by decide +kernel
theorem dX1_spreadFrom_63 : decode cX1_spreadFrom 63 = .ok (.iaload, 1) := by decide +kernel
theorem dX1_spreadFrom_64 : decode cX1_spreadFrom 64 = .ok (.iload 4, 2) := by decide +kernel
theorem dX1_spreadFrom_66 : decode cX1_spreadFrom 66 = .ok (.if_icmp .lt 29, 3) := by decide +kernel
theorem dX1_spreadFrom_69 : decode cX1_spreadFrom 69 = .ok (.aload_n 0, 1) := by decide +kernel
theorem dX1_spreadFrom_70 : decode cX1_spreadFrom 70 = .ok (.getfield 21, 3) := by decide +kernel
theorem dX1_spreadFrom_73 : decode cX1_spreadFrom 73 = .ok (.iload 8, 2) := by decide +kernel
theorem dX1_spreadFrom_75 : decode cX1_spreadFrom 75 = .ok (.baload, 1) := by decide +kernel
theorem dX1_spreadFrom_76 : decode cX1_spreadFrom 76 = .ok (.ifCond .ne 19, 3) := by decide +kernel
theorem dX1_spreadFrom_79 : decode cX1_spreadFrom 79 = .ok (.aload_n 0, 1) := by decide +kernel
theorem dX1_spreadFrom_80 : decode cX1_spreadFrom 80 = .ok (.iload 8, 2) := by decide +kernel
theorem dX1_spreadFrom_82 : decode cX1_spreadFrom 82 = .ok (.iload 7, 2) := by decide +kernel
theorem dX1_spreadFrom_84 : decode cX1_spreadFrom 84 = .ok (.aload_n 0, 1) := by decide +kernel
theorem dX1_spreadFrom_85 : decode cX1_spreadFrom 85 = .ok (.getfield 15, 3) := by decide +kernel
theorem dX1_spreadFrom_88 : decode cX1_spreadFrom 88 = .ok (.iload_n 2, 1) := by decide +kernel
theorem dX1_spreadFrom_89 : decode cX1_spreadFrom 89 = .ok (.iaload, 1) := by decide +kernel
theorem dX1_spreadFrom_90 : decode cX1_spreadFrom 90 = .ok (.iconst 1, 1) := by decide +kernel
theorem dX1_spreadFrom_91 : decode cX1_spreadFrom 91 = .ok (.iadd, 1) := by decide +kernel
theorem dX1_spreadFrom_92 : decode cX1_spreadFrom 92 = .ok (.invokevirtual 28, 3) := by decide +kernel
theorem dX1_spreadFrom_95 : decode cX1_spreadFrom 95 = .ok (.aload_n 1, 1) := by decide +kernel
theorem dX1_spreadFrom_96 : decode cX1_spreadFrom 96 = .ok (.getfield 55, 3) := by decide +kernel
theorem dX1_spreadFrom_99 : decode cX1_spreadFrom 99 = .ok (.iload 5, 2) := by decide +kernel
theorem dX1_spreadFrom_101 : decode cX1_spreadFrom 101 = .ok (.iaload, 1) := by decide +kernel
theorem dX1_spreadFrom_102 : decode cX1_spreadFrom 102 = .ok (.istore 5, 2) := by decide +kernel
theorem dX1_spreadFrom_104 : decode cX1_spreadFrom 104 = .ok (.iinc 6 1, 3) := by decide +kernel
theorem dX1_spreadFrom_107 : decode cX1_spreadFrom 107 = .ok (.goto (-96), 3) := by decide +kernel
theorem dX1_spreadFrom_110 : decode cX1_spreadFrom 110 = .ok (.return_, 1) := by decide +kernel
theorem dX1_before_0 : decode cX1_before 0 = .ok (.aload_n 0, 1) := by decide +kernel
theorem dX1_before_1 : decode cX1_before 1 = .ok (.getfield 18, 3) := by decide +kernel
theorem dX1_before_4 : decode cX1_before 4 = .ok (.iload_n 2, 1) := by decide +kernel
theorem dX1_before_5 : decode cX1_before 5 = .ok (.iaload, 1) := by decide +kernel
theorem dX1_before_6 : decode cX1_before 6 = .ok (.iconst (-1), 1) := by decide +kernel
theorem dX1_before_7 : decode cX1_before 7 = .ok (.if_icmp .ne 7, 3) := by decide +kernel
theorem dX1_before_10 : decode cX1_before 10 = .ok (.iconst (-1), 1) := by decide +kernel
theorem dX1_before_11 : decode cX1_before 11 = .ok (.goto 14, 3) := by decide +kernel
theorem dX1_before_14 : decode cX1_before 14 = .ok (.aload_n 1, 1) := by decide +kernel
theorem dX1_before_15 : decode cX1_before 15 = .ok (.aload_n 0, 1) := by decide +kernel
theorem dX1_before_16 : decode cX1_before 16 = .ok (.getfield 18, 3) := by decide +kernel
theorem dX1_before_19 : decode cX1_before 19 = .ok (.iload_n 2, 1) := by decide +kernel
theorem dX1_before_20 : decode cX1_before 20 = .ok (.iaload, 1) := by decide +kernel
theorem dX1_before_21 : decode cX1_before 21 = .ok (.iload_n 2, 1) := by decide +kernel
theorem dX1_before_22 : decode cX1_before 22 = .ok (.invokevirtual 45, 3) := by decide +kernel
theorem dX1_before_25 : decode cX1_before 25 = .ok (.ireturn, 1) := by decide +kernel
theorem dX1_endsOf_0 : decode cX1_endsOf 0 = .ok (.aload_n 0, 1) := by decide +kernel
theorem dX1_endsOf_1 : decode cX1_endsOf 1 = .ok (.getfield 21, 3) := by decide +kernel
theorem dX1_endsOf_4 : decode cX1_endsOf 4 = .ok (.aload_n 1, 1) := by decide +kernel
theorem dX1_endsOf_5 : decode cX1_endsOf 5 = .ok (.getfield 58, 3) := by decide +kernel
theorem dX1_endsOf_8 : decode cX1_endsOf 8 = .ok (.iload_n 2, 1) := by decide +kernel
theorem dX1_endsOf_9 : decode cX1_endsOf 9 = .ok (.iaload, 1) := by decide +kernel
theorem dX1_endsOf_10 : decode cX1_endsOf 10 = .ok (.baload, 1) := by decide +kernel
theorem dX1_endsOf_11 : decode cX1_endsOf 11 = .ok (.ifCond .eq 7, 3) := by decide +kernel
theorem dX1_endsOf_14 : decode cX1_endsOf 14 = .ok (.iconst 1, 1) := by decide +kernel
theorem dX1_endsOf_15 : decode cX1_endsOf 15 = .ok (.goto 4, 3) := by decide +kernel
theorem dX1_endsOf_18 : decode cX1_endsOf 18 = .ok (.iconst 0, 1) := by decide +kernel
theorem dX1_endsOf_19 : decode cX1_endsOf 19 = .ok (.aload_n 0, 1) := by decide +kernel
theorem dX1_endsOf_20 : decode cX1_endsOf 20 = .ok (.getfield 21, 3) := by decide +kernel
theorem dX1_endsOf_23 : decode cX1_endsOf 23 = .ok (.aload_n 1, 1) := by decide +kernel
theorem dX1_endsOf_24 : decode cX1_endsOf 24 = .ok (.getfield 61, 3) := by decide +kernel
theorem dX1_endsOf_27 : decode cX1_endsOf 27 = .ok (.iload_n 2, 1) := by decide +kernel
theorem dX1_endsOf_28 : decode cX1_endsOf 28 = .ok (.iaload, 1) := by decide +kernel
theorem dX1_endsOf_29 : decode cX1_endsOf 29 = .ok (.baload, 1) := by decide +kernel
theorem dX1_endsOf_30 : decode cX1_endsOf 30 = .ok (.ifCond .eq 7, 3) := by decide +kernel
theorem dX1_endsOf_33 : decode cX1_endsOf 33 = .ok (.iconst 1, 1) := by decide +kernel
theorem dX1_endsOf_34 : decode cX1_endsOf 34 = .ok (.goto 4, 3) := by decide +kernel
theorem dX1_endsOf_37 : decode cX1_endsOf 37 = .ok (.iconst 0, 1) := by decide +kernel
theorem dX1_endsOf_38 : decode cX1_endsOf 38 = .ok (.iadd, 1) := by decide +kernel
theorem dX1_endsOf_39 : decode cX1_endsOf 39 = .ok (.ireturn, 1) := by decide +kernel
theorem dX2_init_0 : decode cX2_init 0 = .ok (.aload_n 0, 1) := by decide +kernel
theorem dX2_init_1 : decode cX2_init 1 = .ok (.invokespecial 3, 3) := by decide +kernel
theorem dX2_init_4 : decode cX2_init 4 = .ok (.aload_n 0, 1) := by decide +kernel
theorem dX2_init_5 : decode cX2_init 5 = .ok (.bipush 100, 2) := by decide +kernel
theorem dX2_init_7 : decode cX2_init 7 = .ok (.newarray .int, 2) := by decide +kernel
theorem dX2_init_9 : decode cX2_init 9 = .ok (.putfield 9, 3) := by decide +kernel
theorem dX2_init_12 : decode cX2_init 12 = .ok (.aload_n 0, 1) := by decide +kernel
theorem dX2_init_13 : decode cX2_init 13 = .ok (.bipush 100, 2) := by decide +kernel
theorem dX2_init_15 : decode cX2_init 15 = .ok (.newarray .int, 2) := by decide +kernel
theorem dX2_init_17 : decode cX2_init 17 = .ok (.putfield 15, 3) := by decide +kernel
theorem dX2_init_20 : decode cX2_init 20 = .ok (.aload_n 0, 1) := by decide +kernel
theorem dX2_init_21 : decode cX2_init 21 = .ok (.bipush 100, 2) := by decide +kernel
theorem dX2_init_23 : decode cX2_init 23 = .ok (.newarray .int, 2) := by decide +kernel
theorem dX2_init_25 : decode cX2_init 25 = .ok (.putfield 18, 3) := by decide +kernel
theorem dX2_init_28 : decode cX2_init 28 = .ok (.aload_n 0, 1) := by decide +kernel
theorem dX2_init_29 : decode cX2_init 29 = .ok (.bipush 100, 2) := by decide +kernel
theorem dX2_init_31 : decode cX2_init 31 = .ok (.newarray .int, 2) := by decide +kernel
theorem dX2_init_33 : decode cX2_init 33 = .ok (.putfield 21, 3) := by decide +kernel
theorem dX2_init_36 : decode cX2_init 36 = .ok (.aload_n 0, 1) := by decide +kernel
theorem dX2_init_37 : decode cX2_init 37 = .ok (.bipush 100, 2) := by decide +kernel
theorem dX2_init_39 : decode cX2_init 39 = .ok (.newarray .boolean, 2) := by decide +kernel
theorem dX2_init_41 : decode cX2_init 41 = .ok (.putfield 24, 3) := by decide +kernel
theorem dX2_init_44 : decode cX2_init 44 = .ok (.return_, 1) := by decide +kernel
theorem dX2_find_0 : decode cX2_find 0 = .ok (.aload_n 0, 1) := by decide +kernel
theorem dX2_find_1 : decode cX2_find 1 = .ok (.getfield 9, 3) := by decide +kernel
theorem dX2_find_4 : decode cX2_find 4 = .ok (.iconst 0, 1) := by decide +kernel
theorem dX2_find_5 : decode cX2_find 5 = .ok (.invokestatic 28, 3) := by decide +kernel
theorem dX2_find_8 : decode cX2_find 8 = .ok (.aload_n 0, 1) := by decide +kernel
theorem dX2_find_9 : decode cX2_find 9 = .ok (.iconst 0, 1) := by decide +kernel
theorem dX2_find_10 : decode cX2_find 10 = .ok (.putfield 34, 3) := by decide +kernel
theorem dX2_find_13 : decode cX2_find 13 = .ok (.aload_n 0, 1) := by decide +kernel
theorem dX2_find_14 : decode cX2_find 14 = .ok (.iconst 0, 1) := by decide +kernel
theorem dX2_find_15 : decode cX2_find 15 = .ok (.putfield 38, 3) := by decide +kernel
theorem dX2_find_18 : decode cX2_find 18 = .ok (.aload_n 0, 1) := by decide +kernel
theorem dX2_find_19 : decode cX2_find 19 = .ok (.iconst 0, 1) := by decide +kernel
theorem dX2_find_20 : decode cX2_find 20 = .ok (.putfield 41, 3) := by decide +kernel
theorem dX2_find_23 : decode cX2_find 23 = .ok (.iconst 0, 1) := by decide +kernel
theorem dX2_find_24 : decode cX2_find 24 = .ok (.istore_n 3, 1) := by decide +kernel
theorem dX2_find_25 : decode cX2_find 25 = .ok (.iload_n 3, 1) := by decide +kernel
theorem dX2_find_26 : decode cX2_find 26 = .ok (.iload_n 2, 1) := by decide +kernel
theorem dX2_find_27 : decode cX2_find 27 = .ok (.if_icmp .ge 24, 3) := by decide +kernel
theorem dX2_find_30 : decode cX2_find 30 = .ok (.aload_n 0, 1) := by decide +kernel
theorem dX2_find_31 : decode cX2_find 31 = .ok (.getfield 9, 3) := by decide +kernel
theorem dX2_find_34 : decode cX2_find 34 = .ok (.iload_n 3, 1) := by decide +kernel
theorem dX2_find_35 : decode cX2_find 35 = .ok (.iaload, 1) := by decide +kernel
theorem dX2_find_36 : decode cX2_find 36 = .ok (.ifCond .ne 9, 3) := by decide +kernel
theorem dX2_find_39 : decode cX2_find 39 = .ok (.aload_n 0, 1) := by decide +kernel
theorem dX2_find_40 : decode cX2_find 40 = .ok (.aload_n 1, 1) := by decide +kernel
theorem dX2_find_41 : decode cX2_find 41 = .ok (.iload_n 3, 1) := by decide +kernel
theorem dX2_find_42 : decode cX2_find 42 = .ok (.invokevirtual 44, 3) := by decide +kernel
theorem dX2_find_45 : decode cX2_find 45 = .ok (.iinc 3 1, 3) := by decide +kernel
theorem dX2_find_48 : decode cX2_find 48 = .ok (.goto (-23), 3) := by decide +kernel
theorem dX2_find_51 : decode cX2_find 51 = .ok (.return_, 1) := by decide +kernel
theorem dX2_isBridge_0 : decode cX2_isBridge 0 = .ok (.aload_n 0, 1) := by decide +kernel
theorem dX2_isBridge_1 : decode cX2_isBridge 1 = .ok (.aload_n 1, 1) := by decide +kernel
theorem dX2_isBridge_2 : decode cX2_isBridge 2 = .ok (.getfield 48, 3) := by decide +kernel
theorem dX2_isBridge_5 : decode cX2_isBridge 5 = .ok (.iload_n 2, 1) := by decide +kernel
theorem dX2_isBridge_6 : decode cX2_isBridge 6 = .ok (.iaload, 1) := by decide +kernel
theorem dX2_isBridge_7 : decode cX2_isBridge 7 = .ok (.iload_n 2, 1) := by decide +kernel
theorem dX2_isBridge_8 : decode cX2_isBridge 8 = .ok (.invokevirtual 53, 3) := by decide +kernel
theorem dX2_isBridge_11 : decode cX2_isBridge 11 = .ok (.ifCond .ne 17, 3) := by decide +kernel
theorem dX2_isBridge_14 : decode cX2_isBridge 14 = .ok (.aload_n 0, 1) := by decide +kernel
theorem dX2_isBridge_15 : decode cX2_isBridge 15 = .ok (.aload_n 1, 1) := by decide +kernel
theorem dX2_isBridge_16 : decode cX2_isBridge 16 = .ok (.getfield 57, 3) := by decide +kernel
theorem dX2_isBridge_19 : decode cX2_isBridge 19 = .ok (.iload_n 2, 1) := by decide +kernel
theorem dX2_isBridge_20 : decode cX2_isBridge 20 = .ok (.iaload, 1) := by decide +kernel
theorem dX2_isBridge_21 : decode cX2_isBridge 21 = .ok (.iload_n 2, 1) := by decide +kernel
theorem dX2_isBridge_22 : decode cX2_isBridge 22 = .ok (.invokevirtual 53, 3) := by decide +kernel
theorem dX2_isBridge_25 : decode cX2_isBridge 25 = .ok (.ifCond .eq 7, 3) := by decide +kernel
theorem dX2_isBridge_28 : decode cX2_isBridge 28 = .ok (.iconst 1, 1) := by decide +kernel
theorem dX2_isBridge_29 : decode cX2_isBridge 29 = .ok (.goto 4, 3) := by decide +kernel
theorem dX2_isBridge_32 : decode cX2_isBridge 32 = .ok (.iconst 0, 1) := by decide +kernel
theorem dX2_isBridge_33 : decode cX2_isBridge 33 = .ok (.ireturn, 1) := by decide +kernel
theorem dX2_isBridgeTo_0 : decode cX2_isBridgeTo 0 = .ok (.aload_n 0, 1) := by decide +kernel
theorem dX2_isBridgeTo_1 : decode cX2_isBridgeTo 1 = .ok (.getfield 18, 3) := by decide +kernel
theorem dX2_isBridgeTo_4 : decode cX2_isBridgeTo 4 = .ok (.iload_n 1, 1) := by decide +kernel
theorem dX2_isBridgeTo_5 : decode cX2_isBridgeTo 5 = .ok (.iaload, 1) := by decide +kernel
theorem dX2_isBridgeTo_6 : decode cX2_isBridgeTo 6 = .ok (.iload_n 2, 1) := by decide +kernel
theorem dX2_isBridgeTo_7 : decode cX2_isBridgeTo 7 = .ok (.if_icmp .ne 22, 3) := by decide +kernel
theorem dX2_isBridgeTo_10 : decode cX2_isBridgeTo 10 = .ok (.aload_n 0, 1) := by decide +kernel
theorem dX2_isBridgeTo_11 : decode cX2_isBridgeTo 11 = .ok (.getfield 15, 3) := by decide +kernel
theorem dX2_isBridgeTo_14 : decode cX2_isBridgeTo 14 = .ok (.iload_n 1, 1) := by decide +kernel
theorem dX2_isBridgeTo_15 : decode cX2_isBridgeTo 15 = .ok (.iaload, 1) := by decide +kernel
theorem dX2_isBridgeTo_16 : decode cX2_isBridgeTo 16 = .ok (.aload_n 0, 1) := by decide +kernel
theorem dX2_isBridgeTo_17 : decode cX2_isBridgeTo 17 = .ok (.getfield 9, 3) := by decide +kernel
theorem dX2_isBridgeTo_20 : decode cX2_isBridgeTo 20 = .ok (.iload_n 1, 1) := by decide +kernel
theorem dX2_isBridgeTo_21 : decode cX2_isBridgeTo 21 = .ok (.iaload, 1) := by decide +kernel
theorem dX2_isBridgeTo_22 : decode cX2_isBridgeTo 22 = .ok (.if_icmp .ne 7, 3) := by decide +kernel
theorem dX2_isBridgeTo_25 : decode cX2_isBridgeTo 25 = .ok (.iconst 1, 1) := by decide +kernel
theorem dX2_isBridgeTo_26 : decode cX2_isBridgeTo 26 = .ok (.goto 4, 3) := by decide +kernel
theorem dX2_isBridgeTo_29 : decode cX2_isBridgeTo 29 = .ok (.iconst 0, 1) := by decide +kernel
theorem dX2_isBridgeTo_30 : decode cX2_isBridgeTo 30 = .ok (.ireturn, 1) := by decide +kernel
theorem dX2_walkFrom_0 : decode cX2_walkFrom 0 = .ok (.aload_n 0, 1) := by decide +kernel
theorem dX2_walkFrom_1 : decode cX2_walkFrom 1 = .ok (.iconst 0, 1) := by decide +kernel
theorem dX2_walkFrom_2 : decode cX2_walkFrom 2 = .ok (.putfield 60, 3) := by decide +kernel
theorem dX2_walkFrom_5 : decode cX2_walkFrom 5 = .ok (.aload_n 0, 1) := by decide +kernel
theorem dX2_walkFrom_6 : decode cX2_walkFrom 6 = .ok (.aload_n 1, 1) := by decide +kernel
theorem dX2_walkFrom_7 : decode cX2_walkFrom 7 = .ok (.iload_n 2, 1) := by decide +kernel
theorem dX2_walkFrom_8 : decode cX2_walkFrom 8 = .ok (.iconst (-1), 1) := by decide +kernel
theorem dX2_walkFrom_9 : decode cX2_walkFrom 9 = .ok (.invokevirtual 63, 3) := by decide +kernel
theorem dX2_walkFrom_12 : decode cX2_walkFrom 12 = .ok (.iload_n 2, 1) := by decide +kernel
theorem dX2_walkFrom_13 : decode cX2_walkFrom 13 = .ok (.istore_n 3, 1) := by decide +kernel
theorem dX2_walkFrom_14 : decode cX2_walkFrom 14 = .ok (.iconst 0, 1) := by decide +kernel
theorem dX2_walkFrom_15 : decode cX2_walkFrom 15 = .ok (.istore 4, 2) := by decide +kernel
theorem dX2_walkFrom_17 : decode cX2_walkFrom 17 = .ok (.iload_n 3, 1) := by decide +kernel
theorem dX2_walkFrom_18 : decode cX2_walkFrom 18 = .ok (.iconst (-1), 1) := by decide +kernel
theorem dX2_walkFrom_19 : decode cX2_walkFrom 19 = .ok (.if_icmp .eq 65, 3) := by decide +kernel
theorem dX2_walkFrom_22 : decode cX2_walkFrom 22 = .ok (.iload 4, 2) := by decide +kernel
theorem dX2_walkFrom_24 : decode cX2_walkFrom 24 = .ok (.sipush 800, 3) := by decide +kernel
theorem dX2_walkFrom_27 : decode cX2_walkFrom 27 = .ok (.if_icmp .ge 57, 3) := by decide +kernel
theorem dX2_walkFrom_30 : decode cX2_walkFrom 30 = .ok (.aload_n 0, 1) := by decide +kernel
theorem dX2_walkFrom_31 : decode cX2_walkFrom 31 = .ok (.getfield 21, 3) := by decide +kernel
theorem dX2_walkFrom_34 : decode cX2_walkFrom 34 = .ok (.iload_n 3, 1) := by decide +kernel
theorem dX2_walkFrom_35 : decode cX2_walkFrom 35 = .ok (.iaload, 1) := by decide +kernel
theorem dX2_walkFrom_36 : decode cX2_walkFrom 36 = .ok (.istore 5, 2) := by decide +kernel
theorem dX2_walkFrom_38 : decode cX2_walkFrom 38 = .ok (.iload 5, 2) := by decide +kernel
theorem dX2_walkFrom_40 : decode cX2_walkFrom 40 = .ok (.iconst (-1), 1) := by decide +kernel
theorem dX2_walkFrom_41 : decode cX2_walkFrom 41 = .ok (.if_icmp .ne 13, 3) := by decide +kernel
theorem dX2_walkFrom_44 : decode cX2_walkFrom 44 = .ok (.aload_n 0, 1) := by decide +kernel
theorem dX2_walkFrom_45 : decode cX2_walkFrom 45 = .ok (.aload_n 1, 1) := by decide +kernel
theorem dX2_walkFrom_46 : decode cX2_walkFrom 46 = .ok (.iload_n 3, 1) := by decide +kernel
theorem dX2_walkFrom_47 : decode cX2_walkFrom 47 = .ok (.invokevirtual 67, 3) := by decide +kernel
theorem dX2_walkFrom_50 : decode cX2_walkFrom 50 = .ok (.istore_n 3, 1) := by decide +kernel
theorem dX2_walkFrom_51 : decode cX2_walkFrom 51 = .ok (.goto 27, 3) := by decide +kernel
theorem dX2_walkFrom_54 : decode cX2_walkFrom 54 = .ok (.aload_n 0, 1) := by decide +kernel
theorem dX2_walkFrom_55 : decode cX2_walkFrom 55 = .ok (.getfield 21, 3) := by decide +kernel
theorem dX2_walkFrom_58 : decode cX2_walkFrom 58 = .ok (.iload_n 3, 1) := by decide +kernel
theorem dX2_walkFrom_59 : decode cX2_walkFrom 59 = .ok (.aload_n 1, 1) := by decide +kernel
theorem dX2_walkFrom_60 : decode cX2_walkFrom 60 = .ok (.getfield 71, 3) := by decide +kernel
theorem dX2_walkFrom_63 : decode cX2_walkFrom 63 = .ok (.iload 5, 2) := by decide +kernel
theorem dX2_walkFrom_65 : decode cX2_walkFrom 65 = .ok (.iaload, 1) := by decide +kernel
theorem dX2_walkFrom_66 : decode cX2_walkFrom 66 = .ok (.iastore, 1) := by decide +kernel
theorem dX2_walkFrom_67 : decode cX2_walkFrom 67 = .ok (.aload_n 0, 1) := by decide +kernel
theorem dX2_walkFrom_68 : decode cX2_walkFrom 68 = .ok (.aload_n 1, 1) := by decide +kernel
theorem dX2_walkFrom_69 : decode cX2_walkFrom 69 = .ok (.iload_n 3, 1) := by decide +kernel
theorem dX2_walkFrom_70 : decode cX2_walkFrom 70 = .ok (.iload 5, 2) := by decide +kernel
theorem dX2_walkFrom_72 : decode cX2_walkFrom 72 = .ok (.iconst 2, 1) := by decide +kernel
theorem dX2_walkFrom_73 : decode cX2_walkFrom 73 = .ok (.idiv, 1) := by decide +kernel
theorem dX2_walkFrom_74 : decode cX2_walkFrom 74 = .ok (.invokevirtual 72, 3) := by decide +kernel
theorem dX2_walkFrom_77 : decode cX2_walkFrom 77 = .ok (.istore_n 3, 1) := by decide +kernel
theorem dX2_walkFrom_78 : decode cX2_walkFrom 78 = .ok (.iinc 4 1, 3) := by decide +kernel
theorem dX2_walkFrom_81 : decode cX2_walkFrom 81 = .ok (.goto (-64), 3) := by decide +kernel
theorem dX2_walkFrom_84 : decode cX2_walkFrom 84 = .ok (.aload_n 0, 1) := by decide +kernel
theorem dX2_walkFrom_85 : decode cX2_walkFrom 85 = .ok (.getfield 60, 3) := by decide +kernel
theorem dX2_walkFrom_88 : decode cX2_walkFrom 88 = .ok (.iconst 1, 1) := by decide +kernel
theorem dX2_walkFrom_89 : decode cX2_walkFrom 89 = .ok (.if_icmp .le 8, 3) := by decide +kernel
theorem dX2_walkFrom_92 : decode cX2_walkFrom 92 = .ok (.aload_n 0, 1) := by decide +kernel
theorem dX2_walkFrom_93 : decode cX2_walkFrom 93 = .ok (.iload_n 2, 1) := by decide +kernel
theorem dX2_walkFrom_94 : decode cX2_walkFrom 94 = .ok (.invokevirtual 76, 3) := by decide +kernel
theorem dX2_walkFrom_97 : decode cX2_walkFrom 97 = .ok (.return_, 1) := by decide +kernel
theorem dX2_enter_0 : decode cX2_enter 0 = .ok (.aload_n 0, 1) := by decide +kernel
theorem dX2_enter_1 : decode cX2_enter 1 = .ok (.dup, 1) := by decide +kernel
theorem dX2_enter_2 : decode cX2_enter 2 = .ok (.getfield 34, 3) := by decide +kernel
theorem dX2_enter_5 : decode cX2_enter 5 = .ok (.iconst 1, 1) := by decide +kernel
theorem dX2_enter_6 : decode cX2_enter 6 = .ok (.iadd, 1) := by decide +kernel
theorem dX2_enter_7 : decode cX2_enter 7 = .ok (.putfield 34, 3) := by decide +kernel
theorem dX2_enter_10 : decode cX2_enter 10 = .ok (.aload_n 0, 1) := by decide +kernel
theorem dX2_enter_11 : decode cX2_enter 11 = .ok (.getfield 9, 3) := by decide +kernel
theorem dX2_enter_14 : decode cX2_enter 14 = .ok (.iload_n 2, 1) := by decide +kernel
theorem dX2_enter_15 : decode cX2_enter 15 = .ok (.aload_n 0, 1) := by decide +kernel
theorem dX2_enter_16 : decode cX2_enter 16 = .ok (.getfield 34, 3) := by decide +kernel
theorem dX2_enter_19 : decode cX2_enter 19 = .ok (.iastore, 1) := by decide +kernel
theorem dX2_enter_20 : decode cX2_enter 20 = .ok (.aload_n 0, 1) := by decide +kernel
theorem dX2_enter_21 : decode cX2_enter 21 = .ok (.getfield 15, 3) := by decide +kernel
theorem dX2_enter_24 : decode cX2_enter 24 = .ok (.iload_n 2, 1) := by decide +kernel
theorem dX2_enter_25 : decode cX2_enter 25 = .ok (.aload_n 0, 1) := by decide +kernel
theorem dX2_enter_26 : decode cX2_enter 26 = .ok (.getfield 34, 3) := by decide +kernel
theorem dX2_enter_29 : decode cX2_enter 29 = .ok (.iastore, 1) := by decide +kernel
theorem dX2_enter_30 : decode cX2_enter 30 = .ok (.aload_n 0, 1) := by decide +kernel
theorem dX2_enter_31 : decode cX2_enter 31 = .ok (.getfield 18, 3) := by decide +kernel
theorem dX2_enter_34 : decode cX2_enter 34 = .ok (.iload_n 2, 1) := by decide +kernel
theorem dX2_enter_35 : decode cX2_enter 35 = .ok (.iload_n 3, 1) := by decide +kernel
theorem dX2_enter_36 : decode cX2_enter 36 = .ok (.iastore, 1) := by decide +kernel
theorem dX2_enter_37 : decode cX2_enter 37 = .ok (.aload_n 0, 1) := by decide +kernel
theorem dX2_enter_38 : decode cX2_enter 38 = .ok (.getfield 24, 3) := by decide +kernel
theorem dX2_enter_41 : decode cX2_enter 41 = .ok (.iload_n 2, 1) := by decide +kernel
theorem dX2_enter_42 : decode cX2_enter 42 = .ok (.iconst 0, 1) := by decide +kernel
theorem dX2_enter_43 : decode cX2_enter 43 = .ok (.bastore, 1) := by decide +kernel
theorem dX2_enter_44 : decode cX2_enter 44 = .ok (.aload_n 0, 1) := by decide +kernel
theorem dX2_enter_45 : decode cX2_enter 45 = .ok (.getfield 21, 3) := by decide +kernel
theorem dX2_enter_48 : decode cX2_enter 48 = .ok (.iload_n 2, 1) := by decide +kernel
theorem dX2_enter_49 : decode cX2_enter 49 = .ok (.aload_n 1, 1) := by decide +kernel
theorem dX2_enter_50 : decode cX2_enter 50 = .ok (.getfield 80, 3) := by decide +kernel
theorem dX2_enter_53 : decode cX2_enter 53 = .ok (.iload_n 2, 1) := by decide +kernel
theorem dX2_enter_54 : decode cX2_enter 54 = .ok (.iaload, 1) := by decide +kernel
theorem dX2_enter_55 : decode cX2_enter 55 = .ok (.iastore, 1) := by decide +kernel
theorem dX2_enter_56 : decode cX2_enter 56 = .ok (.return_, 1) := by decide +kernel
theorem dX2_follow_0 : decode cX2_follow 0 = .ok (.iload_n 3, 1) := by decide +kernel
theorem dX2_follow_1 : decode cX2_follow 1 = .ok (.aload_n 0, 1) := by decide +kernel
theorem dX2_follow_2 : decode cX2_follow 2 = .ok (.getfield 18, 3) := by decide +kernel
theorem dX2_follow_5 : decode cX2_follow 5 = .ok (.iload_n 2, 1) := by decide +kernel
theorem dX2_follow_6 : decode cX2_follow 6 = .ok (.iaload, 1) := by decide +kernel
theorem dX2_follow_7 : decode cX2_follow 7 = .ok (.if_icmp .eq 11, 3) := by decide +kernel
theorem dX2_follow_10 : decode cX2_follow 10 = .ok (.aload_n 1, 1) := by decide +kernel
theorem dX2_follow_11 : decode cX2_follow 11 = .ok (.iload_n 3, 1) := by decide +kernel
theorem dX2_follow_12 : decode cX2_follow 12 = .ok (.invokevirtual 83, 3) := by decide +kernel
theorem dX2_follow_15 : decode cX2_follow 15 = .ok (.ifCond .ne 5, 3) := by decide +kernel
theorem dX2_follow_18 : decode cX2_follow 18 = .ok (.iload_n 2, 1) := by decide +kernel
theorem dX2_follow_19 : decode cX2_follow 19 = .ok (.ireturn, 1) := by decide +kernel
theorem dX2_follow_20 : decode cX2_follow 20 = .ok (.aload_n 1, 1) := by decide +kernel
theorem dX2_follow_21 : decode cX2_follow 21 = .ok (.iload_n 3, 1) := by decide +kernel
theorem dX2_follow_22 : decode cX2_follow 22 = .ok (.iload_n 2, 1) := by decide +kernel
theorem dX2_follow_23 : decode cX2_follow 23 = .ok (.invokevirtual 87, 3) := by decide +kernel
theorem dX2_follow_26 : decode cX2_follow 26 = .ok (.istore 4, 2) := by decide +kernel
theorem dX2_follow_28 : decode cX2_follow 28 = .ok (.aload_n 0, 1) := by decide +kernel
theorem dX2_follow_29 : decode cX2_follow 29 = .ok (.getfield 9, 3) := by decide +kernel
theorem dX2_follow_32 : decode cX2_follow 32 = .ok (.iload 4, 2) := by decide +kernel
theorem dX2_follow_34 : decode cX2_follow 34 = .ok (.iaload, 1) := by decide +kernel
theorem dX2_follow_35 : decode cX2_follow 35 = .ok (.ifCond .ne 14, 3) := by decide +kernel
theorem dX2_follow_38 : decode cX2_follow 38 = .ok (.aload_n 0, 1) := by decide +kernel
theorem dX2_follow_39 : decode cX2_follow 39 = .ok (.aload_n 1, 1) := by decide +kernel
theorem dX2_follow_40 : decode cX2_follow 40 = .ok (.iload 4, 2) := by decide +kernel
theorem dX2_follow_42 : decode cX2_follow 42 = .ok (.iload_n 3, 1) := by decide +kernel
theorem dX2_follow_43 : decode cX2_follow 43 = .ok (.invokevirtual 63, 3) := by decide +kernel
theorem dX2_follow_46 : decode cX2_follow 46 = .ok (.iload 4, 2) := by decide +kernel
theorem dX2_follow_48 : decode cX2_follow 48 = .ok (.ireturn, 1) := by decide +kernel
theorem dX2_follow_49 : decode cX2_follow 49 = .ok (.aload_n 0, 1) := by decide +kernel
theorem dX2_follow_50 : decode cX2_follow 50 = .ok (.getfield 15, 3) := by decide +kernel
theorem dX2_follow_53 : decode cX2_follow 53 = .ok (.iload_n 2, 1) := by decide +kernel
theorem dX2_follow_54 : decode cX2_follow 54 = .ok (.aload_n 0, 1) := by decide +kernel
theorem dX2_follow_55 : decode cX2_follow 55 = .ok (.getfield 15, 3) := by decide +kernel
theorem dX2_follow_58 : decode cX2_follow 58 = .ok (.iload_n 2, 1) := by decide +kernel
theorem dX2_follow_59 : decode cX2_follow 59 = .ok (.iaload, 1) := by decide +kernel
theorem dX2_follow_60 : decode cX2_follow 60 = .ok (.aload_n 0, 1) := by decide +kernel
theorem dX2_follow_61 : decode cX2_follow 61 = .ok (.getfield 9, 3) := by decide +kernel
theorem dX2_follow_64 : decode cX2_follow 64 = .ok (.iload 4, 2) := by decide +kernel
theorem dX2_follow_66 : decode cX2_follow 66 = .ok (.iaload, 1) := by decide +kernel
theorem dX2_follow_67 : decode cX2_follow 67 = .ok (.invokestatic 91, 3) := by decide +kernel
theorem dX2_follow_70 : decode cX2_follow 70 = .ok (.iastore, 1) := by decide +kernel
theorem dX2_follow_71 : decode cX2_follow 71 = .ok (.iload_n 2, 1) := by decide +kernel
theorem dX2_follow_72 : decode cX2_follow 72 = .ok (.ireturn, 1) := by decide +kernel
theorem dX2_leave_0 : decode cX2_leave 0 = .ok (.aload_n 0, 1) := by decide +kernel
theorem dX2_leave_1 : decode cX2_leave 1 = .ok (.getfield 18, 3) := by decide +kernel
theorem dX2_leave_4 : decode cX2_leave 4 = .ok (.iload_n 2, 1) := by decide +kernel
theorem dX2_leave_5 : decode cX2_leave 5 = .ok (.iaload, 1) := by decide +kernel
theorem dX2_leave_6 : decode cX2_leave 6 = .ok (.iconst (-1), 1) := by decide +kernel
theorem dX2_leave_7 : decode cX2_leave 7 = .ok (.if_icmp .ne 5, 3) := by decide +kernel
theorem dX2_leave_10 : decode cX2_leave 10 = .ok (.iconst (-1), 1) := by decide +kernel
theorem dX2_leave_11 : decode cX2_leave 11 = .ok (.ireturn, 1) := by decide +kernel
theorem dX2_leave_12 : decode cX2_leave 12 = .ok (.aload_n 1, 1) := by decide +kernel
theorem dX2_leave_13 : decode cX2_leave 13 = .ok (.aload_n 0, 1) := by decide +kernel
theorem dX2_leave_14 : decode cX2_leave 14 = .ok (.getfield 18, 3) := by decide +kernel
theorem dX2_leave_17 : decode cX2_leave 17 = .ok (.iload_n 2, 1) := by decide +kernel
theorem dX2_leave_18 : decode cX2_leave 18 = .ok (.iaload, 1) := by decide +kernel
theorem dX2_leave_19 : decode cX2_leave 19 = .ok (.iload_n 2, 1) := by decide +kernel
theorem dX2_leave_20 : decode cX2_leave 20 = .ok (.invokevirtual 87, 3) := by decide +kernel
theorem dX2_leave_23 : decode cX2_leave 23 = .ok (.istore_n 3, 1) := by decide +kernel
theorem dX2_leave_24 : decode cX2_leave 24 = .ok (.aload_n 0, 1) := by decide +kernel
theorem dX2_leave_25 : decode cX2_leave 25 = .ok (.getfield 15, 3) := by decide +kernel
theorem dX2_leave_28 : decode cX2_leave 28 = .ok (.iload_n 3, 1) := by decide +kernel
theorem dX2_leave_29 : decode cX2_leave 29 = .ok (.aload_n 0, 1) := by decide +kernel
theorem dX2_leave_30 : decode cX2_leave 30 = .ok (.getfield 15, 3) := by decide +kernel
theorem dX2_leave_33 : decode cX2_leave 33 = .ok (.iload_n 3, 1) := by decide +kernel
theorem dX2_leave_34 : decode cX2_leave 34 = .ok (.iaload, 1) := by decide +kernel
theorem dX2_leave_35 : decode cX2_leave 35 = .ok (.aload_n 0, 1) := by decide +kernel
theorem dX2_leave_36 : decode cX2_leave 36 = .ok (.getfield 15, 3) := by decide +kernel
theorem dX2_leave_39 : decode cX2_leave 39 = .ok (.iload_n 2, 1) := by decide +kernel
theorem dX2_leave_40 : decode cX2_leave 40 = .ok (.iaload, 1) := by decide +kernel
theorem dX2_leave_41 : decode cX2_leave 41 = .ok (.invokestatic 91, 3) := by decide +kernel
theorem dX2_leave_44 : decode cX2_leave 44 = .ok (.iastore, 1) := by decide +kernel
theorem dX2_leave_45 : decode cX2_leave 45 = .ok (.aload_n 0, 1) := by decide +kernel
theorem dX2_leave_46 : decode cX2_leave 46 = .ok (.getfield 15, 3) := by decide +kernel
theorem dX2_leave_49 : decode cX2_leave 49 = .ok (.iload_n 2, 1) := by decide +kernel
theorem dX2_leave_50 : decode cX2_leave 50 = .ok (.iaload, 1) := by decide +kernel
theorem dX2_leave_51 : decode cX2_leave 51 = .ok (.aload_n 0, 1) := by decide +kernel
theorem dX2_leave_52 : decode cX2_leave 52 = .ok (.getfield 9, 3) := by decide +kernel
theorem dX2_leave_55 : decode cX2_leave 55 = .ok (.iload_n 2, 1) := by decide +kernel
theorem dX2_leave_56 : decode cX2_leave 56 = .ok (.iaload, 1) := by decide +kernel
theorem dX2_leave_57 : decode cX2_leave 57 = .ok (.if_icmp .ne 13, 3) := by decide +kernel
theorem dX2_leave_60 : decode cX2_leave 60 = .ok (.aload_n 0, 1) := by decide +kernel
theorem dX2_leave_61 : decode cX2_leave 61 = .ok (.dup, 1) := by decide +kernel
theorem dX2_leave_62 : decode cX2_leave 62 = .ok (.getfield 38, 3) := by decide +kernel
theorem dX2_leave_65 : decode cX2_leave 65 = .ok (.iconst 1, 1) := by decide +kernel
theorem dX2_leave_66 : decode cX2_leave 66 = .ok (.iadd, 1) := by decide +kernel
theorem dX2_leave_67 : decode cX2_leave 67 = .ok (.putfield 38, 3) := by decide +kernel
theorem dX2_leave_70 : decode cX2_leave 70 = .ok (.aload_n 0, 1) := by decide +kernel
theorem dX2_leave_71 : decode cX2_leave 71 = .ok (.getfield 18, 3) := by decide +kernel
theorem dX2_leave_74 : decode cX2_leave 74 = .ok (.iload_n 3, 1) := by decide +kernel
theorem dX2_leave_75 : decode cX2_leave 75 = .ok (.iaload, 1) := by decide +kernel
theorem dX2_leave_76 : decode cX2_leave 76 = .ok (.iconst (-1), 1) := by decide +kernel
theorem dX2_leave_77 : decode cX2_leave 77 = .ok (.if_icmp .ne 16, 3) := by decide +kernel
theorem dX2_leave_80 : decode cX2_leave 80 = .ok (.aload_n 0, 1) := by decide +kernel
theorem dX2_leave_81 : decode cX2_leave 81 = .ok (.dup, 1) := by decide +kernel
theorem dX2_leave_82 : decode cX2_leave 82 = .ok (.getfield 60, 3) := by decide +kernel
theorem dX2_leave_85 : decode cX2_leave 85 = .ok (.iconst 1, 1) := by decide +kernel
theorem dX2_leave_86 : decode cX2_leave 86 = .ok (.iadd, 1) := by decide +kernel
theorem dX2_leave_87 : decode cX2_leave 87 = .ok (.putfield 60, 3) := by decide +kernel
theorem dX2_leave_90 : decode cX2_leave 90 = .ok (.goto 23, 3) := by decide +kernel
theorem dX2_leave_93 : decode cX2_leave 93 = .ok (.aload_n 0, 1) := by decide +kernel
theorem dX2_leave_94 : decode cX2_leave 94 = .ok (.getfield 15, 3) := by decide +kernel
theorem dX2_leave_97 : decode cX2_leave 97 = .ok (.iload_n 2, 1) := by decide +kernel
theorem dX2_leave_98 : decode cX2_leave 98 = .ok (.iaload, 1) := by decide +kernel
theorem dX2_leave_99 : decode cX2_leave 99 = .ok (.aload_n 0, 1) := by decide +kernel
theorem dX2_leave_100 : decode cX2_leave 100 = .ok (.getfield 9, 3) := by decide +kernel
theorem dX2_leave_103 : decode cX2_leave 103 = .ok (.iload_n 3, 1) := by decide +kernel
theorem dX2_leave_104 : decode cX2_leave 104 = .ok (.iaload, 1) := by decide +kernel
theorem dX2_leave_105 : decode cX2_leave 105 = .ok (.if_icmp .lt 8, 3) := by decide +kernel
theorem dX2_leave_108 : decode cX2_leave 108 = .ok (.aload_n 0, 1) := by decide +kernel
theorem dX2_leave_109 : decode cX2_leave 109 = .ok (.iload_n 3, 1) := by decide +kernel
theorem dX2_leave_110 : decode cX2_leave 110 = .ok (.invokevirtual 76, 3) := by decide +kernel
theorem dX2_leave_113 : decode cX2_leave 113 = .ok (.iload_n 3, 1) := by decide +kernel
theorem dX2_leave_114 : decode cX2_leave 114 = .ok (.ireturn, 1) := by decide +kernel
theorem dX2_markCutKnot_0 : decode cX2_markCutKnot 0 = .ok (.aload_n 0, 1) := by decide +kernel
theorem dX2_markCutKnot_1 : decode cX2_markCutKnot 1 = .ok (.getfield 24, 3) := by decide +kernel
theorem dX2_markCutKnot_4 : decode cX2_markCutKnot 4 = .ok (.iload_n 1, 1) := by decide +kernel
theorem dX2_markCutKnot_5 : decode cX2_markCutKnot 5 = .ok (.baload, 1) := by decide +kernel
theorem dX2_markCutKnot_6 : decode cX2_markCutKnot 6 = .ok (.ifCond .ne 20, 3) := by decide +kernel
theorem dX2_markCutKnot_9 : decode cX2_markCutKnot 9 = .ok (.aload_n 0, 1) := by decide +kernel
theorem dX2_markCutKnot_10 : decode cX2_markCutKnot 10 = .ok (.getfield 24, 3) := by decide +kernel
theorem dX2_markCutKnot_13 : decode cX2_markCutKnot 13 = .ok (.iload_n 1, 1) := by decide +kernel
theorem dX2_markCutKnot_14 : decode cX2_markCutKnot 14 = .ok (.iconst 1, 1) := by decide +kernel
theorem dX2_markCutKnot_15 : decode cX2_markCutKnot 15 = .ok (.bastore, 1) := by decide +kernel
theorem dX2_markCutKnot_16 : decode cX2_markCutKnot 16 = .ok (.aload_n 0, 1) := by decide +kernel
theorem dX2_markCutKnot_17 : decode cX2_markCutKnot 17 = .ok (.dup, 1) := by decide +kernel
theorem dX2_markCutKnot_18 : decode cX2_markCutKnot 18 = .ok (.getfield 41, 3) := by decide +kernel
theorem dX2_markCutKnot_21 : decode cX2_markCutKnot 21 = .ok (.iconst 1, 1) := by decide +kernel
theorem dX2_markCutKnot_22 : decode cX2_markCutKnot 22 = .ok (.iadd, 1) := by decide +kernel
theorem dX2_markCutKnot_23 : decode cX2_markCutKnot 23 = .ok (.putfield 41, 3) := by decide +kernel
theorem dX2_markCutKnot_26 : decode cX2_markCutKnot 26 = .ok (.return_, 1) := by decide +kernel
theorem dX3_init_0 : decode cX3_init 0 = .ok (.aload_n 0, 1) := by decide +kernel
theorem dX3_init_1 : decode cX3_init 1 = .ok (.invokespecial 3, 3) := by decide +kernel
theorem dX3_init_4 : decode cX3_init 4 = .ok (.aload_n 0, 1) := by decide +kernel
theorem dX3_init_5 : decode cX3_init 5 = .ok (.bipush 20, 2) := by decide +kernel
theorem dX3_init_7 : decode cX3_init 7 = .ok (.newarray .int, 2) := by decide +kernel
theorem dX3_init_9 : decode cX3_init 9 = .ok (.putfield 9, 3) := by decide +kernel
theorem dX3_init_12 : decode cX3_init 12 = .ok (.aload_n 0, 1) := by decide +kernel
theorem dX3_init_13 : decode cX3_init 13 = .ok (.bipush 20, 2) := by decide +kernel
theorem dX3_init_15 : decode cX3_init 15 = .ok (.newarray .int, 2) := by decide +kernel
theorem dX3_init_17 : decode cX3_init 17 = .ok (.putfield 15, 3) := by decide +kernel
theorem dX3_init_20 : decode cX3_init 20 = .ok (.aload_n 0, 1) := by decide +kernel
theorem dX3_init_21 : decode cX3_init 21 = .ok (.bipush 20, 2) := by decide +kernel
theorem dX3_init_23 : decode cX3_init 23 = .ok (.newarray .int, 2) := by decide +kernel
theorem dX3_init_25 : decode cX3_init 25 = .ok (.putfield 18, 3) := by decide +kernel
theorem dX3_init_28 : decode cX3_init 28 = .ok (.aload_n 0, 1) := by decide +kernel
theorem dX3_init_29 : decode cX3_init 29 = .ok (.bipush 20, 2) := by decide +kernel
theorem dX3_init_31 : decode cX3_init 31 = .ok (.newarray .long, 2) := by decide +kernel
theorem dX3_init_33 : decode cX3_init 33 = .ok (.putfield 21, 3) := by decide +kernel
theorem dX3_init_36 : decode cX3_init 36 = .ok (.return_, 1) := by decide +kernel
theorem dX3_note_0 : decode cX3_note 0 = .ok (.aload_n 0, 1) := by decide +kernel
theorem dX3_note_1 : decode cX3_note 1 = .ok (.getfield 25, 3) := by decide +kernel
theorem dX3_note_4 : decode cX3_note 4 = .ok (.bipush 20, 2) := by decide +kernel
theorem dX3_note_6 : decode cX3_note 6 = .ok (.if_icmp .ne 26, 3) := by decide +kernel
theorem dX3_note_9 : decode cX3_note 9 = .ok (.aload_n 0, 1) := by decide +kernel
theorem dX3_note_10 : decode cX3_note 10 = .ok (.aload_n 0, 1) := by decide +kernel
theorem dX3_note_11 : decode cX3_note 11 = .ok (.getfield 29, 3) := by decide +kernel
theorem dX3_note_14 : decode cX3_note 14 = .ok (.iconst 1, 1) := by decide +kernel
theorem dX3_note_15 : decode cX3_note 15 = .ok (.iadd, 1) := by decide +kernel
theorem dX3_note_16 : decode cX3_note 16 = .ok (.bipush 20, 2) := by decide +kernel
theorem dX3_note_18 : decode cX3_note 18 = .ok (.irem, 1) := by decide +kernel
theorem dX3_note_19 : decode cX3_note 19 = .ok (.putfield 29, 3) := by decide +kernel
theorem dX3_note_22 : decode cX3_note 22 = .ok (.aload_n 0, 1) := by decide +kernel
theorem dX3_note_23 : decode cX3_note 23 = .ok (.dup, 1) := by decide +kernel
theorem dX3_note_24 : decode cX3_note 24 = .ok (.getfield 25, 3) := by decide +kernel
theorem dX3_note_27 : decode cX3_note 27 = .ok (.iconst 1, 1) := by decide +kernel
theorem dX3_note_28 : decode cX3_note 28 = .ok (.isub, 1) := by decide +kernel
theorem dX3_note_29 : decode cX3_note 29 = .ok (.putfield 25, 3) := by decide +kernel
theorem dX3_note_32 : decode cX3_note 32 = .ok (.aload_n 0, 1) := by decide +kernel
theorem dX3_note_33 : decode cX3_note 33 = .ok (.getfield 29, 3) := by decide +kernel
theorem dX3_note_36 : decode cX3_note 36 = .ok (.aload_n 0, 1) := by decide +kernel
theorem dX3_note_37 : decode cX3_note 37 = .ok (.getfield 25, 3) := by decide +kernel
theorem dX3_note_40 : decode cX3_note 40 = .ok (.iadd, 1) := by decide +kernel
theorem dX3_note_41 : decode cX3_note 41 = .ok (.bipush 20, 2) := by decide +kernel
theorem dX3_note_43 : decode cX3_note 43 = .ok (.irem, 1) := by decide +kernel
theorem dX3_note_44 : decode cX3_note 44 = .ok (.istore 6, 2) := by decide +kernel
theorem dX3_note_46 : decode cX3_note 46 = .ok (.aload_n 0, 1) := by decide +kernel
theorem dX3_note_47 : decode cX3_note 47 = .ok (.getfield 9, 3) := by decide +kernel
theorem dX3_note_50 : decode cX3_note 50 = .ok (.iload 6, 2) := by decide +kernel
theorem dX3_note_52 : decode cX3_note 52 = .ok (.iload_n 1, 1) := by decide +kernel
theorem dX3_note_53 : decode cX3_note 53 = .ok (.iastore, 1) := by decide +kernel
theorem dX3_note_54 : decode cX3_note 54 = .ok (.aload_n 0, 1) := by decide +kernel
theorem dX3_note_55 : decode cX3_note 55 = .ok (.getfield 15, 3) := by decide +kernel
theorem dX3_note_58 : decode cX3_note 58 = .ok (.iload 6, 2) := by decide +kernel
theorem dX3_note_60 : decode cX3_note 60 = .ok (.iload_n 2, 1) := by decide +kernel
theorem dX3_note_61 : decode cX3_note 61 = .ok (.iastore, 1) := by decide +kernel
theorem dX3_note_62 : decode cX3_note 62 = .ok (.aload_n 0, 1) := by decide +kernel
theorem dX3_note_63 : decode cX3_note 63 = .ok (.getfield 18, 3) := by decide +kernel
theorem dX3_note_66 : decode cX3_note 66 = .ok (.iload 6, 2) := by decide +kernel
theorem dX3_note_68 : decode cX3_note 68 = .ok (.iload_n 3, 1) := by decide +kernel
theorem dX3_note_69 : decode cX3_note 69 = .ok (.iastore, 1) := by decide +kernel
theorem dX3_note_70 : decode cX3_note 70 = .ok (.aload_n 0, 1) := by decide +kernel
theorem dX3_note_71 : decode cX3_note 71 = .ok (.getfield 21, 3) := by decide +kernel
theorem dX3_note_74 : decode cX3_note 74 = .ok (.iload 6, 2) := by decide +kernel
theorem dX3_note_76 : decode cX3_note 76 = .ok (.lload 4, 2) := by decide +kernel
theorem dX3_note_78 : decode cX3_note 78 = .ok (.lastore, 1) := by decide +kernel
theorem dX3_note_79 : decode cX3_note 79 = .ok (.aload_n 0, 1) := by decide +kernel
theorem dX3_note_80 : decode cX3_note 80 = .ok (.dup, 1) := by decide +kernel
theorem dX3_note_81 : decode cX3_note 81 = .ok (.getfield 25, 3) := by decide +kernel
theorem dX3_note_84 : decode cX3_note 84 = .ok (.iconst 1, 1) := by decide +kernel
theorem dX3_note_85 : decode cX3_note 85 = .ok (.iadd, 1) := by decide +kernel
theorem dX3_note_86 : decode cX3_note 86 = .ok (.putfield 25, 3) := by decide +kernel
theorem dX3_note_89 : decode cX3_note 89 = .ok (.return_, 1) := by decide +kernel
theorem dX3_takeLatest_0 : decode cX3_takeLatest 0 = .ok (.aload_n 0, 1) := by decide +kernel
theorem dX3_takeLatest_1 : decode cX3_takeLatest 1 = .ok (.getfield 25, 3) := by decide +kernel
theorem dX3_takeLatest_4 : decode cX3_takeLatest 4 = .ok (.ifCond .ne 5, 3) := by decide +kernel
theorem dX3_takeLatest_7 : decode cX3_takeLatest 7 = .ok (.iconst (-1), 1) := by decide +kernel
theorem dX3_takeLatest_8 : decode cX3_takeLatest 8 = .ok (.ireturn, 1) := by decide +kernel
theorem dX3_takeLatest_9 : decode cX3_takeLatest 9 = .ok (.aload_n 0, 1) := by decide +kernel
theorem dX3_takeLatest_10 : decode cX3_takeLatest 10 = .ok (.dup, 1) := by decide +kernel
theorem dX3_takeLatest_11 : decode cX3_takeLatest 11 = .ok (.getfield 25, 3) := by decide +kernel
theorem dX3_takeLatest_14 : decode cX3_takeLatest 14 = .ok (.iconst 1, 1) := by decide +kernel
