theorem dX7_rootOf_24 : decode cX7_rootOf 24 = .ok (.ifCond .eq 25, 3) := by decide +kernel
theorem dX7_rootOf_27 : decode cX7_rootOf 27 = .ok (.iload_n 2, 1) := by decide +kernel
theorem dX7_rootOf_28 : decode cX7_rootOf 28 = .ok (.iconst (-1), 1) := by decide +kernel
theorem dX7_rootOf_29 : decode cX7_rootOf 29 = .ok (.if_icmp .eq 18, 3) := by decide +kernel
theorem dX7_rootOf_32 : decode cX7_rootOf 32 = .ok (.aload_n 0, 1) := by decide +kernel
theorem dX7_rootOf_33 : decode cX7_rootOf 33 = .ok (.getfield 13, 3) := by decide +kernel
theorem dX7_rootOf_36 : decode cX7_rootOf 36 = .ok (.iload_n 3, 1) := by decide +kernel
theorem dX7_rootOf_37 : decode cX7_rootOf 37 = .ok (.iaload, 1) := by decide +kernel
theorem dX7_rootOf_38 : decode cX7_rootOf 38 = .ok (.aload_n 0, 1) := by decide +kernel
theorem dX7_rootOf_39 : decode cX7_rootOf 39 = .ok (.getfield 13, 3) := by decide +kernel
theorem dX7_rootOf_42 : decode cX7_rootOf 42 = .ok (.iload_n 2, 1) := by decide +kernel
theorem dX7_rootOf_43 : decode cX7_rootOf 43 = .ok (.iaload, 1) := by decide +kernel
theorem dX7_rootOf_44 : decode cX7_rootOf 44 = .ok (.if_icmp .le 5, 3) := by decide +kernel
theorem dX7_rootOf_47 : decode cX7_rootOf 47 = .ok (.iload_n 3, 1) := by decide +kernel
theorem dX7_rootOf_48 : decode cX7_rootOf 48 = .ok (.istore_n 2, 1) := by decide +kernel
theorem dX7_rootOf_49 : decode cX7_rootOf 49 = .ok (.iinc 3 1, 3) := by decide +kernel
theorem dX7_rootOf_52 : decode cX7_rootOf 52 = .ok (.goto (-42), 3) := by decide +kernel
theorem dX7_rootOf_55 : decode cX7_rootOf 55 = .ok (.iload_n 2, 1) := by decide +kernel
theorem dX7_rootOf_56 : decode cX7_rootOf 56 = .ok (.ireturn, 1) := by decide +kernel
theorem dX7_knot_0 : decode cX7_knot 0 = .ok (.aload_n 0, 1) := by decide +kernel
theorem dX7_knot_1 : decode cX7_knot 1 = .ok (.getfield 84, 3) := by decide +kernel
theorem dX7_knot_4 : decode cX7_knot 4 = .ok (.bipush 100, 2) := by decide +kernel
theorem dX7_knot_6 : decode cX7_knot 6 = .ok (.if_icmp .ne 6, 3) := by decide +kernel
theorem dX7_knot_9 : decode cX7_knot 9 = .ok (.bipush (-4), 2) := by decide +kernel
theorem dX7_knot_11 : decode cX7_knot 11 = .ok (.ireturn, 1) := by decide +kernel
theorem dX7_knot_12 : decode cX7_knot 12 = .ok (.aload_n 0, 1) := by decide +kernel
theorem dX7_knot_13 : decode cX7_knot 13 = .ok (.getfield 7, 3) := by decide +kernel
theorem dX7_knot_16 : decode cX7_knot 16 = .ok (.aload_n 0, 1) := by decide +kernel
theorem dX7_knot_17 : decode cX7_knot 17 = .ok (.getfield 84, 3) := by decide +kernel
theorem dX7_knot_20 : decode cX7_knot 20 = .ok (.lload_n 1, 1) := by decide +kernel
theorem dX7_knot_21 : decode cX7_knot 21 = .ok (.lastore, 1) := by decide +kernel
theorem dX7_knot_22 : decode cX7_knot 22 = .ok (.aload_n 0, 1) := by decide +kernel
theorem dX7_knot_23 : decode cX7_knot 23 = .ok (.getfield 13, 3) := by decide +kernel
theorem dX7_knot_26 : decode cX7_knot 26 = .ok (.aload_n 0, 1) := by decide +kernel
theorem dX7_knot_27 : decode cX7_knot 27 = .ok (.getfield 84, 3) := by decide +kernel
theorem dX7_knot_30 : decode cX7_knot 30 = .ok (.iconst 0, 1) := by decide +kernel
theorem dX7_knot_31 : decode cX7_knot 31 = .ok (.iastore, 1) := by decide +kernel
theorem dX7_knot_32 : decode cX7_knot 32 = .ok (.aload_n 0, 1) := by decide +kernel
theorem dX7_knot_33 : decode cX7_knot 33 = .ok (.iconst 0, 1) := by decide +kernel
theorem dX7_knot_34 : decode cX7_knot 34 = .ok (.putfield 97, 3) := by decide +kernel
theorem dX7_knot_37 : decode cX7_knot 37 = .ok (.aload_n 0, 1) := by decide +kernel
theorem dX7_knot_38 : decode cX7_knot 38 = .ok (.dup, 1) := by decide +kernel
theorem dX7_knot_39 : decode cX7_knot 39 = .ok (.getfield 84, 3) := by decide +kernel
theorem dX7_knot_42 : decode cX7_knot 42 = .ok (.dup_x1, 1) := by decide +kernel
theorem dX7_knot_43 : decode cX7_knot 43 = .ok (.iconst 1, 1) := by decide +kernel
theorem dX7_knot_44 : decode cX7_knot 44 = .ok (.iadd, 1) := by decide +kernel
theorem dX7_knot_45 : decode cX7_knot 45 = .ok (.putfield 84, 3) := by decide +kernel
theorem dX7_knot_48 : decode cX7_knot 48 = .ok (.ireturn, 1) := by decide +kernel
theorem dX7_kind_0 : decode cX7_kind 0 = .ok (.iload_n 1, 1) := by decide +kernel
theorem dX7_kind_1 : decode cX7_kind 1 = .ok (.ifCond .lt 8, 3) := by decide +kernel
theorem dX7_kind_4 : decode cX7_kind 4 = .ok (.iload_n 1, 1) := by decide +kernel
theorem dX7_kind_5 : decode cX7_kind 5 = .ok (.iconst 2, 1) := by decide +kernel
theorem dX7_kind_6 : decode cX7_kind 6 = .ok (.if_icmp .le 6, 3) := by decide +kernel
theorem dX7_kind_9 : decode cX7_kind 9 = .ok (.bipush (-2), 2) := by decide +kernel
theorem dX7_kind_11 : decode cX7_kind 11 = .ok (.ireturn, 1) := by decide +kernel
theorem dX7_kind_12 : decode cX7_kind 12 = .ok (.aload_n 0, 1) := by decide +kernel
theorem dX7_kind_13 : decode cX7_kind 13 = .ok (.getfield 88, 3) := by decide +kernel
theorem dX7_kind_16 : decode cX7_kind 16 = .ok (.ifCond .le 6, 3) := by decide +kernel
theorem dX7_kind_19 : decode cX7_kind 19 = .ok (.bipush (-3), 2) := by decide +kernel
theorem dX7_kind_21 : decode cX7_kind 21 = .ok (.ireturn, 1) := by decide +kernel
theorem dX7_kind_22 : decode cX7_kind 22 = .ok (.aload_n 0, 1) := by decide +kernel
theorem dX7_kind_23 : decode cX7_kind 23 = .ok (.getfield 126, 3) := by decide +kernel
theorem dX7_kind_26 : decode cX7_kind 26 = .ok (.istore_n 2, 1) := by decide +kernel
theorem dX7_kind_27 : decode cX7_kind 27 = .ok (.aload_n 0, 1) := by decide +kernel
theorem dX7_kind_28 : decode cX7_kind 28 = .ok (.iload_n 1, 1) := by decide +kernel
theorem dX7_kind_29 : decode cX7_kind 29 = .ok (.putfield 126, 3) := by decide +kernel
theorem dX7_kind_32 : decode cX7_kind 32 = .ok (.iload_n 2, 1) := by decide +kernel
theorem dX7_kind_33 : decode cX7_kind 33 = .ok (.ireturn, 1) := by decide +kernel
theorem dX7_edge_0 : decode cX7_edge 0 = .ok (.aload_n 0, 1) := by decide +kernel
theorem dX7_edge_1 : decode cX7_edge 1 = .ok (.iload_n 1, 1) := by decide +kernel
theorem dX7_edge_2 : decode cX7_edge 2 = .ok (.invokevirtual 129, 3) := by decide +kernel
theorem dX7_edge_5 : decode cX7_edge 5 = .ok (.ifCond .eq 16, 3) := by decide +kernel
theorem dX7_edge_8 : decode cX7_edge 8 = .ok (.aload_n 0, 1) := by decide +kernel
theorem dX7_edge_9 : decode cX7_edge 9 = .ok (.iload_n 2, 1) := by decide +kernel
theorem dX7_edge_10 : decode cX7_edge 10 = .ok (.invokevirtual 129, 3) := by decide +kernel
theorem dX7_edge_13 : decode cX7_edge 13 = .ok (.ifCond .eq 8, 3) := by decide +kernel
theorem dX7_edge_16 : decode cX7_edge 16 = .ok (.iload_n 1, 1) := by decide +kernel
theorem dX7_edge_17 : decode cX7_edge 17 = .ok (.iload_n 2, 1) := by decide +kernel
theorem dX7_edge_18 : decode cX7_edge 18 = .ok (.if_icmp .ne 6, 3) := by decide +kernel
theorem dX7_edge_21 : decode cX7_edge 21 = .ok (.bipush (-2), 2) := by decide +kernel
theorem dX7_edge_23 : decode cX7_edge 23 = .ok (.ireturn, 1) := by decide +kernel
theorem dX7_edge_24 : decode cX7_edge 24 = .ok (.aload_n 0, 1) := by decide +kernel
theorem dX7_edge_25 : decode cX7_edge 25 = .ok (.getfield 88, 3) := by decide +kernel
theorem dX7_edge_28 : decode cX7_edge 28 = .ok (.sipush 300, 3) := by decide +kernel
theorem dX7_edge_31 : decode cX7_edge 31 = .ok (.if_icmp .ne 6, 3) := by decide +kernel
theorem dX7_edge_34 : decode cX7_edge 34 = .ok (.bipush (-4), 2) := by decide +kernel
theorem dX7_edge_36 : decode cX7_edge 36 = .ok (.ireturn, 1) := by decide +kernel
theorem dX7_edge_37 : decode cX7_edge 37 = .ok (.aload_n 0, 1) := by decide +kernel
theorem dX7_edge_38 : decode cX7_edge 38 = .ok (.iload_n 1, 1) := by decide +kernel
theorem dX7_edge_39 : decode cX7_edge 39 = .ok (.iload_n 2, 1) := by decide +kernel
theorem dX7_edge_40 : decode cX7_edge 40 = .ok (.invokevirtual 133, 3) := by decide +kernel
theorem dX7_edge_43 : decode cX7_edge 43 = .ok (.istore 5, 2) := by decide +kernel
theorem dX7_edge_45 : decode cX7_edge 45 = .ok (.aload_n 0, 1) := by decide +kernel
theorem dX7_edge_46 : decode cX7_edge 46 = .ok (.getfield 126, 3) := by decide +kernel
theorem dX7_edge_49 : decode cX7_edge 49 = .ok (.ifCond .ne 11, 3) := by decide +kernel
theorem dX7_edge_52 : decode cX7_edge 52 = .ok (.iload 5, 2) := by decide +kernel
theorem dX7_edge_54 : decode cX7_edge 54 = .ok (.ifCond .eq 6, 3) := by decide +kernel
theorem dX7_edge_57 : decode cX7_edge 57 = .ok (.bipush (-3), 2) := by decide +kernel
theorem dX7_edge_59 : decode cX7_edge 59 = .ok (.ireturn, 1) := by decide +kernel
theorem dX7_edge_60 : decode cX7_edge 60 = .ok (.aload_n 0, 1) := by decide +kernel
theorem dX7_edge_61 : decode cX7_edge 61 = .ok (.invokevirtual 136, 3) := by decide +kernel
theorem dX7_edge_64 : decode cX7_edge 64 = .ok (.aload_n 0, 1) := by decide +kernel
theorem dX7_edge_65 : decode cX7_edge 65 = .ok (.getfield 88, 3) := by decide +kernel
theorem dX7_edge_68 : decode cX7_edge 68 = .ok (.istore 6, 2) := by decide +kernel
theorem dX7_edge_70 : decode cX7_edge 70 = .ok (.aload_n 0, 1) := by decide +kernel
theorem dX7_edge_71 : decode cX7_edge 71 = .ok (.getfield 17, 3) := by decide +kernel
theorem dX7_edge_74 : decode cX7_edge 74 = .ok (.iload 6, 2) := by decide +kernel
theorem dX7_edge_76 : decode cX7_edge 76 = .ok (.iload_n 1, 1) := by decide +kernel
theorem dX7_edge_77 : decode cX7_edge 77 = .ok (.iastore, 1) := by decide +kernel
theorem dX7_edge_78 : decode cX7_edge 78 = .ok (.aload_n 0, 1) := by decide +kernel
theorem dX7_edge_79 : decode cX7_edge 79 = .ok (.getfield 20, 3) := by decide +kernel
theorem dX7_edge_82 : decode cX7_edge 82 = .ok (.iload 6, 2) := by decide +kernel
theorem dX7_edge_84 : decode cX7_edge 84 = .ok (.iload_n 2, 1) := by decide +kernel
theorem dX7_edge_85 : decode cX7_edge 85 = .ok (.iastore, 1) := by decide +kernel
theorem dX7_edge_86 : decode cX7_edge 86 = .ok (.aload_n 0, 1) := by decide +kernel
theorem dX7_edge_87 : decode cX7_edge 87 = .ok (.getfield 29, 3) := by decide +kernel
theorem dX7_edge_90 : decode cX7_edge 90 = .ok (.iload 6, 2) := by decide +kernel
theorem dX7_edge_92 : decode cX7_edge 92 = .ok (.lload_n 3, 1) := by decide +kernel
theorem dX7_edge_93 : decode cX7_edge 93 = .ok (.lastore, 1) := by decide +kernel
theorem dX7_edge_94 : decode cX7_edge 94 = .ok (.aload_n 0, 1) := by decide +kernel
theorem dX7_edge_95 : decode cX7_edge 95 = .ok (.getfield 26, 3) := by decide +kernel
theorem dX7_edge_98 : decode cX7_edge 98 = .ok (.iload 6, 2) := by decide +kernel
theorem dX7_edge_100 : decode cX7_edge 100 = .ok (.iconst 0, 1) := by decide +kernel
theorem dX7_edge_101 : decode cX7_edge 101 = .ok (.iastore, 1) := by decide +kernel
theorem dX7_edge_102 : decode cX7_edge 102 = .ok (.aload_n 0, 1) := by decide +kernel
theorem dX7_edge_103 : decode cX7_edge 103 = .ok (.getfield 23, 3) := by decide +kernel
theorem dX7_edge_106 : decode cX7_edge 106 = .ok (.iload 6, 2) := by decide +kernel
theorem dX7_edge_108 : decode cX7_edge 108 = .ok (.iconst 0, 1) := by decide +kernel
theorem dX7_edge_109 : decode cX7_edge 109 = .ok (.iastore, 1) := by decide +kernel
theorem dX7_edge_110 : decode cX7_edge 110 = .ok (.aload_n 0, 1) := by decide +kernel
theorem dX7_edge_111 : decode cX7_edge 111 = .ok (.dup, 1) := by decide +kernel
theorem dX7_edge_112 : decode cX7_edge 112 = .ok (.getfield 88, 3) := by decide +kernel
theorem dX7_edge_115 : decode cX7_edge 115 = .ok (.iconst 1, 1) := by decide +kernel
theorem dX7_edge_116 : decode cX7_edge 116 = .ok (.iadd, 1) := by decide +kernel
theorem dX7_edge_117 : decode cX7_edge 117 = .ok (.putfield 88, 3) := by decide +kernel
theorem dX7_edge_120 : decode cX7_edge 120 = .ok (.iload 5, 2) := by decide +kernel
theorem dX7_edge_122 : decode cX7_edge 122 = .ok (.ifCond .ne 14, 3) := by decide +kernel
theorem dX7_edge_125 : decode cX7_edge 125 = .ok (.aload_n 0, 1) := by decide +kernel
theorem dX7_edge_126 : decode cX7_edge 126 = .ok (.getfield 23, 3) := by decide +kernel
theorem dX7_edge_129 : decode cX7_edge 129 = .ok (.iload 6, 2) := by decide +kernel
theorem dX7_edge_131 : decode cX7_edge 131 = .ok (.iconst 1, 1) := by decide +kernel
theorem dX7_edge_132 : decode cX7_edge 132 = .ok (.iastore, 1) := by decide +kernel
theorem dX7_edge_133 : decode cX7_edge 133 = .ok (.goto 73, 3) := by decide +kernel
theorem dX7_edge_136 : decode cX7_edge 136 = .ok (.aload_n 0, 1) := by decide +kernel
theorem dX7_edge_137 : decode cX7_edge 137 = .ok (.getfield 126, 3) := by decide +kernel
theorem dX7_edge_140 : decode cX7_edge 140 = .ok (.iconst 1, 1) := by decide +kernel
theorem dX7_edge_141 : decode cX7_edge 141 = .ok (.if_icmp .ne 14, 3) := by decide +kernel
theorem dX7_edge_144 : decode cX7_edge 144 = .ok (.aload_n 0, 1) := by decide +kernel
theorem dX7_edge_145 : decode cX7_edge 145 = .ok (.getfield 23, 3) := by decide +kernel
theorem dX7_edge_148 : decode cX7_edge 148 = .ok (.iload 6, 2) := by decide +kernel
theorem dX7_edge_150 : decode cX7_edge 150 = .ok (.iconst 2, 1) := by decide +kernel
theorem dX7_edge_151 : decode cX7_edge 151 = .ok (.iastore, 1) := by decide +kernel
theorem dX7_edge_152 : decode cX7_edge 152 = .ok (.goto 54, 3) := by decide +kernel
theorem dX7_edge_155 : decode cX7_edge 155 = .ok (.aload_n 0, 1) := by decide +kernel
theorem dX7_edge_156 : decode cX7_edge 156 = .ok (.iload_n 1, 1) := by decide +kernel
theorem dX7_edge_157 : decode cX7_edge 157 = .ok (.iload_n 2, 1) := by decide +kernel
theorem dX7_edge_158 : decode cX7_edge 158 = .ok (.invokevirtual 139, 3) := by decide +kernel
theorem dX7_edge_161 : decode cX7_edge 161 = .ok (.pop, 1) := by decide +kernel
theorem dX7_edge_162 : decode cX7_edge 162 = .ok (.aload_n 0, 1) := by decide +kernel
theorem dX7_edge_163 : decode cX7_edge 163 = .ok (.invokevirtual 142, 3) := by decide +kernel
theorem dX7_edge_166 : decode cX7_edge 166 = .ok (.istore 7, 2) := by decide +kernel
theorem dX7_edge_168 : decode cX7_edge 168 = .ok (.aload_n 0, 1) := by decide +kernel
theorem dX7_edge_169 : decode cX7_edge 169 = .ok (.iload 7, 2) := by decide +kernel
theorem dX7_edge_171 : decode cX7_edge 171 = .ok (.iload 6, 2) := by decide +kernel
theorem dX7_edge_173 : decode cX7_edge 173 = .ok (.invokevirtual 122, 3) := by decide +kernel
theorem dX7_edge_176 : decode cX7_edge 176 = .ok (.ifCond .eq 22, 3) := by decide +kernel
theorem dX7_edge_179 : decode cX7_edge 179 = .ok (.aload_n 0, 1) := by decide +kernel
theorem dX7_edge_180 : decode cX7_edge 180 = .ok (.getfield 23, 3) := by decide +kernel
theorem dX7_edge_183 : decode cX7_edge 183 = .ok (.iload 7, 2) := by decide +kernel
theorem dX7_edge_185 : decode cX7_edge 185 = .ok (.iconst 2, 1) := by decide +kernel
theorem dX7_edge_186 : decode cX7_edge 186 = .ok (.iastore, 1) := by decide +kernel
theorem dX7_edge_187 : decode cX7_edge 187 = .ok (.aload_n 0, 1) := by decide +kernel
theorem dX7_edge_188 : decode cX7_edge 188 = .ok (.getfield 23, 3) := by decide +kernel
theorem dX7_edge_191 : decode cX7_edge 191 = .ok (.iload 6, 2) := by decide +kernel
theorem dX7_edge_193 : decode cX7_edge 193 = .ok (.iconst 1, 1) := by decide +kernel
theorem dX7_edge_194 : decode cX7_edge 194 = .ok (.iastore, 1) := by decide +kernel
theorem dX7_edge_195 : decode cX7_edge 195 = .ok (.goto 11, 3) := by decide +kernel
theorem dX7_edge_198 : decode cX7_edge 198 = .ok (.aload_n 0, 1) := by decide +kernel
theorem dX7_edge_199 : decode cX7_edge 199 = .ok (.getfield 23, 3) := by decide +kernel
theorem dX7_edge_202 : decode cX7_edge 202 = .ok (.iload 6, 2) := by decide +kernel
theorem dX7_edge_204 : decode cX7_edge 204 = .ok (.iconst 2, 1) := by decide +kernel
theorem dX7_edge_205 : decode cX7_edge 205 = .ok (.iastore, 1) := by decide +kernel
theorem dX7_edge_206 : decode cX7_edge 206 = .ok (.iload 6, 2) := by decide +kernel
theorem dX7_edge_208 : decode cX7_edge 208 = .ok (.ireturn, 1) := by decide +kernel
theorem dX7_goes_0 : decode cX7_goes 0 = .ok (.aload_n 0, 1) := by decide +kernel
theorem dX7_goes_1 : decode cX7_goes 1 = .ok (.getfield 23, 3) := by decide +kernel
theorem dX7_goes_4 : decode cX7_goes 4 = .ok (.iload_n 1, 1) := by decide +kernel
theorem dX7_goes_5 : decode cX7_goes 5 = .ok (.iaload, 1) := by decide +kernel
theorem dX7_goes_6 : decode cX7_goes 6 = .ok (.iconst 1, 1) := by decide +kernel
theorem dX7_goes_7 : decode cX7_goes 7 = .ok (.if_icmp .ne 7, 3) := by decide +kernel
theorem dX7_goes_10 : decode cX7_goes 10 = .ok (.iconst 1, 1) := by decide +kernel
theorem dX7_goes_11 : decode cX7_goes 11 = .ok (.goto 4, 3) := by decide +kernel
theorem dX7_goes_14 : decode cX7_goes 14 = .ok (.iconst 0, 1) := by decide +kernel
theorem dX7_goes_15 : decode cX7_goes 15 = .ok (.istore_n 2, 1) := by decide +kernel
theorem dX7_goes_16 : decode cX7_goes 16 = .ok (.aload_n 0, 1) := by decide +kernel
theorem dX7_goes_17 : decode cX7_goes 17 = .ok (.getfield 23, 3) := by decide +kernel
theorem dX7_goes_20 : decode cX7_goes 20 = .ok (.iload_n 1, 1) := by decide +kernel
theorem dX7_goes_21 : decode cX7_goes 21 = .ok (.iconst 0, 1) := by decide +kernel
theorem dX7_goes_22 : decode cX7_goes 22 = .ok (.iastore, 1) := by decide +kernel
theorem dX7_goes_23 : decode cX7_goes 23 = .ok (.iload_n 2, 1) := by decide +kernel
theorem dX7_goes_24 : decode cX7_goes 24 = .ok (.ifCond .eq 10, 3) := by decide +kernel
theorem dX7_goes_27 : decode cX7_goes 27 = .ok (.aload_n 0, 1) := by decide +kernel
theorem dX7_goes_28 : decode cX7_goes 28 = .ok (.getfield 126, 3) := by decide +kernel
theorem dX7_goes_31 : decode cX7_goes 31 = .ok (.ifCond .ne 5, 3) := by decide +kernel
theorem dX7_goes_34 : decode cX7_goes 34 = .ok (.iconst (-1), 1) := by decide +kernel
theorem dX7_goes_35 : decode cX7_goes 35 = .ok (.ireturn, 1) := by decide +kernel
theorem dX7_goes_36 : decode cX7_goes 36 = .ok (.aload_n 0, 1) := by decide +kernel
theorem dX7_goes_37 : decode cX7_goes 37 = .ok (.getfield 126, 3) := by decide +kernel
theorem dX7_goes_40 : decode cX7_goes 40 = .ok (.iconst 2, 1) := by decide +kernel
theorem dX7_goes_41 : decode cX7_goes 41 = .ok (.if_icmp .ne 11, 3) := by decide +kernel
theorem dX7_goes_44 : decode cX7_goes 44 = .ok (.aload_n 0, 1) := by decide +kernel
theorem dX7_goes_45 : decode cX7_goes 45 = .ok (.iload_n 1, 1) := by decide +kernel
theorem dX7_goes_46 : decode cX7_goes 46 = .ok (.invokevirtual 146, 3) := by decide +kernel
theorem dX7_goes_49 : decode cX7_goes 49 = .ok (.goto 8, 3) := by decide +kernel
theorem dX7_goes_52 : decode cX7_goes 52 = .ok (.aload_n 0, 1) := by decide +kernel
theorem dX7_goes_53 : decode cX7_goes 53 = .ok (.iload_n 1, 1) := by decide +kernel
theorem dX7_goes_54 : decode cX7_goes 54 = .ok (.invokevirtual 149, 3) := by decide +kernel
theorem dX7_goes_57 : decode cX7_goes 57 = .ok (.ireturn, 1) := by decide +kernel
theorem dX7_lightest_0 : decode cX7_lightest 0 = .ok (.aload_n 0, 1) := by decide +kernel
theorem dX7_lightest_1 : decode cX7_lightest 1 = .ok (.aload_n 0, 1) := by decide +kernel
theorem dX7_lightest_2 : decode cX7_lightest 2 = .ok (.getfield 17, 3) := by decide +kernel
theorem dX7_lightest_5 : decode cX7_lightest 5 = .ok (.iload_n 1, 1) := by decide +kernel
theorem dX7_lightest_6 : decode cX7_lightest 6 = .ok (.iaload, 1) := by decide +kernel
theorem dX7_lightest_7 : decode cX7_lightest 7 = .ok (.iconst 0, 1) := by decide +kernel
theorem dX7_lightest_8 : decode cX7_lightest 8 = .ok (.aload_n 0, 1) := by decide +kernel
theorem dX7_lightest_9 : decode cX7_lightest 9 = .ok (.getfield 53, 3) := by decide +kernel
theorem dX7_lightest_12 : decode cX7_lightest 12 = .ok (.iconst 0, 1) := by decide +kernel
theorem dX7_lightest_13 : decode cX7_lightest 13 = .ok (.iconst (-1), 1) := by decide +kernel
theorem dX7_lightest_14 : decode cX7_lightest 14 = .ok (.iconst (-1), 1) := by decide +kernel
theorem dX7_lightest_15 : decode cX7_lightest 15 = .ok (.invokevirtual 111, 3) := by decide +kernel
theorem dX7_lightest_18 : decode cX7_lightest 18 = .ok (.pop, 1) := by decide +kernel
theorem dX7_lightest_19 : decode cX7_lightest 19 = .ok (.aload_n 0, 1) := by decide +kernel
theorem dX7_lightest_20 : decode cX7_lightest 20 = .ok (.aload_n 0, 1) := by decide +kernel
theorem dX7_lightest_21 : decode cX7_lightest 21 = .ok (.getfield 20, 3) := by decide +kernel
theorem dX7_lightest_24 : decode cX7_lightest 24 = .ok (.iload_n 1, 1) := by decide +kernel
theorem dX7_lightest_25 : decode cX7_lightest 25 = .ok (.iaload, 1) := by decide +kernel
theorem dX7_lightest_26 : decode cX7_lightest 26 = .ok (.iconst 0, 1) := by decide +kernel
theorem dX7_lightest_27 : decode cX7_lightest 27 = .ok (.aload_n 0, 1) := by decide +kernel
theorem dX7_lightest_28 : decode cX7_lightest 28 = .ok (.getfield 57, 3) := by decide +kernel
theorem dX7_lightest_31 : decode cX7_lightest 31 = .ok (.iconst 0, 1) := by decide +kernel
theorem dX7_lightest_32 : decode cX7_lightest 32 = .ok (.iconst (-1), 1) := by decide +kernel
theorem dX7_lightest_33 : decode cX7_lightest 33 = .ok (.iconst (-1), 1) := by decide +kernel
theorem dX7_lightest_34 : decode cX7_lightest 34 = .ok (.invokevirtual 111, 3) := by decide +kernel
theorem dX7_lightest_37 : decode cX7_lightest 37 = .ok (.pop, 1) := by decide +kernel
theorem dX7_lightest_38 : decode cX7_lightest 38 = .ok (.iconst (-1), 1) := by decide +kernel
theorem dX7_lightest_39 : decode cX7_lightest 39 = .ok (.istore_n 2, 1) := by decide +kernel
theorem dX7_lightest_40 : decode cX7_lightest 40 = .ok (.iconst 0, 1) := by decide +kernel
theorem dX7_lightest_41 : decode cX7_lightest 41 = .ok (.istore_n 3, 1) := by decide +kernel
theorem dX7_lightest_42 : decode cX7_lightest 42 = .ok (.iload_n 3, 1) := by decide +kernel
theorem dX7_lightest_43 : decode cX7_lightest 43 = .ok (.aload_n 0, 1) := by decide +kernel
theorem dX7_lightest_44 : decode cX7_lightest 44 = .ok (.getfield 88, 3) := by decide +kernel
theorem dX7_lightest_47 : decode cX7_lightest 47 = .ok (.if_icmp .ge 106, 3) := by decide +kernel
theorem dX7_lightest_50 : decode cX7_lightest 50 = .ok (.aload_n 0, 1) := by decide +kernel
theorem dX7_lightest_51 : decode cX7_lightest 51 = .ok (.getfield 23, 3) := by decide +kernel
theorem dX7_lightest_54 : decode cX7_lightest 54 = .ok (.iload_n 3, 1) := by decide +kernel
theorem dX7_lightest_55 : decode cX7_lightest 55 = .ok (.iaload, 1) := by decide +kernel
theorem dX7_lightest_56 : decode cX7_lightest 56 = .ok (.iconst 2, 1) := by decide +kernel
theorem dX7_lightest_57 : decode cX7_lightest 57 = .ok (.if_icmp .eq 6, 3) := by decide +kernel
theorem dX7_lightest_60 : decode cX7_lightest 60 = .ok (.goto 87, 3) := by decide +kernel
theorem dX7_lightest_63 : decode cX7_lightest 63 = .ok (.aload_n 0, 1) := by decide +kernel
theorem dX7_lightest_64 : decode cX7_lightest 64 = .ok (.getfield 53, 3) := by decide +kernel
theorem dX7_lightest_67 : decode cX7_lightest 67 = .ok (.aload_n 0, 1) := by decide +kernel
theorem dX7_lightest_68 : decode cX7_lightest 68 = .ok (.getfield 17, 3) := by decide +kernel
theorem dX7_lightest_71 : decode cX7_lightest 71 = .ok (.iload_n 3, 1) := by decide +kernel
theorem dX7_lightest_72 : decode cX7_lightest 72 = .ok (.iaload, 1) := by decide +kernel
theorem dX7_lightest_73 : decode cX7_lightest 73 = .ok (.baload, 1) := by decide +kernel
theorem dX7_lightest_74 : decode cX7_lightest 74 = .ok (.ifCond .eq 17, 3) := by decide +kernel
theorem dX7_lightest_77 : decode cX7_lightest 77 = .ok (.aload_n 0, 1) := by decide +kernel
theorem dX7_lightest_78 : decode cX7_lightest 78 = .ok (.getfield 57, 3) := by decide +kernel
theorem dX7_lightest_81 : decode cX7_lightest 81 = .ok (.aload_n 0, 1) := by decide +kernel
theorem dX7_lightest_82 : decode cX7_lightest 82 = .ok (.getfield 20, 3) := by decide +kernel
theorem dX7_lightest_85 : decode cX7_lightest 85 = .ok (.iload_n 3, 1) := by decide +kernel
theorem dX7_lightest_86 : decode cX7_lightest 86 = .ok (.iaload, 1) := by decide +kernel
theorem dX7_lightest_87 : decode cX7_lightest 87 = .ok (.baload, 1) := by decide +kernel
theorem dX7_lightest_88 : decode cX7_lightest 88 = .ok (.ifCond .ne 31, 3) := by decide +kernel
theorem dX7_lightest_91 : decode cX7_lightest 91 = .ok (.aload_n 0, 1) := by decide +kernel
theorem dX7_lightest_92 : decode cX7_lightest 92 = .ok (.getfield 53, 3) := by decide +kernel
theorem dX7_lightest_95 : decode cX7_lightest 95 = .ok (.aload_n 0, 1) := by decide +kernel
theorem dX7_lightest_96 : decode cX7_lightest 96 = .ok (.getfield 20, 3) := by decide +kernel
theorem dX7_lightest_99 : decode cX7_lightest 99 = .ok (.iload_n 3, 1) := by decide +kernel
theorem dX7_lightest_100 : decode cX7_lightest 100 = .ok (.iaload, 1) := by decide +kernel
theorem dX7_lightest_101 : decode cX7_lightest 101 = .ok (.baload, 1) := by decide +kernel
theorem dX7_lightest_102 : decode cX7_lightest 102 = .ok (.ifCond .eq 21, 3) := by decide +kernel
theorem dX7_lightest_105 : decode cX7_lightest 105 = .ok (.aload_n 0, 1) := by decide +kernel
theorem dX7_lightest_106 : decode cX7_lightest 106 = .ok (.getfield 57, 3) := by decide +kernel
theorem dX7_lightest_109 : decode cX7_lightest 109 = .ok (.aload_n 0, 1) := by decide +kernel
theorem dX7_lightest_110 : decode cX7_lightest 110 = .ok (.getfield 17, 3) := by decide +kernel
theorem dX7_lightest_113 : decode cX7_lightest 113 = .ok (.iload_n 3, 1) := by decide +kernel
theorem dX7_lightest_114 : decode cX7_lightest 114 = .ok (.iaload, 1) := by decide +kernel
theorem dX7_lightest_115 : decode cX7_lightest 115 = .ok (.baload, 1) := by decide +kernel
theorem dX7_lightest_116 : decode cX7_lightest 116 = .ok (.ifCond .eq 7, 3) := by decide +kernel
theorem dX7_lightest_119 : decode cX7_lightest 119 = .ok (.iconst 1, 1) := by decide +kernel
theorem dX7_lightest_120 : decode cX7_lightest 120 = .ok (.goto 4, 3) := by decide +kernel
theorem dX7_lightest_123 : decode cX7_lightest 123 = .ok (.iconst 0, 1) := by decide +kernel
theorem dX7_lightest_124 : decode cX7_lightest 124 = .ok (.istore 4, 2) := by decide +kernel
theorem dX7_lightest_126 : decode cX7_lightest 126 = .ok (.iload 4, 2) := by decide +kernel
theorem dX7_lightest_128 : decode cX7_lightest 128 = .ok (.ifCond .eq 19, 3) := by decide +kernel
theorem dX7_lightest_131 : decode cX7_lightest 131 = .ok (.iload_n 2, 1) := by decide +kernel
theorem dX7_lightest_132 : decode cX7_lightest 132 = .ok (.iconst (-1), 1) := by decide +kernel
theorem dX7_lightest_133 : decode cX7_lightest 133 = .ok (.if_icmp .eq 12, 3) := by decide +kernel
theorem dX7_lightest_136 : decode cX7_lightest 136 = .ok (.aload_n 0, 1) := by decide +kernel
theorem dX7_lightest_137 : decode cX7_lightest 137 = .ok (.iload_n 2, 1) := by decide +kernel
theorem dX7_lightest_138 : decode cX7_lightest 138 = .ok (.iload_n 3, 1) := by decide +kernel
theorem dX7_lightest_139 : decode cX7_lightest 139 = .ok (.invokevirtual 122, 3) := by decide +kernel
theorem dX7_lightest_142 : decode cX7_lightest 142 = .ok (.ifCond .eq 5, 3) := by decide +kernel
theorem dX7_lightest_145 : decode cX7_lightest 145 = .ok (.iload_n 3, 1) := by decide +kernel
theorem dX7_lightest_146 : decode cX7_lightest 146 = .ok (.istore_n 2, 1) := by decide +kernel
theorem dX7_lightest_147 : decode cX7_lightest 147 = .ok (.iinc 3 1, 3) := by decide +kernel
theorem dX7_lightest_150 : decode cX7_lightest 150 = .ok (.goto (-108), 3) := by decide +kernel
theorem dX7_lightest_153 : decode cX7_lightest 153 = .ok (.iload_n 2, 1) := by decide +kernel
theorem dX7_lightest_154 : decode cX7_lightest 154 = .ok (.iconst (-1), 1) := by decide +kernel
theorem dX7_lightest_155 : decode cX7_lightest 155 = .ok (.if_icmp .eq 10, 3) := by decide +kernel
theorem dX7_lightest_158 : decode cX7_lightest 158 = .ok (.aload_n 0, 1) := by decide +kernel
theorem dX7_lightest_159 : decode cX7_lightest 159 = .ok (.getfield 23, 3) := by decide +kernel
theorem dX7_lightest_162 : decode cX7_lightest 162 = .ok (.iload_n 2, 1) := by decide +kernel
theorem dX7_lightest_163 : decode cX7_lightest 163 = .ok (.iconst 1, 1) := by decide +kernel
theorem dX7_lightest_164 : decode cX7_lightest 164 = .ok (.iastore, 1) := by decide +kernel
theorem dX7_lightest_165 : decode cX7_lightest 165 = .ok (.iload_n 2, 1) := by decide +kernel
theorem dX7_lightest_166 : decode cX7_lightest 166 = .ok (.ireturn, 1) := by decide +kernel
theorem dX7_byLevels_0 : decode cX7_byLevels 0 = .ok (.aload_n 0, 1) := by decide +kernel
theorem dX7_byLevels_1 : decode cX7_byLevels 1 = .ok (.getfield 26, 3) := by decide +kernel
theorem dX7_byLevels_4 : decode cX7_byLevels 4 = .ok (.iload_n 1, 1) := by decide +kernel
theorem dX7_byLevels_5 : decode cX7_byLevels 5 = .ok (.iaload, 1) := by decide +kernel
theorem dX7_byLevels_6 : decode cX7_byLevels 6 = .ok (.istore_n 2, 1) := by decide +kernel
theorem dX7_byLevels_7 : decode cX7_byLevels 7 = .ok (.iload_n 2, 1) := by decide +kernel
theorem dX7_byLevels_8 : decode cX7_byLevels 8 = .ok (.ifCond .lt 435, 3) := by decide +kernel
theorem dX7_byLevels_11 : decode cX7_byLevels 11 = .ok (.aload_n 0, 1) := by decide +kernel
theorem dX7_byLevels_12 : decode cX7_byLevels 12 = .ok (.aload_n 0, 1) := by decide +kernel
theorem dX7_byLevels_13 : decode cX7_byLevels 13 = .ok (.getfield 17, 3) := by decide +kernel
theorem dX7_byLevels_16 : decode cX7_byLevels 16 = .ok (.iload_n 1, 1) := by decide +kernel
theorem dX7_byLevels_17 : decode cX7_byLevels 17 = .ok (.iaload, 1) := by decide +kernel
theorem dX7_byLevels_18 : decode cX7_byLevels 18 = .ok (.iload_n 2, 1) := by decide +kernel
theorem dX7_byLevels_19 : decode cX7_byLevels 19 = .ok (.aload_n 0, 1) := by decide +kernel
theorem dX7_byLevels_20 : decode cX7_byLevels 20 = .ok (.getfield 53, 3) := by decide +kernel
theorem dX7_byLevels_23 : decode cX7_byLevels 23 = .ok (.iconst 0, 1) := by decide +kernel
theorem dX7_byLevels_24 : decode cX7_byLevels 24 = .ok (.iconst (-1), 1) := by decide +kernel
theorem dX7_byLevels_25 : decode cX7_byLevels 25 = .ok (.iconst (-1), 1) := by decide +kernel
theorem dX7_byLevels_26 : decode cX7_byLevels 26 = .ok (.invokevirtual 111, 3) := by decide +kernel
theorem dX7_byLevels_29 : decode cX7_byLevels 29 = .ok (.istore_n 3, 1) := by decide +kernel
theorem dX7_byLevels_30 : decode cX7_byLevels 30 = .ok (.aload_n 0, 1) := by decide +kernel
theorem dX7_byLevels_31 : decode cX7_byLevels 31 = .ok (.aload_n 0, 1) := by decide +kernel
theorem dX7_byLevels_32 : decode cX7_byLevels 32 = .ok (.getfield 20, 3) := by decide +kernel
theorem dX7_byLevels_35 : decode cX7_byLevels 35 = .ok (.iload_n 1, 1) := by decide +kernel
theorem dX7_byLevels_36 : decode cX7_byLevels 36 = .ok (.iaload, 1) := by decide +kernel
theorem dX7_byLevels_37 : decode cX7_byLevels 37 = .ok (.iload_n 2, 1) := by decide +kernel
theorem dX7_byLevels_38 : decode cX7_byLevels 38 = .ok (.aload_n 0, 1) := by decide +kernel
theorem dX7_byLevels_39 : decode cX7_byLevels 39 = .ok (.getfield 57, 3) := by decide +kernel
theorem dX7_byLevels_42 : decode cX7_byLevels 42 = .ok (.iconst 0, 1) := by decide +kernel
theorem dX7_byLevels_43 : decode cX7_byLevels 43 = .ok (.iconst (-1), 1) := by decide +kernel
theorem dX7_byLevels_44 : decode cX7_byLevels 44 = .ok (.iconst (-1), 1) := by decide +kernel
theorem dX7_byLevels_45 : decode cX7_byLevels 45 = .ok (.invokevirtual 111, 3) := by decide +kernel
theorem dX7_byLevels_48 : decode cX7_byLevels 48 = .ok (.istore 4, 2) := by decide +kernel
theorem dX7_byLevels_50 : decode cX7_byLevels 50 = .ok (.iload_n 3, 1) := by decide +kernel
theorem dX7_byLevels_51 : decode cX7_byLevels 51 = .ok (.iload 4, 2) := by decide +kernel
theorem dX7_byLevels_53 : decode cX7_byLevels 53 = .ok (.if_icmp .gt 7, 3) := by decide +kernel
theorem dX7_byLevels_56 : decode cX7_byLevels 56 = .ok (.iconst 1, 1) := by decide +kernel
theorem dX7_byLevels_57 : decode cX7_byLevels 57 = .ok (.goto 4, 3) := by decide +kernel
theorem dX7_byLevels_60 : decode cX7_byLevels 60 = .ok (.iconst 0, 1) := by decide +kernel
theorem dX7_byLevels_61 : decode cX7_byLevels 61 = .ok (.istore 5, 2) := by decide +kernel
theorem dX7_byLevels_63 : decode cX7_byLevels 63 = .ok (.iconst 0, 1) := by decide +kernel
theorem dX7_byLevels_64 : decode cX7_byLevels 64 = .ok (.istore 6, 2) := by decide +kernel
theorem dX7_byLevels_66 : decode cX7_byLevels 66 = .ok (.iload 6, 2) := by decide +kernel
theorem dX7_byLevels_68 : decode cX7_byLevels 68 = .ok (.aload_n 0, 1) := by decide +kernel
theorem dX7_byLevels_69 : decode cX7_byLevels 69 = .ok (.getfield 88, 3) := by decide +kernel
theorem dX7_byLevels_72 : decode cX7_byLevels 72 = .ok (.if_icmp .ge 123, 3) := by decide +kernel
theorem dX7_byLevels_75 : decode cX7_byLevels 75 = .ok (.aload_n 0, 1) := by decide +kernel
theorem dX7_byLevels_76 : decode cX7_byLevels 76 = .ok (.getfield 23, 3) := by decide +kernel
theorem dX7_byLevels_79 : decode cX7_byLevels 79 = .ok (.iload 6, 2) := by decide +kernel
theorem dX7_byLevels_81 : decode cX7_byLevels 81 = .ok (.iaload, 1) := by decide +kernel
theorem dX7_byLevels_82 : decode cX7_byLevels 82 = .ok (.iconst 1, 1) := by decide +kernel
theorem dX7_byLevels_83 : decode cX7_byLevels 83 = .ok (.if_icmp .ne 106, 3) := by decide +kernel
theorem dX7_byLevels_86 : decode cX7_byLevels 86 = .ok (.aload_n 0, 1) := by decide +kernel
theorem dX7_byLevels_87 : decode cX7_byLevels 87 = .ok (.getfield 26, 3) := by decide +kernel
theorem dX7_byLevels_90 : decode cX7_byLevels 90 = .ok (.iload 6, 2) := by decide +kernel
theorem dX7_byLevels_92 : decode cX7_byLevels 92 = .ok (.iaload, 1) := by decide +kernel
theorem dX7_byLevels_93 : decode cX7_byLevels 93 = .ok (.iload_n 2, 1) := by decide +kernel
theorem dX7_byLevels_94 : decode cX7_byLevels 94 = .ok (.if_icmp .eq 6, 3) := by decide +kernel
theorem dX7_byLevels_97 : decode cX7_byLevels 97 = .ok (.goto 92, 3) := by decide +kernel
theorem dX7_byLevels_100 : decode cX7_byLevels 100 = .ok (.iload 5, 2) := by decide +kernel
theorem dX7_byLevels_102 : decode cX7_byLevels 102 = .ok (.ifCond .eq 36, 3) := by decide +kernel
theorem dX7_byLevels_105 : decode cX7_byLevels 105 = .ok (.aload_n 0, 1) := by decide +kernel
theorem dX7_byLevels_106 : decode cX7_byLevels 106 = .ok (.getfield 53, 3) := by decide +kernel
theorem dX7_byLevels_109 : decode cX7_byLevels 109 = .ok (.aload_n 0, 1) := by decide +kernel
theorem dX7_byLevels_110 : decode cX7_byLevels 110 = .ok (.getfield 17, 3) := by decide +kernel
theorem dX7_byLevels_113 : decode cX7_byLevels 113 = .ok (.iload 6, 2) := by decide +kernel
theorem dX7_byLevels_115 : decode cX7_byLevels 115 = .ok (.iaload, 1) := by decide +kernel
theorem dX7_byLevels_116 : decode cX7_byLevels 116 = .ok (.baload, 1) := by decide +kernel
theorem dX7_byLevels_117 : decode cX7_byLevels 117 = .ok (.ifCond .eq 72, 3) := by decide +kernel
theorem dX7_byLevels_120 : decode cX7_byLevels 120 = .ok (.aload_n 0, 1) := by decide +kernel
theorem dX7_byLevels_121 : decode cX7_byLevels 121 = .ok (.getfield 53, 3) := by decide +kernel
theorem dX7_byLevels_124 : decode cX7_byLevels 124 = .ok (.aload_n 0, 1) := by decide +kernel
theorem dX7_byLevels_125 : decode cX7_byLevels 125 = .ok (.getfield 20, 3) := by decide +kernel
theorem dX7_byLevels_128 : decode cX7_byLevels 128 = .ok (.iload 6, 2) := by decide +kernel
theorem dX7_byLevels_130 : decode cX7_byLevels 130 = .ok (.iaload, 1) := by decide +kernel
theorem dX7_byLevels_131 : decode cX7_byLevels 131 = .ok (.baload, 1) := by decide +kernel
theorem dX7_byLevels_132 : decode cX7_byLevels 132 = .ok (.ifCond .eq 57, 3) := by decide +kernel
theorem dX7_byLevels_135 : decode cX7_byLevels 135 = .ok (.goto 33, 3) := by decide +kernel
theorem dX7_byLevels_138 : decode cX7_byLevels 138 = .ok (.aload_n 0, 1) := by decide +kernel
theorem dX7_byLevels_139 : decode cX7_byLevels 139 = .ok (.getfield 57, 3) := by decide +kernel
theorem dX7_byLevels_142 : decode cX7_byLevels 142 = .ok (.aload_n 0, 1) := by decide +kernel
theorem dX7_byLevels_143 : decode cX7_byLevels 143 = .ok (.getfield 17, 3) := by decide +kernel
theorem dX7_byLevels_146 : decode cX7_byLevels 146 = .ok (.iload 6, 2) := by decide +kernel
theorem dX7_byLevels_148 : decode cX7_byLevels 148 = .ok (.iaload, 1) := by decide +kernel
theorem dX7_byLevels_149 : decode cX7_byLevels 149 = .ok (.baload, 1) := by decide +kernel
theorem dX7_byLevels_150 : decode cX7_byLevels 150 = .ok (.ifCond .eq 39, 3) := by decide +kernel
theorem dX7_byLevels_153 : decode cX7_byLevels 153 = .ok (.aload_n 0, 1) := by decide +kernel
theorem dX7_byLevels_154 : decode cX7_byLevels 154 = .ok (.getfield 57, 3) := by decide +kernel
theorem dX7_byLevels_157 : decode cX7_byLevels 157 = .ok (.aload_n 0, 1) := by decide +kernel
theorem dX7_byLevels_158 : decode cX7_byLevels 158 = .ok (.getfield 20, 3) := by decide +kernel
theorem dX7_byLevels_161 : decode cX7_byLevels 161 = .ok (.iload 6, 2) := by decide +kernel
theorem dX7_byLevels_163 : decode cX7_byLevels 163 = .ok (.iaload, 1) := by decide +kernel
theorem dX7_byLevels_164 : decode cX7_byLevels 164 = .ok (.baload, 1) := by decide +kernel
theorem dX7_byLevels_165 : decode cX7_byLevels 165 = .ok (.ifCond .eq 24, 3) := by decide +kernel
theorem dX7_byLevels_168 : decode cX7_byLevels 168 = .ok (.aload_n 0, 1) := by decide +kernel
theorem dX7_byLevels_169 : decode cX7_byLevels 169 = .ok (.getfield 26, 3) := by decide +kernel
theorem dX7_byLevels_172 : decode cX7_byLevels 172 = .ok (.iload 6, 2) := by decide +kernel
theorem dX7_byLevels_174 : decode cX7_byLevels 174 = .ok (.dup2, 1) := by decide +kernel
theorem dX7_byLevels_175 : decode cX7_byLevels 175 = .ok (.iaload, 1) := by decide +kernel
theorem dX7_byLevels_176 : decode cX7_byLevels 176 = .ok (.iconst 1, 1) := by decide +kernel
theorem dX7_byLevels_177 : decode cX7_byLevels 177 = .ok (.iadd, 1) := by decide +kernel
theorem dX7_byLevels_178 : decode cX7_byLevels 178 = .ok (.iastore, 1) := by decide +kernel
theorem dX7_byLevels_179 : decode cX7_byLevels 179 = .ok (.aload_n 0, 1) := by decide +kernel
theorem dX7_byLevels_180 : decode cX7_byLevels 180 = .ok (.dup, 1) := by decide +kernel
theorem dX7_byLevels_181 : decode cX7_byLevels 181 = .ok (.getfield 94, 3) := by decide +kernel
theorem dX7_byLevels_184 : decode cX7_byLevels 184 = .ok (.iconst 1, 1) := by decide +kernel
theorem dX7_byLevels_185 : decode cX7_byLevels 185 = .ok (.iadd, 1) := by decide +kernel
theorem dX7_byLevels_186 : decode cX7_byLevels 186 = .ok (.putfield 94, 3) := by decide +kernel
theorem dX7_byLevels_189 : decode cX7_byLevels 189 = .ok (.iinc 6 1, 3) := by decide +kernel
theorem dX7_byLevels_192 : decode cX7_byLevels 192 = .ok (.goto (-126), 3) := by decide +kernel
theorem dX7_byLevels_195 : decode cX7_byLevels 195 = .ok (.iconst 0, 1) := by decide +kernel
theorem dX7_byLevels_196 : decode cX7_byLevels 196 = .ok (.istore 6, 2) := by decide +kernel
theorem dX7_byLevels_198 : decode cX7_byLevels 198 = .ok (.iload 6, 2) := by decide +kernel
theorem dX7_byLevels_200 : decode cX7_byLevels 200 = .ok (.aload_n 0, 1) := by decide +kernel
theorem dX7_byLevels_201 : decode cX7_byLevels 201 = .ok (.getfield 88, 3) := by decide +kernel
theorem dX7_byLevels_204 : decode cX7_byLevels 204 = .ok (.if_icmp .ge 233, 3) := by decide +kernel
theorem dX7_byLevels_207 : decode cX7_byLevels 207 = .ok (.aload_n 0, 1) := by decide +kernel
theorem dX7_byLevels_208 : decode cX7_byLevels 208 = .ok (.getfield 23, 3) := by decide +kernel
theorem dX7_byLevels_211 : decode cX7_byLevels 211 = .ok (.iload 6, 2) := by decide +kernel
theorem dX7_byLevels_213 : decode cX7_byLevels 213 = .ok (.iaload, 1) := by decide +kernel
theorem dX7_byLevels_214 : decode cX7_byLevels 214 = .ok (.iconst 2, 1) := by decide +kernel
theorem dX7_byLevels_215 : decode cX7_byLevels 215 = .ok (.if_icmp .ne 216, 3) := by decide +kernel
theorem dX7_byLevels_218 : decode cX7_byLevels 218 = .ok (.aload_n 0, 1) := by decide +kernel
theorem dX7_byLevels_219 : decode cX7_byLevels 219 = .ok (.getfield 26, 3) := by decide +kernel
theorem dX7_byLevels_222 : decode cX7_byLevels 222 = .ok (.iload 6, 2) := by decide +kernel
theorem dX7_byLevels_224 : decode cX7_byLevels 224 = .ok (.iaload, 1) := by decide +kernel
theorem dX7_byLevels_225 : decode cX7_byLevels 225 = .ok (.iload_n 2, 1) := by decide +kernel
theorem dX7_byLevels_226 : decode cX7_byLevels 226 = .ok (.if_icmp .eq 6, 3) := by decide +kernel
theorem dX7_byLevels_229 : decode cX7_byLevels 229 = .ok (.goto 202, 3) := by decide +kernel
theorem dX7_byLevels_232 : decode cX7_byLevels 232 = .ok (.iload 5, 2) := by decide +kernel
theorem dX7_byLevels_234 : decode cX7_byLevels 234 = .ok (.ifCond .eq 18, 3) := by decide +kernel
theorem dX7_byLevels_237 : decode cX7_byLevels 237 = .ok (.aload_n 0, 1) := by decide +kernel
theorem dX7_byLevels_238 : decode cX7_byLevels 238 = .ok (.getfield 53, 3) := by decide +kernel
theorem dX7_byLevels_241 : decode cX7_byLevels 241 = .ok (.aload_n 0, 1) := by decide +kernel
theorem dX7_byLevels_242 : decode cX7_byLevels 242 = .ok (.getfield 17, 3) := by decide +kernel
theorem dX7_byLevels_245 : decode cX7_byLevels 245 = .ok (.iload 6, 2) := by decide +kernel
theorem dX7_byLevels_247 : decode cX7_byLevels 247 = .ok (.iaload, 1) := by decide +kernel
theorem dX7_byLevels_248 : decode cX7_byLevels 248 = .ok (.baload, 1) := by decide +kernel
theorem dX7_byLevels_249 : decode cX7_byLevels 249 = .ok (.goto 15, 3) := by decide +kernel
theorem dX7_byLevels_252 : decode cX7_byLevels 252 = .ok (.aload_n 0, 1) := by decide +kernel
theorem dX7_byLevels_253 : decode cX7_byLevels 253 = .ok (.getfield 57, 3) := by decide +kernel
theorem dX7_byLevels_256 : decode cX7_byLevels 256 = .ok (.aload_n 0, 1) := by decide +kernel
theorem dX7_byLevels_257 : decode cX7_byLevels 257 = .ok (.getfield 17, 3) := by decide +kernel
theorem dX7_byLevels_260 : decode cX7_byLevels 260 = .ok (.iload 6, 2) := by decide +kernel
theorem dX7_byLevels_262 : decode cX7_byLevels 262 = .ok (.iaload, 1) := by decide +kernel
theorem dX7_byLevels_263 : decode cX7_byLevels 263 = .ok (.baload, 1) := by decide +kernel
theorem dX7_byLevels_264 : decode cX7_byLevels 264 = .ok (.istore 7, 2) := by decide +kernel
theorem dX7_byLevels_266 : decode cX7_byLevels 266 = .ok (.iload 5, 2) := by decide +kernel
theorem dX7_byLevels_268 : decode cX7_byLevels 268 = .ok (.ifCond .eq 18, 3) := by decide +kernel
theorem dX7_byLevels_271 : decode cX7_byLevels 271 = .ok (.aload_n 0, 1) := by decide +kernel
theorem dX7_byLevels_272 : decode cX7_byLevels 272 = .ok (.getfield 53, 3) := by decide +kernel
theorem dX7_byLevels_275 : decode cX7_byLevels 275 = .ok (.aload_n 0, 1) := by decide +kernel
theorem dX7_byLevels_276 : decode cX7_byLevels 276 = .ok (.getfield 20, 3) := by decide +kernel
theorem dX7_byLevels_279 : decode cX7_byLevels 279 = .ok (.iload 6, 2) := by decide +kernel
theorem dX7_byLevels_281 : decode cX7_byLevels 281 = .ok (.iaload, 1) := by decide +kernel
theorem dX7_byLevels_282 : decode cX7_byLevels 282 = .ok (.baload, 1) := by decide +kernel
theorem dX7_byLevels_283 : decode cX7_byLevels 283 = .ok (.goto 15, 3) := by decide +kernel
theorem dX7_byLevels_286 : decode cX7_byLevels 286 = .ok (.aload_n 0, 1) := by decide +kernel
theorem dX7_byLevels_287 : decode cX7_byLevels 287 = .ok (.getfield 57, 3) := by decide +kernel
theorem dX7_byLevels_290 : decode cX7_byLevels 290 = .ok (.aload_n 0, 1) := by decide +kernel
theorem dX7_byLevels_291 : decode cX7_byLevels 291 = .ok (.getfield 20, 3) := by decide +kernel
theorem dX7_byLevels_294 : decode cX7_byLevels 294 = .ok (.iload 6, 2) := by decide +kernel
theorem dX7_byLevels_296 : decode cX7_byLevels 296 = .ok (.iaload, 1) := by decide +kernel
theorem dX7_byLevels_297 : decode cX7_byLevels 297 = .ok (.baload, 1) := by decide +kernel
theorem dX7_byLevels_298 : decode cX7_byLevels 298 = .ok (.istore 8, 2) := by decide +kernel
theorem dX7_byLevels_300 : decode cX7_byLevels 300 = .ok (.iload 7, 2) := by decide +kernel
theorem dX7_byLevels_302 : decode cX7_byLevels 302 = .ok (.ifCond .eq 32, 3) := by decide +kernel
theorem dX7_byLevels_305 : decode cX7_byLevels 305 = .ok (.iload 8, 2) := by decide +kernel
theorem dX7_byLevels_307 : decode cX7_byLevels 307 = .ok (.ifCond .eq 27, 3) := by decide +kernel
theorem dX7_byLevels_310 : decode cX7_byLevels 310 = .ok (.aload_n 0, 1) := by decide +kernel
theorem dX7_byLevels_311 : decode cX7_byLevels 311 = .ok (.getfield 26, 3) := by decide +kernel
theorem dX7_byLevels_314 : decode cX7_byLevels 314 = .ok (.iload 6, 2) := by decide +kernel
theorem dX7_byLevels_316 : decode cX7_byLevels 316 = .ok (.dup2, 1) := by decide +kernel
theorem dX7_byLevels_317 : decode cX7_byLevels 317 = .ok (.iaload, 1) := by decide +kernel
theorem dX7_byLevels_318 : decode cX7_byLevels 318 = .ok (.iconst 1, 1) := by decide +kernel
theorem dX7_byLevels_319 : decode cX7_byLevels 319 = .ok (.iadd, 1) := by decide +kernel
theorem dX7_byLevels_320 : decode cX7_byLevels 320 = .ok (.iastore, 1) := by decide +kernel
theorem dX7_byLevels_321 : decode cX7_byLevels 321 = .ok (.aload_n 0, 1) := by decide +kernel
theorem dX7_byLevels_322 : decode cX7_byLevels 322 = .ok (.dup, 1) := by decide +kernel
theorem dX7_byLevels_323 : decode cX7_byLevels 323 = .ok (.getfield 94, 3) := by decide +kernel
theorem dX7_byLevels_326 : decode cX7_byLevels 326 = .ok (.iconst 1, 1) := by decide +kernel
theorem dX7_byLevels_327 : decode cX7_byLevels 327 = .ok (.iadd, 1) := by decide +kernel
theorem dX7_byLevels_328 : decode cX7_byLevels 328 = .ok (.putfield 94, 3) := by decide +kernel
theorem dX7_byLevels_331 : decode cX7_byLevels 331 = .ok (.goto 100, 3) := by decide +kernel
theorem dX7_byLevels_334 : decode cX7_byLevels 334 = .ok (.iload 7, 2) := by decide +kernel
theorem dX7_byLevels_336 : decode cX7_byLevels 336 = .ok (.ifCond .eq 41, 3) := by decide +kernel
theorem dX7_byLevels_339 : decode cX7_byLevels 339 = .ok (.iload 5, 2) := by decide +kernel
theorem dX7_byLevels_341 : decode cX7_byLevels 341 = .ok (.ifCond .eq 21, 3) := by decide +kernel
theorem dX7_byLevels_344 : decode cX7_byLevels 344 = .ok (.aload_n 0, 1) := by decide +kernel
theorem dX7_byLevels_345 : decode cX7_byLevels 345 = .ok (.getfield 57, 3) := by decide +kernel
theorem dX7_byLevels_348 : decode cX7_byLevels 348 = .ok (.aload_n 0, 1) := by decide +kernel
theorem dX7_byLevels_349 : decode cX7_byLevels 349 = .ok (.getfield 20, 3) := by decide +kernel
theorem dX7_byLevels_352 : decode cX7_byLevels 352 = .ok (.iload 6, 2) := by decide +kernel
theorem dX7_byLevels_354 : decode cX7_byLevels 354 = .ok (.iaload, 1) := by decide +kernel
theorem dX7_byLevels_355 : decode cX7_byLevels 355 = .ok (.baload, 1) := by decide +kernel
theorem dX7_byLevels_356 : decode cX7_byLevels 356 = .ok (.ifCond .eq 21, 3) := by decide +kernel
theorem dX7_byLevels_359 : decode cX7_byLevels 359 = .ok (.goto 61, 3) := by decide +kernel
theorem dX7_byLevels_362 : decode cX7_byLevels 362 = .ok (.aload_n 0, 1) := by decide +kernel
theorem dX7_byLevels_363 : decode cX7_byLevels 363 = .ok (.getfield 53, 3) := by decide +kernel
theorem dX7_byLevels_366 : decode cX7_byLevels 366 = .ok (.aload_n 0, 1) := by decide +kernel
theorem dX7_byLevels_367 : decode cX7_byLevels 367 = .ok (.getfield 20, 3) := by decide +kernel
theorem dX7_byLevels_370 : decode cX7_byLevels 370 = .ok (.iload 6, 2) := by decide +kernel
theorem dX7_byLevels_372 : decode cX7_byLevels 372 = .ok (.iaload, 1) := by decide +kernel
theorem dX7_byLevels_373 : decode cX7_byLevels 373 = .ok (.baload, 1) := by decide +kernel
theorem dX7_byLevels_374 : decode cX7_byLevels 374 = .ok (.ifCond .ne 46, 3) := by decide +kernel
theorem dX7_byLevels_377 : decode cX7_byLevels 377 = .ok (.iload 8, 2) := by decide +kernel
theorem dX7_byLevels_379 : decode cX7_byLevels 379 = .ok (.ifCond .eq 52, 3) := by decide +kernel
theorem dX7_byLevels_382 : decode cX7_byLevels 382 = .ok (.iload 5, 2) := by decide +kernel
theorem dX7_byLevels_384 : decode cX7_byLevels 384 = .ok (.ifCond .eq 21, 3) := by decide +kernel
theorem dX7_byLevels_387 : decode cX7_byLevels 387 = .ok (.aload_n 0, 1) := by decide +kernel
theorem dX7_byLevels_388 : decode cX7_byLevels 388 = .ok (.getfield 57, 3) := by decide +kernel
theorem dX7_byLevels_391 : decode cX7_byLevels 391 = .ok (.aload_n 0, 1) := by decide +kernel
theorem dX7_byLevels_392 : decode cX7_byLevels 392 = .ok (.getfield 17, 3) := by decide +kernel
theorem dX7_byLevels_395 : decode cX7_byLevels 395 = .ok (.iload 6, 2) := by decide +kernel
theorem dX7_byLevels_397 : decode cX7_byLevels 397 = .ok (.iaload, 1) := by decide +kernel
theorem dX7_byLevels_398 : decode cX7_byLevels 398 = .ok (.baload, 1) := by decide +kernel
theorem dX7_byLevels_399 : decode cX7_byLevels 399 = .ok (.ifCond .eq 32, 3) := by decide +kernel
theorem dX7_byLevels_402 : decode cX7_byLevels 402 = .ok (.goto 18, 3) := by decide +kernel
theorem dX7_byLevels_405 : decode cX7_byLevels 405 = .ok (.aload_n 0, 1) := by decide +kernel
theorem dX7_byLevels_406 : decode cX7_byLevels 406 = .ok (.getfield 53, 3) := by decide +kernel
theorem dX7_byLevels_409 : decode cX7_byLevels 409 = .ok (.aload_n 0, 1) := by decide +kernel
theorem dX7_byLevels_410 : decode cX7_byLevels 410 = .ok (.getfield 17, 3) := by decide +kernel
theorem dX7_byLevels_413 : decode cX7_byLevels 413 = .ok (.iload 6, 2) := by decide +kernel
theorem dX7_byLevels_415 : decode cX7_byLevels 415 = .ok (.iaload, 1) := by decide +kernel
theorem dX7_byLevels_416 : decode cX7_byLevels 416 = .ok (.baload, 1) := by decide +kernel
theorem dX7_byLevels_417 : decode cX7_byLevels 417 = .ok (.ifCond .eq 14, 3) := by decide +kernel
theorem dX7_byLevels_420 : decode cX7_byLevels 420 = .ok (.aload_n 0, 1) := by decide +kernel
theorem dX7_byLevels_421 : decode cX7_byLevels 421 = .ok (.getfield 23, 3) := by decide +kernel
theorem dX7_byLevels_424 : decode cX7_byLevels 424 = .ok (.iload 6, 2) := by decide +kernel
theorem dX7_byLevels_426 : decode cX7_byLevels 426 = .ok (.iconst 1, 1) := by decide +kernel
theorem dX7_byLevels_427 : decode cX7_byLevels 427 = .ok (.iastore, 1) := by decide +kernel
theorem dX7_byLevels_428 : decode cX7_byLevels 428 = .ok (.iload 6, 2) := by decide +kernel
theorem dX7_byLevels_430 : decode cX7_byLevels 430 = .ok (.ireturn, 1) := by decide +kernel
theorem dX7_byLevels_431 : decode cX7_byLevels 431 = .ok (.iinc 6 1, 3) := by decide +kernel
theorem dX7_byLevels_434 : decode cX7_byLevels 434 = .ok (.goto (-236), 3) := by decide +kernel
theorem dX7_byLevels_437 : decode cX7_byLevels 437 = .ok (.iinc 2 (-1), 3) := by decide +kernel
theorem dX7_byLevels_440 : decode cX7_byLevels 440 = .ok (.goto (-433), 3) := by decide +kernel
theorem dX7_byLevels_443 : decode cX7_byLevels 443 = .ok (.iconst (-1), 1) := by decide +kernel
theorem dX7_byLevels_444 : decode cX7_byLevels 444 = .ok (.ireturn, 1) := by decide +kernel
theorem dX7_cut_0 : decode cX7_cut 0 = .ok (.aload_n 0, 1) := by decide +kernel
theorem dX7_cut_1 : decode cX7_cut 1 = .ok (.iload_n 1, 1) := by decide +kernel
theorem dX7_cut_2 : decode cX7_cut 2 = .ok (.invokevirtual 152, 3) := by decide +kernel
theorem dX7_cut_5 : decode cX7_cut 5 = .ok (.ifCond .ne 6, 3) := by decide +kernel
theorem dX7_cut_8 : decode cX7_cut 8 = .ok (.bipush (-2), 2) := by decide +kernel
theorem dX7_cut_10 : decode cX7_cut 10 = .ok (.ireturn, 1) := by decide +kernel
theorem dX7_cut_11 : decode cX7_cut 11 = .ok (.aload_n 0, 1) := by decide +kernel
theorem dX7_cut_12 : decode cX7_cut 12 = .ok (.invokevirtual 136, 3) := by decide +kernel
theorem dX7_cut_15 : decode cX7_cut 15 = .ok (.aload_n 0, 1) := by decide +kernel
theorem dX7_cut_16 : decode cX7_cut 16 = .ok (.iload_n 1, 1) := by decide +kernel
theorem dX7_cut_17 : decode cX7_cut 17 = .ok (.invokevirtual 155, 3) := by decide +kernel
theorem dX7_cut_20 : decode cX7_cut 20 = .ok (.ireturn, 1) := by decide +kernel
theorem dX7_instead_0 : decode cX7_instead 0 = .ok (.aload_n 0, 1) := by decide +kernel
theorem dX7_instead_1 : decode cX7_instead 1 = .ok (.iload_n 1, 1) := by decide +kernel
theorem dX7_instead_2 : decode cX7_instead 2 = .ok (.invokevirtual 152, 3) := by decide +kernel
theorem dX7_instead_5 : decode cX7_instead 5 = .ok (.ifCond .ne 6, 3) := by decide +kernel
theorem dX7_instead_8 : decode cX7_instead 8 = .ok (.bipush (-2), 2) := by decide +kernel
theorem dX7_instead_10 : decode cX7_instead 10 = .ok (.ireturn, 1) := by decide +kernel
theorem dX7_instead_11 : decode cX7_instead 11 = .ok (.aload_n 0, 1) := by decide +kernel
theorem dX7_instead_12 : decode cX7_instead 12 = .ok (.getfield 23, 3) := by decide +kernel
theorem dX7_instead_15 : decode cX7_instead 15 = .ok (.iload_n 1, 1) := by decide +kernel
theorem dX7_instead_16 : decode cX7_instead 16 = .ok (.iaload, 1) := by decide +kernel
theorem dX7_instead_17 : decode cX7_instead 17 = .ok (.iconst 2, 1) := by decide +kernel
theorem dX7_instead_18 : decode cX7_instead 18 = .ok (.if_icmp .ne 5, 3) := by decide +kernel
theorem dX7_instead_21 : decode cX7_instead 21 = .ok (.iconst (-1), 1) := by decide +kernel
theorem dX7_instead_22 : decode cX7_instead 22 = .ok (.ireturn, 1) := by decide +kernel
theorem dX7_instead_23 : decode cX7_instead 23 = .ok (.aload_n 0, 1) := by decide +kernel
theorem dX7_instead_24 : decode cX7_instead 24 = .ok (.bipush 20, 2) := by decide +kernel
theorem dX7_instead_26 : decode cX7_instead 26 = .ok (.invokevirtual 104, 3) := by decide +kernel
theorem dX7_instead_29 : decode cX7_instead 29 = .ok (.aload_n 0, 1) := by decide +kernel
theorem dX7_instead_30 : decode cX7_instead 30 = .ok (.iload_n 1, 1) := by decide +kernel
theorem dX7_instead_31 : decode cX7_instead 31 = .ok (.invokevirtual 155, 3) := by decide +kernel
theorem dX7_instead_34 : decode cX7_instead 34 = .ok (.istore_n 2, 1) := by decide +kernel
theorem dX7_instead_35 : decode cX7_instead 35 = .ok (.aload_n 0, 1) := by decide +kernel
theorem dX7_instead_36 : decode cX7_instead 36 = .ok (.bipush 20, 2) := by decide +kernel
theorem dX7_instead_38 : decode cX7_instead 38 = .ok (.invokevirtual 108, 3) := by decide +kernel
theorem dX7_instead_41 : decode cX7_instead 41 = .ok (.iload_n 2, 1) := by decide +kernel
theorem dX7_instead_42 : decode cX7_instead 42 = .ok (.ireturn, 1) := by decide +kernel
theorem dX7_isBridge_0 : decode cX7_isBridge 0 = .ok (.aload_n 0, 1) := by decide +kernel
theorem dX7_isBridge_1 : decode cX7_isBridge 1 = .ok (.aload_n 0, 1) := by decide +kernel
theorem dX7_isBridge_2 : decode cX7_isBridge 2 = .ok (.getfield 17, 3) := by decide +kernel
theorem dX7_isBridge_5 : decode cX7_isBridge 5 = .ok (.iload_n 1, 1) := by decide +kernel
theorem dX7_isBridge_6 : decode cX7_isBridge 6 = .ok (.iaload, 1) := by decide +kernel
theorem dX7_isBridge_7 : decode cX7_isBridge 7 = .ok (.iconst 0, 1) := by decide +kernel
theorem dX7_isBridge_8 : decode cX7_isBridge 8 = .ok (.aload_n 0, 1) := by decide +kernel
theorem dX7_isBridge_9 : decode cX7_isBridge 9 = .ok (.getfield 53, 3) := by decide +kernel
theorem dX7_isBridge_12 : decode cX7_isBridge 12 = .ok (.iconst 1, 1) := by decide +kernel
theorem dX7_isBridge_13 : decode cX7_isBridge 13 = .ok (.iload_n 1, 1) := by decide +kernel
theorem dX7_isBridge_14 : decode cX7_isBridge 14 = .ok (.iconst (-1), 1) := by decide +kernel
theorem dX7_isBridge_15 : decode cX7_isBridge 15 = .ok (.invokevirtual 111, 3) := by decide +kernel
theorem dX7_isBridge_18 : decode cX7_isBridge 18 = .ok (.pop, 1) := by decide +kernel
theorem dX7_isBridge_19 : decode cX7_isBridge 19 = .ok (.aload_n 0, 1) := by decide +kernel
theorem dX7_isBridge_20 : decode cX7_isBridge 20 = .ok (.getfield 53, 3) := by decide +kernel
theorem dX7_isBridge_23 : decode cX7_isBridge 23 = .ok (.aload_n 0, 1) := by decide +kernel
theorem dX7_isBridge_24 : decode cX7_isBridge 24 = .ok (.getfield 20, 3) := by decide +kernel
theorem dX7_isBridge_27 : decode cX7_isBridge 27 = .ok (.iload_n 1, 1) := by decide +kernel
theorem dX7_isBridge_28 : decode cX7_isBridge 28 = .ok (.iaload, 1) := by decide +kernel
theorem dX7_isBridge_29 : decode cX7_isBridge 29 = .ok (.baload, 1) := by decide +kernel
theorem dX7_isBridge_30 : decode cX7_isBridge 30 = .ok (.ifCond .ne 7, 3) := by decide +kernel
theorem dX7_isBridge_33 : decode cX7_isBridge 33 = .ok (.iconst 1, 1) := by decide +kernel
theorem dX7_isBridge_34 : decode cX7_isBridge 34 = .ok (.goto 4, 3) := by decide +kernel
theorem dX7_isBridge_37 : decode cX7_isBridge 37 = .ok (.iconst 0, 1) := by decide +kernel
theorem dX7_isBridge_38 : decode cX7_isBridge 38 = .ok (.ireturn, 1) := by decide +kernel
theorem dX7_told_0 : decode cX7_told 0 = .ok (.iload_n 1, 1) := by decide +kernel
theorem dX7_told_1 : decode cX7_told 1 = .ok (.ifCond .lt 11, 3) := by decide +kernel
theorem dX7_told_4 : decode cX7_told 4 = .ok (.iload_n 1, 1) := by decide +kernel
theorem dX7_told_5 : decode cX7_told 5 = .ok (.aload_n 0, 1) := by decide +kernel
theorem dX7_told_6 : decode cX7_told 6 = .ok (.getfield 88, 3) := by decide +kernel
theorem dX7_told_9 : decode cX7_told 9 = .ok (.if_icmp .lt 6, 3) := by decide +kernel
theorem dX7_told_12 : decode cX7_told 12 = .ok (.bipush (-2), 2) := by decide +kernel
theorem dX7_told_14 : decode cX7_told 14 = .ok (.ireturn, 1) := by decide +kernel
theorem dX7_told_15 : decode cX7_told 15 = .ok (.iload_n 2, 1) := by decide +kernel
theorem dX7_told_16 : decode cX7_told 16 = .ok (.tableswitch 87 0 4 #[36, 43, 50, 57, 64], 36) := by decide +kernel
theorem dX7_told_52 : decode cX7_told 52 = .ok (.aload_n 0, 1) := by decide +kernel
theorem dX7_told_53 : decode cX7_told 53 = .ok (.getfield 23, 3) := by decide +kernel
theorem dX7_told_56 : decode cX7_told 56 = .ok (.iload_n 1, 1) := by decide +kernel
theorem dX7_told_57 : decode cX7_told 57 = .ok (.iaload, 1) := by decide +kernel
theorem dX7_told_58 : decode cX7_told 58 = .ok (.ireturn, 1) := by decide +kernel
theorem dX7_told_59 : decode cX7_told 59 = .ok (.aload_n 0, 1) := by decide +kernel
theorem dX7_told_60 : decode cX7_told 60 = .ok (.getfield 17, 3) := by decide +kernel
theorem dX7_told_63 : decode cX7_told 63 = .ok (.iload_n 1, 1) := by decide +kernel
theorem dX7_told_64 : decode cX7_told 64 = .ok (.iaload, 1) := by decide +kernel
theorem dX7_told_65 : decode cX7_told 65 = .ok (.ireturn, 1) := by decide +kernel
theorem dX7_told_66 : decode cX7_told 66 = .ok (.aload_n 0, 1) := by decide +kernel
theorem dX7_told_67 : decode cX7_told 67 = .ok (.getfield 20, 3) := by decide +kernel
theorem dX7_told_70 : decode cX7_told 70 = .ok (.iload_n 1, 1) := by decide +kernel
theorem dX7_told_71 : decode cX7_told 71 = .ok (.iaload, 1) := by decide +kernel
theorem dX7_told_72 : decode cX7_told 72 = .ok (.ireturn, 1) := by decide +kernel
theorem dX7_told_73 : decode cX7_told 73 = .ok (.aload_n 0, 1) := by decide +kernel
theorem dX7_told_74 : decode cX7_told 74 = .ok (.getfield 26, 3) := by decide +kernel
theorem dX7_told_77 : decode cX7_told 77 = .ok (.iload_n 1, 1) := by decide +kernel
theorem dX7_told_78 : decode cX7_told 78 = .ok (.iaload, 1) := by decide +kernel
theorem dX7_told_79 : decode cX7_told 79 = .ok (.ireturn, 1) := by decide +kernel
theorem dX7_told_80 : decode cX7_told 80 = .ok (.aload_n 0, 1) := by decide +kernel
theorem dX7_told_81 : decode cX7_told 81 = .ok (.getfield 23, 3) := by decide +kernel
theorem dX7_told_84 : decode cX7_told 84 = .ok (.iload_n 1, 1) := by decide +kernel
theorem dX7_told_85 : decode cX7_told 85 = .ok (.iaload, 1) := by decide +kernel
theorem dX7_told_86 : decode cX7_told 86 = .ok (.ifCond .eq 15, 3) := by decide +kernel
theorem dX7_told_89 : decode cX7_told 89 = .ok (.aload_n 0, 1) := by decide +kernel
theorem dX7_told_90 : decode cX7_told 90 = .ok (.iload_n 1, 1) := by decide +kernel
theorem dX7_told_91 : decode cX7_told 91 = .ok (.invokevirtual 158, 3) := by decide +kernel
theorem dX7_told_94 : decode cX7_told 94 = .ok (.ifCond .eq 7, 3) := by decide +kernel
theorem dX7_told_97 : decode cX7_told 97 = .ok (.iconst 1, 1) := by decide +kernel
theorem dX7_told_98 : decode cX7_told 98 = .ok (.goto 4, 3) := by decide +kernel
theorem dX7_told_101 : decode cX7_told 101 = .ok (.iconst 0, 1) := by decide +kernel
theorem dX7_told_102 : decode cX7_told 102 = .ok (.ireturn, 1) := by decide +kernel
theorem dX7_told_103 : decode cX7_told 103 = .ok (.bipush (-2), 2) := by decide +kernel
theorem dX7_told_105 : decode cX7_told 105 = .ok (.ireturn, 1) := by decide +kernel
theorem dX7_weight_0 : decode cX7_weight 0 = .ok (.iload_n 1, 1) := by decide +kernel
theorem dX7_weight_1 : decode cX7_weight 1 = .ok (.ifCond .lt 11, 3) := by decide +kernel
theorem dX7_weight_4 : decode cX7_weight 4 = .ok (.iload_n 1, 1) := by decide +kernel
theorem dX7_weight_5 : decode cX7_weight 5 = .ok (.aload_n 0, 1) := by decide +kernel
theorem dX7_weight_6 : decode cX7_weight 6 = .ok (.getfield 88, 3) := by decide +kernel
theorem dX7_weight_9 : decode cX7_weight 9 = .ok (.if_icmp .lt 9, 3) := by decide +kernel
theorem dX7_weight_12 : decode cX7_weight 12 = .ok (.ldc2_w 161, 3) := by decide +kernel
theorem dX7_weight_15 : decode cX7_weight 15 = .ok (.goto 9, 3) := by decide +kernel
theorem dX7_weight_18 : decode cX7_weight 18 = .ok (.aload_n 0, 1) := by decide +kernel
theorem dX7_weight_19 : decode cX7_weight 19 = .ok (.getfield 29, 3) := by decide +kernel
theorem dX7_weight_22 : decode cX7_weight 22 = .ok (.iload_n 1, 1) := by decide +kernel
theorem dX7_weight_23 : decode cX7_weight 23 = .ok (.laload, 1) := by decide +kernel
theorem dX7_weight_24 : decode cX7_weight 24 = .ok (.lreturn, 1) := by decide +kernel
theorem dX7_isCut_0 : decode cX7_isCut 0 = .ok (.aload_n 0, 1) := by decide +kernel
theorem dX7_isCut_1 : decode cX7_isCut 1 = .ok (.iload_n 1, 1) := by decide +kernel
theorem dX7_isCut_2 : decode cX7_isCut 2 = .ok (.iconst 0, 1) := by decide +kernel
theorem dX7_isCut_3 : decode cX7_isCut 3 = .ok (.aload_n 0, 1) := by decide +kernel
theorem dX7_isCut_4 : decode cX7_isCut 4 = .ok (.getfield 57, 3) := by decide +kernel
theorem dX7_isCut_7 : decode cX7_isCut 7 = .ok (.iconst 1, 1) := by decide +kernel
theorem dX7_isCut_8 : decode cX7_isCut 8 = .ok (.iconst (-1), 1) := by decide +kernel
theorem dX7_isCut_9 : decode cX7_isCut 9 = .ok (.iconst (-1), 1) := by decide +kernel
theorem dX7_isCut_10 : decode cX7_isCut 10 = .ok (.invokevirtual 111, 3) := by decide +kernel
theorem dX7_isCut_13 : decode cX7_isCut 13 = .ok (.pop, 1) := by decide +kernel
theorem dX7_isCut_14 : decode cX7_isCut 14 = .ok (.iconst (-1), 1) := by decide +kernel
theorem dX7_isCut_15 : decode cX7_isCut 15 = .ok (.istore_n 2, 1) := by decide +kernel
theorem dX7_isCut_16 : decode cX7_isCut 16 = .ok (.iconst 0, 1) := by decide +kernel
theorem dX7_isCut_17 : decode cX7_isCut 17 = .ok (.istore_n 3, 1) := by decide +kernel
theorem dX7_isCut_18 : decode cX7_isCut 18 = .ok (.iconst 0, 1) := by decide +kernel
theorem dX7_isCut_19 : decode cX7_isCut 19 = .ok (.istore 4, 2) := by decide +kernel
theorem dX7_isCut_21 : decode cX7_isCut 21 = .ok (.iload 4, 2) := by decide +kernel
theorem dX7_isCut_23 : decode cX7_isCut 23 = .ok (.aload_n 0, 1) := by decide +kernel
theorem dX7_isCut_24 : decode cX7_isCut 24 = .ok (.getfield 84, 3) := by decide +kernel
theorem dX7_isCut_27 : decode cX7_isCut 27 = .ok (.if_icmp .ge 39, 3) := by decide +kernel
theorem dX7_isCut_30 : decode cX7_isCut 30 = .ok (.aload_n 0, 1) := by decide +kernel
theorem dX7_isCut_31 : decode cX7_isCut 31 = .ok (.getfield 57, 3) := by decide +kernel
theorem dX7_isCut_34 : decode cX7_isCut 34 = .ok (.iload 4, 2) := by decide +kernel
theorem dX7_isCut_36 : decode cX7_isCut 36 = .ok (.baload, 1) := by decide +kernel
theorem dX7_isCut_37 : decode cX7_isCut 37 = .ok (.ifCond .eq 23, 3) := by decide +kernel
theorem dX7_isCut_40 : decode cX7_isCut 40 = .ok (.iload 4, 2) := by decide +kernel
theorem dX7_isCut_42 : decode cX7_isCut 42 = .ok (.iload_n 1, 1) := by decide +kernel
theorem dX7_isCut_43 : decode cX7_isCut 43 = .ok (.if_icmp .ne 6, 3) := by decide +kernel
theorem dX7_isCut_46 : decode cX7_isCut 46 = .ok (.goto 14, 3) := by decide +kernel
theorem dX7_isCut_49 : decode cX7_isCut 49 = .ok (.iload_n 2, 1) := by decide +kernel
theorem dX7_isCut_50 : decode cX7_isCut 50 = .ok (.iconst (-1), 1) := by decide +kernel
theorem dX7_isCut_51 : decode cX7_isCut 51 = .ok (.if_icmp .ne 6, 3) := by decide +kernel
theorem dX7_isCut_54 : decode cX7_isCut 54 = .ok (.iload 4, 2) := by decide +kernel
theorem dX7_isCut_56 : decode cX7_isCut 56 = .ok (.istore_n 2, 1) := by decide +kernel
theorem dX7_isCut_57 : decode cX7_isCut 57 = .ok (.iinc 3 1, 3) := by decide +kernel
theorem dX7_isCut_60 : decode cX7_isCut 60 = .ok (.iinc 4 1, 3) := by decide +kernel
theorem dX7_isCut_63 : decode cX7_isCut 63 = .ok (.goto (-42), 3) := by decide +kernel
theorem dX7_isCut_66 : decode cX7_isCut 66 = .ok (.iload_n 3, 1) := by decide +kernel
theorem dX7_isCut_67 : decode cX7_isCut 67 = .ok (.iconst 1, 1) := by decide +kernel
theorem dX7_isCut_68 : decode cX7_isCut 68 = .ok (.if_icmp .le 24, 3) := by decide +kernel
theorem dX7_isCut_71 : decode cX7_isCut 71 = .ok (.aload_n 0, 1) := by decide +kernel
theorem dX7_isCut_72 : decode cX7_isCut 72 = .ok (.iload_n 2, 1) := by decide +kernel
theorem dX7_isCut_73 : decode cX7_isCut 73 = .ok (.iconst 0, 1) := by decide +kernel
theorem dX7_isCut_74 : decode cX7_isCut 74 = .ok (.aload_n 0, 1) := by decide +kernel
theorem dX7_isCut_75 : decode cX7_isCut 75 = .ok (.getfield 53, 3) := by decide +kernel
theorem dX7_isCut_78 : decode cX7_isCut 78 = .ok (.iconst 1, 1) := by decide +kernel
theorem dX7_isCut_79 : decode cX7_isCut 79 = .ok (.iconst (-1), 1) := by decide +kernel
theorem dX7_isCut_80 : decode cX7_isCut 80 = .ok (.iload_n 1, 1) := by decide +kernel
theorem dX7_isCut_81 : decode cX7_isCut 81 = .ok (.invokevirtual 111, 3) := by decide +kernel
theorem dX7_isCut_84 : decode cX7_isCut 84 = .ok (.iload_n 3, 1) := by decide +kernel
theorem dX7_isCut_85 : decode cX7_isCut 85 = .ok (.if_icmp .ge 7, 3) := by decide +kernel
theorem dX7_isCut_88 : decode cX7_isCut 88 = .ok (.iconst 1, 1) := by decide +kernel
theorem dX7_isCut_89 : decode cX7_isCut 89 = .ok (.goto 4, 3) := by decide +kernel
theorem dX7_isCut_92 : decode cX7_isCut 92 = .ok (.iconst 0, 1) := by decide +kernel
theorem dX7_isCut_93 : decode cX7_isCut 93 = .ok (.ireturn, 1) := by decide +kernel
theorem dX7_parts_0 : decode cX7_parts 0 = .ok (.iconst 0, 1) := by decide +kernel
theorem dX7_parts_1 : decode cX7_parts 1 = .ok (.istore_n 1, 1) := by decide +kernel
theorem dX7_parts_2 : decode cX7_parts 2 = .ok (.iconst 0, 1) := by decide +kernel
theorem dX7_parts_3 : decode cX7_parts 3 = .ok (.istore_n 2, 1) := by decide +kernel
theorem dX7_parts_4 : decode cX7_parts 4 = .ok (.iload_n 2, 1) := by decide +kernel
theorem dX7_parts_5 : decode cX7_parts 5 = .ok (.aload_n 0, 1) := by decide +kernel
theorem dX7_parts_6 : decode cX7_parts 6 = .ok (.getfield 84, 3) := by decide +kernel
theorem dX7_parts_9 : decode cX7_parts 9 = .ok (.if_icmp .ge 51, 3) := by decide +kernel
theorem dX7_parts_12 : decode cX7_parts 12 = .ok (.aload_n 0, 1) := by decide +kernel
theorem dX7_parts_13 : decode cX7_parts 13 = .ok (.iload_n 2, 1) := by decide +kernel
theorem dX7_parts_14 : decode cX7_parts 14 = .ok (.invokevirtual 115, 3) := by decide +kernel
theorem dX7_parts_17 : decode cX7_parts 17 = .ok (.pop, 1) := by decide +kernel
theorem dX7_parts_18 : decode cX7_parts 18 = .ok (.iconst 1, 1) := by decide +kernel
theorem dX7_parts_19 : decode cX7_parts 19 = .ok (.istore_n 3, 1) := by decide +kernel
theorem dX7_parts_20 : decode cX7_parts 20 = .ok (.iconst 0, 1) := by decide +kernel
theorem dX7_parts_21 : decode cX7_parts 21 = .ok (.istore 4, 2) := by decide +kernel
theorem dX7_parts_23 : decode cX7_parts 23 = .ok (.iload 4, 2) := by decide +kernel
theorem dX7_parts_25 : decode cX7_parts 25 = .ok (.iload_n 2, 1) := by decide +kernel
theorem dX7_parts_26 : decode cX7_parts 26 = .ok (.if_icmp .ge 21, 3) := by decide +kernel
theorem dX7_parts_29 : decode cX7_parts 29 = .ok (.aload_n 0, 1) := by decide +kernel
theorem dX7_parts_30 : decode cX7_parts 30 = .ok (.getfield 53, 3) := by decide +kernel
theorem dX7_parts_33 : decode cX7_parts 33 = .ok (.iload 4, 2) := by decide +kernel
theorem dX7_parts_35 : decode cX7_parts 35 = .ok (.baload, 1) := by decide +kernel
theorem dX7_parts_36 : decode cX7_parts 36 = .ok (.ifCond .eq 5, 3) := by decide +kernel
theorem dX7_parts_39 : decode cX7_parts 39 = .ok (.iconst 0, 1) := by decide +kernel
theorem dX7_parts_40 : decode cX7_parts 40 = .ok (.istore_n 3, 1) := by decide +kernel
theorem dX7_parts_41 : decode cX7_parts 41 = .ok (.iinc 4 1, 3) := by decide +kernel
theorem dX7_parts_44 : decode cX7_parts 44 = .ok (.goto (-21), 3) := by decide +kernel
theorem dX7_parts_47 : decode cX7_parts 47 = .ok (.iload_n 3, 1) := by decide +kernel
theorem dX7_parts_48 : decode cX7_parts 48 = .ok (.ifCond .eq 6, 3) := by decide +kernel
theorem dX7_parts_51 : decode cX7_parts 51 = .ok (.iinc 1 1, 3) := by decide +kernel
theorem dX7_parts_54 : decode cX7_parts 54 = .ok (.iinc 2 1, 3) := by decide +kernel
theorem dX7_parts_57 : decode cX7_parts 57 = .ok (.goto (-53), 3) := by decide +kernel
theorem dX7_parts_60 : decode cX7_parts 60 = .ok (.iload_n 1, 1) := by decide +kernel
theorem dX7_parts_61 : decode cX7_parts 61 = .ok (.ireturn, 1) := by decide +kernel
theorem dX7_count_0 : decode cX7_count 0 = .ok (.iconst 0, 1) := by decide +kernel
theorem dX7_count_1 : decode cX7_count 1 = .ok (.istore_n 2, 1) := by decide +kernel
theorem dX7_count_2 : decode cX7_count 2 = .ok (.iload_n 1, 1) := by decide +kernel
theorem dX7_count_3 : decode cX7_count 3 = .ok (.tableswitch 174 0 8 #[49, 54, 59, 59, 92, 97, 135, 164, 169], 49) := by decide +kernel
theorem dX7_count_52 : decode cX7_count 52 = .ok (.aload_n 0, 1) := by decide +kernel
theorem dX7_count_53 : decode cX7_count 53 = .ok (.getfield 84, 3) := by decide +kernel
theorem dX7_count_56 : decode cX7_count 56 = .ok (.ireturn, 1) := by decide +kernel
theorem dX7_count_57 : decode cX7_count 57 = .ok (.aload_n 0, 1) := by decide +kernel
theorem dX7_count_58 : decode cX7_count 58 = .ok (.getfield 88, 3) := by decide +kernel
theorem dX7_count_61 : decode cX7_count 61 = .ok (.ireturn, 1) := by decide +kernel
theorem dX7_count_62 : decode cX7_count 62 = .ok (.iconst 0, 1) := by decide +kernel
theorem dX7_count_63 : decode cX7_count 63 = .ok (.istore_n 3, 1) := by decide +kernel
theorem dX7_count_64 : decode cX7_count 64 = .ok (.iload_n 3, 1) := by decide +kernel
theorem dX7_count_65 : decode cX7_count 65 = .ok (.aload_n 0, 1) := by decide +kernel
theorem dX7_count_66 : decode cX7_count 66 = .ok (.getfield 88, 3) := by decide +kernel
theorem dX7_count_69 : decode cX7_count 69 = .ok (.if_icmp .ge 24, 3) := by decide +kernel
theorem dX7_count_72 : decode cX7_count 72 = .ok (.aload_n 0, 1) := by decide +kernel
theorem dX7_count_73 : decode cX7_count 73 = .ok (.getfield 23, 3) := by decide +kernel
theorem dX7_count_76 : decode cX7_count 76 = .ok (.iload_n 3, 1) := by decide +kernel
theorem dX7_count_77 : decode cX7_count 77 = .ok (.iaload, 1) := by decide +kernel
theorem dX7_count_78 : decode cX7_count 78 = .ok (.iload_n 1, 1) := by decide +kernel
theorem dX7_count_79 : decode cX7_count 79 = .ok (.iconst 1, 1) := by decide +kernel
theorem dX7_count_80 : decode cX7_count 80 = .ok (.isub, 1) := by decide +kernel
theorem dX7_count_81 : decode cX7_count 81 = .ok (.if_icmp .ne 6, 3) := by decide +kernel
theorem dX7_count_84 : decode cX7_count 84 = .ok (.iinc 2 1, 3) := by decide +kernel
theorem dX7_count_87 : decode cX7_count 87 = .ok (.iinc 3 1, 3) := by decide +kernel
theorem dX7_count_90 : decode cX7_count 90 = .ok (.goto (-26), 3) := by decide +kernel
theorem dX7_count_93 : decode cX7_count 93 = .ok (.iload_n 2, 1) := by decide +kernel
theorem dX7_count_94 : decode cX7_count 94 = .ok (.ireturn, 1) := by decide +kernel
theorem dX7_count_95 : decode cX7_count 95 = .ok (.aload_n 0, 1) := by decide +kernel
theorem dX7_count_96 : decode cX7_count 96 = .ok (.invokevirtual 163, 3) := by decide +kernel
theorem dX7_count_99 : decode cX7_count 99 = .ok (.ireturn, 1) := by decide +kernel
theorem dX7_count_100 : decode cX7_count 100 = .ok (.iconst 0, 1) := by decide +kernel
theorem dX7_count_101 : decode cX7_count 101 = .ok (.istore_n 3, 1) := by decide +kernel
theorem dX7_count_102 : decode cX7_count 102 = .ok (.iload_n 3, 1) := by decide +kernel
theorem dX7_count_103 : decode cX7_count 103 = .ok (.aload_n 0, 1) := by decide +kernel
theorem dX7_count_104 : decode cX7_count 104 = .ok (.getfield 88, 3) := by decide +kernel
theorem dX7_count_107 : decode cX7_count 107 = .ok (.if_icmp .ge 29, 3) := by decide +kernel
theorem dX7_count_110 : decode cX7_count 110 = .ok (.aload_n 0, 1) := by decide +kernel
theorem dX7_count_111 : decode cX7_count 111 = .ok (.getfield 23, 3) := by decide +kernel
theorem dX7_count_114 : decode cX7_count 114 = .ok (.iload_n 3, 1) := by decide +kernel
theorem dX7_count_115 : decode cX7_count 115 = .ok (.iaload, 1) := by decide +kernel
theorem dX7_count_116 : decode cX7_count 116 = .ok (.ifCond .eq 14, 3) := by decide +kernel
theorem dX7_count_119 : decode cX7_count 119 = .ok (.aload_n 0, 1) := by decide +kernel
theorem dX7_count_120 : decode cX7_count 120 = .ok (.iload_n 3, 1) := by decide +kernel
theorem dX7_count_121 : decode cX7_count 121 = .ok (.invokevirtual 158, 3) := by decide +kernel
theorem dX7_count_124 : decode cX7_count 124 = .ok (.ifCond .eq 6, 3) := by decide +kernel
theorem dX7_count_127 : decode cX7_count 127 = .ok (.iinc 2 1, 3) := by decide +kernel
theorem dX7_count_130 : decode cX7_count 130 = .ok (.iinc 3 1, 3) := by decide +kernel
theorem dX7_count_133 : decode cX7_count 133 = .ok (.goto (-31), 3) := by decide +kernel
theorem dX7_count_136 : decode cX7_count 136 = .ok (.iload_n 2, 1) := by decide +kernel
theorem dX7_count_137 : decode cX7_count 137 = .ok (.ireturn, 1) := by decide +kernel
theorem dX7_count_138 : decode cX7_count 138 = .ok (.iconst 0, 1) := by decide +kernel
theorem dX7_count_139 : decode cX7_count 139 = .ok (.istore_n 3, 1) := by decide +kernel
theorem dX7_count_140 : decode cX7_count 140 = .ok (.iload_n 3, 1) := by decide +kernel
theorem dX7_count_141 : decode cX7_count 141 = .ok (.aload_n 0, 1) := by decide +kernel
theorem dX7_count_142 : decode cX7_count 142 = .ok (.getfield 84, 3) := by decide +kernel
theorem dX7_count_145 : decode cX7_count 145 = .ok (.if_icmp .ge 20, 3) := by decide +kernel
theorem dX7_count_148 : decode cX7_count 148 = .ok (.aload_n 0, 1) := by decide +kernel
theorem dX7_count_149 : decode cX7_count 149 = .ok (.iload_n 3, 1) := by decide +kernel
theorem dX7_count_150 : decode cX7_count 150 = .ok (.invokevirtual 166, 3) := by decide +kernel
theorem dX7_count_153 : decode cX7_count 153 = .ok (.ifCond .eq 6, 3) := by decide +kernel
theorem dX7_count_156 : decode cX7_count 156 = .ok (.iinc 2 1, 3) := by decide +kernel
theorem dX7_count_159 : decode cX7_count 159 = .ok (.iinc 3 1, 3) := by decide +kernel
theorem dX7_count_162 : decode cX7_count 162 = .ok (.goto (-22), 3) := by decide +kernel
theorem dX7_count_165 : decode cX7_count 165 = .ok (.iload_n 2, 1) := by decide +kernel
theorem dX7_count_166 : decode cX7_count 166 = .ok (.ireturn, 1) := by decide +kernel
theorem dX7_count_167 : decode cX7_count 167 = .ok (.aload_n 0, 1) := by decide +kernel
theorem dX7_count_168 : decode cX7_count 168 = .ok (.getfield 97, 3) := by decide +kernel
theorem dX7_count_171 : decode cX7_count 171 = .ok (.ireturn, 1) := by decide +kernel
theorem dX7_count_172 : decode cX7_count 172 = .ok (.aload_n 0, 1) := by decide +kernel
theorem dX7_count_173 : decode cX7_count 173 = .ok (.getfield 94, 3) := by decide +kernel
theorem dX7_count_176 : decode cX7_count 176 = .ok (.ireturn, 1) := by decide +kernel
theorem dX7_count_177 : decode cX7_count 177 = .ok (.bipush (-2), 2) := by decide +kernel
theorem dX7_count_179 : decode cX7_count 179 = .ok (.ireturn, 1) := by decide +kernel
theorem dX7_total_0 : decode cX7_total 0 = .ok (.lconst 0, 1) := by decide +kernel
theorem dX7_total_1 : decode cX7_total 1 = .ok (.lstore_n 1, 1) := by decide +kernel
theorem dX7_total_2 : decode cX7_total 2 = .ok (.iconst 0, 1) := by decide +kernel
theorem dX7_total_3 : decode cX7_total 3 = .ok (.istore_n 3, 1) := by decide +kernel
theorem dX7_total_4 : decode cX7_total 4 = .ok (.iload_n 3, 1) := by decide +kernel
theorem dX7_total_5 : decode cX7_total 5 = .ok (.aload_n 0, 1) := by decide +kernel
theorem dX7_total_6 : decode cX7_total 6 = .ok (.getfield 88, 3) := by decide +kernel
theorem dX7_total_9 : decode cX7_total 9 = .ok (.if_icmp .ge 28, 3) := by decide +kernel
theorem dX7_total_12 : decode cX7_total 12 = .ok (.aload_n 0, 1) := by decide +kernel
theorem dX7_total_13 : decode cX7_total 13 = .ok (.getfield 23, 3) := by decide +kernel
theorem dX7_total_16 : decode cX7_total 16 = .ok (.iload_n 3, 1) := by decide +kernel
theorem dX7_total_17 : decode cX7_total 17 = .ok (.iaload, 1) := by decide +kernel
theorem dX7_total_18 : decode cX7_total 18 = .ok (.iconst 1, 1) := by decide +kernel
theorem dX7_total_19 : decode cX7_total 19 = .ok (.if_icmp .ne 12, 3) := by decide +kernel
theorem dX7_total_22 : decode cX7_total 22 = .ok (.lload_n 1, 1) := by decide +kernel
theorem dX7_total_23 : decode cX7_total 23 = .ok (.aload_n 0, 1) := by decide +kernel
theorem dX7_total_24 : decode cX7_total 24 = .ok (.getfield 29, 3) := by decide +kernel
theorem dX7_total_27 : decode cX7_total 27 = .ok (.iload_n 3, 1) := by decide +kernel
theorem dX7_total_28 : decode cX7_total 28 = .ok (.laload, 1) := by decide +kernel
theorem dX7_total_29 : decode cX7_total 29 = .ok (.ladd, 1) := by decide +kernel
theorem dX7_total_30 : decode cX7_total 30 = .ok (.lstore_n 1, 1) := by decide +kernel
theorem dX7_total_31 : decode cX7_total 31 = .ok (.iinc 3 1, 3) := by decide +kernel
theorem dX7_total_34 : decode cX7_total 34 = .ok (.goto (-30), 3) := by decide +kernel
theorem dX7_total_37 : decode cX7_total 37 = .ok (.lload_n 1, 1) := by decide +kernel
theorem dX7_total_38 : decode cX7_total 38 = .ok (.lreturn, 1) := by decide +kernel
theorem dX7_together_0 : decode cX7_together 0 = .ok (.aload_n 0, 1) := by decide +kernel
theorem dX7_together_1 : decode cX7_together 1 = .ok (.iload_n 1, 1) := by decide +kernel
theorem dX7_together_2 : decode cX7_together 2 = .ok (.invokevirtual 129, 3) := by decide +kernel
theorem dX7_together_5 : decode cX7_together 5 = .ok (.ifCond .eq 11, 3) := by decide +kernel
theorem dX7_together_8 : decode cX7_together 8 = .ok (.aload_n 0, 1) := by decide +kernel
theorem dX7_together_9 : decode cX7_together 9 = .ok (.iload_n 2, 1) := by decide +kernel
theorem dX7_together_10 : decode cX7_together 10 = .ok (.invokevirtual 129, 3) := by decide +kernel
theorem dX7_together_13 : decode cX7_together 13 = .ok (.ifCond .ne 6, 3) := by decide +kernel
theorem dX7_together_16 : decode cX7_together 16 = .ok (.bipush (-2), 2) := by decide +kernel
theorem dX7_together_18 : decode cX7_together 18 = .ok (.ireturn, 1) := by decide +kernel
theorem dX7_together_19 : decode cX7_together 19 = .ok (.aload_n 0, 1) := by decide +kernel
theorem dX7_together_20 : decode cX7_together 20 = .ok (.iload_n 1, 1) := by decide +kernel
theorem dX7_together_21 : decode cX7_together 21 = .ok (.iload_n 2, 1) := by decide +kernel
theorem dX7_together_22 : decode cX7_together 22 = .ok (.invokevirtual 133, 3) := by decide +kernel
theorem dX7_together_25 : decode cX7_together 25 = .ok (.ifCond .eq 7, 3) := by decide +kernel
theorem dX7_together_28 : decode cX7_together 28 = .ok (.iconst 1, 1) := by decide +kernel
theorem dX7_together_29 : decode cX7_together 29 = .ok (.goto 4, 3) := by decide +kernel
theorem dX7_together_32 : decode cX7_together 32 = .ok (.iconst 0, 1) := by decide +kernel
theorem dX7_together_33 : decode cX7_together 33 = .ok (.ireturn, 1) := by decide +kernel
theorem dX7_size_0 : decode cX7_size 0 = .ok (.aload_n 0, 1) := by decide +kernel
theorem dX7_size_1 : decode cX7_size 1 = .ok (.iload_n 1, 1) := by decide +kernel
theorem dX7_size_2 : decode cX7_size 2 = .ok (.invokevirtual 129, 3) := by decide +kernel
theorem dX7_size_5 : decode cX7_size 5 = .ok (.ifCond .eq 11, 3) := by decide +kernel
theorem dX7_size_8 : decode cX7_size 8 = .ok (.aload_n 0, 1) := by decide +kernel
theorem dX7_size_9 : decode cX7_size 9 = .ok (.iload_n 1, 1) := by decide +kernel
theorem dX7_size_10 : decode cX7_size 10 = .ok (.invokevirtual 115, 3) := by decide +kernel
theorem dX7_size_13 : decode cX7_size 13 = .ok (.goto 5, 3) := by decide +kernel
theorem dX7_size_16 : decode cX7_size 16 = .ok (.bipush (-2), 2) := by decide +kernel
theorem dX7_size_18 : decode cX7_size 18 = .ok (.ireturn, 1) := by decide +kernel
theorem dX7_member_0 : decode cX7_member 0 = .ok (.aload_n 0, 1) := by decide +kernel
theorem dX7_member_1 : decode cX7_member 1 = .ok (.iload_n 1, 1) := by decide +kernel
