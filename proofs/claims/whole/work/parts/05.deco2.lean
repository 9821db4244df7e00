theorem dX7_nodeAt_44 : decode cX7_nodeAt 44 = .ok (.isub, 1) := by decide +kernel
theorem dX7_nodeAt_45 : decode cX7_nodeAt 45 = .ok (.istore_n 2, 1) := by decide +kernel
theorem dX7_nodeAt_46 : decode cX7_nodeAt 46 = .ok (.iinc 3 1, 3) := by decide +kernel
theorem dX7_nodeAt_49 : decode cX7_nodeAt 49 = .ok (.goto (-45), 3) := by decide +kernel
theorem dX7_nodeAt_52 : decode cX7_nodeAt 52 = .ok (.bipush (-5), 2) := by decide +kernel
theorem dX7_nodeAt_54 : decode cX7_nodeAt 54 = .ok (.ireturn, 1) := by decide +kernel
theorem dX7_placeOf_0 : decode cX7_placeOf 0 = .ok (.iconst 0, 1) := by decide +kernel
theorem dX7_placeOf_1 : decode cX7_placeOf 1 = .ok (.istore_n 2, 1) := by decide +kernel
theorem dX7_placeOf_2 : decode cX7_placeOf 2 = .ok (.aload_n 0, 1) := by decide +kernel
theorem dX7_placeOf_3 : decode cX7_placeOf 3 = .ok (.iload_n 2, 1) := by decide +kernel
theorem dX7_placeOf_4 : decode cX7_placeOf 4 = .ok (.invokevirtual 69, 3) := by decide +kernel
theorem dX7_placeOf_7 : decode cX7_placeOf 7 = .ok (.iload_n 1, 1) := by decide +kernel
theorem dX7_placeOf_8 : decode cX7_placeOf 8 = .ok (.if_icmp .eq 9, 3) := by decide +kernel
theorem dX7_placeOf_11 : decode cX7_placeOf 11 = .ok (.iinc 2 1, 3) := by decide +kernel
theorem dX7_placeOf_14 : decode cX7_placeOf 14 = .ok (.goto (-12), 3) := by decide +kernel
theorem dX7_placeOf_17 : decode cX7_placeOf 17 = .ok (.iload_n 2, 1) := by decide +kernel
theorem dX7_placeOf_18 : decode cX7_placeOf 18 = .ok (.ireturn, 1) := by decide +kernel
theorem dX7_cuts_0 : decode cX7_cuts 0 = .ok (.iload_n 2, 1) := by decide +kernel
theorem dX7_cuts_1 : decode cX7_cuts 1 = .ok (.istore_n 3, 1) := by decide +kernel
theorem dX7_cuts_2 : decode cX7_cuts 2 = .ok (.iload_n 3, 1) := by decide +kernel
theorem dX7_cuts_3 : decode cX7_cuts 3 = .ok (.aload_n 0, 1) := by decide +kernel
theorem dX7_cuts_4 : decode cX7_cuts 4 = .ok (.invokevirtual 76, 3) := by decide +kernel
theorem dX7_cuts_7 : decode cX7_cuts 7 = .ok (.if_icmp .ge 27, 3) := by decide +kernel
theorem dX7_cuts_10 : decode cX7_cuts 10 = .ok (.aload_n 0, 1) := by decide +kernel
theorem dX7_cuts_11 : decode cX7_cuts 11 = .ok (.getfield 7, 3) := by decide +kernel
theorem dX7_cuts_14 : decode cX7_cuts 14 = .ok (.bipush 101, 2) := by decide +kernel
theorem dX7_cuts_16 : decode cX7_cuts 16 = .ok (.iload_n 1, 1) := by decide +kernel
theorem dX7_cuts_17 : decode cX7_cuts 17 = .ok (.iadd, 1) := by decide +kernel
theorem dX7_cuts_18 : decode cX7_cuts 18 = .ok (.iload_n 3, 1) := by decide +kernel
theorem dX7_cuts_19 : decode cX7_cuts 19 = .ok (.iadd, 1) := by decide +kernel
theorem dX7_cuts_20 : decode cX7_cuts 20 = .ok (.iload_n 2, 1) := by decide +kernel
theorem dX7_cuts_21 : decode cX7_cuts 21 = .ok (.isub, 1) := by decide +kernel
theorem dX7_cuts_22 : decode cX7_cuts 22 = .ok (.aload_n 0, 1) := by decide +kernel
theorem dX7_cuts_23 : decode cX7_cuts 23 = .ok (.iload_n 3, 1) := by decide +kernel
theorem dX7_cuts_24 : decode cX7_cuts 24 = .ok (.invokevirtual 69, 3) := by decide +kernel
theorem dX7_cuts_27 : decode cX7_cuts 27 = .ok (.iastore, 1) := by decide +kernel
theorem dX7_cuts_28 : decode cX7_cuts 28 = .ok (.iinc 3 1, 3) := by decide +kernel
theorem dX7_cuts_31 : decode cX7_cuts 31 = .ok (.goto (-29), 3) := by decide +kernel
theorem dX7_cuts_34 : decode cX7_cuts 34 = .ok (.aload_n 0, 1) := by decide +kernel
theorem dX7_cuts_35 : decode cX7_cuts 35 = .ok (.getfield 7, 3) := by decide +kernel
theorem dX7_cuts_38 : decode cX7_cuts 38 = .ok (.iconst 4, 1) := by decide +kernel
theorem dX7_cuts_39 : decode cX7_cuts 39 = .ok (.dup2, 1) := by decide +kernel
theorem dX7_cuts_40 : decode cX7_cuts 40 = .ok (.iaload, 1) := by decide +kernel
theorem dX7_cuts_41 : decode cX7_cuts 41 = .ok (.iload_n 2, 1) := by decide +kernel
theorem dX7_cuts_42 : decode cX7_cuts 42 = .ok (.iload_n 1, 1) := by decide +kernel
theorem dX7_cuts_43 : decode cX7_cuts 43 = .ok (.isub, 1) := by decide +kernel
theorem dX7_cuts_44 : decode cX7_cuts 44 = .ok (.isub, 1) := by decide +kernel
theorem dX7_cuts_45 : decode cX7_cuts 45 = .ok (.iastore, 1) := by decide +kernel
theorem dX7_cuts_46 : decode cX7_cuts 46 = .ok (.return_, 1) := by decide +kernel
theorem dX7_opens_0 : decode cX7_opens 0 = .ok (.aload_n 0, 1) := by decide +kernel
theorem dX7_opens_1 : decode cX7_opens 1 = .ok (.invokevirtual 76, 3) := by decide +kernel
theorem dX7_opens_4 : decode cX7_opens 4 = .ok (.iconst 1, 1) := by decide +kernel
theorem dX7_opens_5 : decode cX7_opens 5 = .ok (.isub, 1) := by decide +kernel
theorem dX7_opens_6 : decode cX7_opens 6 = .ok (.istore_n 3, 1) := by decide +kernel
theorem dX7_opens_7 : decode cX7_opens 7 = .ok (.iload_n 3, 1) := by decide +kernel
theorem dX7_opens_8 : decode cX7_opens 8 = .ok (.iload_n 1, 1) := by decide +kernel
theorem dX7_opens_9 : decode cX7_opens 9 = .ok (.if_icmp .lt 25, 3) := by decide +kernel
theorem dX7_opens_12 : decode cX7_opens 12 = .ok (.aload_n 0, 1) := by decide +kernel
theorem dX7_opens_13 : decode cX7_opens 13 = .ok (.getfield 7, 3) := by decide +kernel
theorem dX7_opens_16 : decode cX7_opens 16 = .ok (.bipush 101, 2) := by decide +kernel
theorem dX7_opens_18 : decode cX7_opens 18 = .ok (.iload_n 3, 1) := by decide +kernel
theorem dX7_opens_19 : decode cX7_opens 19 = .ok (.iadd, 1) := by decide +kernel
theorem dX7_opens_20 : decode cX7_opens 20 = .ok (.iload_n 2, 1) := by decide +kernel
theorem dX7_opens_21 : decode cX7_opens 21 = .ok (.iadd, 1) := by decide +kernel
theorem dX7_opens_22 : decode cX7_opens 22 = .ok (.aload_n 0, 1) := by decide +kernel
theorem dX7_opens_23 : decode cX7_opens 23 = .ok (.iload_n 3, 1) := by decide +kernel
theorem dX7_opens_24 : decode cX7_opens 24 = .ok (.invokevirtual 69, 3) := by decide +kernel
theorem dX7_opens_27 : decode cX7_opens 27 = .ok (.iastore, 1) := by decide +kernel
theorem dX7_opens_28 : decode cX7_opens 28 = .ok (.iinc 3 (-1), 3) := by decide +kernel
theorem dX7_opens_31 : decode cX7_opens 31 = .ok (.goto (-24), 3) := by decide +kernel
theorem dX7_opens_34 : decode cX7_opens 34 = .ok (.aload_n 0, 1) := by decide +kernel
theorem dX7_opens_35 : decode cX7_opens 35 = .ok (.getfield 7, 3) := by decide +kernel
theorem dX7_opens_38 : decode cX7_opens 38 = .ok (.iconst 4, 1) := by decide +kernel
theorem dX7_opens_39 : decode cX7_opens 39 = .ok (.dup2, 1) := by decide +kernel
theorem dX7_opens_40 : decode cX7_opens 40 = .ok (.iaload, 1) := by decide +kernel
theorem dX7_opens_41 : decode cX7_opens 41 = .ok (.iload_n 2, 1) := by decide +kernel
theorem dX7_opens_42 : decode cX7_opens 42 = .ok (.iadd, 1) := by decide +kernel
theorem dX7_opens_43 : decode cX7_opens 43 = .ok (.iastore, 1) := by decide +kernel
theorem dX7_opens_44 : decode cX7_opens 44 = .ok (.return_, 1) := by decide +kernel
theorem dX7_less_0 : decode cX7_less 0 = .ok (.iload_n 0, 1) := by decide +kernel
theorem dX7_less_1 : decode cX7_less 1 = .ok (.iload_n 1, 1) := by decide +kernel
theorem dX7_less_2 : decode cX7_less 2 = .ok (.if_icmp .ge 7, 3) := by decide +kernel
theorem dX7_less_5 : decode cX7_less 5 = .ok (.iload_n 0, 1) := by decide +kernel
theorem dX7_less_6 : decode cX7_less 6 = .ok (.goto 4, 3) := by decide +kernel
theorem dX7_less_9 : decode cX7_less 9 = .ok (.iload_n 1, 1) := by decide +kernel
theorem dX7_less_10 : decode cX7_less 10 = .ok (.ireturn, 1) := by decide +kernel
theorem dX7_greater_0 : decode cX7_greater 0 = .ok (.iload_n 0, 1) := by decide +kernel
theorem dX7_greater_1 : decode cX7_greater 1 = .ok (.iload_n 1, 1) := by decide +kernel
theorem dX7_greater_2 : decode cX7_greater 2 = .ok (.if_icmp .le 7, 3) := by decide +kernel
theorem dX7_greater_5 : decode cX7_greater 5 = .ok (.iload_n 0, 1) := by decide +kernel
theorem dX7_greater_6 : decode cX7_greater 6 = .ok (.goto 4, 3) := by decide +kernel
theorem dX7_greater_9 : decode cX7_greater 9 = .ok (.iload_n 1, 1) := by decide +kernel
theorem dX7_greater_10 : decode cX7_greater 10 = .ok (.ireturn, 1) := by decide +kernel
theorem dX7_unites_0 : decode cX7_unites 0 = .ok (.iconst 4, 1) := by decide +kernel
theorem dX7_unites_1 : decode cX7_unites 1 = .ok (.iload_n 1, 1) := by decide +kernel
theorem dX7_unites_2 : decode cX7_unites 2 = .ok (.imul, 1) := by decide +kernel
theorem dX7_unites_3 : decode cX7_unites 3 = .ok (.istore 4, 2) := by decide +kernel
theorem dX7_unites_5 : decode cX7_unites 5 = .ok (.iconst 4, 1) := by decide +kernel
theorem dX7_unites_6 : decode cX7_unites 6 = .ok (.iload_n 2, 1) := by decide +kernel
theorem dX7_unites_7 : decode cX7_unites 7 = .ok (.imul, 1) := by decide +kernel
theorem dX7_unites_8 : decode cX7_unites 8 = .ok (.istore 5, 2) := by decide +kernel
theorem dX7_unites_10 : decode cX7_unites 10 = .ok (.iconst 4, 1) := by decide +kernel
theorem dX7_unites_11 : decode cX7_unites 11 = .ok (.iload_n 3, 1) := by decide +kernel
theorem dX7_unites_12 : decode cX7_unites 12 = .ok (.imul, 1) := by decide +kernel
theorem dX7_unites_13 : decode cX7_unites 13 = .ok (.istore 6, 2) := by decide +kernel
theorem dX7_unites_15 : decode cX7_unites 15 = .ok (.aload_n 0, 1) := by decide +kernel
theorem dX7_unites_16 : decode cX7_unites 16 = .ok (.getfield 22, 3) := by decide +kernel
theorem dX7_unites_19 : decode cX7_unites 19 = .ok (.iload 4, 2) := by decide +kernel
theorem dX7_unites_21 : decode cX7_unites 21 = .ok (.iaload, 1) := by decide +kernel
theorem dX7_unites_22 : decode cX7_unites 22 = .ok (.aload_n 0, 1) := by decide +kernel
theorem dX7_unites_23 : decode cX7_unites 23 = .ok (.getfield 22, 3) := by decide +kernel
theorem dX7_unites_26 : decode cX7_unites 26 = .ok (.iload 5, 2) := by decide +kernel
theorem dX7_unites_28 : decode cX7_unites 28 = .ok (.iaload, 1) := by decide +kernel
theorem dX7_unites_29 : decode cX7_unites 29 = .ok (.invokestatic 86, 3) := by decide +kernel
theorem dX7_unites_32 : decode cX7_unites 32 = .ok (.istore 7, 2) := by decide +kernel
theorem dX7_unites_34 : decode cX7_unites 34 = .ok (.aload_n 0, 1) := by decide +kernel
theorem dX7_unites_35 : decode cX7_unites 35 = .ok (.getfield 22, 3) := by decide +kernel
theorem dX7_unites_38 : decode cX7_unites 38 = .ok (.iload 4, 2) := by decide +kernel
theorem dX7_unites_40 : decode cX7_unites 40 = .ok (.iconst 1, 1) := by decide +kernel
theorem dX7_unites_41 : decode cX7_unites 41 = .ok (.iadd, 1) := by decide +kernel
theorem dX7_unites_42 : decode cX7_unites 42 = .ok (.iaload, 1) := by decide +kernel
theorem dX7_unites_43 : decode cX7_unites 43 = .ok (.aload_n 0, 1) := by decide +kernel
theorem dX7_unites_44 : decode cX7_unites 44 = .ok (.getfield 22, 3) := by decide +kernel
theorem dX7_unites_47 : decode cX7_unites 47 = .ok (.iload 5, 2) := by decide +kernel
theorem dX7_unites_49 : decode cX7_unites 49 = .ok (.iconst 1, 1) := by decide +kernel
theorem dX7_unites_50 : decode cX7_unites 50 = .ok (.iadd, 1) := by decide +kernel
theorem dX7_unites_51 : decode cX7_unites 51 = .ok (.iaload, 1) := by decide +kernel
theorem dX7_unites_52 : decode cX7_unites 52 = .ok (.invokestatic 86, 3) := by decide +kernel
theorem dX7_unites_55 : decode cX7_unites 55 = .ok (.istore 8, 2) := by decide +kernel
theorem dX7_unites_57 : decode cX7_unites 57 = .ok (.aload_n 0, 1) := by decide +kernel
theorem dX7_unites_58 : decode cX7_unites 58 = .ok (.getfield 22, 3) := by decide +kernel
theorem dX7_unites_61 : decode cX7_unites 61 = .ok (.iload 4, 2) := by decide +kernel
theorem dX7_unites_63 : decode cX7_unites 63 = .ok (.iconst 2, 1) := by decide +kernel
theorem dX7_unites_64 : decode cX7_unites 64 = .ok (.iadd, 1) := by decide +kernel
theorem dX7_unites_65 : decode cX7_unites 65 = .ok (.iaload, 1) := by decide +kernel
theorem dX7_unites_66 : decode cX7_unites 66 = .ok (.aload_n 0, 1) := by decide +kernel
theorem dX7_unites_67 : decode cX7_unites 67 = .ok (.getfield 22, 3) := by decide +kernel
theorem dX7_unites_70 : decode cX7_unites 70 = .ok (.iload 5, 2) := by decide +kernel
theorem dX7_unites_72 : decode cX7_unites 72 = .ok (.iconst 2, 1) := by decide +kernel
theorem dX7_unites_73 : decode cX7_unites 73 = .ok (.iadd, 1) := by decide +kernel
theorem dX7_unites_74 : decode cX7_unites 74 = .ok (.iaload, 1) := by decide +kernel
theorem dX7_unites_75 : decode cX7_unites 75 = .ok (.invokestatic 90, 3) := by decide +kernel
theorem dX7_unites_78 : decode cX7_unites 78 = .ok (.istore 9, 2) := by decide +kernel
theorem dX7_unites_80 : decode cX7_unites 80 = .ok (.aload_n 0, 1) := by decide +kernel
theorem dX7_unites_81 : decode cX7_unites 81 = .ok (.getfield 22, 3) := by decide +kernel
theorem dX7_unites_84 : decode cX7_unites 84 = .ok (.iload 4, 2) := by decide +kernel
theorem dX7_unites_86 : decode cX7_unites 86 = .ok (.iconst 3, 1) := by decide +kernel
theorem dX7_unites_87 : decode cX7_unites 87 = .ok (.iadd, 1) := by decide +kernel
theorem dX7_unites_88 : decode cX7_unites 88 = .ok (.iaload, 1) := by decide +kernel
theorem dX7_unites_89 : decode cX7_unites 89 = .ok (.aload_n 0, 1) := by decide +kernel
theorem dX7_unites_90 : decode cX7_unites 90 = .ok (.getfield 22, 3) := by decide +kernel
theorem dX7_unites_93 : decode cX7_unites 93 = .ok (.iload 5, 2) := by decide +kernel
theorem dX7_unites_95 : decode cX7_unites 95 = .ok (.iconst 3, 1) := by decide +kernel
theorem dX7_unites_96 : decode cX7_unites 96 = .ok (.iadd, 1) := by decide +kernel
theorem dX7_unites_97 : decode cX7_unites 97 = .ok (.iaload, 1) := by decide +kernel
theorem dX7_unites_98 : decode cX7_unites 98 = .ok (.invokestatic 90, 3) := by decide +kernel
theorem dX7_unites_101 : decode cX7_unites 101 = .ok (.istore 10, 2) := by decide +kernel
theorem dX7_unites_103 : decode cX7_unites 103 = .ok (.aload_n 0, 1) := by decide +kernel
theorem dX7_unites_104 : decode cX7_unites 104 = .ok (.getfield 22, 3) := by decide +kernel
theorem dX7_unites_107 : decode cX7_unites 107 = .ok (.iload 6, 2) := by decide +kernel
theorem dX7_unites_109 : decode cX7_unites 109 = .ok (.iload 7, 2) := by decide +kernel
theorem dX7_unites_111 : decode cX7_unites 111 = .ok (.iastore, 1) := by decide +kernel
theorem dX7_unites_112 : decode cX7_unites 112 = .ok (.aload_n 0, 1) := by decide +kernel
theorem dX7_unites_113 : decode cX7_unites 113 = .ok (.getfield 22, 3) := by decide +kernel
theorem dX7_unites_116 : decode cX7_unites 116 = .ok (.iload 6, 2) := by decide +kernel
theorem dX7_unites_118 : decode cX7_unites 118 = .ok (.iconst 1, 1) := by decide +kernel
theorem dX7_unites_119 : decode cX7_unites 119 = .ok (.iadd, 1) := by decide +kernel
theorem dX7_unites_120 : decode cX7_unites 120 = .ok (.iload 8, 2) := by decide +kernel
theorem dX7_unites_122 : decode cX7_unites 122 = .ok (.iastore, 1) := by decide +kernel
theorem dX7_unites_123 : decode cX7_unites 123 = .ok (.aload_n 0, 1) := by decide +kernel
theorem dX7_unites_124 : decode cX7_unites 124 = .ok (.getfield 22, 3) := by decide +kernel
theorem dX7_unites_127 : decode cX7_unites 127 = .ok (.iload 6, 2) := by decide +kernel
theorem dX7_unites_129 : decode cX7_unites 129 = .ok (.iconst 2, 1) := by decide +kernel
theorem dX7_unites_130 : decode cX7_unites 130 = .ok (.iadd, 1) := by decide +kernel
theorem dX7_unites_131 : decode cX7_unites 131 = .ok (.iload 9, 2) := by decide +kernel
theorem dX7_unites_133 : decode cX7_unites 133 = .ok (.iastore, 1) := by decide +kernel
theorem dX7_unites_134 : decode cX7_unites 134 = .ok (.aload_n 0, 1) := by decide +kernel
theorem dX7_unites_135 : decode cX7_unites 135 = .ok (.getfield 22, 3) := by decide +kernel
theorem dX7_unites_138 : decode cX7_unites 138 = .ok (.iload 6, 2) := by decide +kernel
theorem dX7_unites_140 : decode cX7_unites 140 = .ok (.iconst 3, 1) := by decide +kernel
theorem dX7_unites_141 : decode cX7_unites 141 = .ok (.iadd, 1) := by decide +kernel
theorem dX7_unites_142 : decode cX7_unites 142 = .ok (.iload 10, 2) := by decide +kernel
theorem dX7_unites_144 : decode cX7_unites 144 = .ok (.iastore, 1) := by decide +kernel
theorem dX7_unites_145 : decode cX7_unites 145 = .ok (.return_, 1) := by decide +kernel
theorem dX7_bounds_0 : decode cX7_bounds 0 = .ok (.iconst 1, 1) := by decide +kernel
theorem dX7_bounds_1 : decode cX7_bounds 1 = .ok (.istore 5, 2) := by decide +kernel
theorem dX7_bounds_3 : decode cX7_bounds 3 = .ok (.iload_n 2, 1) := by decide +kernel
theorem dX7_bounds_4 : decode cX7_bounds 4 = .ok (.istore 6, 2) := by decide +kernel
theorem dX7_bounds_6 : decode cX7_bounds 6 = .ok (.iload 6, 2) := by decide +kernel
theorem dX7_bounds_8 : decode cX7_bounds 8 = .ok (.iload_n 3, 1) := by decide +kernel
theorem dX7_bounds_9 : decode cX7_bounds 9 = .ok (.if_icmp .ge 115, 3) := by decide +kernel
theorem dX7_bounds_12 : decode cX7_bounds 12 = .ok (.aload_n 1, 1) := by decide +kernel
theorem dX7_bounds_13 : decode cX7_bounds 13 = .ok (.iload 6, 2) := by decide +kernel
theorem dX7_bounds_15 : decode cX7_bounds 15 = .ok (.iaload, 1) := by decide +kernel
theorem dX7_bounds_16 : decode cX7_bounds 16 = .ok (.ifCond .lt 102, 3) := by decide +kernel
theorem dX7_bounds_19 : decode cX7_bounds 19 = .ok (.iconst 5, 1) := by decide +kernel
theorem dX7_bounds_20 : decode cX7_bounds 20 = .ok (.iconst 4, 1) := by decide +kernel
theorem dX7_bounds_21 : decode cX7_bounds 21 = .ok (.aload_n 1, 1) := by decide +kernel
theorem dX7_bounds_22 : decode cX7_bounds 22 = .ok (.iload 6, 2) := by decide +kernel
theorem dX7_bounds_24 : decode cX7_bounds 24 = .ok (.iaload, 1) := by decide +kernel
theorem dX7_bounds_25 : decode cX7_bounds 25 = .ok (.imul, 1) := by decide +kernel
theorem dX7_bounds_26 : decode cX7_bounds 26 = .ok (.iadd, 1) := by decide +kernel
theorem dX7_bounds_27 : decode cX7_bounds 27 = .ok (.istore 7, 2) := by decide +kernel
theorem dX7_bounds_29 : decode cX7_bounds 29 = .ok (.iconst 0, 1) := by decide +kernel
theorem dX7_bounds_30 : decode cX7_bounds 30 = .ok (.istore 8, 2) := by decide +kernel
theorem dX7_bounds_32 : decode cX7_bounds 32 = .ok (.iload 8, 2) := by decide +kernel
theorem dX7_bounds_34 : decode cX7_bounds 34 = .ok (.iconst 4, 1) := by decide +kernel
theorem dX7_bounds_35 : decode cX7_bounds 35 = .ok (.if_icmp .ge 80, 3) := by decide +kernel
theorem dX7_bounds_38 : decode cX7_bounds 38 = .ok (.aload_n 0, 1) := by decide +kernel
theorem dX7_bounds_39 : decode cX7_bounds 39 = .ok (.getfield 22, 3) := by decide +kernel
theorem dX7_bounds_42 : decode cX7_bounds 42 = .ok (.iconst 4, 1) := by decide +kernel
theorem dX7_bounds_43 : decode cX7_bounds 43 = .ok (.iload 4, 2) := by decide +kernel
theorem dX7_bounds_45 : decode cX7_bounds 45 = .ok (.imul, 1) := by decide +kernel
theorem dX7_bounds_46 : decode cX7_bounds 46 = .ok (.iload 8, 2) := by decide +kernel
theorem dX7_bounds_48 : decode cX7_bounds 48 = .ok (.iadd, 1) := by decide +kernel
theorem dX7_bounds_49 : decode cX7_bounds 49 = .ok (.iaload, 1) := by decide +kernel
theorem dX7_bounds_50 : decode cX7_bounds 50 = .ok (.istore 9, 2) := by decide +kernel
theorem dX7_bounds_52 : decode cX7_bounds 52 = .ok (.aload_n 0, 1) := by decide +kernel
theorem dX7_bounds_53 : decode cX7_bounds 53 = .ok (.getfield 7, 3) := by decide +kernel
theorem dX7_bounds_56 : decode cX7_bounds 56 = .ok (.iload 7, 2) := by decide +kernel
theorem dX7_bounds_58 : decode cX7_bounds 58 = .ok (.iload 8, 2) := by decide +kernel
theorem dX7_bounds_60 : decode cX7_bounds 60 = .ok (.iadd, 1) := by decide +kernel
theorem dX7_bounds_61 : decode cX7_bounds 61 = .ok (.iaload, 1) := by decide +kernel
theorem dX7_bounds_62 : decode cX7_bounds 62 = .ok (.istore 10, 2) := by decide +kernel
theorem dX7_bounds_64 : decode cX7_bounds 64 = .ok (.aload_n 0, 1) := by decide +kernel
theorem dX7_bounds_65 : decode cX7_bounds 65 = .ok (.getfield 22, 3) := by decide +kernel
theorem dX7_bounds_68 : decode cX7_bounds 68 = .ok (.iconst 4, 1) := by decide +kernel
theorem dX7_bounds_69 : decode cX7_bounds 69 = .ok (.iload 4, 2) := by decide +kernel
theorem dX7_bounds_71 : decode cX7_bounds 71 = .ok (.imul, 1) := by decide +kernel
theorem dX7_bounds_72 : decode cX7_bounds 72 = .ok (.iload 8, 2) := by decide +kernel
theorem dX7_bounds_74 : decode cX7_bounds 74 = .ok (.iadd, 1) := by decide +kernel
theorem dX7_bounds_75 : decode cX7_bounds 75 = .ok (.iload 5, 2) := by decide +kernel
theorem dX7_bounds_77 : decode cX7_bounds 77 = .ok (.ifCond .eq 8, 3) := by decide +kernel
theorem dX7_bounds_80 : decode cX7_bounds 80 = .ok (.iload 10, 2) := by decide +kernel
theorem dX7_bounds_82 : decode cX7_bounds 82 = .ok (.goto 26, 3) := by decide +kernel
theorem dX7_bounds_85 : decode cX7_bounds 85 = .ok (.iload 8, 2) := by decide +kernel
theorem dX7_bounds_87 : decode cX7_bounds 87 = .ok (.iconst 2, 1) := by decide +kernel
theorem dX7_bounds_88 : decode cX7_bounds 88 = .ok (.if_icmp .ge 13, 3) := by decide +kernel
theorem dX7_bounds_91 : decode cX7_bounds 91 = .ok (.iload 9, 2) := by decide +kernel
theorem dX7_bounds_93 : decode cX7_bounds 93 = .ok (.iload 10, 2) := by decide +kernel
theorem dX7_bounds_95 : decode cX7_bounds 95 = .ok (.invokestatic 86, 3) := by decide +kernel
theorem dX7_bounds_98 : decode cX7_bounds 98 = .ok (.goto 10, 3) := by decide +kernel
theorem dX7_bounds_101 : decode cX7_bounds 101 = .ok (.iload 9, 2) := by decide +kernel
theorem dX7_bounds_103 : decode cX7_bounds 103 = .ok (.iload 10, 2) := by decide +kernel
theorem dX7_bounds_105 : decode cX7_bounds 105 = .ok (.invokestatic 90, 3) := by decide +kernel
theorem dX7_bounds_108 : decode cX7_bounds 108 = .ok (.iastore, 1) := by decide +kernel
theorem dX7_bounds_109 : decode cX7_bounds 109 = .ok (.iinc 8 1, 3) := by decide +kernel
theorem dX7_bounds_112 : decode cX7_bounds 112 = .ok (.goto (-80), 3) := by decide +kernel
theorem dX7_bounds_115 : decode cX7_bounds 115 = .ok (.iconst 0, 1) := by decide +kernel
theorem dX7_bounds_116 : decode cX7_bounds 116 = .ok (.istore 5, 2) := by decide +kernel
theorem dX7_bounds_118 : decode cX7_bounds 118 = .ok (.iinc 6 1, 3) := by decide +kernel
theorem dX7_bounds_121 : decode cX7_bounds 121 = .ok (.goto (-115), 3) := by decide +kernel
theorem dX7_bounds_124 : decode cX7_bounds 124 = .ok (.return_, 1) := by decide +kernel
theorem dX7_boundsAt_0 : decode cX7_boundsAt 0 = .ok (.aload_n 0, 1) := by decide +kernel
theorem dX7_boundsAt_1 : decode cX7_boundsAt 1 = .ok (.aload_n 0, 1) := by decide +kernel
theorem dX7_boundsAt_2 : decode cX7_boundsAt 2 = .ok (.getfield 7, 3) := by decide +kernel
theorem dX7_boundsAt_5 : decode cX7_boundsAt 5 = .ok (.bipush 101, 2) := by decide +kernel
theorem dX7_boundsAt_7 : decode cX7_boundsAt 7 = .ok (.iload_n 1, 1) := by decide +kernel
theorem dX7_boundsAt_8 : decode cX7_boundsAt 8 = .ok (.iadd, 1) := by decide +kernel
theorem dX7_boundsAt_9 : decode cX7_boundsAt 9 = .ok (.bipush 101, 2) := by decide +kernel
theorem dX7_boundsAt_11 : decode cX7_boundsAt 11 = .ok (.aload_n 0, 1) := by decide +kernel
theorem dX7_boundsAt_12 : decode cX7_boundsAt 12 = .ok (.iload_n 1, 1) := by decide +kernel
theorem dX7_boundsAt_13 : decode cX7_boundsAt 13 = .ok (.invokevirtual 83, 3) := by decide +kernel
theorem dX7_boundsAt_16 : decode cX7_boundsAt 16 = .ok (.iadd, 1) := by decide +kernel
theorem dX7_boundsAt_17 : decode cX7_boundsAt 17 = .ok (.iload_n 2, 1) := by decide +kernel
theorem dX7_boundsAt_18 : decode cX7_boundsAt 18 = .ok (.invokevirtual 93, 3) := by decide +kernel
theorem dX7_boundsAt_21 : decode cX7_boundsAt 21 = .ok (.return_, 1) := by decide +kernel
theorem dX7_areaOf_0 : decode cX7_areaOf 0 = .ok (.iconst 4, 1) := by decide +kernel
theorem dX7_areaOf_1 : decode cX7_areaOf 1 = .ok (.iload_n 1, 1) := by decide +kernel
theorem dX7_areaOf_2 : decode cX7_areaOf 2 = .ok (.imul, 1) := by decide +kernel
theorem dX7_areaOf_3 : decode cX7_areaOf 3 = .ok (.istore_n 2, 1) := by decide +kernel
theorem dX7_areaOf_4 : decode cX7_areaOf 4 = .ok (.aload_n 0, 1) := by decide +kernel
theorem dX7_areaOf_5 : decode cX7_areaOf 5 = .ok (.getfield 22, 3) := by decide +kernel
theorem dX7_areaOf_8 : decode cX7_areaOf 8 = .ok (.iload_n 2, 1) := by decide +kernel
theorem dX7_areaOf_9 : decode cX7_areaOf 9 = .ok (.iconst 2, 1) := by decide +kernel
theorem dX7_areaOf_10 : decode cX7_areaOf 10 = .ok (.iadd, 1) := by decide +kernel
theorem dX7_areaOf_11 : decode cX7_areaOf 11 = .ok (.iaload, 1) := by decide +kernel
theorem dX7_areaOf_12 : decode cX7_areaOf 12 = .ok (.aload_n 0, 1) := by decide +kernel
theorem dX7_areaOf_13 : decode cX7_areaOf 13 = .ok (.getfield 22, 3) := by decide +kernel
theorem dX7_areaOf_16 : decode cX7_areaOf 16 = .ok (.iload_n 2, 1) := by decide +kernel
theorem dX7_areaOf_17 : decode cX7_areaOf 17 = .ok (.iaload, 1) := by decide +kernel
theorem dX7_areaOf_18 : decode cX7_areaOf 18 = .ok (.isub, 1) := by decide +kernel
theorem dX7_areaOf_19 : decode cX7_areaOf 19 = .ok (.iconst 1, 1) := by decide +kernel
theorem dX7_areaOf_20 : decode cX7_areaOf 20 = .ok (.iadd, 1) := by decide +kernel
theorem dX7_areaOf_21 : decode cX7_areaOf 21 = .ok (.aload_n 0, 1) := by decide +kernel
theorem dX7_areaOf_22 : decode cX7_areaOf 22 = .ok (.getfield 22, 3) := by decide +kernel
theorem dX7_areaOf_25 : decode cX7_areaOf 25 = .ok (.iload_n 2, 1) := by decide +kernel
theorem dX7_areaOf_26 : decode cX7_areaOf 26 = .ok (.iconst 3, 1) := by decide +kernel
theorem dX7_areaOf_27 : decode cX7_areaOf 27 = .ok (.iadd, 1) := by decide +kernel
theorem dX7_areaOf_28 : decode cX7_areaOf 28 = .ok (.iaload, 1) := by decide +kernel
theorem dX7_areaOf_29 : decode cX7_areaOf 29 = .ok (.aload_n 0, 1) := by decide +kernel
theorem dX7_areaOf_30 : decode cX7_areaOf 30 = .ok (.getfield 22, 3) := by decide +kernel
theorem dX7_areaOf_33 : decode cX7_areaOf 33 = .ok (.iload_n 2, 1) := by decide +kernel
theorem dX7_areaOf_34 : decode cX7_areaOf 34 = .ok (.iconst 1, 1) := by decide +kernel
theorem dX7_areaOf_35 : decode cX7_areaOf 35 = .ok (.iadd, 1) := by decide +kernel
theorem dX7_areaOf_36 : decode cX7_areaOf 36 = .ok (.iaload, 1) := by decide +kernel
theorem dX7_areaOf_37 : decode cX7_areaOf 37 = .ok (.isub, 1) := by decide +kernel
theorem dX7_areaOf_38 : decode cX7_areaOf 38 = .ok (.iconst 1, 1) := by decide +kernel
theorem dX7_areaOf_39 : decode cX7_areaOf 39 = .ok (.iadd, 1) := by decide +kernel
theorem dX7_areaOf_40 : decode cX7_areaOf 40 = .ok (.imul, 1) := by decide +kernel
theorem dX7_areaOf_41 : decode cX7_areaOf 41 = .ok (.ireturn, 1) := by decide +kernel
theorem dX7_enlargement_0 : decode cX7_enlargement 0 = .ok (.aload_n 0, 1) := by decide +kernel
theorem dX7_enlargement_1 : decode cX7_enlargement 1 = .ok (.iload_n 1, 1) := by decide +kernel
theorem dX7_enlargement_2 : decode cX7_enlargement 2 = .ok (.iload_n 2, 1) := by decide +kernel
theorem dX7_enlargement_3 : decode cX7_enlargement 3 = .ok (.bipush 11, 2) := by decide +kernel
theorem dX7_enlargement_5 : decode cX7_enlargement 5 = .ok (.invokevirtual 97, 3) := by decide +kernel
theorem dX7_enlargement_8 : decode cX7_enlargement 8 = .ok (.aload_n 0, 1) := by decide +kernel
theorem dX7_enlargement_9 : decode cX7_enlargement 9 = .ok (.bipush 11, 2) := by decide +kernel
theorem dX7_enlargement_11 : decode cX7_enlargement 11 = .ok (.invokevirtual 101, 3) := by decide +kernel
theorem dX7_enlargement_14 : decode cX7_enlargement 14 = .ok (.aload_n 0, 1) := by decide +kernel
theorem dX7_enlargement_15 : decode cX7_enlargement 15 = .ok (.iload_n 1, 1) := by decide +kernel
theorem dX7_enlargement_16 : decode cX7_enlargement 16 = .ok (.invokevirtual 101, 3) := by decide +kernel
theorem dX7_enlargement_19 : decode cX7_enlargement 19 = .ok (.isub, 1) := by decide +kernel
theorem dX7_enlargement_20 : decode cX7_enlargement 20 = .ok (.ireturn, 1) := by decide +kernel
theorem dX7_commonArea_0 : decode cX7_commonArea 0 = .ok (.iconst 4, 1) := by decide +kernel
theorem dX7_commonArea_1 : decode cX7_commonArea 1 = .ok (.iload_n 1, 1) := by decide +kernel
theorem dX7_commonArea_2 : decode cX7_commonArea 2 = .ok (.imul, 1) := by decide +kernel
theorem dX7_commonArea_3 : decode cX7_commonArea 3 = .ok (.istore_n 3, 1) := by decide +kernel
theorem dX7_commonArea_4 : decode cX7_commonArea 4 = .ok (.iconst 4, 1) := by decide +kernel
theorem dX7_commonArea_5 : decode cX7_commonArea 5 = .ok (.iload_n 2, 1) := by decide +kernel
theorem dX7_commonArea_6 : decode cX7_commonArea 6 = .ok (.imul, 1) := by decide +kernel
theorem dX7_commonArea_7 : decode cX7_commonArea 7 = .ok (.istore 4, 2) := by decide +kernel
theorem dX7_commonArea_9 : decode cX7_commonArea 9 = .ok (.aload_n 0, 1) := by decide +kernel
theorem dX7_commonArea_10 : decode cX7_commonArea 10 = .ok (.getfield 22, 3) := by decide +kernel
theorem dX7_commonArea_13 : decode cX7_commonArea 13 = .ok (.iload_n 3, 1) := by decide +kernel
theorem dX7_commonArea_14 : decode cX7_commonArea 14 = .ok (.iconst 2, 1) := by decide +kernel
theorem dX7_commonArea_15 : decode cX7_commonArea 15 = .ok (.iadd, 1) := by decide +kernel
theorem dX7_commonArea_16 : decode cX7_commonArea 16 = .ok (.iaload, 1) := by decide +kernel
theorem dX7_commonArea_17 : decode cX7_commonArea 17 = .ok (.aload_n 0, 1) := by decide +kernel
theorem dX7_commonArea_18 : decode cX7_commonArea 18 = .ok (.getfield 22, 3) := by decide +kernel
theorem dX7_commonArea_21 : decode cX7_commonArea 21 = .ok (.iload 4, 2) := by decide +kernel
theorem dX7_commonArea_23 : decode cX7_commonArea 23 = .ok (.iconst 2, 1) := by decide +kernel
theorem dX7_commonArea_24 : decode cX7_commonArea 24 = .ok (.iadd, 1) := by decide +kernel
theorem dX7_commonArea_25 : decode cX7_commonArea 25 = .ok (.iaload, 1) := by decide +kernel
theorem dX7_commonArea_26 : decode cX7_commonArea 26 = .ok (.invokestatic 86, 3) := by decide +kernel
theorem dX7_commonArea_29 : decode cX7_commonArea 29 = .ok (.aload_n 0, 1) := by decide +kernel
theorem dX7_commonArea_30 : decode cX7_commonArea 30 = .ok (.getfield 22, 3) := by decide +kernel
theorem dX7_commonArea_33 : decode cX7_commonArea 33 = .ok (.iload_n 3, 1) := by decide +kernel
theorem dX7_commonArea_34 : decode cX7_commonArea 34 = .ok (.iaload, 1) := by decide +kernel
theorem dX7_commonArea_35 : decode cX7_commonArea 35 = .ok (.aload_n 0, 1) := by decide +kernel
theorem dX7_commonArea_36 : decode cX7_commonArea 36 = .ok (.getfield 22, 3) := by decide +kernel
theorem dX7_commonArea_39 : decode cX7_commonArea 39 = .ok (.iload 4, 2) := by decide +kernel
theorem dX7_commonArea_41 : decode cX7_commonArea 41 = .ok (.iaload, 1) := by decide +kernel
theorem dX7_commonArea_42 : decode cX7_commonArea 42 = .ok (.invokestatic 90, 3) := by decide +kernel
theorem dX7_commonArea_45 : decode cX7_commonArea 45 = .ok (.isub, 1) := by decide +kernel
theorem dX7_commonArea_46 : decode cX7_commonArea 46 = .ok (.iconst 1, 1) := by decide +kernel
theorem dX7_commonArea_47 : decode cX7_commonArea 47 = .ok (.iadd, 1) := by decide +kernel
theorem dX7_commonArea_48 : decode cX7_commonArea 48 = .ok (.istore 5, 2) := by decide +kernel
theorem dX7_commonArea_50 : decode cX7_commonArea 50 = .ok (.aload_n 0, 1) := by decide +kernel
theorem dX7_commonArea_51 : decode cX7_commonArea 51 = .ok (.getfield 22, 3) := by decide +kernel
theorem dX7_commonArea_54 : decode cX7_commonArea 54 = .ok (.iload_n 3, 1) := by decide +kernel
theorem dX7_commonArea_55 : decode cX7_commonArea 55 = .ok (.iconst 3, 1) := by decide +kernel
theorem dX7_commonArea_56 : decode cX7_commonArea 56 = .ok (.iadd, 1) := by decide +kernel
theorem dX7_commonArea_57 : decode cX7_commonArea 57 = .ok (.iaload, 1) := by decide +kernel
theorem dX7_commonArea_58 : decode cX7_commonArea 58 = .ok (.aload_n 0, 1) := by decide +kernel
theorem dX7_commonArea_59 : decode cX7_commonArea 59 = .ok (.getfield 22, 3) := by decide +kernel
theorem dX7_commonArea_62 : decode cX7_commonArea 62 = .ok (.iload 4, 2) := by decide +kernel
theorem dX7_commonArea_64 : decode cX7_commonArea 64 = .ok (.iconst 3, 1) := by decide +kernel
theorem dX7_commonArea_65 : decode cX7_commonArea 65 = .ok (.iadd, 1) := by decide +kernel
theorem dX7_commonArea_66 : decode cX7_commonArea 66 = .ok (.iaload, 1) := by decide +kernel
theorem dX7_commonArea_67 : decode cX7_commonArea 67 = .ok (.invokestatic 86, 3) := by decide +kernel
theorem dX7_commonArea_70 : decode cX7_commonArea 70 = .ok (.aload_n 0, 1) := by decide +kernel
theorem dX7_commonArea_71 : decode cX7_commonArea 71 = .ok (.getfield 22, 3) := by decide +kernel
theorem dX7_commonArea_74 : decode cX7_commonArea 74 = .ok (.iload_n 3, 1) := by decide +kernel
theorem dX7_commonArea_75 : decode cX7_commonArea 75 = .ok (.iconst 1, 1) := by decide +kernel
theorem dX7_commonArea_76 : decode cX7_commonArea 76 = .ok (.iadd, 1) := by decide +kernel
theorem dX7_commonArea_77 : decode cX7_commonArea 77 = .ok (.iaload, 1) := by decide +kernel
theorem dX7_commonArea_78 : decode cX7_commonArea 78 = .ok (.aload_n 0, 1) := by decide +kernel
theorem dX7_commonArea_79 : decode cX7_commonArea 79 = .ok (.getfield 22, 3) := by decide +kernel
theorem dX7_commonArea_82 : decode cX7_commonArea 82 = .ok (.iload 4, 2) := by decide +kernel
theorem dX7_commonArea_84 : decode cX7_commonArea 84 = .ok (.iconst 1, 1) := by decide +kernel
theorem dX7_commonArea_85 : decode cX7_commonArea 85 = .ok (.iadd, 1) := by decide +kernel
theorem dX7_commonArea_86 : decode cX7_commonArea 86 = .ok (.iaload, 1) := by decide +kernel
theorem dX7_commonArea_87 : decode cX7_commonArea 87 = .ok (.invokestatic 90, 3) := by decide +kernel
theorem dX7_commonArea_90 : decode cX7_commonArea 90 = .ok (.isub, 1) := by decide +kernel
theorem dX7_commonArea_91 : decode cX7_commonArea 91 = .ok (.iconst 1, 1) := by decide +kernel
theorem dX7_commonArea_92 : decode cX7_commonArea 92 = .ok (.iadd, 1) := by decide +kernel
theorem dX7_commonArea_93 : decode cX7_commonArea 93 = .ok (.istore 6, 2) := by decide +kernel
theorem dX7_commonArea_95 : decode cX7_commonArea 95 = .ok (.iload 5, 2) := by decide +kernel
theorem dX7_commonArea_97 : decode cX7_commonArea 97 = .ok (.ifCond .le 16, 3) := by decide +kernel
theorem dX7_commonArea_100 : decode cX7_commonArea 100 = .ok (.iload 6, 2) := by decide +kernel
theorem dX7_commonArea_102 : decode cX7_commonArea 102 = .ok (.ifCond .le 11, 3) := by decide +kernel
theorem dX7_commonArea_105 : decode cX7_commonArea 105 = .ok (.iload 5, 2) := by decide +kernel
theorem dX7_commonArea_107 : decode cX7_commonArea 107 = .ok (.iload 6, 2) := by decide +kernel
theorem dX7_commonArea_109 : decode cX7_commonArea 109 = .ok (.imul, 1) := by decide +kernel
theorem dX7_commonArea_110 : decode cX7_commonArea 110 = .ok (.goto 4, 3) := by decide +kernel
theorem dX7_commonArea_113 : decode cX7_commonArea 113 = .ok (.iconst 0, 1) := by decide +kernel
theorem dX7_commonArea_114 : decode cX7_commonArea 114 = .ok (.ireturn, 1) := by decide +kernel
theorem dX7_centerDistance_0 : decode cX7_centerDistance 0 = .ok (.iconst 4, 1) := by decide +kernel
theorem dX7_centerDistance_1 : decode cX7_centerDistance 1 = .ok (.iload_n 1, 1) := by decide +kernel
theorem dX7_centerDistance_2 : decode cX7_centerDistance 2 = .ok (.imul, 1) := by decide +kernel
theorem dX7_centerDistance_3 : decode cX7_centerDistance 3 = .ok (.istore_n 3, 1) := by decide +kernel
theorem dX7_centerDistance_4 : decode cX7_centerDistance 4 = .ok (.iconst 4, 1) := by decide +kernel
theorem dX7_centerDistance_5 : decode cX7_centerDistance 5 = .ok (.iload_n 2, 1) := by decide +kernel
theorem dX7_centerDistance_6 : decode cX7_centerDistance 6 = .ok (.imul, 1) := by decide +kernel
theorem dX7_centerDistance_7 : decode cX7_centerDistance 7 = .ok (.istore 4, 2) := by decide +kernel
theorem dX7_centerDistance_9 : decode cX7_centerDistance 9 = .ok (.aload_n 0, 1) := by decide +kernel
theorem dX7_centerDistance_10 : decode cX7_centerDistance 10 = .ok (.getfield 22, 3) := by decide +kernel
theorem dX7_centerDistance_13 : decode cX7_centerDistance 13 = .ok (.iload_n 3, 1) := by decide +kernel
theorem dX7_centerDistance_14 : decode cX7_centerDistance 14 = .ok (.iaload, 1) := by decide +kernel
theorem dX7_centerDistance_15 : decode cX7_centerDistance 15 = .ok (.aload_n 0, 1) := by decide +kernel
theorem dX7_centerDistance_16 : decode cX7_centerDistance 16 = .ok (.getfield 22, 3) := by decide +kernel
theorem dX7_centerDistance_19 : decode cX7_centerDistance 19 = .ok (.iload_n 3, 1) := by decide +kernel
theorem dX7_centerDistance_20 : decode cX7_centerDistance 20 = .ok (.iconst 2, 1) := by decide +kernel
theorem dX7_centerDistance_21 : decode cX7_centerDistance 21 = .ok (.iadd, 1) := by decide +kernel
theorem dX7_centerDistance_22 : decode cX7_centerDistance 22 = .ok (.iaload, 1) := by decide +kernel
theorem dX7_centerDistance_23 : decode cX7_centerDistance 23 = .ok (.iadd, 1) := by decide +kernel
theorem dX7_centerDistance_24 : decode cX7_centerDistance 24 = .ok (.aload_n 0, 1) := by decide +kernel
theorem dX7_centerDistance_25 : decode cX7_centerDistance 25 = .ok (.getfield 22, 3) := by decide +kernel
theorem dX7_centerDistance_28 : decode cX7_centerDistance 28 = .ok (.iload 4, 2) := by decide +kernel
theorem dX7_centerDistance_30 : decode cX7_centerDistance 30 = .ok (.iaload, 1) := by decide +kernel
theorem dX7_centerDistance_31 : decode cX7_centerDistance 31 = .ok (.isub, 1) := by decide +kernel
theorem dX7_centerDistance_32 : decode cX7_centerDistance 32 = .ok (.aload_n 0, 1) := by decide +kernel
theorem dX7_centerDistance_33 : decode cX7_centerDistance 33 = .ok (.getfield 22, 3) := by decide +kernel
theorem dX7_centerDistance_36 : decode cX7_centerDistance 36 = .ok (.iload 4, 2) := by decide +kernel
theorem dX7_centerDistance_38 : decode cX7_centerDistance 38 = .ok (.iconst 2, 1) := by decide +kernel
theorem dX7_centerDistance_39 : decode cX7_centerDistance 39 = .ok (.iadd, 1) := by decide +kernel
theorem dX7_centerDistance_40 : decode cX7_centerDistance 40 = .ok (.iaload, 1) := by decide +kernel
theorem dX7_centerDistance_41 : decode cX7_centerDistance 41 = .ok (.isub, 1) := by decide +kernel
theorem dX7_centerDistance_42 : decode cX7_centerDistance 42 = .ok (.istore 5, 2) := by decide +kernel
theorem dX7_centerDistance_44 : decode cX7_centerDistance 44 = .ok (.aload_n 0, 1) := by decide +kernel
theorem dX7_centerDistance_45 : decode cX7_centerDistance 45 = .ok (.getfield 22, 3) := by decide +kernel
theorem dX7_centerDistance_48 : decode cX7_centerDistance 48 = .ok (.iload_n 3, 1) := by decide +kernel
theorem dX7_centerDistance_49 : decode cX7_centerDistance 49 = .ok (.iconst 1, 1) := by decide +kernel
theorem dX7_centerDistance_50 : decode cX7_centerDistance 50 = .ok (.iadd, 1) := by decide +kernel
theorem dX7_centerDistance_51 : decode cX7_centerDistance 51 = .ok (.iaload, 1) := by decide +kernel
theorem dX7_centerDistance_52 : decode cX7_centerDistance 52 = .ok (.aload_n 0, 1) := by decide +kernel
theorem dX7_centerDistance_53 : decode cX7_centerDistance 53 = .ok (.getfield 22, 3) := by decide +kernel
theorem dX7_centerDistance_56 : decode cX7_centerDistance 56 = .ok (.iload_n 3, 1) := by decide +kernel
theorem dX7_centerDistance_57 : decode cX7_centerDistance 57 = .ok (.iconst 3, 1) := by decide +kernel
theorem dX7_centerDistance_58 : decode cX7_centerDistance 58 = .ok (.iadd, 1) := by decide +kernel
theorem dX7_centerDistance_59 : decode cX7_centerDistance 59 = .ok (.iaload, 1) := by decide +kernel
theorem dX7_centerDistance_60 : decode cX7_centerDistance 60 = .ok (.iadd, 1) := by decide +kernel
theorem dX7_centerDistance_61 : decode cX7_centerDistance 61 = .ok (.aload_n 0, 1) := by decide +kernel
theorem dX7_centerDistance_62 : decode cX7_centerDistance 62 = .ok (.getfield 22, 3) := by decide +kernel
theorem dX7_centerDistance_65 : decode cX7_centerDistance 65 = .ok (.iload 4, 2) := by decide +kernel
theorem dX7_centerDistance_67 : decode cX7_centerDistance 67 = .ok (.iconst 1, 1) := by decide +kernel
theorem dX7_centerDistance_68 : decode cX7_centerDistance 68 = .ok (.iadd, 1) := by decide +kernel
theorem dX7_centerDistance_69 : decode cX7_centerDistance 69 = .ok (.iaload, 1) := by decide +kernel
theorem dX7_centerDistance_70 : decode cX7_centerDistance 70 = .ok (.isub, 1) := by decide +kernel
theorem dX7_centerDistance_71 : decode cX7_centerDistance 71 = .ok (.aload_n 0, 1) := by decide +kernel
theorem dX7_centerDistance_72 : decode cX7_centerDistance 72 = .ok (.getfield 22, 3) := by decide +kernel
theorem dX7_centerDistance_75 : decode cX7_centerDistance 75 = .ok (.iload 4, 2) := by decide +kernel
theorem dX7_centerDistance_77 : decode cX7_centerDistance 77 = .ok (.iconst 3, 1) := by decide +kernel
theorem dX7_centerDistance_78 : decode cX7_centerDistance 78 = .ok (.iadd, 1) := by decide +kernel
theorem dX7_centerDistance_79 : decode cX7_centerDistance 79 = .ok (.iaload, 1) := by decide +kernel
theorem dX7_centerDistance_80 : decode cX7_centerDistance 80 = .ok (.isub, 1) := by decide +kernel
theorem dX7_centerDistance_81 : decode cX7_centerDistance 81 = .ok (.istore 6, 2) := by decide +kernel
theorem dX7_centerDistance_83 : decode cX7_centerDistance 83 = .ok (.iload 5, 2) := by decide +kernel
theorem dX7_centerDistance_85 : decode cX7_centerDistance 85 = .ok (.iload 5, 2) := by decide +kernel
theorem dX7_centerDistance_87 : decode cX7_centerDistance 87 = .ok (.imul, 1) := by decide +kernel
theorem dX7_centerDistance_88 : decode cX7_centerDistance 88 = .ok (.iload 6, 2) := by decide +kernel
theorem dX7_centerDistance_90 : decode cX7_centerDistance 90 = .ok (.iload 6, 2) := by decide +kernel
theorem dX7_centerDistance_92 : decode cX7_centerDistance 92 = .ok (.imul, 1) := by decide +kernel
theorem dX7_centerDistance_93 : decode cX7_centerDistance 93 = .ok (.iadd, 1) := by decide +kernel
theorem dX7_centerDistance_94 : decode cX7_centerDistance 94 = .ok (.ireturn, 1) := by decide +kernel
theorem dX7_takes_0 : decode cX7_takes 0 = .ok (.aload_n 0, 1) := by decide +kernel
theorem dX7_takes_1 : decode cX7_takes 1 = .ok (.iload_n 3, 1) := by decide +kernel
theorem dX7_takes_2 : decode cX7_takes 2 = .ok (.iload_n 2, 1) := by decide +kernel
theorem dX7_takes_3 : decode cX7_takes 3 = .ok (.isub, 1) := by decide +kernel
theorem dX7_takes_4 : decode cX7_takes 4 = .ok (.putfield 104, 3) := by decide +kernel
theorem dX7_takes_7 : decode cX7_takes 7 = .ok (.iconst 0, 1) := by decide +kernel
theorem dX7_takes_8 : decode cX7_takes 8 = .ok (.istore 4, 2) := by decide +kernel
theorem dX7_takes_10 : decode cX7_takes 10 = .ok (.iload 4, 2) := by decide +kernel
theorem dX7_takes_12 : decode cX7_takes 12 = .ok (.aload_n 0, 1) := by decide +kernel
theorem dX7_takes_13 : decode cX7_takes 13 = .ok (.getfield 104, 3) := by decide +kernel
theorem dX7_takes_16 : decode cX7_takes 16 = .ok (.if_icmp .ge 22, 3) := by decide +kernel
theorem dX7_takes_19 : decode cX7_takes 19 = .ok (.aload_n 0, 1) := by decide +kernel
theorem dX7_takes_20 : decode cX7_takes 20 = .ok (.getfield 25, 3) := by decide +kernel
theorem dX7_takes_23 : decode cX7_takes 23 = .ok (.iload 4, 2) := by decide +kernel
theorem dX7_takes_25 : decode cX7_takes 25 = .ok (.aload_n 1, 1) := by decide +kernel
theorem dX7_takes_26 : decode cX7_takes 26 = .ok (.iload_n 2, 1) := by decide +kernel
theorem dX7_takes_27 : decode cX7_takes 27 = .ok (.iload 4, 2) := by decide +kernel
theorem dX7_takes_29 : decode cX7_takes 29 = .ok (.iadd, 1) := by decide +kernel
theorem dX7_takes_30 : decode cX7_takes 30 = .ok (.iaload, 1) := by decide +kernel
theorem dX7_takes_31 : decode cX7_takes 31 = .ok (.iastore, 1) := by decide +kernel
theorem dX7_takes_32 : decode cX7_takes 32 = .ok (.iinc 4 1, 3) := by decide +kernel
theorem dX7_takes_35 : decode cX7_takes 35 = .ok (.goto (-25), 3) := by decide +kernel
theorem dX7_takes_38 : decode cX7_takes 38 = .ok (.return_, 1) := by decide +kernel
theorem dX7_chosen_0 : decode cX7_chosen 0 = .ok (.iconst 0, 1) := by decide +kernel
theorem dX7_chosen_1 : decode cX7_chosen 1 = .ok (.istore_n 1, 1) := by decide +kernel
theorem dX7_chosen_2 : decode cX7_chosen 2 = .ok (.aload_n 0, 1) := by decide +kernel
theorem dX7_chosen_3 : decode cX7_chosen 3 = .ok (.aload_n 0, 1) := by decide +kernel
theorem dX7_chosen_4 : decode cX7_chosen 4 = .ok (.getfield 25, 3) := by decide +kernel
theorem dX7_chosen_7 : decode cX7_chosen 7 = .ok (.iconst 0, 1) := by decide +kernel
theorem dX7_chosen_8 : decode cX7_chosen 8 = .ok (.aload_n 0, 1) := by decide +kernel
theorem dX7_chosen_9 : decode cX7_chosen 9 = .ok (.getfield 104, 3) := by decide +kernel
theorem dX7_chosen_12 : decode cX7_chosen 12 = .ok (.iconst 0, 1) := by decide +kernel
theorem dX7_chosen_13 : decode cX7_chosen 13 = .ok (.invokevirtual 93, 3) := by decide +kernel
theorem dX7_chosen_16 : decode cX7_chosen 16 = .ok (.aload_n 0, 1) := by decide +kernel
theorem dX7_chosen_17 : decode cX7_chosen 17 = .ok (.iload_n 1, 1) := by decide +kernel
theorem dX7_chosen_18 : decode cX7_chosen 18 = .ok (.invokevirtual 80, 3) := by decide +kernel
theorem dX7_chosen_21 : decode cX7_chosen 21 = .ok (.aload_n 0, 1) := by decide +kernel
theorem dX7_chosen_22 : decode cX7_chosen 22 = .ok (.getfield 107, 3) := by decide +kernel
theorem dX7_chosen_25 : decode cX7_chosen 25 = .ok (.if_icmp .le 101, 3) := by decide +kernel
theorem dX7_chosen_28 : decode cX7_chosen 28 = .ok (.bipush (-5), 2) := by decide +kernel
theorem dX7_chosen_30 : decode cX7_chosen 30 = .ok (.istore_n 2, 1) := by decide +kernel
theorem dX7_chosen_31 : decode cX7_chosen 31 = .ok (.iconst 0, 1) := by decide +kernel
theorem dX7_chosen_32 : decode cX7_chosen 32 = .ok (.istore_n 3, 1) := by decide +kernel
theorem dX7_chosen_33 : decode cX7_chosen 33 = .ok (.iconst 0, 1) := by decide +kernel
theorem dX7_chosen_34 : decode cX7_chosen 34 = .ok (.istore 4, 2) := by decide +kernel
theorem dX7_chosen_36 : decode cX7_chosen 36 = .ok (.aload_n 0, 1) := by decide +kernel
theorem dX7_chosen_37 : decode cX7_chosen 37 = .ok (.iload_n 1, 1) := by decide +kernel
theorem dX7_chosen_38 : decode cX7_chosen 38 = .ok (.invokevirtual 83, 3) := by decide +kernel
theorem dX7_chosen_41 : decode cX7_chosen 41 = .ok (.istore 5, 2) := by decide +kernel
theorem dX7_chosen_43 : decode cX7_chosen 43 = .ok (.iload_n 1, 1) := by decide +kernel
theorem dX7_chosen_44 : decode cX7_chosen 44 = .ok (.iconst 1, 1) := by decide +kernel
theorem dX7_chosen_45 : decode cX7_chosen 45 = .ok (.iadd, 1) := by decide +kernel
theorem dX7_chosen_46 : decode cX7_chosen 46 = .ok (.istore 6, 2) := by decide +kernel
theorem dX7_chosen_48 : decode cX7_chosen 48 = .ok (.iload 6, 2) := by decide +kernel
theorem dX7_chosen_50 : decode cX7_chosen 50 = .ok (.iload 5, 2) := by decide +kernel
theorem dX7_chosen_52 : decode cX7_chosen 52 = .ok (.if_icmp .ge 69, 3) := by decide +kernel
theorem dX7_chosen_55 : decode cX7_chosen 55 = .ok (.aload_n 0, 1) := by decide +kernel
theorem dX7_chosen_56 : decode cX7_chosen 56 = .ok (.iload 6, 2) := by decide +kernel
theorem dX7_chosen_58 : decode cX7_chosen 58 = .ok (.iconst 1, 1) := by decide +kernel
theorem dX7_chosen_59 : decode cX7_chosen 59 = .ok (.invokevirtual 110, 3) := by decide +kernel
theorem dX7_chosen_62 : decode cX7_chosen 62 = .ok (.aload_n 0, 1) := by decide +kernel
theorem dX7_chosen_63 : decode cX7_chosen 63 = .ok (.iconst 1, 1) := by decide +kernel
theorem dX7_chosen_64 : decode cX7_chosen 64 = .ok (.iconst 0, 1) := by decide +kernel
theorem dX7_chosen_65 : decode cX7_chosen 65 = .ok (.invokevirtual 114, 3) := by decide +kernel
theorem dX7_chosen_68 : decode cX7_chosen 68 = .ok (.istore 7, 2) := by decide +kernel
theorem dX7_chosen_70 : decode cX7_chosen 70 = .ok (.aload_n 0, 1) := by decide +kernel
theorem dX7_chosen_71 : decode cX7_chosen 71 = .ok (.iconst 1, 1) := by decide +kernel
theorem dX7_chosen_72 : decode cX7_chosen 72 = .ok (.invokevirtual 101, 3) := by decide +kernel
theorem dX7_chosen_75 : decode cX7_chosen 75 = .ok (.istore 8, 2) := by decide +kernel
theorem dX7_chosen_77 : decode cX7_chosen 77 = .ok (.iload_n 2, 1) := by decide +kernel
theorem dX7_chosen_78 : decode cX7_chosen 78 = .ok (.ifCond .lt 22, 3) := by decide +kernel
theorem dX7_chosen_81 : decode cX7_chosen 81 = .ok (.iload 7, 2) := by decide +kernel
theorem dX7_chosen_83 : decode cX7_chosen 83 = .ok (.iload_n 3, 1) := by decide +kernel
theorem dX7_chosen_84 : decode cX7_chosen 84 = .ok (.if_icmp .lt 16, 3) := by decide +kernel
theorem dX7_chosen_87 : decode cX7_chosen 87 = .ok (.iload 7, 2) := by decide +kernel
theorem dX7_chosen_89 : decode cX7_chosen 89 = .ok (.iload_n 3, 1) := by decide +kernel
theorem dX7_chosen_90 : decode cX7_chosen 90 = .ok (.if_icmp .ne 20, 3) := by decide +kernel
theorem dX7_chosen_93 : decode cX7_chosen 93 = .ok (.iload 8, 2) := by decide +kernel
theorem dX7_chosen_95 : decode cX7_chosen 95 = .ok (.iload 4, 2) := by decide +kernel
theorem dX7_chosen_97 : decode cX7_chosen 97 = .ok (.if_icmp .ge 13, 3) := by decide +kernel
theorem dX7_chosen_100 : decode cX7_chosen 100 = .ok (.iload 6, 2) := by decide +kernel
theorem dX7_chosen_102 : decode cX7_chosen 102 = .ok (.istore_n 2, 1) := by decide +kernel
theorem dX7_chosen_103 : decode cX7_chosen 103 = .ok (.iload 7, 2) := by decide +kernel
theorem dX7_chosen_105 : decode cX7_chosen 105 = .ok (.istore_n 3, 1) := by decide +kernel
theorem dX7_chosen_106 : decode cX7_chosen 106 = .ok (.iload 8, 2) := by decide +kernel
theorem dX7_chosen_108 : decode cX7_chosen 108 = .ok (.istore 4, 2) := by decide +kernel
theorem dX7_chosen_110 : decode cX7_chosen 110 = .ok (.aload_n 0, 1) := by decide +kernel
theorem dX7_chosen_111 : decode cX7_chosen 111 = .ok (.iload 6, 2) := by decide +kernel
theorem dX7_chosen_113 : decode cX7_chosen 113 = .ok (.invokevirtual 83, 3) := by decide +kernel
theorem dX7_chosen_116 : decode cX7_chosen 116 = .ok (.istore 6, 2) := by decide +kernel
theorem dX7_chosen_118 : decode cX7_chosen 118 = .ok (.goto (-70), 3) := by decide +kernel
theorem dX7_chosen_121 : decode cX7_chosen 121 = .ok (.iload_n 2, 1) := by decide +kernel
theorem dX7_chosen_122 : decode cX7_chosen 122 = .ok (.istore_n 1, 1) := by decide +kernel
theorem dX7_chosen_123 : decode cX7_chosen 123 = .ok (.goto (-107), 3) := by decide +kernel
theorem dX7_chosen_126 : decode cX7_chosen 126 = .ok (.iload_n 1, 1) := by decide +kernel
theorem dX7_chosen_127 : decode cX7_chosen 127 = .ok (.ireturn, 1) := by decide +kernel
theorem dX7_puts_0 : decode cX7_puts 0 = .ok (.aload_n 0, 1) := by decide +kernel
theorem dX7_puts_1 : decode cX7_puts 1 = .ok (.iload_n 1, 1) := by decide +kernel
theorem dX7_puts_2 : decode cX7_puts 2 = .ok (.invokevirtual 83, 3) := by decide +kernel
theorem dX7_puts_5 : decode cX7_puts 5 = .ok (.istore_n 2, 1) := by decide +kernel
theorem dX7_puts_6 : decode cX7_puts 6 = .ok (.aload_n 0, 1) := by decide +kernel
theorem dX7_puts_7 : decode cX7_puts 7 = .ok (.iload_n 2, 1) := by decide +kernel
theorem dX7_puts_8 : decode cX7_puts 8 = .ok (.aload_n 0, 1) := by decide +kernel
theorem dX7_puts_9 : decode cX7_puts 9 = .ok (.getfield 104, 3) := by decide +kernel
theorem dX7_puts_12 : decode cX7_puts 12 = .ok (.invokevirtual 117, 3) := by decide +kernel
theorem dX7_puts_15 : decode cX7_puts 15 = .ok (.iconst 0, 1) := by decide +kernel
theorem dX7_puts_16 : decode cX7_puts 16 = .ok (.istore_n 3, 1) := by decide +kernel
theorem dX7_puts_17 : decode cX7_puts 17 = .ok (.iload_n 3, 1) := by decide +kernel
theorem dX7_puts_18 : decode cX7_puts 18 = .ok (.aload_n 0, 1) := by decide +kernel
theorem dX7_puts_19 : decode cX7_puts 19 = .ok (.getfield 104, 3) := by decide +kernel
theorem dX7_puts_22 : decode cX7_puts 22 = .ok (.if_icmp .ge 26, 3) := by decide +kernel
theorem dX7_puts_25 : decode cX7_puts 25 = .ok (.aload_n 0, 1) := by decide +kernel
theorem dX7_puts_26 : decode cX7_puts 26 = .ok (.getfield 7, 3) := by decide +kernel
theorem dX7_puts_29 : decode cX7_puts 29 = .ok (.bipush 101, 2) := by decide +kernel
theorem dX7_puts_31 : decode cX7_puts 31 = .ok (.iload_n 2, 1) := by decide +kernel
theorem dX7_puts_32 : decode cX7_puts 32 = .ok (.iadd, 1) := by decide +kernel
theorem dX7_puts_33 : decode cX7_puts 33 = .ok (.iload_n 3, 1) := by decide +kernel
theorem dX7_puts_34 : decode cX7_puts 34 = .ok (.iadd, 1) := by decide +kernel
theorem dX7_puts_35 : decode cX7_puts 35 = .ok (.aload_n 0, 1) := by decide +kernel
theorem dX7_puts_36 : decode cX7_puts 36 = .ok (.getfield 25, 3) := by decide +kernel
theorem dX7_puts_39 : decode cX7_puts 39 = .ok (.iload_n 3, 1) := by decide +kernel
theorem dX7_puts_40 : decode cX7_puts 40 = .ok (.iaload, 1) := by decide +kernel
theorem dX7_puts_41 : decode cX7_puts 41 = .ok (.iastore, 1) := by decide +kernel
theorem dX7_puts_42 : decode cX7_puts 42 = .ok (.iinc 3 1, 3) := by decide +kernel
theorem dX7_puts_45 : decode cX7_puts 45 = .ok (.goto (-28), 3) := by decide +kernel
theorem dX7_puts_48 : decode cX7_puts 48 = .ok (.return_, 1) := by decide +kernel
theorem dX7_takesFar_0 : decode cX7_takesFar 0 = .ok (.aload_n 0, 1) := by decide +kernel
theorem dX7_takesFar_1 : decode cX7_takesFar 1 = .ok (.getfield 28, 3) := by decide +kernel
theorem dX7_takesFar_4 : decode cX7_takesFar 4 = .ok (.aload_n 0, 1) := by decide +kernel
theorem dX7_takesFar_5 : decode cX7_takesFar 5 = .ok (.iload_n 1, 1) := by decide +kernel
theorem dX7_takesFar_6 : decode cX7_takesFar 6 = .ok (.invokevirtual 80, 3) := by decide +kernel
theorem dX7_takesFar_9 : decode cX7_takesFar 9 = .ok (.iconst 1, 1) := by decide +kernel
theorem dX7_takesFar_10 : decode cX7_takesFar 10 = .ok (.bastore, 1) := by decide +kernel
theorem dX7_takesFar_11 : decode cX7_takesFar 11 = .ok (.aload_n 0, 1) := by decide +kernel
theorem dX7_takesFar_12 : decode cX7_takesFar 12 = .ok (.getfield 7, 3) := by decide +kernel
theorem dX7_takesFar_15 : decode cX7_takesFar 15 = .ok (.iconst 3, 1) := by decide +kernel
theorem dX7_takesFar_16 : decode cX7_takesFar 16 = .ok (.dup2, 1) := by decide +kernel
theorem dX7_takesFar_17 : decode cX7_takesFar 17 = .ok (.iaload, 1) := by decide +kernel
theorem dX7_takesFar_18 : decode cX7_takesFar 18 = .ok (.iconst 1, 1) := by decide +kernel
theorem dX7_takesFar_19 : decode cX7_takesFar 19 = .ok (.iadd, 1) := by decide +kernel
theorem dX7_takesFar_20 : decode cX7_takesFar 20 = .ok (.iastore, 1) := by decide +kernel
theorem dX7_takesFar_21 : decode cX7_takesFar 21 = .ok (.aload_n 0, 1) := by decide +kernel
theorem dX7_takesFar_22 : decode cX7_takesFar 22 = .ok (.iload_n 1, 1) := by decide +kernel
theorem dX7_takesFar_23 : decode cX7_takesFar 23 = .ok (.iconst 1, 1) := by decide +kernel
theorem dX7_takesFar_24 : decode cX7_takesFar 24 = .ok (.invokevirtual 110, 3) := by decide +kernel
theorem dX7_takesFar_27 : decode cX7_takesFar 27 = .ok (.bipush (-5), 2) := by decide +kernel
theorem dX7_takesFar_29 : decode cX7_takesFar 29 = .ok (.istore_n 2, 1) := by decide +kernel
theorem dX7_takesFar_30 : decode cX7_takesFar 30 = .ok (.iconst 0, 1) := by decide +kernel
theorem dX7_takesFar_31 : decode cX7_takesFar 31 = .ok (.istore_n 3, 1) := by decide +kernel
theorem dX7_takesFar_32 : decode cX7_takesFar 32 = .ok (.aload_n 0, 1) := by decide +kernel
theorem dX7_takesFar_33 : decode cX7_takesFar 33 = .ok (.iload_n 1, 1) := by decide +kernel
theorem dX7_takesFar_34 : decode cX7_takesFar 34 = .ok (.invokevirtual 83, 3) := by decide +kernel
theorem dX7_takesFar_37 : decode cX7_takesFar 37 = .ok (.istore 4, 2) := by decide +kernel
theorem dX7_takesFar_39 : decode cX7_takesFar 39 = .ok (.iload_n 1, 1) := by decide +kernel
theorem dX7_takesFar_40 : decode cX7_takesFar 40 = .ok (.iconst 1, 1) := by decide +kernel
theorem dX7_takesFar_41 : decode cX7_takesFar 41 = .ok (.iadd, 1) := by decide +kernel
theorem dX7_takesFar_42 : decode cX7_takesFar 42 = .ok (.istore 5, 2) := by decide +kernel
theorem dX7_takesFar_44 : decode cX7_takesFar 44 = .ok (.iload 5, 2) := by decide +kernel
theorem dX7_takesFar_46 : decode cX7_takesFar 46 = .ok (.iload 4, 2) := by decide +kernel
theorem dX7_takesFar_48 : decode cX7_takesFar 48 = .ok (.if_icmp .ge 59, 3) := by decide +kernel
theorem dX7_takesFar_51 : decode cX7_takesFar 51 = .ok (.aload_n 0, 1) := by decide +kernel
theorem dX7_takesFar_52 : decode cX7_takesFar 52 = .ok (.iload 5, 2) := by decide +kernel
theorem dX7_takesFar_54 : decode cX7_takesFar 54 = .ok (.iconst 2, 1) := by decide +kernel
theorem dX7_takesFar_55 : decode cX7_takesFar 55 = .ok (.invokevirtual 110, 3) := by decide +kernel
theorem dX7_takesFar_58 : decode cX7_takesFar 58 = .ok (.aload_n 0, 1) := by decide +kernel
theorem dX7_takesFar_59 : decode cX7_takesFar 59 = .ok (.iconst 1, 1) := by decide +kernel
theorem dX7_takesFar_60 : decode cX7_takesFar 60 = .ok (.iconst 2, 1) := by decide +kernel
theorem dX7_takesFar_61 : decode cX7_takesFar 61 = .ok (.invokevirtual 120, 3) := by decide +kernel
theorem dX7_takesFar_64 : decode cX7_takesFar 64 = .ok (.istore 6, 2) := by decide +kernel
theorem dX7_takesFar_66 : decode cX7_takesFar 66 = .ok (.iload_n 2, 1) := by decide +kernel
theorem dX7_takesFar_67 : decode cX7_takesFar 67 = .ok (.ifCond .lt 9, 3) := by decide +kernel
theorem dX7_takesFar_70 : decode cX7_takesFar 70 = .ok (.iload 6, 2) := by decide +kernel
theorem dX7_takesFar_72 : decode cX7_takesFar 72 = .ok (.iload_n 3, 1) := by decide +kernel
theorem dX7_takesFar_73 : decode cX7_takesFar 73 = .ok (.if_icmp .lt 8, 3) := by decide +kernel
theorem dX7_takesFar_76 : decode cX7_takesFar 76 = .ok (.iload 5, 2) := by decide +kernel
theorem dX7_takesFar_78 : decode cX7_takesFar 78 = .ok (.goto 4, 3) := by decide +kernel
theorem dX7_takesFar_81 : decode cX7_takesFar 81 = .ok (.iload_n 2, 1) := by decide +kernel
theorem dX7_takesFar_82 : decode cX7_takesFar 82 = .ok (.istore_n 2, 1) := by decide +kernel
theorem dX7_takesFar_83 : decode cX7_takesFar 83 = .ok (.iload 6, 2) := by decide +kernel
theorem dX7_takesFar_85 : decode cX7_takesFar 85 = .ok (.iload_n 3, 1) := by decide +kernel
theorem dX7_takesFar_86 : decode cX7_takesFar 86 = .ok (.if_icmp .le 8, 3) := by decide +kernel
theorem dX7_takesFar_89 : decode cX7_takesFar 89 = .ok (.iload 6, 2) := by decide +kernel
theorem dX7_takesFar_91 : decode cX7_takesFar 91 = .ok (.goto 4, 3) := by decide +kernel
theorem dX7_takesFar_94 : decode cX7_takesFar 94 = .ok (.iload_n 3, 1) := by decide +kernel
theorem dX7_takesFar_95 : decode cX7_takesFar 95 = .ok (.istore_n 3, 1) := by decide +kernel
theorem dX7_takesFar_96 : decode cX7_takesFar 96 = .ok (.aload_n 0, 1) := by decide +kernel
theorem dX7_takesFar_97 : decode cX7_takesFar 97 = .ok (.iload 5, 2) := by decide +kernel
theorem dX7_takesFar_99 : decode cX7_takesFar 99 = .ok (.invokevirtual 83, 3) := by decide +kernel
theorem dX7_takesFar_102 : decode cX7_takesFar 102 = .ok (.istore 5, 2) := by decide +kernel
theorem dX7_takesFar_104 : decode cX7_takesFar 104 = .ok (.goto (-60), 3) := by decide +kernel
theorem dX7_takesFar_107 : decode cX7_takesFar 107 = .ok (.aload_n 0, 1) := by decide +kernel
theorem dX7_takesFar_108 : decode cX7_takesFar 108 = .ok (.aload_n 0, 1) := by decide +kernel
theorem dX7_takesFar_109 : decode cX7_takesFar 109 = .ok (.iload_n 1, 1) := by decide +kernel
theorem dX7_takesFar_110 : decode cX7_takesFar 110 = .ok (.invokevirtual 80, 3) := by decide +kernel
theorem dX7_takesFar_113 : decode cX7_takesFar 113 = .ok (.putfield 107, 3) := by decide +kernel
theorem dX7_takesFar_116 : decode cX7_takesFar 116 = .ok (.aload_n 0, 1) := by decide +kernel
theorem dX7_takesFar_117 : decode cX7_takesFar 117 = .ok (.iload_n 2, 1) := by decide +kernel
theorem dX7_takesFar_118 : decode cX7_takesFar 118 = .ok (.invokevirtual 83, 3) := by decide +kernel
theorem dX7_takesFar_121 : decode cX7_takesFar 121 = .ok (.istore 5, 2) := by decide +kernel
theorem dX7_takesFar_123 : decode cX7_takesFar 123 = .ok (.aload_n 0, 1) := by decide +kernel
theorem dX7_takesFar_124 : decode cX7_takesFar 124 = .ok (.aload_n 0, 1) := by decide +kernel
theorem dX7_takesFar_125 : decode cX7_takesFar 125 = .ok (.getfield 7, 3) := by decide +kernel
theorem dX7_takesFar_128 : decode cX7_takesFar 128 = .ok (.bipush 101, 2) := by decide +kernel
theorem dX7_takesFar_130 : decode cX7_takesFar 130 = .ok (.iload_n 2, 1) := by decide +kernel
theorem dX7_takesFar_131 : decode cX7_takesFar 131 = .ok (.iadd, 1) := by decide +kernel
theorem dX7_takesFar_132 : decode cX7_takesFar 132 = .ok (.bipush 101, 2) := by decide +kernel
theorem dX7_takesFar_134 : decode cX7_takesFar 134 = .ok (.iload 5, 2) := by decide +kernel
theorem dX7_takesFar_136 : decode cX7_takesFar 136 = .ok (.iadd, 1) := by decide +kernel
theorem dX7_takesFar_137 : decode cX7_takesFar 137 = .ok (.invokevirtual 123, 3) := by decide +kernel
theorem dX7_takesFar_140 : decode cX7_takesFar 140 = .ok (.aload_n 0, 1) := by decide +kernel
theorem dX7_takesFar_141 : decode cX7_takesFar 141 = .ok (.iload_n 2, 1) := by decide +kernel
theorem dX7_takesFar_142 : decode cX7_takesFar 142 = .ok (.iload 5, 2) := by decide +kernel
theorem dX7_takesFar_144 : decode cX7_takesFar 144 = .ok (.invokevirtual 127, 3) := by decide +kernel
theorem dX7_takesFar_147 : decode cX7_takesFar 147 = .ok (.return_, 1) := by decide +kernel
theorem dX7_inserts_0 : decode cX7_inserts 0 = .ok (.iconst 0, 1) := by decide +kernel
theorem dX7_inserts_1 : decode cX7_inserts 1 = .ok (.istore_n 1, 1) := by decide +kernel
theorem dX7_inserts_2 : decode cX7_inserts 2 = .ok (.iload_n 1, 1) := by decide +kernel
theorem dX7_inserts_3 : decode cX7_inserts 3 = .ok (.bipush 24, 2) := by decide +kernel
theorem dX7_inserts_5 : decode cX7_inserts 5 = .ok (.if_icmp .ge 16, 3) := by decide +kernel
theorem dX7_inserts_8 : decode cX7_inserts 8 = .ok (.aload_n 0, 1) := by decide +kernel
theorem dX7_inserts_9 : decode cX7_inserts 9 = .ok (.getfield 28, 3) := by decide +kernel
theorem dX7_inserts_12 : decode cX7_inserts 12 = .ok (.iload_n 1, 1) := by decide +kernel
theorem dX7_inserts_13 : decode cX7_inserts 13 = .ok (.iconst 0, 1) := by decide +kernel
theorem dX7_inserts_14 : decode cX7_inserts 14 = .ok (.bastore, 1) := by decide +kernel
theorem dX7_inserts_15 : decode cX7_inserts 15 = .ok (.iinc 1 1, 3) := by decide +kernel
theorem dX7_inserts_18 : decode cX7_inserts 18 = .ok (.goto (-16), 3) := by decide +kernel
theorem dX7_inserts_21 : decode cX7_inserts 21 = .ok (.iconst 1, 1) := by decide +kernel
theorem dX7_inserts_22 : decode cX7_inserts 22 = .ok (.istore_n 1, 1) := by decide +kernel
theorem dX7_inserts_23 : decode cX7_inserts 23 = .ok (.iload_n 1, 1) := by decide +kernel
theorem dX7_inserts_24 : decode cX7_inserts 24 = .ok (.ifCond .eq 94, 3) := by decide +kernel
theorem dX7_inserts_27 : decode cX7_inserts 27 = .ok (.aload_n 0, 1) := by decide +kernel
theorem dX7_inserts_28 : decode cX7_inserts 28 = .ok (.invokevirtual 130, 3) := by decide +kernel
theorem dX7_inserts_31 : decode cX7_inserts 31 = .ok (.istore_n 2, 1) := by decide +kernel
theorem dX7_inserts_32 : decode cX7_inserts 32 = .ok (.aload_n 0, 1) := by decide +kernel
theorem dX7_inserts_33 : decode cX7_inserts 33 = .ok (.iload_n 2, 1) := by decide +kernel
theorem dX7_inserts_34 : decode cX7_inserts 34 = .ok (.invokevirtual 133, 3) := by decide +kernel
theorem dX7_inserts_37 : decode cX7_inserts 37 = .ok (.iconst 0, 1) := by decide +kernel
theorem dX7_inserts_38 : decode cX7_inserts 38 = .ok (.istore_n 1, 1) := by decide +kernel
theorem dX7_inserts_39 : decode cX7_inserts 39 = .ok (.iload_n 2, 1) := by decide +kernel
theorem dX7_inserts_40 : decode cX7_inserts 40 = .ok (.ifCond .lt 75, 3) := by decide +kernel
theorem dX7_inserts_43 : decode cX7_inserts 43 = .ok (.iload_n 1, 1) := by decide +kernel
theorem dX7_inserts_44 : decode cX7_inserts 44 = .ok (.ifCond .ne 71, 3) := by decide +kernel
theorem dX7_inserts_47 : decode cX7_inserts 47 = .ok (.aload_n 0, 1) := by decide +kernel
theorem dX7_inserts_48 : decode cX7_inserts 48 = .ok (.iload_n 2, 1) := by decide +kernel
theorem dX7_inserts_49 : decode cX7_inserts 49 = .ok (.invokevirtual 137, 3) := by decide +kernel
theorem dX7_inserts_52 : decode cX7_inserts 52 = .ok (.aload_n 0, 1) := by decide +kernel
theorem dX7_inserts_53 : decode cX7_inserts 53 = .ok (.getfield 7, 3) := by decide +kernel
theorem dX7_inserts_56 : decode cX7_inserts 56 = .ok (.iconst 0, 1) := by decide +kernel
theorem dX7_inserts_57 : decode cX7_inserts 57 = .ok (.iaload, 1) := by decide +kernel
theorem dX7_inserts_58 : decode cX7_inserts 58 = .ok (.if_icmp .le 57, 3) := by decide +kernel
theorem dX7_inserts_61 : decode cX7_inserts 61 = .ok (.aload_n 0, 1) := by decide +kernel
theorem dX7_inserts_62 : decode cX7_inserts 62 = .ok (.getfield 7, 3) := by decide +kernel
theorem dX7_inserts_65 : decode cX7_inserts 65 = .ok (.iconst 1, 1) := by decide +kernel
theorem dX7_inserts_66 : decode cX7_inserts 66 = .ok (.iaload, 1) := by decide +kernel
theorem dX7_inserts_67 : decode cX7_inserts 67 = .ok (.iconst 1, 1) := by decide +kernel
theorem dX7_inserts_68 : decode cX7_inserts 68 = .ok (.if_icmp .ne 24, 3) := by decide +kernel
theorem dX7_inserts_71 : decode cX7_inserts 71 = .ok (.iload_n 2, 1) := by decide +kernel
theorem dX7_inserts_72 : decode cX7_inserts 72 = .ok (.ifCond .le 20, 3) := by decide +kernel
theorem dX7_inserts_75 : decode cX7_inserts 75 = .ok (.aload_n 0, 1) := by decide +kernel
theorem dX7_inserts_76 : decode cX7_inserts 76 = .ok (.getfield 28, 3) := by decide +kernel
theorem dX7_inserts_79 : decode cX7_inserts 79 = .ok (.aload_n 0, 1) := by decide +kernel
theorem dX7_inserts_80 : decode cX7_inserts 80 = .ok (.iload_n 2, 1) := by decide +kernel
theorem dX7_inserts_81 : decode cX7_inserts 81 = .ok (.invokevirtual 80, 3) := by decide +kernel
theorem dX7_inserts_84 : decode cX7_inserts 84 = .ok (.baload, 1) := by decide +kernel
theorem dX7_inserts_85 : decode cX7_inserts 85 = .ok (.ifCond .ne 7, 3) := by decide +kernel
theorem dX7_inserts_88 : decode cX7_inserts 88 = .ok (.iconst 1, 1) := by decide +kernel
theorem dX7_inserts_89 : decode cX7_inserts 89 = .ok (.goto 4, 3) := by decide +kernel
theorem dX7_inserts_92 : decode cX7_inserts 92 = .ok (.iconst 0, 1) := by decide +kernel
theorem dX7_inserts_93 : decode cX7_inserts 93 = .ok (.istore_n 1, 1) := by decide +kernel
theorem dX7_inserts_94 : decode cX7_inserts 94 = .ok (.iload_n 1, 1) := by decide +kernel
theorem dX7_inserts_95 : decode cX7_inserts 95 = .ok (.ifCond .eq 11, 3) := by decide +kernel
theorem dX7_inserts_98 : decode cX7_inserts 98 = .ok (.aload_n 0, 1) := by decide +kernel
theorem dX7_inserts_99 : decode cX7_inserts 99 = .ok (.iload_n 2, 1) := by decide +kernel
theorem dX7_inserts_100 : decode cX7_inserts 100 = .ok (.invokevirtual 140, 3) := by decide +kernel
theorem dX7_inserts_103 : decode cX7_inserts 103 = .ok (.goto (-64), 3) := by decide +kernel
theorem dX7_inserts_106 : decode cX7_inserts 106 = .ok (.aload_n 0, 1) := by decide +kernel
theorem dX7_inserts_107 : decode cX7_inserts 107 = .ok (.iload_n 2, 1) := by decide +kernel
theorem dX7_inserts_108 : decode cX7_inserts 108 = .ok (.invokevirtual 143, 3) := by decide +kernel
theorem dX7_inserts_111 : decode cX7_inserts 111 = .ok (.istore_n 2, 1) := by decide +kernel
theorem dX7_inserts_112 : decode cX7_inserts 112 = .ok (.goto (-73), 3) := by decide +kernel
theorem dX7_inserts_115 : decode cX7_inserts 115 = .ok (.goto (-92), 3) := by decide +kernel
theorem dX7_inserts_118 : decode cX7_inserts 118 = .ok (.return_, 1) := by decide +kernel
theorem dX7_farthest_0 : decode cX7_farthest 0 = .ok (.iconst 0, 1) := by decide +kernel
theorem dX7_farthest_1 : decode cX7_farthest 1 = .ok (.istore_n 2, 1) := by decide +kernel
theorem dX7_farthest_2 : decode cX7_farthest 2 = .ok (.iconst 1, 1) := by decide +kernel
theorem dX7_farthest_3 : decode cX7_farthest 3 = .ok (.istore_n 3, 1) := by decide +kernel
theorem dX7_farthest_4 : decode cX7_farthest 4 = .ok (.iconst 1, 1) := by decide +kernel
theorem dX7_farthest_5 : decode cX7_farthest 5 = .ok (.istore 4, 2) := by decide +kernel
theorem dX7_farthest_7 : decode cX7_farthest 7 = .ok (.iconst 0, 1) := by decide +kernel
theorem dX7_farthest_8 : decode cX7_farthest 8 = .ok (.istore 5, 2) := by decide +kernel
theorem dX7_farthest_10 : decode cX7_farthest 10 = .ok (.iconst 0, 1) := by decide +kernel
theorem dX7_farthest_11 : decode cX7_farthest 11 = .ok (.istore 6, 2) := by decide +kernel
theorem dX7_farthest_13 : decode cX7_farthest 13 = .ok (.iload 6, 2) := by decide +kernel
theorem dX7_farthest_15 : decode cX7_farthest 15 = .ok (.iload_n 1, 1) := by decide +kernel
theorem dX7_farthest_16 : decode cX7_farthest 16 = .ok (.if_icmp .ge 84, 3) := by decide +kernel
theorem dX7_farthest_19 : decode cX7_farthest 19 = .ok (.iload 6, 2) := by decide +kernel
theorem dX7_farthest_21 : decode cX7_farthest 21 = .ok (.iconst 1, 1) := by decide +kernel
theorem dX7_farthest_22 : decode cX7_farthest 22 = .ok (.iadd, 1) := by decide +kernel
theorem dX7_farthest_23 : decode cX7_farthest 23 = .ok (.istore 7, 2) := by decide +kernel
theorem dX7_farthest_25 : decode cX7_farthest 25 = .ok (.iload 7, 2) := by decide +kernel
theorem dX7_farthest_27 : decode cX7_farthest 27 = .ok (.iload_n 1, 1) := by decide +kernel
theorem dX7_farthest_28 : decode cX7_farthest 28 = .ok (.if_icmp .ge 66, 3) := by decide +kernel
theorem dX7_farthest_31 : decode cX7_farthest 31 = .ok (.aload_n 0, 1) := by decide +kernel
theorem dX7_farthest_32 : decode cX7_farthest 32 = .ok (.iload 6, 2) := by decide +kernel
theorem dX7_farthest_34 : decode cX7_farthest 34 = .ok (.iload 7, 2) := by decide +kernel
theorem dX7_farthest_36 : decode cX7_farthest 36 = .ok (.bipush 11, 2) := by decide +kernel
theorem dX7_farthest_38 : decode cX7_farthest 38 = .ok (.invokevirtual 97, 3) := by decide +kernel
theorem dX7_farthest_41 : decode cX7_farthest 41 = .ok (.aload_n 0, 1) := by decide +kernel
theorem dX7_farthest_42 : decode cX7_farthest 42 = .ok (.bipush 11, 2) := by decide +kernel
theorem dX7_farthest_44 : decode cX7_farthest 44 = .ok (.invokevirtual 101, 3) := by decide +kernel
theorem dX7_farthest_47 : decode cX7_farthest 47 = .ok (.aload_n 0, 1) := by decide +kernel
theorem dX7_farthest_48 : decode cX7_farthest 48 = .ok (.iload 6, 2) := by decide +kernel
theorem dX7_farthest_50 : decode cX7_farthest 50 = .ok (.invokevirtual 101, 3) := by decide +kernel
theorem dX7_farthest_53 : decode cX7_farthest 53 = .ok (.isub, 1) := by decide +kernel
theorem dX7_farthest_54 : decode cX7_farthest 54 = .ok (.aload_n 0, 1) := by decide +kernel
theorem dX7_farthest_55 : decode cX7_farthest 55 = .ok (.iload 7, 2) := by decide +kernel
theorem dX7_farthest_57 : decode cX7_farthest 57 = .ok (.invokevirtual 101, 3) := by decide +kernel
theorem dX7_farthest_60 : decode cX7_farthest 60 = .ok (.isub, 1) := by decide +kernel
theorem dX7_farthest_61 : decode cX7_farthest 61 = .ok (.istore 8, 2) := by decide +kernel
theorem dX7_farthest_63 : decode cX7_farthest 63 = .ok (.iload 4, 2) := by decide +kernel
theorem dX7_farthest_65 : decode cX7_farthest 65 = .ok (.ifCond .ne 10, 3) := by decide +kernel
theorem dX7_farthest_68 : decode cX7_farthest 68 = .ok (.iload 8, 2) := by decide +kernel
theorem dX7_farthest_70 : decode cX7_farthest 70 = .ok (.iload 5, 2) := by decide +kernel
theorem dX7_farthest_72 : decode cX7_farthest 72 = .ok (.if_icmp .le 16, 3) := by decide +kernel
theorem dX7_farthest_75 : decode cX7_farthest 75 = .ok (.iload 6, 2) := by decide +kernel
theorem dX7_farthest_77 : decode cX7_farthest 77 = .ok (.istore_n 2, 1) := by decide +kernel
theorem dX7_farthest_78 : decode cX7_farthest 78 = .ok (.iload 7, 2) := by decide +kernel
theorem dX7_farthest_80 : decode cX7_farthest 80 = .ok (.istore_n 3, 1) := by decide +kernel
theorem dX7_farthest_81 : decode cX7_farthest 81 = .ok (.iload 8, 2) := by decide +kernel
theorem dX7_farthest_83 : decode cX7_farthest 83 = .ok (.istore 5, 2) := by decide +kernel
theorem dX7_farthest_85 : decode cX7_farthest 85 = .ok (.iconst 0, 1) := by decide +kernel
theorem dX7_farthest_86 : decode cX7_farthest 86 = .ok (.istore 4, 2) := by decide +kernel
theorem dX7_farthest_88 : decode cX7_farthest 88 = .ok (.iinc 7 1, 3) := by decide +kernel
theorem dX7_farthest_91 : decode cX7_farthest 91 = .ok (.goto (-66), 3) := by decide +kernel
theorem dX7_farthest_94 : decode cX7_farthest 94 = .ok (.iinc 6 1, 3) := by decide +kernel
theorem dX7_farthest_97 : decode cX7_farthest 97 = .ok (.goto (-84), 3) := by decide +kernel
theorem dX7_farthest_100 : decode cX7_farthest 100 = .ok (.aload_n 0, 1) := by decide +kernel
theorem dX7_farthest_101 : decode cX7_farthest 101 = .ok (.getfield 41, 3) := by decide +kernel
theorem dX7_farthest_104 : decode cX7_farthest 104 = .ok (.iconst 0, 1) := by decide +kernel
theorem dX7_farthest_105 : decode cX7_farthest 105 = .ok (.iconst 0, 1) := by decide +kernel
theorem dX7_farthest_106 : decode cX7_farthest 106 = .ok (.iastore, 1) := by decide +kernel
theorem dX7_farthest_107 : decode cX7_farthest 107 = .ok (.aload_n 0, 1) := by decide +kernel
theorem dX7_farthest_108 : decode cX7_farthest 108 = .ok (.getfield 41, 3) := by decide +kernel
theorem dX7_farthest_111 : decode cX7_farthest 111 = .ok (.iconst 1, 1) := by decide +kernel
theorem dX7_farthest_112 : decode cX7_farthest 112 = .ok (.iconst 0, 1) := by decide +kernel
theorem dX7_farthest_113 : decode cX7_farthest 113 = .ok (.iastore, 1) := by decide +kernel
theorem dX7_farthest_114 : decode cX7_farthest 114 = .ok (.aload_n 0, 1) := by decide +kernel
theorem dX7_farthest_115 : decode cX7_farthest 115 = .ok (.iload_n 2, 1) := by decide +kernel
theorem dX7_farthest_116 : decode cX7_farthest 116 = .ok (.iconst 0, 1) := by decide +kernel
theorem dX7_farthest_117 : decode cX7_farthest 117 = .ok (.invokevirtual 146, 3) := by decide +kernel
theorem dX7_farthest_120 : decode cX7_farthest 120 = .ok (.aload_n 0, 1) := by decide +kernel
theorem dX7_farthest_121 : decode cX7_farthest 121 = .ok (.iload_n 3, 1) := by decide +kernel
theorem dX7_farthest_122 : decode cX7_farthest 122 = .ok (.iconst 1, 1) := by decide +kernel
theorem dX7_farthest_123 : decode cX7_farthest 123 = .ok (.invokevirtual 146, 3) := by decide +kernel
theorem dX7_farthest_126 : decode cX7_farthest 126 = .ok (.return_, 1) := by decide +kernel
theorem dX7_joins_0 : decode cX7_joins 0 = .ok (.aload_n 0, 1) := by decide +kernel
theorem dX7_joins_1 : decode cX7_joins 1 = .ok (.getfield 35, 3) := by decide +kernel
theorem dX7_joins_4 : decode cX7_joins 4 = .ok (.iload_n 1, 1) := by decide +kernel
theorem dX7_joins_5 : decode cX7_joins 5 = .ok (.iload_n 2, 1) := by decide +kernel
theorem dX7_joins_6 : decode cX7_joins 6 = .ok (.iastore, 1) := by decide +kernel
theorem dX7_joins_7 : decode cX7_joins 7 = .ok (.aload_n 0, 1) := by decide +kernel
theorem dX7_joins_8 : decode cX7_joins 8 = .ok (.getfield 38, 3) := by decide +kernel
theorem dX7_joins_11 : decode cX7_joins 11 = .ok (.iload_n 1, 1) := by decide +kernel
theorem dX7_joins_12 : decode cX7_joins 12 = .ok (.aload_n 0, 1) := by decide +kernel
theorem dX7_joins_13 : decode cX7_joins 13 = .ok (.getfield 41, 3) := by decide +kernel
theorem dX7_joins_16 : decode cX7_joins 16 = .ok (.iload_n 2, 1) := by decide +kernel
theorem dX7_joins_17 : decode cX7_joins 17 = .ok (.iaload, 1) := by decide +kernel
theorem dX7_joins_18 : decode cX7_joins 18 = .ok (.iastore, 1) := by decide +kernel
theorem dX7_joins_19 : decode cX7_joins 19 = .ok (.aload_n 0, 1) := by decide +kernel
theorem dX7_joins_20 : decode cX7_joins 20 = .ok (.getfield 41, 3) := by decide +kernel
theorem dX7_joins_23 : decode cX7_joins 23 = .ok (.iload_n 2, 1) := by decide +kernel
theorem dX7_joins_24 : decode cX7_joins 24 = .ok (.iaload, 1) := by decide +kernel
theorem dX7_joins_25 : decode cX7_joins 25 = .ok (.ifCond .ne 16, 3) := by decide +kernel
theorem dX7_joins_28 : decode cX7_joins 28 = .ok (.aload_n 0, 1) := by decide +kernel
theorem dX7_joins_29 : decode cX7_joins 29 = .ok (.iload_n 1, 1) := by decide +kernel
theorem dX7_joins_30 : decode cX7_joins 30 = .ok (.iload_n 1, 1) := by decide +kernel
theorem dX7_joins_31 : decode cX7_joins 31 = .ok (.bipush 8, 2) := by decide +kernel
theorem dX7_joins_33 : decode cX7_joins 33 = .ok (.iload_n 2, 1) := by decide +kernel
theorem dX7_joins_34 : decode cX7_joins 34 = .ok (.iadd, 1) := by decide +kernel
theorem dX7_joins_35 : decode cX7_joins 35 = .ok (.invokevirtual 97, 3) := by decide +kernel
theorem dX7_joins_38 : decode cX7_joins 38 = .ok (.goto 16, 3) := by decide +kernel
theorem dX7_joins_41 : decode cX7_joins 41 = .ok (.aload_n 0, 1) := by decide +kernel
theorem dX7_joins_42 : decode cX7_joins 42 = .ok (.bipush 8, 2) := by decide +kernel
theorem dX7_joins_44 : decode cX7_joins 44 = .ok (.iload_n 2, 1) := by decide +kernel
theorem dX7_joins_45 : decode cX7_joins 45 = .ok (.iadd, 1) := by decide +kernel
theorem dX7_joins_46 : decode cX7_joins 46 = .ok (.iload_n 1, 1) := by decide +kernel
theorem dX7_joins_47 : decode cX7_joins 47 = .ok (.bipush 8, 2) := by decide +kernel
theorem dX7_joins_49 : decode cX7_joins 49 = .ok (.iload_n 2, 1) := by decide +kernel
theorem dX7_joins_50 : decode cX7_joins 50 = .ok (.iadd, 1) := by decide +kernel
theorem dX7_joins_51 : decode cX7_joins 51 = .ok (.invokevirtual 97, 3) := by decide +kernel
theorem dX7_joins_54 : decode cX7_joins 54 = .ok (.aload_n 0, 1) := by decide +kernel
theorem dX7_joins_55 : decode cX7_joins 55 = .ok (.getfield 41, 3) := by decide +kernel
theorem dX7_joins_58 : decode cX7_joins 58 = .ok (.iload_n 2, 1) := by decide +kernel
theorem dX7_joins_59 : decode cX7_joins 59 = .ok (.dup2, 1) := by decide +kernel
theorem dX7_joins_60 : decode cX7_joins 60 = .ok (.iaload, 1) := by decide +kernel
theorem dX7_joins_61 : decode cX7_joins 61 = .ok (.iconst 1, 1) := by decide +kernel
theorem dX7_joins_62 : decode cX7_joins 62 = .ok (.iadd, 1) := by decide +kernel
theorem dX7_joins_63 : decode cX7_joins 63 = .ok (.iastore, 1) := by decide +kernel
theorem dX7_joins_64 : decode cX7_joins 64 = .ok (.return_, 1) := by decide +kernel
theorem dX7_preferred_0 : decode cX7_preferred 0 = .ok (.aload_n 0, 1) := by decide +kernel
theorem dX7_preferred_1 : decode cX7_preferred 1 = .ok (.bipush 8, 2) := by decide +kernel
theorem dX7_preferred_3 : decode cX7_preferred 3 = .ok (.iload_n 1, 1) := by decide +kernel
theorem dX7_preferred_4 : decode cX7_preferred 4 = .ok (.invokevirtual 114, 3) := by decide +kernel
theorem dX7_preferred_7 : decode cX7_preferred 7 = .ok (.aload_n 0, 1) := by decide +kernel
theorem dX7_preferred_8 : decode cX7_preferred 8 = .ok (.bipush 9, 2) := by decide +kernel
theorem dX7_preferred_10 : decode cX7_preferred 10 = .ok (.iload_n 1, 1) := by decide +kernel
theorem dX7_preferred_11 : decode cX7_preferred 11 = .ok (.invokevirtual 114, 3) := by decide +kernel
theorem dX7_preferred_14 : decode cX7_preferred 14 = .ok (.isub, 1) := by decide +kernel
theorem dX7_preferred_15 : decode cX7_preferred 15 = .ok (.istore_n 2, 1) := by decide +kernel
theorem dX7_preferred_16 : decode cX7_preferred 16 = .ok (.iload_n 2, 1) := by decide +kernel
theorem dX7_preferred_17 : decode cX7_preferred 17 = .ok (.ifCond .ne 17, 3) := by decide +kernel
theorem dX7_preferred_20 : decode cX7_preferred 20 = .ok (.aload_n 0, 1) := by decide +kernel
theorem dX7_preferred_21 : decode cX7_preferred 21 = .ok (.bipush 8, 2) := by decide +kernel
theorem dX7_preferred_23 : decode cX7_preferred 23 = .ok (.invokevirtual 101, 3) := by decide +kernel
theorem dX7_preferred_26 : decode cX7_preferred 26 = .ok (.aload_n 0, 1) := by decide +kernel
theorem dX7_preferred_27 : decode cX7_preferred 27 = .ok (.bipush 9, 2) := by decide +kernel
theorem dX7_preferred_29 : decode cX7_preferred 29 = .ok (.invokevirtual 101, 3) := by decide +kernel
theorem dX7_preferred_32 : decode cX7_preferred 32 = .ok (.isub, 1) := by decide +kernel
theorem dX7_preferred_33 : decode cX7_preferred 33 = .ok (.istore_n 2, 1) := by decide +kernel
theorem dX7_preferred_34 : decode cX7_preferred 34 = .ok (.iload_n 2, 1) := by decide +kernel
theorem dX7_preferred_35 : decode cX7_preferred 35 = .ok (.ifCond .ne 17, 3) := by decide +kernel
theorem dX7_preferred_38 : decode cX7_preferred 38 = .ok (.aload_n 0, 1) := by decide +kernel
theorem dX7_preferred_39 : decode cX7_preferred 39 = .ok (.getfield 41, 3) := by decide +kernel
theorem dX7_preferred_42 : decode cX7_preferred 42 = .ok (.iconst 0, 1) := by decide +kernel
theorem dX7_preferred_43 : decode cX7_preferred 43 = .ok (.iaload, 1) := by decide +kernel
theorem dX7_preferred_44 : decode cX7_preferred 44 = .ok (.aload_n 0, 1) := by decide +kernel
theorem dX7_preferred_45 : decode cX7_preferred 45 = .ok (.getfield 41, 3) := by decide +kernel
theorem dX7_preferred_48 : decode cX7_preferred 48 = .ok (.iconst 1, 1) := by decide +kernel
theorem dX7_preferred_49 : decode cX7_preferred 49 = .ok (.iaload, 1) := by decide +kernel
theorem dX7_preferred_50 : decode cX7_preferred 50 = .ok (.isub, 1) := by decide +kernel
theorem dX7_preferred_51 : decode cX7_preferred 51 = .ok (.istore_n 2, 1) := by decide +kernel
theorem dX7_preferred_52 : decode cX7_preferred 52 = .ok (.iload_n 2, 1) := by decide +kernel
theorem dX7_preferred_53 : decode cX7_preferred 53 = .ok (.ifCond .le 7, 3) := by decide +kernel
theorem dX7_preferred_56 : decode cX7_preferred 56 = .ok (.iconst 1, 1) := by decide +kernel
theorem dX7_preferred_57 : decode cX7_preferred 57 = .ok (.goto 4, 3) := by decide +kernel
theorem dX7_preferred_60 : decode cX7_preferred 60 = .ok (.iconst 0, 1) := by decide +kernel
theorem dX7_preferred_61 : decode cX7_preferred 61 = .ok (.ireturn, 1) := by decide +kernel
theorem dX7_nextEntry_0 : decode cX7_nextEntry 0 = .ok (.bipush (-5), 2) := by decide +kernel
theorem dX7_nextEntry_2 : decode cX7_nextEntry 2 = .ok (.istore_n 2, 1) := by decide +kernel
theorem dX7_nextEntry_3 : decode cX7_nextEntry 3 = .ok (.iconst 0, 1) := by decide +kernel
theorem dX7_nextEntry_4 : decode cX7_nextEntry 4 = .ok (.istore_n 3, 1) := by decide +kernel
theorem dX7_nextEntry_5 : decode cX7_nextEntry 5 = .ok (.iconst 0, 1) := by decide +kernel
theorem dX7_nextEntry_6 : decode cX7_nextEntry 6 = .ok (.istore 4, 2) := by decide +kernel
theorem dX7_nextEntry_8 : decode cX7_nextEntry 8 = .ok (.iload 4, 2) := by decide +kernel
theorem dX7_nextEntry_10 : decode cX7_nextEntry 10 = .ok (.iload_n 1, 1) := by decide +kernel
theorem dX7_nextEntry_11 : decode cX7_nextEntry 11 = .ok (.if_icmp .ge 83, 3) := by decide +kernel
theorem dX7_nextEntry_14 : decode cX7_nextEntry 14 = .ok (.aload_n 0, 1) := by decide +kernel
theorem dX7_nextEntry_15 : decode cX7_nextEntry 15 = .ok (.getfield 35, 3) := by decide +kernel
theorem dX7_nextEntry_18 : decode cX7_nextEntry 18 = .ok (.iload 4, 2) := by decide +kernel
theorem dX7_nextEntry_20 : decode cX7_nextEntry 20 = .ok (.iaload, 1) := by decide +kernel
theorem dX7_nextEntry_21 : decode cX7_nextEntry 21 = .ok (.ifCond .ge 67, 3) := by decide +kernel
theorem dX7_nextEntry_24 : decode cX7_nextEntry 24 = .ok (.aload_n 0, 1) := by decide +kernel
theorem dX7_nextEntry_25 : decode cX7_nextEntry 25 = .ok (.bipush 8, 2) := by decide +kernel
theorem dX7_nextEntry_27 : decode cX7_nextEntry 27 = .ok (.iload 4, 2) := by decide +kernel
theorem dX7_nextEntry_29 : decode cX7_nextEntry 29 = .ok (.invokevirtual 114, 3) := by decide +kernel
theorem dX7_nextEntry_32 : decode cX7_nextEntry 32 = .ok (.aload_n 0, 1) := by decide +kernel
theorem dX7_nextEntry_33 : decode cX7_nextEntry 33 = .ok (.bipush 9, 2) := by decide +kernel
theorem dX7_nextEntry_35 : decode cX7_nextEntry 35 = .ok (.iload 4, 2) := by decide +kernel
theorem dX7_nextEntry_37 : decode cX7_nextEntry 37 = .ok (.invokevirtual 114, 3) := by decide +kernel
theorem dX7_nextEntry_40 : decode cX7_nextEntry 40 = .ok (.isub, 1) := by decide +kernel
theorem dX7_nextEntry_41 : decode cX7_nextEntry 41 = .ok (.istore 5, 2) := by decide +kernel
theorem dX7_nextEntry_43 : decode cX7_nextEntry 43 = .ok (.iload 5, 2) := by decide +kernel
theorem dX7_nextEntry_45 : decode cX7_nextEntry 45 = .ok (.ifCond .ge 9, 3) := by decide +kernel
theorem dX7_nextEntry_48 : decode cX7_nextEntry 48 = .ok (.iload 5, 2) := by decide +kernel
theorem dX7_nextEntry_50 : decode cX7_nextEntry 50 = .ok (.ineg, 1) := by decide +kernel
theorem dX7_nextEntry_51 : decode cX7_nextEntry 51 = .ok (.goto 5, 3) := by decide +kernel
theorem dX7_nextEntry_54 : decode cX7_nextEntry 54 = .ok (.iload 5, 2) := by decide +kernel
theorem dX7_nextEntry_56 : decode cX7_nextEntry 56 = .ok (.istore 6, 2) := by decide +kernel
theorem dX7_nextEntry_58 : decode cX7_nextEntry 58 = .ok (.iload_n 2, 1) := by decide +kernel
theorem dX7_nextEntry_59 : decode cX7_nextEntry 59 = .ok (.ifCond .lt 9, 3) := by decide +kernel
theorem dX7_nextEntry_62 : decode cX7_nextEntry 62 = .ok (.iload 6, 2) := by decide +kernel
theorem dX7_nextEntry_64 : decode cX7_nextEntry 64 = .ok (.iload_n 3, 1) := by decide +kernel
theorem dX7_nextEntry_65 : decode cX7_nextEntry 65 = .ok (.if_icmp .le 8, 3) := by decide +kernel
theorem dX7_nextEntry_68 : decode cX7_nextEntry 68 = .ok (.iload 4, 2) := by decide +kernel
theorem dX7_nextEntry_70 : decode cX7_nextEntry 70 = .ok (.goto 4, 3) := by decide +kernel
theorem dX7_nextEntry_73 : decode cX7_nextEntry 73 = .ok (.iload_n 2, 1) := by decide +kernel
theorem dX7_nextEntry_74 : decode cX7_nextEntry 74 = .ok (.istore_n 2, 1) := by decide +kernel
theorem dX7_nextEntry_75 : decode cX7_nextEntry 75 = .ok (.iload 6, 2) := by decide +kernel
theorem dX7_nextEntry_77 : decode cX7_nextEntry 77 = .ok (.iload_n 3, 1) := by decide +kernel
theorem dX7_nextEntry_78 : decode cX7_nextEntry 78 = .ok (.if_icmp .le 8, 3) := by decide +kernel
theorem dX7_nextEntry_81 : decode cX7_nextEntry 81 = .ok (.iload 6, 2) := by decide +kernel
theorem dX7_nextEntry_83 : decode cX7_nextEntry 83 = .ok (.goto 4, 3) := by decide +kernel
theorem dX7_nextEntry_86 : decode cX7_nextEntry 86 = .ok (.iload_n 3, 1) := by decide +kernel
theorem dX7_nextEntry_87 : decode cX7_nextEntry 87 = .ok (.istore_n 3, 1) := by decide +kernel
theorem dX7_nextEntry_88 : decode cX7_nextEntry 88 = .ok (.iinc 4 1, 3) := by decide +kernel
theorem dX7_nextEntry_91 : decode cX7_nextEntry 91 = .ok (.goto (-83), 3) := by decide +kernel
theorem dX7_nextEntry_94 : decode cX7_nextEntry 94 = .ok (.iload_n 2, 1) := by decide +kernel
theorem dX7_nextEntry_95 : decode cX7_nextEntry 95 = .ok (.ireturn, 1) := by decide +kernel
theorem dX7_groups_0 : decode cX7_groups 0 = .ok (.iconst 0, 1) := by decide +kernel
theorem dX7_groups_1 : decode cX7_groups 1 = .ok (.istore_n 2, 1) := by decide +kernel
theorem dX7_groups_2 : decode cX7_groups 2 = .ok (.iload_n 2, 1) := by decide +kernel
theorem dX7_groups_3 : decode cX7_groups 3 = .ok (.iload_n 1, 1) := by decide +kernel
theorem dX7_groups_4 : decode cX7_groups 4 = .ok (.if_icmp .ge 17, 3) := by decide +kernel
theorem dX7_groups_7 : decode cX7_groups 7 = .ok (.aload_n 0, 1) := by decide +kernel
theorem dX7_groups_8 : decode cX7_groups 8 = .ok (.getfield 35, 3) := by decide +kernel
theorem dX7_groups_11 : decode cX7_groups 11 = .ok (.iload_n 2, 1) := by decide +kernel
theorem dX7_groups_12 : decode cX7_groups 12 = .ok (.bipush (-5), 2) := by decide +kernel
theorem dX7_groups_14 : decode cX7_groups 14 = .ok (.iastore, 1) := by decide +kernel
theorem dX7_groups_15 : decode cX7_groups 15 = .ok (.iinc 2 1, 3) := by decide +kernel
theorem dX7_groups_18 : decode cX7_groups 18 = .ok (.goto (-16), 3) := by decide +kernel
theorem dX7_groups_21 : decode cX7_groups 21 = .ok (.aload_n 0, 1) := by decide +kernel
theorem dX7_groups_22 : decode cX7_groups 22 = .ok (.iload_n 1, 1) := by decide +kernel
theorem dX7_groups_23 : decode cX7_groups 23 = .ok (.invokevirtual 149, 3) := by decide +kernel
theorem dX7_groups_26 : decode cX7_groups 26 = .ok (.aload_n 0, 1) := by decide +kernel
theorem dX7_groups_27 : decode cX7_groups 27 = .ok (.getfield 7, 3) := by decide +kernel
theorem dX7_groups_30 : decode cX7_groups 30 = .ok (.iconst 0, 1) := by decide +kernel
theorem dX7_groups_31 : decode cX7_groups 31 = .ok (.iaload, 1) := by decide +kernel
theorem dX7_groups_32 : decode cX7_groups 32 = .ok (.iconst 2, 1) := by decide +kernel
theorem dX7_groups_33 : decode cX7_groups 33 = .ok (.idiv, 1) := by decide +kernel
theorem dX7_groups_34 : decode cX7_groups 34 = .ok (.istore_n 2, 1) := by decide +kernel
theorem dX7_groups_35 : decode cX7_groups 35 = .ok (.iload_n 1, 1) := by decide +kernel
theorem dX7_groups_36 : decode cX7_groups 36 = .ok (.iconst 2, 1) := by decide +kernel
theorem dX7_groups_37 : decode cX7_groups 37 = .ok (.isub, 1) := by decide +kernel
theorem dX7_groups_38 : decode cX7_groups 38 = .ok (.istore_n 3, 1) := by decide +kernel
theorem dX7_groups_39 : decode cX7_groups 39 = .ok (.iload_n 3, 1) := by decide +kernel
theorem dX7_groups_40 : decode cX7_groups 40 = .ok (.ifCond .le 101, 3) := by decide +kernel
theorem dX7_groups_43 : decode cX7_groups 43 = .ok (.aload_n 0, 1) := by decide +kernel
theorem dX7_groups_44 : decode cX7_groups 44 = .ok (.getfield 41, 3) := by decide +kernel
theorem dX7_groups_47 : decode cX7_groups 47 = .ok (.iconst 0, 1) := by decide +kernel
theorem dX7_groups_48 : decode cX7_groups 48 = .ok (.iaload, 1) := by decide +kernel
theorem dX7_groups_49 : decode cX7_groups 49 = .ok (.iload_n 3, 1) := by decide +kernel
theorem dX7_groups_50 : decode cX7_groups 50 = .ok (.iadd, 1) := by decide +kernel
theorem dX7_groups_51 : decode cX7_groups 51 = .ok (.iload_n 2, 1) := by decide +kernel
theorem dX7_groups_52 : decode cX7_groups 52 = .ok (.if_icmp .gt 7, 3) := by decide +kernel
theorem dX7_groups_55 : decode cX7_groups 55 = .ok (.iconst 0, 1) := by decide +kernel
theorem dX7_groups_56 : decode cX7_groups 56 = .ok (.goto 21, 3) := by decide +kernel
theorem dX7_groups_59 : decode cX7_groups 59 = .ok (.aload_n 0, 1) := by decide +kernel
theorem dX7_groups_60 : decode cX7_groups 60 = .ok (.getfield 41, 3) := by decide +kernel
theorem dX7_groups_63 : decode cX7_groups 63 = .ok (.iconst 1, 1) := by decide +kernel
theorem dX7_groups_64 : decode cX7_groups 64 = .ok (.iaload, 1) := by decide +kernel
theorem dX7_groups_65 : decode cX7_groups 65 = .ok (.iload_n 3, 1) := by decide +kernel
theorem dX7_groups_66 : decode cX7_groups 66 = .ok (.iadd, 1) := by decide +kernel
theorem dX7_groups_67 : decode cX7_groups 67 = .ok (.iload_n 2, 1) := by decide +kernel
theorem dX7_groups_68 : decode cX7_groups 68 = .ok (.if_icmp .gt 7, 3) := by decide +kernel
theorem dX7_groups_71 : decode cX7_groups 71 = .ok (.iconst 1, 1) := by decide +kernel
theorem dX7_groups_72 : decode cX7_groups 72 = .ok (.goto 5, 3) := by decide +kernel
theorem dX7_groups_75 : decode cX7_groups 75 = .ok (.bipush (-5), 2) := by decide +kernel
theorem dX7_groups_77 : decode cX7_groups 77 = .ok (.istore 4, 2) := by decide +kernel
theorem dX7_groups_79 : decode cX7_groups 79 = .ok (.iconst 0, 1) := by decide +kernel
theorem dX7_groups_80 : decode cX7_groups 80 = .ok (.istore 5, 2) := by decide +kernel
theorem dX7_groups_82 : decode cX7_groups 82 = .ok (.iload 4, 2) := by decide +kernel
theorem dX7_groups_84 : decode cX7_groups 84 = .ok (.ifCond .ge 13, 3) := by decide +kernel
theorem dX7_groups_87 : decode cX7_groups 87 = .ok (.aload_n 0, 1) := by decide +kernel
theorem dX7_groups_88 : decode cX7_groups 88 = .ok (.iload_n 1, 1) := by decide +kernel
theorem dX7_groups_89 : decode cX7_groups 89 = .ok (.invokevirtual 152, 3) := by decide +kernel
theorem dX7_groups_92 : decode cX7_groups 92 = .ok (.istore 5, 2) := by decide +kernel
theorem dX7_groups_94 : decode cX7_groups 94 = .ok (.goto 19, 3) := by decide +kernel
theorem dX7_groups_97 : decode cX7_groups 97 = .ok (.aload_n 0, 1) := by decide +kernel
theorem dX7_groups_98 : decode cX7_groups 98 = .ok (.getfield 35, 3) := by decide +kernel
theorem dX7_groups_101 : decode cX7_groups 101 = .ok (.iload 5, 2) := by decide +kernel
theorem dX7_groups_103 : decode cX7_groups 103 = .ok (.iaload, 1) := by decide +kernel
theorem dX7_groups_104 : decode cX7_groups 104 = .ok (.ifCond .lt 9, 3) := by decide +kernel
theorem dX7_groups_107 : decode cX7_groups 107 = .ok (.iinc 5 1, 3) := by decide +kernel
theorem dX7_groups_110 : decode cX7_groups 110 = .ok (.goto (-13), 3) := by decide +kernel
theorem dX7_groups_113 : decode cX7_groups 113 = .ok (.aload_n 0, 1) := by decide +kernel
theorem dX7_groups_114 : decode cX7_groups 114 = .ok (.iload 5, 2) := by decide +kernel
theorem dX7_groups_116 : decode cX7_groups 116 = .ok (.iload 4, 2) := by decide +kernel
theorem dX7_groups_118 : decode cX7_groups 118 = .ok (.ifCond .ge 12, 3) := by decide +kernel
theorem dX7_groups_121 : decode cX7_groups 121 = .ok (.aload_n 0, 1) := by decide +kernel
theorem dX7_groups_122 : decode cX7_groups 122 = .ok (.iload 5, 2) := by decide +kernel
theorem dX7_groups_124 : decode cX7_groups 124 = .ok (.invokevirtual 155, 3) := by decide +kernel
theorem dX7_groups_127 : decode cX7_groups 127 = .ok (.goto 5, 3) := by decide +kernel
theorem dX7_groups_130 : decode cX7_groups 130 = .ok (.iload 4, 2) := by decide +kernel
theorem dX7_groups_132 : decode cX7_groups 132 = .ok (.invokevirtual 146, 3) := by decide +kernel
theorem dX7_groups_135 : decode cX7_groups 135 = .ok (.iinc 3 (-1), 3) := by decide +kernel
theorem dX7_groups_138 : decode cX7_groups 138 = .ok (.goto (-99), 3) := by decide +kernel
theorem dX7_groups_141 : decode cX7_groups 141 = .ok (.return_, 1) := by decide +kernel
theorem dX7_lays_0 : decode cX7_lays 0 = .ok (.iload 4, 2) := by decide +kernel
theorem dX7_lays_2 : decode cX7_lays 2 = .ok (.istore 5, 2) := by decide +kernel
theorem dX7_lays_4 : decode cX7_lays 4 = .ok (.aload_n 0, 1) := by decide +kernel
theorem dX7_lays_5 : decode cX7_lays 5 = .ok (.getfield 7, 3) := by decide +kernel
theorem dX7_lays_8 : decode cX7_lays 8 = .ok (.bipush 101, 2) := by decide +kernel
theorem dX7_lays_10 : decode cX7_lays 10 = .ok (.iload 5, 2) := by decide +kernel
theorem dX7_lays_12 : decode cX7_lays 12 = .ok (.iadd, 1) := by decide +kernel
theorem dX7_lays_13 : decode cX7_lays 13 = .ok (.iload_n 3, 1) := by decide +kernel
theorem dX7_lays_14 : decode cX7_lays 14 = .ok (.iastore, 1) := by decide +kernel
theorem dX7_lays_15 : decode cX7_lays 15 = .ok (.iinc 5 1, 3) := by decide +kernel
theorem dX7_lays_18 : decode cX7_lays 18 = .ok (.iconst 0, 1) := by decide +kernel
theorem dX7_lays_19 : decode cX7_lays 19 = .ok (.istore 6, 2) := by decide +kernel
theorem dX7_lays_21 : decode cX7_lays 21 = .ok (.iload 6, 2) := by decide +kernel
theorem dX7_lays_23 : decode cX7_lays 23 = .ok (.aload_n 0, 1) := by decide +kernel
theorem dX7_lays_24 : decode cX7_lays 24 = .ok (.getfield 41, 3) := by decide +kernel
theorem dX7_lays_27 : decode cX7_lays 27 = .ok (.iload_n 1, 1) := by decide +kernel
theorem dX7_lays_28 : decode cX7_lays 28 = .ok (.iaload, 1) := by decide +kernel
theorem dX7_lays_29 : decode cX7_lays 29 = .ok (.if_icmp .ge 96, 3) := by decide +kernel
theorem dX7_lays_32 : decode cX7_lays 32 = .ok (.iconst 0, 1) := by decide +kernel
theorem dX7_lays_33 : decode cX7_lays 33 = .ok (.istore 7, 2) := by decide +kernel
theorem dX7_lays_35 : decode cX7_lays 35 = .ok (.iload 7, 2) := by decide +kernel
theorem dX7_lays_37 : decode cX7_lays 37 = .ok (.iload_n 2, 1) := by decide +kernel
theorem dX7_lays_38 : decode cX7_lays 38 = .ok (.if_icmp .ge 81, 3) := by decide +kernel
theorem dX7_lays_41 : decode cX7_lays 41 = .ok (.aload_n 0, 1) := by decide +kernel
theorem dX7_lays_42 : decode cX7_lays 42 = .ok (.getfield 32, 3) := by decide +kernel
theorem dX7_lays_45 : decode cX7_lays 45 = .ok (.iload 7, 2) := by decide +kernel
theorem dX7_lays_47 : decode cX7_lays 47 = .ok (.iaload, 1) := by decide +kernel
theorem dX7_lays_48 : decode cX7_lays 48 = .ok (.istore 8, 2) := by decide +kernel
theorem dX7_lays_50 : decode cX7_lays 50 = .ok (.iload 8, 2) := by decide +kernel
theorem dX7_lays_52 : decode cX7_lays 52 = .ok (.aload_n 0, 1) := by decide +kernel
theorem dX7_lays_53 : decode cX7_lays 53 = .ok (.getfield 32, 3) := by decide +kernel
theorem dX7_lays_56 : decode cX7_lays 56 = .ok (.iload 7, 2) := by decide +kernel
theorem dX7_lays_58 : decode cX7_lays 58 = .ok (.iconst 1, 1) := by decide +kernel
theorem dX7_lays_59 : decode cX7_lays 59 = .ok (.iadd, 1) := by decide +kernel
theorem dX7_lays_60 : decode cX7_lays 60 = .ok (.iaload, 1) := by decide +kernel
theorem dX7_lays_61 : decode cX7_lays 61 = .ok (.if_icmp .ge 52, 3) := by decide +kernel
theorem dX7_lays_64 : decode cX7_lays 64 = .ok (.aload_n 0, 1) := by decide +kernel
theorem dX7_lays_65 : decode cX7_lays 65 = .ok (.getfield 35, 3) := by decide +kernel
theorem dX7_lays_68 : decode cX7_lays 68 = .ok (.iload 7, 2) := by decide +kernel
theorem dX7_lays_70 : decode cX7_lays 70 = .ok (.iaload, 1) := by decide +kernel
theorem dX7_lays_71 : decode cX7_lays 71 = .ok (.iload_n 1, 1) := by decide +kernel
theorem dX7_lays_72 : decode cX7_lays 72 = .ok (.if_icmp .ne 41, 3) := by decide +kernel
theorem dX7_lays_75 : decode cX7_lays 75 = .ok (.aload_n 0, 1) := by decide +kernel
theorem dX7_lays_76 : decode cX7_lays 76 = .ok (.getfield 38, 3) := by decide +kernel
theorem dX7_lays_79 : decode cX7_lays 79 = .ok (.iload 7, 2) := by decide +kernel
theorem dX7_lays_81 : decode cX7_lays 81 = .ok (.iaload, 1) := by decide +kernel
theorem dX7_lays_82 : decode cX7_lays 82 = .ok (.iload 6, 2) := by decide +kernel
theorem dX7_lays_84 : decode cX7_lays 84 = .ok (.if_icmp .ne 29, 3) := by decide +kernel
theorem dX7_lays_87 : decode cX7_lays 87 = .ok (.aload_n 0, 1) := by decide +kernel
theorem dX7_lays_88 : decode cX7_lays 88 = .ok (.getfield 7, 3) := by decide +kernel
theorem dX7_lays_91 : decode cX7_lays 91 = .ok (.bipush 101, 2) := by decide +kernel
theorem dX7_lays_93 : decode cX7_lays 93 = .ok (.iload 5, 2) := by decide +kernel
theorem dX7_lays_95 : decode cX7_lays 95 = .ok (.iadd, 1) := by decide +kernel
theorem dX7_lays_96 : decode cX7_lays 96 = .ok (.aload_n 0, 1) := by decide +kernel
theorem dX7_lays_97 : decode cX7_lays 97 = .ok (.getfield 44, 3) := by decide +kernel
theorem dX7_lays_100 : decode cX7_lays 100 = .ok (.iload 8, 2) := by decide +kernel
theorem dX7_lays_102 : decode cX7_lays 102 = .ok (.iaload, 1) := by decide +kernel
theorem dX7_lays_103 : decode cX7_lays 103 = .ok (.iastore, 1) := by decide +kernel
theorem dX7_lays_104 : decode cX7_lays 104 = .ok (.iinc 5 1, 3) := by decide +kernel
theorem dX7_lays_107 : decode cX7_lays 107 = .ok (.iinc 8 1, 3) := by decide +kernel
theorem dX7_lays_110 : decode cX7_lays 110 = .ok (.goto (-60), 3) := by decide +kernel
theorem dX7_lays_113 : decode cX7_lays 113 = .ok (.iinc 7 1, 3) := by decide +kernel
theorem dX7_lays_116 : decode cX7_lays 116 = .ok (.goto (-81), 3) := by decide +kernel
theorem dX7_lays_119 : decode cX7_lays 119 = .ok (.iinc 6 1, 3) := by decide +kernel
theorem dX7_lays_122 : decode cX7_lays 122 = .ok (.goto (-101), 3) := by decide +kernel
theorem dX7_lays_125 : decode cX7_lays 125 = .ok (.iload 5, 2) := by decide +kernel
theorem dX7_lays_127 : decode cX7_lays 127 = .ok (.ireturn, 1) := by decide +kernel
theorem dX7_divides_0 : decode cX7_divides 0 = .ok (.aload_n 0, 1) := by decide +kernel
theorem dX7_divides_1 : decode cX7_divides 1 = .ok (.getfield 7, 3) := by decide +kernel
theorem dX7_divides_4 : decode cX7_divides 4 = .ok (.iconst 2, 1) := by decide +kernel
theorem dX7_divides_5 : decode cX7_divides 5 = .ok (.dup2, 1) := by decide +kernel
theorem dX7_divides_6 : decode cX7_divides 6 = .ok (.iaload, 1) := by decide +kernel
theorem dX7_divides_7 : decode cX7_divides 7 = .ok (.iconst 1, 1) := by decide +kernel
theorem dX7_divides_8 : decode cX7_divides 8 = .ok (.iadd, 1) := by decide +kernel
theorem dX7_divides_9 : decode cX7_divides 9 = .ok (.iastore, 1) := by decide +kernel
theorem dX7_divides_10 : decode cX7_divides 10 = .ok (.aload_n 0, 1) := by decide +kernel
theorem dX7_divides_11 : decode cX7_divides 11 = .ok (.iload_n 1, 1) := by decide +kernel
theorem dX7_divides_12 : decode cX7_divides 12 = .ok (.invokevirtual 83, 3) := by decide +kernel
theorem dX7_divides_15 : decode cX7_divides 15 = .ok (.istore_n 2, 1) := by decide +kernel
theorem dX7_divides_16 : decode cX7_divides 16 = .ok (.iconst 0, 1) := by decide +kernel
theorem dX7_divides_17 : decode cX7_divides 17 = .ok (.istore_n 3, 1) := by decide +kernel
theorem dX7_divides_18 : decode cX7_divides 18 = .ok (.iload_n 1, 1) := by decide +kernel
theorem dX7_divides_19 : decode cX7_divides 19 = .ok (.iconst 1, 1) := by decide +kernel
theorem dX7_divides_20 : decode cX7_divides 20 = .ok (.iadd, 1) := by decide +kernel
theorem dX7_divides_21 : decode cX7_divides 21 = .ok (.istore 4, 2) := by decide +kernel
theorem dX7_divides_23 : decode cX7_divides 23 = .ok (.iload 4, 2) := by decide +kernel
theorem dX7_divides_25 : decode cX7_divides 25 = .ok (.iload_n 2, 1) := by decide +kernel
theorem dX7_divides_26 : decode cX7_divides 26 = .ok (.if_icmp .ge 32, 3) := by decide +kernel
theorem dX7_divides_29 : decode cX7_divides 29 = .ok (.aload_n 0, 1) := by decide +kernel
theorem dX7_divides_30 : decode cX7_divides 30 = .ok (.iload 4, 2) := by decide +kernel
theorem dX7_divides_32 : decode cX7_divides 32 = .ok (.iload_n 3, 1) := by decide +kernel
theorem dX7_divides_33 : decode cX7_divides 33 = .ok (.invokevirtual 110, 3) := by decide +kernel
theorem dX7_divides_36 : decode cX7_divides 36 = .ok (.aload_n 0, 1) := by decide +kernel
theorem dX7_divides_37 : decode cX7_divides 37 = .ok (.getfield 32, 3) := by decide +kernel
theorem dX7_divides_40 : decode cX7_divides 40 = .ok (.iload_n 3, 1) := by decide +kernel
theorem dX7_divides_41 : decode cX7_divides 41 = .ok (.iload 4, 2) := by decide +kernel
theorem dX7_divides_43 : decode cX7_divides 43 = .ok (.iastore, 1) := by decide +kernel
theorem dX7_divides_44 : decode cX7_divides 44 = .ok (.iinc 3 1, 3) := by decide +kernel
theorem dX7_divides_47 : decode cX7_divides 47 = .ok (.aload_n 0, 1) := by decide +kernel
theorem dX7_divides_48 : decode cX7_divides 48 = .ok (.iload 4, 2) := by decide +kernel
theorem dX7_divides_50 : decode cX7_divides 50 = .ok (.invokevirtual 83, 3) := by decide +kernel
theorem dX7_divides_53 : decode cX7_divides 53 = .ok (.istore 4, 2) := by decide +kernel
theorem dX7_divides_55 : decode cX7_divides 55 = .ok (.goto (-32), 3) := by decide +kernel
theorem dX7_divides_58 : decode cX7_divides 58 = .ok (.aload_n 0, 1) := by decide +kernel
theorem dX7_divides_59 : decode cX7_divides 59 = .ok (.getfield 32, 3) := by decide +kernel
theorem dX7_divides_62 : decode cX7_divides 62 = .ok (.iload_n 3, 1) := by decide +kernel
theorem dX7_divides_63 : decode cX7_divides 63 = .ok (.iload_n 2, 1) := by decide +kernel
theorem dX7_divides_64 : decode cX7_divides 64 = .ok (.iastore, 1) := by decide +kernel
theorem dX7_divides_65 : decode cX7_divides 65 = .ok (.iload_n 1, 1) := by decide +kernel
theorem dX7_divides_66 : decode cX7_divides 66 = .ok (.istore 4, 2) := by decide +kernel
theorem dX7_divides_68 : decode cX7_divides 68 = .ok (.iload 4, 2) := by decide +kernel
theorem dX7_divides_70 : decode cX7_divides 70 = .ok (.iload_n 2, 1) := by decide +kernel
theorem dX7_divides_71 : decode cX7_divides 71 = .ok (.if_icmp .ge 22, 3) := by decide +kernel
theorem dX7_divides_74 : decode cX7_divides 74 = .ok (.aload_n 0, 1) := by decide +kernel
theorem dX7_divides_75 : decode cX7_divides 75 = .ok (.getfield 44, 3) := by decide +kernel
theorem dX7_divides_78 : decode cX7_divides 78 = .ok (.iload 4, 2) := by decide +kernel
theorem dX7_divides_80 : decode cX7_divides 80 = .ok (.aload_n 0, 1) := by decide +kernel
theorem dX7_divides_81 : decode cX7_divides 81 = .ok (.iload 4, 2) := by decide +kernel
theorem dX7_divides_83 : decode cX7_divides 83 = .ok (.invokevirtual 69, 3) := by decide +kernel
theorem dX7_divides_86 : decode cX7_divides 86 = .ok (.iastore, 1) := by decide +kernel
theorem dX7_divides_87 : decode cX7_divides 87 = .ok (.iinc 4 1, 3) := by decide +kernel
theorem dX7_divides_90 : decode cX7_divides 90 = .ok (.goto (-22), 3) := by decide +kernel
theorem dX7_divides_93 : decode cX7_divides 93 = .ok (.aload_n 0, 1) := by decide +kernel
theorem dX7_divides_94 : decode cX7_divides 94 = .ok (.iload_n 3, 1) := by decide +kernel
theorem dX7_divides_95 : decode cX7_divides 95 = .ok (.invokevirtual 158, 3) := by decide +kernel
theorem dX7_divides_98 : decode cX7_divides 98 = .ok (.aload_n 0, 1) := by decide +kernel
theorem dX7_divides_99 : decode cX7_divides 99 = .ok (.iload_n 1, 1) := by decide +kernel
theorem dX7_divides_100 : decode cX7_divides 100 = .ok (.invokevirtual 69, 3) := by decide +kernel
theorem dX7_divides_103 : decode cX7_divides 103 = .ok (.istore 4, 2) := by decide +kernel
theorem dX7_divides_105 : decode cX7_divides 105 = .ok (.aload_n 0, 1) := by decide +kernel
theorem dX7_divides_106 : decode cX7_divides 106 = .ok (.iload_n 2, 1) := by decide +kernel
theorem dX7_divides_107 : decode cX7_divides 107 = .ok (.iconst 1, 1) := by decide +kernel
theorem dX7_divides_108 : decode cX7_divides 108 = .ok (.invokevirtual 117, 3) := by decide +kernel
theorem dX7_divides_111 : decode cX7_divides 111 = .ok (.aload_n 0, 1) := by decide +kernel
theorem dX7_divides_112 : decode cX7_divides 112 = .ok (.iconst 0, 1) := by decide +kernel
theorem dX7_divides_113 : decode cX7_divides 113 = .ok (.iload_n 3, 1) := by decide +kernel
theorem dX7_divides_114 : decode cX7_divides 114 = .ok (.iload 4, 2) := by decide +kernel
theorem dX7_divides_116 : decode cX7_divides 116 = .ok (.iload_n 1, 1) := by decide +kernel
theorem dX7_divides_117 : decode cX7_divides 117 = .ok (.invokevirtual 161, 3) := by decide +kernel
theorem dX7_divides_120 : decode cX7_divides 120 = .ok (.istore 5, 2) := by decide +kernel
theorem dX7_divides_122 : decode cX7_divides 122 = .ok (.aload_n 0, 1) := by decide +kernel
theorem dX7_divides_123 : decode cX7_divides 123 = .ok (.iconst 1, 1) := by decide +kernel
theorem dX7_divides_124 : decode cX7_divides 124 = .ok (.iload_n 3, 1) := by decide +kernel
theorem dX7_divides_125 : decode cX7_divides 125 = .ok (.iload 4, 2) := by decide +kernel
theorem dX7_divides_127 : decode cX7_divides 127 = .ok (.iload 5, 2) := by decide +kernel
theorem dX7_divides_129 : decode cX7_divides 129 = .ok (.invokevirtual 161, 3) := by decide +kernel
theorem dX7_divides_132 : decode cX7_divides 132 = .ok (.istore 5, 2) := by decide +kernel
theorem dX7_divides_134 : decode cX7_divides 134 = .ok (.iload_n 1, 1) := by decide +kernel
theorem dX7_divides_135 : decode cX7_divides 135 = .ok (.ifCond .le 9, 3) := by decide +kernel
theorem dX7_divides_138 : decode cX7_divides 138 = .ok (.aload_n 0, 1) := by decide +kernel
theorem dX7_divides_139 : decode cX7_divides 139 = .ok (.iload_n 1, 1) := by decide +kernel
theorem dX7_divides_140 : decode cX7_divides 140 = .ok (.invokevirtual 165, 3) := by decide +kernel
theorem dX7_divides_143 : decode cX7_divides 143 = .ok (.ireturn, 1) := by decide +kernel
theorem dX7_divides_144 : decode cX7_divides 144 = .ok (.aload_n 0, 1) := by decide +kernel
theorem dX7_divides_145 : decode cX7_divides 145 = .ok (.iconst 0, 1) := by decide +kernel
theorem dX7_divides_146 : decode cX7_divides 146 = .ok (.iconst 1, 1) := by decide +kernel
theorem dX7_divides_147 : decode cX7_divides 147 = .ok (.invokevirtual 117, 3) := by decide +kernel
theorem dX7_divides_150 : decode cX7_divides 150 = .ok (.aload_n 0, 1) := by decide +kernel
theorem dX7_divides_151 : decode cX7_divides 151 = .ok (.getfield 7, 3) := by decide +kernel
theorem dX7_divides_154 : decode cX7_divides 154 = .ok (.bipush 101, 2) := by decide +kernel
theorem dX7_divides_156 : decode cX7_divides 156 = .ok (.iload 4, 2) := by decide +kernel
theorem dX7_divides_158 : decode cX7_divides 158 = .ok (.iconst 1, 1) := by decide +kernel
theorem dX7_divides_159 : decode cX7_divides 159 = .ok (.isub, 1) := by decide +kernel
theorem dX7_divides_160 : decode cX7_divides 160 = .ok (.iastore, 1) := by decide +kernel
theorem dX7_divides_161 : decode cX7_divides 161 = .ok (.bipush (-5), 2) := by decide +kernel
theorem dX7_divides_163 : decode cX7_divides 163 = .ok (.ireturn, 1) := by decide +kernel
theorem dX7_boxCount_0 : decode cX7_boxCount 0 = .ok (.iconst 0, 1) := by decide +kernel
theorem dX7_boxCount_1 : decode cX7_boxCount 1 = .ok (.istore_n 1, 1) := by decide +kernel
theorem dX7_boxCount_2 : decode cX7_boxCount 2 = .ok (.iconst 0, 1) := by decide +kernel
theorem dX7_boxCount_3 : decode cX7_boxCount 3 = .ok (.istore_n 2, 1) := by decide +kernel
theorem dX7_boxCount_4 : decode cX7_boxCount 4 = .ok (.iload_n 2, 1) := by decide +kernel
theorem dX7_boxCount_5 : decode cX7_boxCount 5 = .ok (.bipush 24, 2) := by decide +kernel
theorem dX7_boxCount_7 : decode cX7_boxCount 7 = .ok (.if_icmp .ge 25, 3) := by decide +kernel
theorem dX7_boxCount_10 : decode cX7_boxCount 10 = .ok (.iload_n 1, 1) := by decide +kernel
theorem dX7_boxCount_11 : decode cX7_boxCount 11 = .ok (.aload_n 0, 1) := by decide +kernel
theorem dX7_boxCount_12 : decode cX7_boxCount 12 = .ok (.iload_n 2, 1) := by decide +kernel
theorem dX7_boxCount_13 : decode cX7_boxCount 13 = .ok (.invokevirtual 168, 3) := by decide +kernel
theorem dX7_boxCount_16 : decode cX7_boxCount 16 = .ok (.ifCond .eq 7, 3) := by decide +kernel
theorem dX7_boxCount_19 : decode cX7_boxCount 19 = .ok (.iconst 1, 1) := by decide +kernel
theorem dX7_boxCount_20 : decode cX7_boxCount 20 = .ok (.goto 4, 3) := by decide +kernel
theorem dX7_boxCount_23 : decode cX7_boxCount 23 = .ok (.iconst 0, 1) := by decide +kernel
theorem dX7_boxCount_24 : decode cX7_boxCount 24 = .ok (.iadd, 1) := by decide +kernel
theorem dX7_boxCount_25 : decode cX7_boxCount 25 = .ok (.istore_n 1, 1) := by decide +kernel
theorem dX7_boxCount_26 : decode cX7_boxCount 26 = .ok (.iinc 2 1, 3) := by decide +kernel
theorem dX7_boxCount_29 : decode cX7_boxCount 29 = .ok (.goto (-25), 3) := by decide +kernel
theorem dX7_boxCount_32 : decode cX7_boxCount 32 = .ok (.iload_n 1, 1) := by decide +kernel
theorem dX7_boxCount_33 : decode cX7_boxCount 33 = .ok (.ireturn, 1) := by decide +kernel
theorem dX7_isBox_0 : decode cX7_isBox 0 = .ok (.iload_n 1, 1) := by decide +kernel
theorem dX7_isBox_1 : decode cX7_isBox 1 = .ok (.iconst 0, 1) := by decide +kernel
theorem dX7_isBox_2 : decode cX7_isBox 2 = .ok (.bipush 23, 2) := by decide +kernel
theorem dX7_isBox_4 : decode cX7_isBox 4 = .ok (.invokestatic 172, 3) := by decide +kernel
theorem dX7_isBox_7 : decode cX7_isBox 7 = .ok (.ifCond .eq 20, 3) := by decide +kernel
theorem dX7_isBox_10 : decode cX7_isBox 10 = .ok (.aload_n 0, 1) := by decide +kernel
theorem dX7_isBox_11 : decode cX7_isBox 11 = .ok (.getfield 7, 3) := by decide +kernel
theorem dX7_isBox_14 : decode cX7_isBox 14 = .ok (.iconst 5, 1) := by decide +kernel
theorem dX7_isBox_15 : decode cX7_isBox 15 = .ok (.iconst 4, 1) := by decide +kernel
theorem dX7_isBox_16 : decode cX7_isBox 16 = .ok (.iload_n 1, 1) := by decide +kernel
theorem dX7_isBox_17 : decode cX7_isBox 17 = .ok (.imul, 1) := by decide +kernel
theorem dX7_isBox_18 : decode cX7_isBox 18 = .ok (.iadd, 1) := by decide +kernel
theorem dX7_isBox_19 : decode cX7_isBox 19 = .ok (.iaload, 1) := by decide +kernel
theorem dX7_isBox_20 : decode cX7_isBox 20 = .ok (.ifCond .lt 7, 3) := by decide +kernel
theorem dX7_isBox_23 : decode cX7_isBox 23 = .ok (.iconst 1, 1) := by decide +kernel
theorem dX7_isBox_24 : decode cX7_isBox 24 = .ok (.goto 4, 3) := by decide +kernel
theorem dX7_isBox_27 : decode cX7_isBox 27 = .ok (.iconst 0, 1) := by decide +kernel
theorem dX7_isBox_28 : decode cX7_isBox 28 = .ok (.ireturn, 1) := by decide +kernel
theorem dX7_isRectangle_0 : decode cX7_isRectangle 0 = .ok (.iload_n 0, 1) := by decide +kernel
theorem dX7_isRectangle_1 : decode cX7_isRectangle 1 = .ok (.iconst 0, 1) := by decide +kernel
theorem dX7_isRectangle_2 : decode cX7_isRectangle 2 = .ok (.bipush 99, 2) := by decide +kernel
theorem dX7_isRectangle_4 : decode cX7_isRectangle 4 = .ok (.invokestatic 172, 3) := by decide +kernel
theorem dX7_isRectangle_7 : decode cX7_isRectangle 7 = .ok (.ifCond .eq 37, 3) := by decide +kernel
theorem dX7_isRectangle_10 : decode cX7_isRectangle 10 = .ok (.iload_n 1, 1) := by decide +kernel
theorem dX7_isRectangle_11 : decode cX7_isRectangle 11 = .ok (.iconst 0, 1) := by decide +kernel
theorem dX7_isRectangle_12 : decode cX7_isRectangle 12 = .ok (.bipush 99, 2) := by decide +kernel
theorem dX7_isRectangle_14 : decode cX7_isRectangle 14 = .ok (.invokestatic 172, 3) := by decide +kernel
theorem dX7_isRectangle_17 : decode cX7_isRectangle 17 = .ok (.ifCond .eq 27, 3) := by decide +kernel
theorem dX7_isRectangle_20 : decode cX7_isRectangle 20 = .ok (.iload_n 2, 1) := by decide +kernel
theorem dX7_isRectangle_21 : decode cX7_isRectangle 21 = .ok (.iload_n 0, 1) := by decide +kernel
theorem dX7_isRectangle_22 : decode cX7_isRectangle 22 = .ok (.bipush 99, 2) := by decide +kernel
theorem dX7_isRectangle_24 : decode cX7_isRectangle 24 = .ok (.invokestatic 172, 3) := by decide +kernel
theorem dX7_isRectangle_27 : decode cX7_isRectangle 27 = .ok (.ifCond .eq 17, 3) := by decide +kernel
theorem dX7_isRectangle_30 : decode cX7_isRectangle 30 = .ok (.iload_n 3, 1) := by decide +kernel
theorem dX7_isRectangle_31 : decode cX7_isRectangle 31 = .ok (.iload_n 1, 1) := by decide +kernel
theorem dX7_isRectangle_32 : decode cX7_isRectangle 32 = .ok (.bipush 99, 2) := by decide +kernel
theorem dX7_isRectangle_34 : decode cX7_isRectangle 34 = .ok (.invokestatic 172, 3) := by decide +kernel
theorem dX7_isRectangle_37 : decode cX7_isRectangle 37 = .ok (.ifCond .eq 7, 3) := by decide +kernel
theorem dX7_isRectangle_40 : decode cX7_isRectangle 40 = .ok (.iconst 1, 1) := by decide +kernel
theorem dX7_isRectangle_41 : decode cX7_isRectangle 41 = .ok (.goto 4, 3) := by decide +kernel
theorem dX7_isRectangle_44 : decode cX7_isRectangle 44 = .ok (.iconst 0, 1) := by decide +kernel
theorem dX7_isRectangle_45 : decode cX7_isRectangle 45 = .ok (.ireturn, 1) := by decide +kernel
theorem dX7_adds_0 : decode cX7_adds 0 = .ok (.iconst 0, 1) := by decide +kernel
theorem dX7_adds_1 : decode cX7_adds 1 = .ok (.istore 5, 2) := by decide +kernel
theorem dX7_adds_3 : decode cX7_adds 3 = .ok (.aload_n 0, 1) := by decide +kernel
theorem dX7_adds_4 : decode cX7_adds 4 = .ok (.iload 5, 2) := by decide +kernel
theorem dX7_adds_6 : decode cX7_adds 6 = .ok (.invokevirtual 168, 3) := by decide +kernel
theorem dX7_adds_9 : decode cX7_adds 9 = .ok (.ifCond .eq 9, 3) := by decide +kernel
theorem dX7_adds_12 : decode cX7_adds 12 = .ok (.iinc 5 1, 3) := by decide +kernel
theorem dX7_adds_15 : decode cX7_adds 15 = .ok (.goto (-12), 3) := by decide +kernel
theorem dX7_adds_18 : decode cX7_adds 18 = .ok (.iconst 5, 1) := by decide +kernel
theorem dX7_adds_19 : decode cX7_adds 19 = .ok (.iconst 4, 1) := by decide +kernel
theorem dX7_adds_20 : decode cX7_adds 20 = .ok (.iload 5, 2) := by decide +kernel
theorem dX7_adds_22 : decode cX7_adds 22 = .ok (.imul, 1) := by decide +kernel
theorem dX7_adds_23 : decode cX7_adds 23 = .ok (.iadd, 1) := by decide +kernel
theorem dX7_adds_24 : decode cX7_adds 24 = .ok (.istore 6, 2) := by decide +kernel
theorem dX7_adds_26 : decode cX7_adds 26 = .ok (.aload_n 0, 1) := by decide +kernel
theorem dX7_adds_27 : decode cX7_adds 27 = .ok (.getfield 7, 3) := by decide +kernel
theorem dX7_adds_30 : decode cX7_adds 30 = .ok (.iload 6, 2) := by decide +kernel
theorem dX7_adds_32 : decode cX7_adds 32 = .ok (.iload_n 1, 1) := by decide +kernel
theorem dX7_adds_33 : decode cX7_adds 33 = .ok (.iastore, 1) := by decide +kernel
theorem dX7_adds_34 : decode cX7_adds 34 = .ok (.aload_n 0, 1) := by decide +kernel
theorem dX7_adds_35 : decode cX7_adds 35 = .ok (.getfield 7, 3) := by decide +kernel
theorem dX7_adds_38 : decode cX7_adds 38 = .ok (.iload 6, 2) := by decide +kernel
theorem dX7_adds_40 : decode cX7_adds 40 = .ok (.iconst 1, 1) := by decide +kernel
theorem dX7_adds_41 : decode cX7_adds 41 = .ok (.iadd, 1) := by decide +kernel
theorem dX7_adds_42 : decode cX7_adds 42 = .ok (.iload_n 2, 1) := by decide +kernel
theorem dX7_adds_43 : decode cX7_adds 43 = .ok (.iastore, 1) := by decide +kernel
theorem dX7_adds_44 : decode cX7_adds 44 = .ok (.aload_n 0, 1) := by decide +kernel
theorem dX7_adds_45 : decode cX7_adds 45 = .ok (.getfield 7, 3) := by decide +kernel
theorem dX7_adds_48 : decode cX7_adds 48 = .ok (.iload 6, 2) := by decide +kernel
theorem dX7_adds_50 : decode cX7_adds 50 = .ok (.iconst 2, 1) := by decide +kernel
theorem dX7_adds_51 : decode cX7_adds 51 = .ok (.iadd, 1) := by decide +kernel
theorem dX7_adds_52 : decode cX7_adds 52 = .ok (.iload_n 3, 1) := by decide +kernel
theorem dX7_adds_53 : decode cX7_adds 53 = .ok (.iastore, 1) := by decide +kernel
theorem dX7_adds_54 : decode cX7_adds 54 = .ok (.aload_n 0, 1) := by decide +kernel
theorem dX7_adds_55 : decode cX7_adds 55 = .ok (.getfield 7, 3) := by decide +kernel
theorem dX7_adds_58 : decode cX7_adds 58 = .ok (.iload 6, 2) := by decide +kernel
theorem dX7_adds_60 : decode cX7_adds 60 = .ok (.iconst 3, 1) := by decide +kernel
theorem dX7_adds_61 : decode cX7_adds 61 = .ok (.iadd, 1) := by decide +kernel
theorem dX7_adds_62 : decode cX7_adds 62 = .ok (.iload 4, 2) := by decide +kernel
theorem dX7_adds_64 : decode cX7_adds 64 = .ok (.iastore, 1) := by decide +kernel
theorem dX7_adds_65 : decode cX7_adds 65 = .ok (.aload_n 0, 1) := by decide +kernel
theorem dX7_adds_66 : decode cX7_adds 66 = .ok (.getfield 25, 3) := by decide +kernel
theorem dX7_adds_69 : decode cX7_adds 69 = .ok (.iconst 0, 1) := by decide +kernel
theorem dX7_adds_70 : decode cX7_adds 70 = .ok (.iload 5, 2) := by decide +kernel
theorem dX7_adds_72 : decode cX7_adds 72 = .ok (.iastore, 1) := by decide +kernel
theorem dX7_adds_73 : decode cX7_adds 73 = .ok (.aload_n 0, 1) := by decide +kernel
theorem dX7_adds_74 : decode cX7_adds 74 = .ok (.iconst 1, 1) := by decide +kernel
theorem dX7_adds_75 : decode cX7_adds 75 = .ok (.putfield 104, 3) := by decide +kernel
theorem dX7_adds_78 : decode cX7_adds 78 = .ok (.aload_n 0, 1) := by decide +kernel
theorem dX7_adds_79 : decode cX7_adds 79 = .ok (.iconst 0, 1) := by decide +kernel
theorem dX7_adds_80 : decode cX7_adds 80 = .ok (.putfield 107, 3) := by decide +kernel
theorem dX7_adds_83 : decode cX7_adds 83 = .ok (.aload_n 0, 1) := by decide +kernel
theorem dX7_adds_84 : decode cX7_adds 84 = .ok (.invokevirtual 176, 3) := by decide +kernel
theorem dX7_adds_87 : decode cX7_adds 87 = .ok (.iload 5, 2) := by decide +kernel
theorem dX7_adds_89 : decode cX7_adds 89 = .ok (.ireturn, 1) := by decide +kernel
theorem dX7_insert_0 : decode cX7_insert 0 = .ok (.iload_n 1, 1) := by decide +kernel
theorem dX7_insert_1 : decode cX7_insert 1 = .ok (.iload_n 2, 1) := by decide +kernel
theorem dX7_insert_2 : decode cX7_insert 2 = .ok (.iload_n 3, 1) := by decide +kernel
theorem dX7_insert_3 : decode cX7_insert 3 = .ok (.iload 4, 2) := by decide +kernel
theorem dX7_insert_5 : decode cX7_insert 5 = .ok (.invokestatic 179, 3) := by decide +kernel
theorem dX7_insert_8 : decode cX7_insert 8 = .ok (.ifCond .ne 6, 3) := by decide +kernel
theorem dX7_insert_11 : decode cX7_insert 11 = .ok (.bipush (-2), 2) := by decide +kernel
theorem dX7_insert_13 : decode cX7_insert 13 = .ok (.ireturn, 1) := by decide +kernel
theorem dX7_insert_14 : decode cX7_insert 14 = .ok (.aload_n 0, 1) := by decide +kernel
theorem dX7_insert_15 : decode cX7_insert 15 = .ok (.invokevirtual 183, 3) := by decide +kernel
theorem dX7_insert_18 : decode cX7_insert 18 = .ok (.bipush 24, 2) := by decide +kernel
theorem dX7_insert_20 : decode cX7_insert 20 = .ok (.if_icmp .ne 6, 3) := by decide +kernel
theorem dX7_insert_23 : decode cX7_insert 23 = .ok (.bipush (-3), 2) := by decide +kernel
theorem dX7_insert_25 : decode cX7_insert 25 = .ok (.ireturn, 1) := by decide +kernel
theorem dX7_insert_26 : decode cX7_insert 26 = .ok (.aload_n 0, 1) := by decide +kernel
theorem dX7_insert_27 : decode cX7_insert 27 = .ok (.invokevirtual 186, 3) := by decide +kernel
theorem dX7_insert_30 : decode cX7_insert 30 = .ok (.aload_n 0, 1) := by decide +kernel
theorem dX7_insert_31 : decode cX7_insert 31 = .ok (.iload_n 1, 1) := by decide +kernel
theorem dX7_insert_32 : decode cX7_insert 32 = .ok (.iload_n 2, 1) := by decide +kernel
theorem dX7_insert_33 : decode cX7_insert 33 = .ok (.iload_n 3, 1) := by decide +kernel
theorem dX7_insert_34 : decode cX7_insert 34 = .ok (.iload 4, 2) := by decide +kernel
theorem dX7_insert_36 : decode cX7_insert 36 = .ok (.invokevirtual 189, 3) := by decide +kernel
theorem dX7_insert_39 : decode cX7_insert 39 = .ok (.ireturn, 1) := by decide +kernel
theorem dX7_keepsAside_0 : decode cX7_keepsAside 0 = .ok (.aload_n 0, 1) := by decide +kernel
theorem dX7_keepsAside_1 : decode cX7_keepsAside 1 = .ok (.iload_n 1, 1) := by decide +kernel
theorem dX7_keepsAside_2 : decode cX7_keepsAside 2 = .ok (.invokevirtual 83, 3) := by decide +kernel
theorem dX7_keepsAside_5 : decode cX7_keepsAside 5 = .ok (.istore_n 2, 1) := by decide +kernel
theorem dX7_keepsAside_6 : decode cX7_keepsAside 6 = .ok (.iload_n 1, 1) := by decide +kernel
theorem dX7_keepsAside_7 : decode cX7_keepsAside 7 = .ok (.iconst 1, 1) := by decide +kernel
theorem dX7_keepsAside_8 : decode cX7_keepsAside 8 = .ok (.iadd, 1) := by decide +kernel
theorem dX7_keepsAside_9 : decode cX7_keepsAside 9 = .ok (.istore_n 3, 1) := by decide +kernel
theorem dX7_keepsAside_10 : decode cX7_keepsAside 10 = .ok (.iload_n 3, 1) := by decide +kernel
theorem dX7_keepsAside_11 : decode cX7_keepsAside 11 = .ok (.iload_n 2, 1) := by decide +kernel
theorem dX7_keepsAside_12 : decode cX7_keepsAside 12 = .ok (.if_icmp .ge 104, 3) := by decide +kernel
theorem dX7_keepsAside_15 : decode cX7_keepsAside 15 = .ok (.aload_n 0, 1) := by decide +kernel
theorem dX7_keepsAside_16 : decode cX7_keepsAside 16 = .ok (.iload_n 3, 1) := by decide +kernel
theorem dX7_keepsAside_17 : decode cX7_keepsAside 17 = .ok (.invokevirtual 83, 3) := by decide +kernel
theorem dX7_keepsAside_20 : decode cX7_keepsAside 20 = .ok (.istore 4, 2) := by decide +kernel
theorem dX7_keepsAside_22 : decode cX7_keepsAside 22 = .ok (.aload_n 0, 1) := by decide +kernel
theorem dX7_keepsAside_23 : decode cX7_keepsAside 23 = .ok (.getfield 50, 3) := by decide +kernel
theorem dX7_keepsAside_26 : decode cX7_keepsAside 26 = .ok (.aload_n 0, 1) := by decide +kernel
theorem dX7_keepsAside_27 : decode cX7_keepsAside 27 = .ok (.getfield 192, 3) := by decide +kernel
theorem dX7_keepsAside_30 : decode cX7_keepsAside 30 = .ok (.iaload, 1) := by decide +kernel
theorem dX7_keepsAside_31 : decode cX7_keepsAside 31 = .ok (.istore 5, 2) := by decide +kernel
theorem dX7_keepsAside_33 : decode cX7_keepsAside 33 = .ok (.iload_n 3, 1) := by decide +kernel
theorem dX7_keepsAside_34 : decode cX7_keepsAside 34 = .ok (.istore 6, 2) := by decide +kernel
theorem dX7_keepsAside_36 : decode cX7_keepsAside 36 = .ok (.iload 6, 2) := by decide +kernel
theorem dX7_keepsAside_38 : decode cX7_keepsAside 38 = .ok (.iload 4, 2) := by decide +kernel
theorem dX7_keepsAside_40 : decode cX7_keepsAside 40 = .ok (.if_icmp .ge 27, 3) := by decide +kernel
theorem dX7_keepsAside_43 : decode cX7_keepsAside 43 = .ok (.aload_n 0, 1) := by decide +kernel
theorem dX7_keepsAside_44 : decode cX7_keepsAside 44 = .ok (.getfield 47, 3) := by decide +kernel
theorem dX7_keepsAside_47 : decode cX7_keepsAside 47 = .ok (.iload 5, 2) := by decide +kernel
theorem dX7_keepsAside_49 : decode cX7_keepsAside 49 = .ok (.iload 6, 2) := by decide +kernel
theorem dX7_keepsAside_51 : decode cX7_keepsAside 51 = .ok (.iadd, 1) := by decide +kernel
theorem dX7_keepsAside_52 : decode cX7_keepsAside 52 = .ok (.iload_n 3, 1) := by decide +kernel
theorem dX7_keepsAside_53 : decode cX7_keepsAside 53 = .ok (.isub, 1) := by decide +kernel
theorem dX7_keepsAside_54 : decode cX7_keepsAside 54 = .ok (.aload_n 0, 1) := by decide +kernel
theorem dX7_keepsAside_55 : decode cX7_keepsAside 55 = .ok (.iload 6, 2) := by decide +kernel
theorem dX7_keepsAside_57 : decode cX7_keepsAside 57 = .ok (.invokevirtual 69, 3) := by decide +kernel
theorem dX7_keepsAside_60 : decode cX7_keepsAside 60 = .ok (.iastore, 1) := by decide +kernel
theorem dX7_keepsAside_61 : decode cX7_keepsAside 61 = .ok (.iinc 6 1, 3) := by decide +kernel
theorem dX7_keepsAside_64 : decode cX7_keepsAside 64 = .ok (.goto (-28), 3) := by decide +kernel
theorem dX7_keepsAside_67 : decode cX7_keepsAside 67 = .ok (.aload_n 0, 1) := by decide +kernel
theorem dX7_keepsAside_68 : decode cX7_keepsAside 68 = .ok (.getfield 53, 3) := by decide +kernel
theorem dX7_keepsAside_71 : decode cX7_keepsAside 71 = .ok (.aload_n 0, 1) := by decide +kernel
theorem dX7_keepsAside_72 : decode cX7_keepsAside 72 = .ok (.getfield 192, 3) := by decide +kernel
theorem dX7_keepsAside_75 : decode cX7_keepsAside 75 = .ok (.aload_n 0, 1) := by decide +kernel
theorem dX7_keepsAside_76 : decode cX7_keepsAside 76 = .ok (.iload_n 1, 1) := by decide +kernel
theorem dX7_keepsAside_77 : decode cX7_keepsAside 77 = .ok (.invokevirtual 80, 3) := by decide +kernel
theorem dX7_keepsAside_80 : decode cX7_keepsAside 80 = .ok (.iastore, 1) := by decide +kernel
theorem dX7_keepsAside_81 : decode cX7_keepsAside 81 = .ok (.aload_n 0, 1) := by decide +kernel
theorem dX7_keepsAside_82 : decode cX7_keepsAside 82 = .ok (.dup, 1) := by decide +kernel
theorem dX7_keepsAside_83 : decode cX7_keepsAside 83 = .ok (.getfield 192, 3) := by decide +kernel
theorem dX7_keepsAside_86 : decode cX7_keepsAside 86 = .ok (.iconst 1, 1) := by decide +kernel
theorem dX7_keepsAside_87 : decode cX7_keepsAside 87 = .ok (.iadd, 1) := by decide +kernel
theorem dX7_keepsAside_88 : decode cX7_keepsAside 88 = .ok (.putfield 192, 3) := by decide +kernel
theorem dX7_keepsAside_91 : decode cX7_keepsAside 91 = .ok (.aload_n 0, 1) := by decide +kernel
theorem dX7_keepsAside_92 : decode cX7_keepsAside 92 = .ok (.getfield 50, 3) := by decide +kernel
theorem dX7_keepsAside_95 : decode cX7_keepsAside 95 = .ok (.aload_n 0, 1) := by decide +kernel
theorem dX7_keepsAside_96 : decode cX7_keepsAside 96 = .ok (.getfield 192, 3) := by decide +kernel
theorem dX7_keepsAside_99 : decode cX7_keepsAside 99 = .ok (.iload 5, 2) := by decide +kernel
theorem dX7_keepsAside_101 : decode cX7_keepsAside 101 = .ok (.iload 4, 2) := by decide +kernel
theorem dX7_keepsAside_103 : decode cX7_keepsAside 103 = .ok (.iadd, 1) := by decide +kernel
theorem dX7_keepsAside_104 : decode cX7_keepsAside 104 = .ok (.iload_n 3, 1) := by decide +kernel
theorem dX7_keepsAside_105 : decode cX7_keepsAside 105 = .ok (.isub, 1) := by decide +kernel
theorem dX7_keepsAside_106 : decode cX7_keepsAside 106 = .ok (.iastore, 1) := by decide +kernel
theorem dX7_keepsAside_107 : decode cX7_keepsAside 107 = .ok (.aload_n 0, 1) := by decide +kernel
theorem dX7_keepsAside_108 : decode cX7_keepsAside 108 = .ok (.iload_n 3, 1) := by decide +kernel
theorem dX7_keepsAside_109 : decode cX7_keepsAside 109 = .ok (.invokevirtual 83, 3) := by decide +kernel
theorem dX7_keepsAside_112 : decode cX7_keepsAside 112 = .ok (.istore_n 3, 1) := by decide +kernel
theorem dX7_keepsAside_113 : decode cX7_keepsAside 113 = .ok (.goto (-103), 3) := by decide +kernel
theorem dX7_keepsAside_116 : decode cX7_keepsAside 116 = .ok (.aload_n 0, 1) := by decide +kernel
theorem dX7_keepsAside_117 : decode cX7_keepsAside 117 = .ok (.iload_n 1, 1) := by decide +kernel
theorem dX7_keepsAside_118 : decode cX7_keepsAside 118 = .ok (.iload_n 2, 1) := by decide +kernel
theorem dX7_keepsAside_119 : decode cX7_keepsAside 119 = .ok (.invokevirtual 127, 3) := by decide +kernel
theorem dX7_keepsAside_122 : decode cX7_keepsAside 122 = .ok (.return_, 1) := by decide +kernel
theorem dX7_shrinks_0 : decode cX7_shrinks 0 = .ok (.aload_n 0, 1) := by decide +kernel
theorem dX7_shrinks_1 : decode cX7_shrinks 1 = .ok (.invokevirtual 76, 3) := by decide +kernel
theorem dX7_shrinks_4 : decode cX7_shrinks 4 = .ok (.iconst 1, 1) := by decide +kernel
theorem dX7_shrinks_5 : decode cX7_shrinks 5 = .ok (.if_icmp .le 30, 3) := by decide +kernel
theorem dX7_shrinks_8 : decode cX7_shrinks 8 = .ok (.aload_n 0, 1) := by decide +kernel
theorem dX7_shrinks_9 : decode cX7_shrinks 9 = .ok (.iconst 0, 1) := by decide +kernel
theorem dX7_shrinks_10 : decode cX7_shrinks 10 = .ok (.invokevirtual 69, 3) := by decide +kernel
theorem dX7_shrinks_13 : decode cX7_shrinks 13 = .ok (.iconst (-1), 1) := by decide +kernel
theorem dX7_shrinks_14 : decode cX7_shrinks 14 = .ok (.if_icmp .ge 21, 3) := by decide +kernel
theorem dX7_shrinks_17 : decode cX7_shrinks 17 = .ok (.aload_n 0, 1) := by decide +kernel
theorem dX7_shrinks_18 : decode cX7_shrinks 18 = .ok (.iconst 0, 1) := by decide +kernel
theorem dX7_shrinks_19 : decode cX7_shrinks 19 = .ok (.invokevirtual 137, 3) := by decide +kernel
theorem dX7_shrinks_22 : decode cX7_shrinks 22 = .ok (.iconst 1, 1) := by decide +kernel
theorem dX7_shrinks_23 : decode cX7_shrinks 23 = .ok (.if_icmp .ne 12, 3) := by decide +kernel
theorem dX7_shrinks_26 : decode cX7_shrinks 26 = .ok (.aload_n 0, 1) := by decide +kernel
theorem dX7_shrinks_27 : decode cX7_shrinks 27 = .ok (.iconst 0, 1) := by decide +kernel
theorem dX7_shrinks_28 : decode cX7_shrinks 28 = .ok (.iconst 1, 1) := by decide +kernel
theorem dX7_shrinks_29 : decode cX7_shrinks 29 = .ok (.invokevirtual 127, 3) := by decide +kernel
theorem dX7_shrinks_32 : decode cX7_shrinks 32 = .ok (.goto (-32), 3) := by decide +kernel
theorem dX7_shrinks_35 : decode cX7_shrinks 35 = .ok (.aload_n 0, 1) := by decide +kernel
theorem dX7_shrinks_36 : decode cX7_shrinks 36 = .ok (.invokevirtual 76, 3) := by decide +kernel
theorem dX7_shrinks_39 : decode cX7_shrinks 39 = .ok (.iconst 1, 1) := by decide +kernel
theorem dX7_shrinks_40 : decode cX7_shrinks 40 = .ok (.if_icmp .ne 11, 3) := by decide +kernel
theorem dX7_shrinks_43 : decode cX7_shrinks 43 = .ok (.aload_n 0, 1) := by decide +kernel
theorem dX7_shrinks_44 : decode cX7_shrinks 44 = .ok (.getfield 7, 3) := by decide +kernel
theorem dX7_shrinks_47 : decode cX7_shrinks 47 = .ok (.bipush 101, 2) := by decide +kernel
theorem dX7_shrinks_49 : decode cX7_shrinks 49 = .ok (.iconst (-1), 1) := by decide +kernel
theorem dX7_shrinks_50 : decode cX7_shrinks 50 = .ok (.iastore, 1) := by decide +kernel
theorem dX7_shrinks_51 : decode cX7_shrinks 51 = .ok (.return_, 1) := by decide +kernel
theorem dX7_insertsAside_0 : decode cX7_insertsAside 0 = .ok (.aload_n 0, 1) := by decide +kernel
theorem dX7_insertsAside_1 : decode cX7_insertsAside 1 = .ok (.getfield 53, 3) := by decide +kernel
theorem dX7_insertsAside_4 : decode cX7_insertsAside 4 = .ok (.iload_n 1, 1) := by decide +kernel
theorem dX7_insertsAside_5 : decode cX7_insertsAside 5 = .ok (.iaload, 1) := by decide +kernel
theorem dX7_insertsAside_6 : decode cX7_insertsAside 6 = .ok (.aload_n 0, 1) := by decide +kernel
theorem dX7_insertsAside_7 : decode cX7_insertsAside 7 = .ok (.iconst 0, 1) := by decide +kernel
theorem dX7_insertsAside_8 : decode cX7_insertsAside 8 = .ok (.invokevirtual 80, 3) := by decide +kernel
theorem dX7_insertsAside_11 : decode cX7_insertsAside 11 = .ok (.if_icmp .gt 40, 3) := by decide +kernel
theorem dX7_insertsAside_14 : decode cX7_insertsAside 14 = .ok (.aload_n 0, 1) := by decide +kernel
theorem dX7_insertsAside_15 : decode cX7_insertsAside 15 = .ok (.aload_n 0, 1) := by decide +kernel
theorem dX7_insertsAside_16 : decode cX7_insertsAside 16 = .ok (.getfield 47, 3) := by decide +kernel
theorem dX7_insertsAside_19 : decode cX7_insertsAside 19 = .ok (.aload_n 0, 1) := by decide +kernel
theorem dX7_insertsAside_20 : decode cX7_insertsAside 20 = .ok (.getfield 50, 3) := by decide +kernel
theorem dX7_insertsAside_23 : decode cX7_insertsAside 23 = .ok (.iload_n 1, 1) := by decide +kernel
theorem dX7_insertsAside_24 : decode cX7_insertsAside 24 = .ok (.iaload, 1) := by decide +kernel
theorem dX7_insertsAside_25 : decode cX7_insertsAside 25 = .ok (.aload_n 0, 1) := by decide +kernel
theorem dX7_insertsAside_26 : decode cX7_insertsAside 26 = .ok (.getfield 50, 3) := by decide +kernel
theorem dX7_insertsAside_29 : decode cX7_insertsAside 29 = .ok (.iload_n 1, 1) := by decide +kernel
theorem dX7_insertsAside_30 : decode cX7_insertsAside 30 = .ok (.iconst 1, 1) := by decide +kernel
theorem dX7_insertsAside_31 : decode cX7_insertsAside 31 = .ok (.iadd, 1) := by decide +kernel
theorem dX7_insertsAside_32 : decode cX7_insertsAside 32 = .ok (.iaload, 1) := by decide +kernel
theorem dX7_insertsAside_33 : decode cX7_insertsAside 33 = .ok (.invokevirtual 123, 3) := by decide +kernel
theorem dX7_insertsAside_36 : decode cX7_insertsAside 36 = .ok (.aload_n 0, 1) := by decide +kernel
theorem dX7_insertsAside_37 : decode cX7_insertsAside 37 = .ok (.aload_n 0, 1) := by decide +kernel
theorem dX7_insertsAside_38 : decode cX7_insertsAside 38 = .ok (.getfield 53, 3) := by decide +kernel
theorem dX7_insertsAside_41 : decode cX7_insertsAside 41 = .ok (.iload_n 1, 1) := by decide +kernel
theorem dX7_insertsAside_42 : decode cX7_insertsAside 42 = .ok (.iaload, 1) := by decide +kernel
theorem dX7_insertsAside_43 : decode cX7_insertsAside 43 = .ok (.putfield 107, 3) := by decide +kernel
theorem dX7_insertsAside_46 : decode cX7_insertsAside 46 = .ok (.aload_n 0, 1) := by decide +kernel
theorem dX7_insertsAside_47 : decode cX7_insertsAside 47 = .ok (.invokevirtual 176, 3) := by decide +kernel
theorem dX7_insertsAside_50 : decode cX7_insertsAside 50 = .ok (.return_, 1) := by decide +kernel
theorem dX7_insertsAside_51 : decode cX7_insertsAside 51 = .ok (.aload_n 0, 1) := by decide +kernel
theorem dX7_insertsAside_52 : decode cX7_insertsAside 52 = .ok (.getfield 50, 3) := by decide +kernel
theorem dX7_insertsAside_55 : decode cX7_insertsAside 55 = .ok (.iload_n 1, 1) := by decide +kernel
theorem dX7_insertsAside_56 : decode cX7_insertsAside 56 = .ok (.iaload, 1) := by decide +kernel
theorem dX7_insertsAside_57 : decode cX7_insertsAside 57 = .ok (.istore_n 2, 1) := by decide +kernel
theorem dX7_insertsAside_58 : decode cX7_insertsAside 58 = .ok (.iload_n 2, 1) := by decide +kernel
theorem dX7_insertsAside_59 : decode cX7_insertsAside 59 = .ok (.aload_n 0, 1) := by decide +kernel
theorem dX7_insertsAside_60 : decode cX7_insertsAside 60 = .ok (.getfield 50, 3) := by decide +kernel
theorem dX7_insertsAside_63 : decode cX7_insertsAside 63 = .ok (.iload_n 1, 1) := by decide +kernel
theorem dX7_insertsAside_64 : decode cX7_insertsAside 64 = .ok (.iconst 1, 1) := by decide +kernel
theorem dX7_insertsAside_65 : decode cX7_insertsAside 65 = .ok (.iadd, 1) := by decide +kernel
theorem dX7_insertsAside_66 : decode cX7_insertsAside 66 = .ok (.iaload, 1) := by decide +kernel
theorem dX7_insertsAside_67 : decode cX7_insertsAside 67 = .ok (.if_icmp .ge 44, 3) := by decide +kernel
theorem dX7_insertsAside_70 : decode cX7_insertsAside 70 = .ok (.aload_n 0, 1) := by decide +kernel
theorem dX7_insertsAside_71 : decode cX7_insertsAside 71 = .ok (.getfield 47, 3) := by decide +kernel
theorem dX7_insertsAside_74 : decode cX7_insertsAside 74 = .ok (.iload_n 2, 1) := by decide +kernel
theorem dX7_insertsAside_75 : decode cX7_insertsAside 75 = .ok (.iaload, 1) := by decide +kernel
theorem dX7_insertsAside_76 : decode cX7_insertsAside 76 = .ok (.ifCond .lt 29, 3) := by decide +kernel
theorem dX7_insertsAside_79 : decode cX7_insertsAside 79 = .ok (.aload_n 0, 1) := by decide +kernel
theorem dX7_insertsAside_80 : decode cX7_insertsAside 80 = .ok (.getfield 25, 3) := by decide +kernel
theorem dX7_insertsAside_83 : decode cX7_insertsAside 83 = .ok (.iconst 0, 1) := by decide +kernel
theorem dX7_insertsAside_84 : decode cX7_insertsAside 84 = .ok (.aload_n 0, 1) := by decide +kernel
theorem dX7_insertsAside_85 : decode cX7_insertsAside 85 = .ok (.getfield 47, 3) := by decide +kernel
theorem dX7_insertsAside_88 : decode cX7_insertsAside 88 = .ok (.iload_n 2, 1) := by decide +kernel
theorem dX7_insertsAside_89 : decode cX7_insertsAside 89 = .ok (.iaload, 1) := by decide +kernel
theorem dX7_insertsAside_90 : decode cX7_insertsAside 90 = .ok (.iastore, 1) := by decide +kernel
theorem dX7_insertsAside_91 : decode cX7_insertsAside 91 = .ok (.aload_n 0, 1) := by decide +kernel
theorem dX7_insertsAside_92 : decode cX7_insertsAside 92 = .ok (.iconst 1, 1) := by decide +kernel
theorem dX7_insertsAside_93 : decode cX7_insertsAside 93 = .ok (.putfield 104, 3) := by decide +kernel
theorem dX7_insertsAside_96 : decode cX7_insertsAside 96 = .ok (.aload_n 0, 1) := by decide +kernel
theorem dX7_insertsAside_97 : decode cX7_insertsAside 97 = .ok (.iconst 0, 1) := by decide +kernel
theorem dX7_insertsAside_98 : decode cX7_insertsAside 98 = .ok (.putfield 107, 3) := by decide +kernel
theorem dX7_insertsAside_101 : decode cX7_insertsAside 101 = .ok (.aload_n 0, 1) := by decide +kernel
theorem dX7_insertsAside_102 : decode cX7_insertsAside 102 = .ok (.invokevirtual 176, 3) := by decide +kernel
theorem dX7_insertsAside_105 : decode cX7_insertsAside 105 = .ok (.iinc 2 1, 3) := by decide +kernel
theorem dX7_insertsAside_108 : decode cX7_insertsAside 108 = .ok (.goto (-50), 3) := by decide +kernel
theorem dX7_insertsAside_111 : decode cX7_insertsAside 111 = .ok (.return_, 1) := by decide +kernel
theorem dX7_remove_0 : decode cX7_remove 0 = .ok (.aload_n 0, 1) := by decide +kernel
theorem dX7_remove_1 : decode cX7_remove 1 = .ok (.iload_n 1, 1) := by decide +kernel
theorem dX7_remove_2 : decode cX7_remove 2 = .ok (.invokevirtual 168, 3) := by decide +kernel
theorem dX7_remove_5 : decode cX7_remove 5 = .ok (.ifCond .ne 5, 3) := by decide +kernel
theorem dX7_remove_8 : decode cX7_remove 8 = .ok (.iconst (-1), 1) := by decide +kernel
theorem dX7_remove_9 : decode cX7_remove 9 = .ok (.ireturn, 1) := by decide +kernel
theorem dX7_remove_10 : decode cX7_remove 10 = .ok (.aload_n 0, 1) := by decide +kernel
theorem dX7_remove_11 : decode cX7_remove 11 = .ok (.invokevirtual 186, 3) := by decide +kernel
theorem dX7_remove_14 : decode cX7_remove 14 = .ok (.aload_n 0, 1) := by decide +kernel
theorem dX7_remove_15 : decode cX7_remove 15 = .ok (.iload_n 1, 1) := by decide +kernel
theorem dX7_remove_16 : decode cX7_remove 16 = .ok (.invokevirtual 195, 3) := by decide +kernel
theorem dX7_remove_19 : decode cX7_remove 19 = .ok (.istore_n 2, 1) := by decide +kernel
theorem dX7_remove_20 : decode cX7_remove 20 = .ok (.aload_n 0, 1) := by decide +kernel
theorem dX7_remove_21 : decode cX7_remove 21 = .ok (.iload_n 2, 1) := by decide +kernel
theorem dX7_remove_22 : decode cX7_remove 22 = .ok (.invokevirtual 165, 3) := by decide +kernel
theorem dX7_remove_25 : decode cX7_remove 25 = .ok (.istore_n 3, 1) := by decide +kernel
theorem dX7_remove_26 : decode cX7_remove 26 = .ok (.aload_n 0, 1) := by decide +kernel
theorem dX7_remove_27 : decode cX7_remove 27 = .ok (.iload_n 2, 1) := by decide +kernel
theorem dX7_remove_28 : decode cX7_remove 28 = .ok (.iload_n 2, 1) := by decide +kernel
theorem dX7_remove_29 : decode cX7_remove 29 = .ok (.iconst 1, 1) := by decide +kernel
theorem dX7_remove_30 : decode cX7_remove 30 = .ok (.iadd, 1) := by decide +kernel
theorem dX7_remove_31 : decode cX7_remove 31 = .ok (.invokevirtual 127, 3) := by decide +kernel
theorem dX7_remove_34 : decode cX7_remove 34 = .ok (.aload_n 0, 1) := by decide +kernel
theorem dX7_remove_35 : decode cX7_remove 35 = .ok (.getfield 7, 3) := by decide +kernel
theorem dX7_remove_38 : decode cX7_remove 38 = .ok (.iconst 5, 1) := by decide +kernel
theorem dX7_remove_39 : decode cX7_remove 39 = .ok (.iconst 4, 1) := by decide +kernel
theorem dX7_remove_40 : decode cX7_remove 40 = .ok (.iload_n 1, 1) := by decide +kernel
theorem dX7_remove_41 : decode cX7_remove 41 = .ok (.imul, 1) := by decide +kernel
theorem dX7_remove_42 : decode cX7_remove 42 = .ok (.iadd, 1) := by decide +kernel
theorem dX7_remove_43 : decode cX7_remove 43 = .ok (.iconst (-1), 1) := by decide +kernel
theorem dX7_remove_44 : decode cX7_remove 44 = .ok (.iastore, 1) := by decide +kernel
theorem dX7_remove_45 : decode cX7_remove 45 = .ok (.aload_n 0, 1) := by decide +kernel
theorem dX7_remove_46 : decode cX7_remove 46 = .ok (.iconst 0, 1) := by decide +kernel
theorem dX7_remove_47 : decode cX7_remove 47 = .ok (.putfield 192, 3) := by decide +kernel
theorem dX7_remove_50 : decode cX7_remove 50 = .ok (.aload_n 0, 1) := by decide +kernel
theorem dX7_remove_51 : decode cX7_remove 51 = .ok (.getfield 50, 3) := by decide +kernel
theorem dX7_remove_54 : decode cX7_remove 54 = .ok (.iconst 0, 1) := by decide +kernel
theorem dX7_remove_55 : decode cX7_remove 55 = .ok (.iconst 0, 1) := by decide +kernel
theorem dX7_remove_56 : decode cX7_remove 56 = .ok (.iastore, 1) := by decide +kernel
theorem dX7_remove_57 : decode cX7_remove 57 = .ok (.iload_n 3, 1) := by decide +kernel
theorem dX7_remove_58 : decode cX7_remove 58 = .ok (.ifCond .le 37, 3) := by decide +kernel
theorem dX7_remove_61 : decode cX7_remove 61 = .ok (.aload_n 0, 1) := by decide +kernel
theorem dX7_remove_62 : decode cX7_remove 62 = .ok (.iload_n 3, 1) := by decide +kernel
theorem dX7_remove_63 : decode cX7_remove 63 = .ok (.invokevirtual 165, 3) := by decide +kernel
theorem dX7_remove_66 : decode cX7_remove 66 = .ok (.istore 4, 2) := by decide +kernel
theorem dX7_remove_68 : decode cX7_remove 68 = .ok (.aload_n 0, 1) := by decide +kernel
theorem dX7_remove_69 : decode cX7_remove 69 = .ok (.iload_n 3, 1) := by decide +kernel
theorem dX7_remove_70 : decode cX7_remove 70 = .ok (.invokevirtual 137, 3) := by decide +kernel
theorem dX7_remove_73 : decode cX7_remove 73 = .ok (.aload_n 0, 1) := by decide +kernel
theorem dX7_remove_74 : decode cX7_remove 74 = .ok (.getfield 7, 3) := by decide +kernel
theorem dX7_remove_77 : decode cX7_remove 77 = .ok (.iconst 0, 1) := by decide +kernel
theorem dX7_remove_78 : decode cX7_remove 78 = .ok (.iaload, 1) := by decide +kernel
theorem dX7_remove_79 : decode cX7_remove 79 = .ok (.iconst 2, 1) := by decide +kernel
theorem dX7_remove_80 : decode cX7_remove 80 = .ok (.idiv, 1) := by decide +kernel
theorem dX7_remove_81 : decode cX7_remove 81 = .ok (.if_icmp .ge 8, 3) := by decide +kernel
theorem dX7_remove_84 : decode cX7_remove 84 = .ok (.aload_n 0, 1) := by decide +kernel
theorem dX7_remove_85 : decode cX7_remove 85 = .ok (.iload_n 3, 1) := by decide +kernel
theorem dX7_remove_86 : decode cX7_remove 86 = .ok (.invokevirtual 198, 3) := by decide +kernel
theorem dX7_remove_89 : decode cX7_remove 89 = .ok (.iload 4, 2) := by decide +kernel
theorem dX7_remove_91 : decode cX7_remove 91 = .ok (.istore_n 3, 1) := by decide +kernel
theorem dX7_remove_92 : decode cX7_remove 92 = .ok (.goto (-35), 3) := by decide +kernel
theorem dX7_remove_95 : decode cX7_remove 95 = .ok (.aload_n 0, 1) := by decide +kernel
theorem dX7_remove_96 : decode cX7_remove 96 = .ok (.invokevirtual 201, 3) := by decide +kernel
theorem dX7_remove_99 : decode cX7_remove 99 = .ok (.iconst 0, 1) := by decide +kernel
theorem dX7_remove_100 : decode cX7_remove 100 = .ok (.istore 4, 2) := by decide +kernel
theorem dX7_remove_102 : decode cX7_remove 102 = .ok (.iload 4, 2) := by decide +kernel
theorem dX7_remove_104 : decode cX7_remove 104 = .ok (.aload_n 0, 1) := by decide +kernel
theorem dX7_remove_105 : decode cX7_remove 105 = .ok (.getfield 192, 3) := by decide +kernel
theorem dX7_remove_108 : decode cX7_remove 108 = .ok (.if_icmp .ge 15, 3) := by decide +kernel
theorem dX7_remove_111 : decode cX7_remove 111 = .ok (.aload_n 0, 1) := by decide +kernel
theorem dX7_remove_112 : decode cX7_remove 112 = .ok (.iload 4, 2) := by decide +kernel
theorem dX7_remove_114 : decode cX7_remove 114 = .ok (.invokevirtual 204, 3) := by decide +kernel
theorem dX7_remove_117 : decode cX7_remove 117 = .ok (.iinc 4 1, 3) := by decide +kernel
theorem dX7_remove_120 : decode cX7_remove 120 = .ok (.goto (-18), 3) := by decide +kernel
theorem dX7_remove_123 : decode cX7_remove 123 = .ok (.aload_n 0, 1) := by decide +kernel
theorem dX7_remove_124 : decode cX7_remove 124 = .ok (.invokevirtual 183, 3) := by decide +kernel
theorem dX7_remove_127 : decode cX7_remove 127 = .ok (.ireturn, 1) := by decide +kernel
theorem dX7_key_0 : decode cX7_key 0 = .ok (.bipush 24, 2) := by decide +kernel
theorem dX7_key_2 : decode cX7_key 2 = .ok (.aload_n 0, 1) := by decide +kernel
theorem dX7_key_3 : decode cX7_key 3 = .ok (.getfield 7, 3) := by decide +kernel
theorem dX7_key_6 : decode cX7_key 6 = .ok (.iconst 5, 1) := by decide +kernel
theorem dX7_key_7 : decode cX7_key 7 = .ok (.iconst 4, 1) := by decide +kernel
theorem dX7_key_8 : decode cX7_key 8 = .ok (.iload_n 1, 1) := by decide +kernel
theorem dX7_key_9 : decode cX7_key 9 = .ok (.imul, 1) := by decide +kernel
theorem dX7_key_10 : decode cX7_key 10 = .ok (.iadd, 1) := by decide +kernel
theorem dX7_key_11 : decode cX7_key 11 = .ok (.iload_n 2, 1) := by decide +kernel
theorem dX7_key_12 : decode cX7_key 12 = .ok (.iadd, 1) := by decide +kernel
theorem dX7_key_13 : decode cX7_key 13 = .ok (.iaload, 1) := by decide +kernel
theorem dX7_key_14 : decode cX7_key 14 = .ok (.aload_n 0, 1) := by decide +kernel
theorem dX7_key_15 : decode cX7_key 15 = .ok (.getfield 7, 3) := by decide +kernel
theorem dX7_key_18 : decode cX7_key 18 = .ok (.iconst 5, 1) := by decide +kernel
theorem dX7_key_19 : decode cX7_key 19 = .ok (.iconst 4, 1) := by decide +kernel
theorem dX7_key_20 : decode cX7_key 20 = .ok (.iload_n 1, 1) := by decide +kernel
theorem dX7_key_21 : decode cX7_key 21 = .ok (.imul, 1) := by decide +kernel
theorem dX7_key_22 : decode cX7_key 22 = .ok (.iadd, 1) := by decide +kernel
theorem dX7_key_23 : decode cX7_key 23 = .ok (.iload_n 2, 1) := by decide +kernel
theorem dX7_key_24 : decode cX7_key 24 = .ok (.iadd, 1) := by decide +kernel
theorem dX7_key_25 : decode cX7_key 25 = .ok (.iconst 2, 1) := by decide +kernel
theorem dX7_key_26 : decode cX7_key 26 = .ok (.iadd, 1) := by decide +kernel
theorem dX7_key_27 : decode cX7_key 27 = .ok (.iaload, 1) := by decide +kernel
theorem dX7_key_28 : decode cX7_key 28 = .ok (.iadd, 1) := by decide +kernel
theorem dX7_key_29 : decode cX7_key 29 = .ok (.imul, 1) := by decide +kernel
theorem dX7_key_30 : decode cX7_key 30 = .ok (.iload_n 1, 1) := by decide +kernel
theorem dX7_key_31 : decode cX7_key 31 = .ok (.iadd, 1) := by decide +kernel
theorem dX7_key_32 : decode cX7_key 32 = .ok (.ireturn, 1) := by decide +kernel
theorem dX7_sorts_0 : decode cX7_sorts 0 = .ok (.iload_n 1, 1) := by decide +kernel
theorem dX7_sorts_1 : decode cX7_sorts 1 = .ok (.istore 4, 2) := by decide +kernel
theorem dX7_sorts_3 : decode cX7_sorts 3 = .ok (.iload 4, 2) := by decide +kernel
theorem dX7_sorts_5 : decode cX7_sorts 5 = .ok (.iload_n 2, 1) := by decide +kernel
theorem dX7_sorts_6 : decode cX7_sorts 6 = .ok (.if_icmp .ge 86, 3) := by decide +kernel
theorem dX7_sorts_9 : decode cX7_sorts 9 = .ok (.iload 4, 2) := by decide +kernel
theorem dX7_sorts_11 : decode cX7_sorts 11 = .ok (.iconst 1, 1) := by decide +kernel
theorem dX7_sorts_12 : decode cX7_sorts 12 = .ok (.iadd, 1) := by decide +kernel
theorem dX7_sorts_13 : decode cX7_sorts 13 = .ok (.istore 5, 2) := by decide +kernel
theorem dX7_sorts_15 : decode cX7_sorts 15 = .ok (.iload 5, 2) := by decide +kernel
theorem dX7_sorts_17 : decode cX7_sorts 17 = .ok (.iload_n 2, 1) := by decide +kernel
theorem dX7_sorts_18 : decode cX7_sorts 18 = .ok (.if_icmp .ge 68, 3) := by decide +kernel
theorem dX7_sorts_21 : decode cX7_sorts 21 = .ok (.aload_n 0, 1) := by decide +kernel
theorem dX7_sorts_22 : decode cX7_sorts 22 = .ok (.aload_n 0, 1) := by decide +kernel
theorem dX7_sorts_23 : decode cX7_sorts 23 = .ok (.getfield 56, 3) := by decide +kernel
theorem dX7_sorts_26 : decode cX7_sorts 26 = .ok (.iload 5, 2) := by decide +kernel
theorem dX7_sorts_28 : decode cX7_sorts 28 = .ok (.iaload, 1) := by decide +kernel
theorem dX7_sorts_29 : decode cX7_sorts 29 = .ok (.iload_n 3, 1) := by decide +kernel
theorem dX7_sorts_30 : decode cX7_sorts 30 = .ok (.invokevirtual 207, 3) := by decide +kernel
theorem dX7_sorts_33 : decode cX7_sorts 33 = .ok (.aload_n 0, 1) := by decide +kernel
theorem dX7_sorts_34 : decode cX7_sorts 34 = .ok (.aload_n 0, 1) := by decide +kernel
theorem dX7_sorts_35 : decode cX7_sorts 35 = .ok (.getfield 56, 3) := by decide +kernel
theorem dX7_sorts_38 : decode cX7_sorts 38 = .ok (.iload 4, 2) := by decide +kernel
theorem dX7_sorts_40 : decode cX7_sorts 40 = .ok (.iaload, 1) := by decide +kernel
theorem dX7_sorts_41 : decode cX7_sorts 41 = .ok (.iload_n 3, 1) := by decide +kernel
theorem dX7_sorts_42 : decode cX7_sorts 42 = .ok (.invokevirtual 207, 3) := by decide +kernel
theorem dX7_sorts_45 : decode cX7_sorts 45 = .ok (.if_icmp .ge 35, 3) := by decide +kernel
theorem dX7_sorts_48 : decode cX7_sorts 48 = .ok (.aload_n 0, 1) := by decide +kernel
theorem dX7_sorts_49 : decode cX7_sorts 49 = .ok (.getfield 56, 3) := by decide +kernel
theorem dX7_sorts_52 : decode cX7_sorts 52 = .ok (.iload 4, 2) := by decide +kernel
theorem dX7_sorts_54 : decode cX7_sorts 54 = .ok (.iaload, 1) := by decide +kernel
theorem dX7_sorts_55 : decode cX7_sorts 55 = .ok (.istore 6, 2) := by decide +kernel
theorem dX7_sorts_57 : decode cX7_sorts 57 = .ok (.aload_n 0, 1) := by decide +kernel
theorem dX7_sorts_58 : decode cX7_sorts 58 = .ok (.getfield 56, 3) := by decide +kernel
theorem dX7_sorts_61 : decode cX7_sorts 61 = .ok (.iload 4, 2) := by decide +kernel
theorem dX7_sorts_63 : decode cX7_sorts 63 = .ok (.aload_n 0, 1) := by decide +kernel
theorem dX7_sorts_64 : decode cX7_sorts 64 = .ok (.getfield 56, 3) := by decide +kernel
theorem dX7_sorts_67 : decode cX7_sorts 67 = .ok (.iload 5, 2) := by decide +kernel
theorem dX7_sorts_69 : decode cX7_sorts 69 = .ok (.iaload, 1) := by decide +kernel
theorem dX7_sorts_70 : decode cX7_sorts 70 = .ok (.iastore, 1) := by decide +kernel
theorem dX7_sorts_71 : decode cX7_sorts 71 = .ok (.aload_n 0, 1) := by decide +kernel
theorem dX7_sorts_72 : decode cX7_sorts 72 = .ok (.getfield 56, 3) := by decide +kernel
theorem dX7_sorts_75 : decode cX7_sorts 75 = .ok (.iload 5, 2) := by decide +kernel
theorem dX7_sorts_77 : decode cX7_sorts 77 = .ok (.iload 6, 2) := by decide +kernel
theorem dX7_sorts_79 : decode cX7_sorts 79 = .ok (.iastore, 1) := by decide +kernel
theorem dX7_sorts_80 : decode cX7_sorts 80 = .ok (.iinc 5 1, 3) := by decide +kernel
theorem dX7_sorts_83 : decode cX7_sorts 83 = .ok (.goto (-68), 3) := by decide +kernel
theorem dX7_sorts_86 : decode cX7_sorts 86 = .ok (.iinc 4 1, 3) := by decide +kernel
theorem dX7_sorts_89 : decode cX7_sorts 89 = .ok (.goto (-86), 3) := by decide +kernel
theorem dX7_sorts_92 : decode cX7_sorts 92 = .ok (.return_, 1) := by decide +kernel
theorem dX7_appends_0 : decode cX7_appends 0 = .ok (.aload_n 0, 1) := by decide +kernel
theorem dX7_appends_1 : decode cX7_appends 1 = .ok (.getfield 7, 3) := by decide +kernel
theorem dX7_appends_4 : decode cX7_appends 4 = .ok (.bipush 101, 2) := by decide +kernel
theorem dX7_appends_6 : decode cX7_appends 6 = .ok (.aload_n 0, 1) := by decide +kernel
theorem dX7_appends_7 : decode cX7_appends 7 = .ok (.getfield 7, 3) := by decide +kernel
theorem dX7_appends_10 : decode cX7_appends 10 = .ok (.iconst 4, 1) := by decide +kernel
theorem dX7_appends_11 : decode cX7_appends 11 = .ok (.iaload, 1) := by decide +kernel
theorem dX7_appends_12 : decode cX7_appends 12 = .ok (.iadd, 1) := by decide +kernel
theorem dX7_appends_13 : decode cX7_appends 13 = .ok (.iload_n 1, 1) := by decide +kernel
theorem dX7_appends_14 : decode cX7_appends 14 = .ok (.iastore, 1) := by decide +kernel
theorem dX7_appends_15 : decode cX7_appends 15 = .ok (.aload_n 0, 1) := by decide +kernel
theorem dX7_appends_16 : decode cX7_appends 16 = .ok (.getfield 7, 3) := by decide +kernel
theorem dX7_appends_19 : decode cX7_appends 19 = .ok (.iconst 4, 1) := by decide +kernel
theorem dX7_appends_20 : decode cX7_appends 20 = .ok (.dup2, 1) := by decide +kernel
theorem dX7_appends_21 : decode cX7_appends 21 = .ok (.iaload, 1) := by decide +kernel
theorem dX7_appends_22 : decode cX7_appends 22 = .ok (.iconst 1, 1) := by decide +kernel
theorem dX7_appends_23 : decode cX7_appends 23 = .ok (.iadd, 1) := by decide +kernel
theorem dX7_appends_24 : decode cX7_appends 24 = .ok (.iastore, 1) := by decide +kernel
theorem dX7_appends_25 : decode cX7_appends 25 = .ok (.return_, 1) := by decide +kernel
theorem dX7_slice_0 : decode cX7_slice 0 = .ok (.iload_n 1, 1) := by decide +kernel
theorem dX7_slice_1 : decode cX7_slice 1 = .ok (.aload_n 0, 1) := by decide +kernel
theorem dX7_slice_2 : decode cX7_slice 2 = .ok (.getfield 7, 3) := by decide +kernel
theorem dX7_slice_5 : decode cX7_slice 5 = .ok (.iconst 0, 1) := by decide +kernel
theorem dX7_slice_6 : decode cX7_slice 6 = .ok (.iaload, 1) := by decide +kernel
theorem dX7_slice_7 : decode cX7_slice 7 = .ok (.iadd, 1) := by decide +kernel
theorem dX7_slice_8 : decode cX7_slice 8 = .ok (.iconst 1, 1) := by decide +kernel
theorem dX7_slice_9 : decode cX7_slice 9 = .ok (.isub, 1) := by decide +kernel
theorem dX7_slice_10 : decode cX7_slice 10 = .ok (.aload_n 0, 1) := by decide +kernel
theorem dX7_slice_11 : decode cX7_slice 11 = .ok (.getfield 7, 3) := by decide +kernel
theorem dX7_slice_14 : decode cX7_slice 14 = .ok (.iconst 0, 1) := by decide +kernel
theorem dX7_slice_15 : decode cX7_slice 15 = .ok (.iaload, 1) := by decide +kernel
theorem dX7_slice_16 : decode cX7_slice 16 = .ok (.idiv, 1) := by decide +kernel
theorem dX7_slice_17 : decode cX7_slice 17 = .ok (.istore_n 2, 1) := by decide +kernel
theorem dX7_slice_18 : decode cX7_slice 18 = .ok (.iconst 1, 1) := by decide +kernel
theorem dX7_slice_19 : decode cX7_slice 19 = .ok (.istore_n 3, 1) := by decide +kernel
theorem dX7_slice_20 : decode cX7_slice 20 = .ok (.iload_n 3, 1) := by decide +kernel
theorem dX7_slice_21 : decode cX7_slice 21 = .ok (.iload_n 3, 1) := by decide +kernel
theorem dX7_slice_22 : decode cX7_slice 22 = .ok (.imul, 1) := by decide +kernel
theorem dX7_slice_23 : decode cX7_slice 23 = .ok (.iload_n 2, 1) := by decide +kernel
theorem dX7_slice_24 : decode cX7_slice 24 = .ok (.if_icmp .ge 9, 3) := by decide +kernel
theorem dX7_slice_27 : decode cX7_slice 27 = .ok (.iinc 3 1, 3) := by decide +kernel
theorem dX7_slice_30 : decode cX7_slice 30 = .ok (.goto (-10), 3) := by decide +kernel
theorem dX7_slice_33 : decode cX7_slice 33 = .ok (.iload_n 3, 1) := by decide +kernel
theorem dX7_slice_34 : decode cX7_slice 34 = .ok (.aload_n 0, 1) := by decide +kernel
theorem dX7_slice_35 : decode cX7_slice 35 = .ok (.getfield 7, 3) := by decide +kernel
theorem dX7_slice_38 : decode cX7_slice 38 = .ok (.iconst 0, 1) := by decide +kernel
theorem dX7_slice_39 : decode cX7_slice 39 = .ok (.iaload, 1) := by decide +kernel
theorem dX7_slice_40 : decode cX7_slice 40 = .ok (.imul, 1) := by decide +kernel
theorem dX7_slice_41 : decode cX7_slice 41 = .ok (.ireturn, 1) := by decide +kernel
theorem dX7_packsLeaves_0 : decode cX7_packsLeaves 0 = .ok (.aload_n 0, 1) := by decide +kernel
theorem dX7_packsLeaves_1 : decode cX7_packsLeaves 1 = .ok (.iload_n 1, 1) := by decide +kernel
theorem dX7_packsLeaves_2 : decode cX7_packsLeaves 2 = .ok (.invokevirtual 210, 3) := by decide +kernel
theorem dX7_packsLeaves_5 : decode cX7_packsLeaves 5 = .ok (.istore_n 2, 1) := by decide +kernel
theorem dX7_packsLeaves_6 : decode cX7_packsLeaves 6 = .ok (.aload_n 0, 1) := by decide +kernel
theorem dX7_packsLeaves_7 : decode cX7_packsLeaves 7 = .ok (.iconst 0, 1) := by decide +kernel
theorem dX7_packsLeaves_8 : decode cX7_packsLeaves 8 = .ok (.iload_n 1, 1) := by decide +kernel
theorem dX7_packsLeaves_9 : decode cX7_packsLeaves 9 = .ok (.iconst 0, 1) := by decide +kernel
theorem dX7_packsLeaves_10 : decode cX7_packsLeaves 10 = .ok (.invokevirtual 213, 3) := by decide +kernel
theorem dX7_packsLeaves_13 : decode cX7_packsLeaves 13 = .ok (.iconst 0, 1) := by decide +kernel
theorem dX7_packsLeaves_14 : decode cX7_packsLeaves 14 = .ok (.istore_n 3, 1) := by decide +kernel
theorem dX7_packsLeaves_15 : decode cX7_packsLeaves 15 = .ok (.iload_n 3, 1) := by decide +kernel
theorem dX7_packsLeaves_16 : decode cX7_packsLeaves 16 = .ok (.iload_n 1, 1) := by decide +kernel
theorem dX7_packsLeaves_17 : decode cX7_packsLeaves 17 = .ok (.if_icmp .ge 23, 3) := by decide +kernel
theorem dX7_packsLeaves_20 : decode cX7_packsLeaves 20 = .ok (.aload_n 0, 1) := by decide +kernel
theorem dX7_packsLeaves_21 : decode cX7_packsLeaves 21 = .ok (.iload_n 3, 1) := by decide +kernel
theorem dX7_packsLeaves_22 : decode cX7_packsLeaves 22 = .ok (.iload_n 3, 1) := by decide +kernel
theorem dX7_packsLeaves_23 : decode cX7_packsLeaves 23 = .ok (.iload_n 2, 1) := by decide +kernel
theorem dX7_packsLeaves_24 : decode cX7_packsLeaves 24 = .ok (.iadd, 1) := by decide +kernel
theorem dX7_packsLeaves_25 : decode cX7_packsLeaves 25 = .ok (.iload_n 1, 1) := by decide +kernel
theorem dX7_packsLeaves_26 : decode cX7_packsLeaves 26 = .ok (.invokestatic 86, 3) := by decide +kernel
theorem dX7_packsLeaves_29 : decode cX7_packsLeaves 29 = .ok (.iconst 1, 1) := by decide +kernel
theorem dX7_packsLeaves_30 : decode cX7_packsLeaves 30 = .ok (.invokevirtual 213, 3) := by decide +kernel
theorem dX7_packsLeaves_33 : decode cX7_packsLeaves 33 = .ok (.iload_n 3, 1) := by decide +kernel
theorem dX7_packsLeaves_34 : decode cX7_packsLeaves 34 = .ok (.iload_n 2, 1) := by decide +kernel
theorem dX7_packsLeaves_35 : decode cX7_packsLeaves 35 = .ok (.iadd, 1) := by decide +kernel
theorem dX7_packsLeaves_36 : decode cX7_packsLeaves 36 = .ok (.istore_n 3, 1) := by decide +kernel
theorem dX7_packsLeaves_37 : decode cX7_packsLeaves 37 = .ok (.goto (-22), 3) := by decide +kernel
theorem dX7_packsLeaves_40 : decode cX7_packsLeaves 40 = .ok (.aload_n 0, 1) := by decide +kernel
theorem dX7_packsLeaves_41 : decode cX7_packsLeaves 41 = .ok (.getfield 7, 3) := by decide +kernel
theorem dX7_packsLeaves_44 : decode cX7_packsLeaves 44 = .ok (.iconst 4, 1) := by decide +kernel
theorem dX7_packsLeaves_45 : decode cX7_packsLeaves 45 = .ok (.iconst 0, 1) := by decide +kernel
theorem dX7_packsLeaves_46 : decode cX7_packsLeaves 46 = .ok (.iastore, 1) := by decide +kernel
theorem dX7_packsLeaves_47 : decode cX7_packsLeaves 47 = .ok (.iconst 0, 1) := by decide +kernel
theorem dX7_packsLeaves_48 : decode cX7_packsLeaves 48 = .ok (.istore_n 3, 1) := by decide +kernel
theorem dX7_packsLeaves_49 : decode cX7_packsLeaves 49 = .ok (.iload_n 3, 1) := by decide +kernel
theorem dX7_packsLeaves_50 : decode cX7_packsLeaves 50 = .ok (.iload_n 1, 1) := by decide +kernel
theorem dX7_packsLeaves_51 : decode cX7_packsLeaves 51 = .ok (.if_icmp .ge 37, 3) := by decide +kernel
theorem dX7_packsLeaves_54 : decode cX7_packsLeaves 54 = .ok (.iload_n 3, 1) := by decide +kernel
theorem dX7_packsLeaves_55 : decode cX7_packsLeaves 55 = .ok (.iload_n 2, 1) := by decide +kernel
theorem dX7_packsLeaves_56 : decode cX7_packsLeaves 56 = .ok (.irem, 1) := by decide +kernel
theorem dX7_packsLeaves_57 : decode cX7_packsLeaves 57 = .ok (.aload_n 0, 1) := by decide +kernel
theorem dX7_packsLeaves_58 : decode cX7_packsLeaves 58 = .ok (.getfield 7, 3) := by decide +kernel
theorem dX7_packsLeaves_61 : decode cX7_packsLeaves 61 = .ok (.iconst 0, 1) := by decide +kernel
theorem dX7_packsLeaves_62 : decode cX7_packsLeaves 62 = .ok (.iaload, 1) := by decide +kernel
theorem dX7_packsLeaves_63 : decode cX7_packsLeaves 63 = .ok (.irem, 1) := by decide +kernel
theorem dX7_packsLeaves_64 : decode cX7_packsLeaves 64 = .ok (.ifCond .ne 8, 3) := by decide +kernel
theorem dX7_packsLeaves_67 : decode cX7_packsLeaves 67 = .ok (.aload_n 0, 1) := by decide +kernel
theorem dX7_packsLeaves_68 : decode cX7_packsLeaves 68 = .ok (.iconst (-1), 1) := by decide +kernel
theorem dX7_packsLeaves_69 : decode cX7_packsLeaves 69 = .ok (.invokevirtual 216, 3) := by decide +kernel
theorem dX7_packsLeaves_72 : decode cX7_packsLeaves 72 = .ok (.aload_n 0, 1) := by decide +kernel
theorem dX7_packsLeaves_73 : decode cX7_packsLeaves 73 = .ok (.aload_n 0, 1) := by decide +kernel
theorem dX7_packsLeaves_74 : decode cX7_packsLeaves 74 = .ok (.getfield 56, 3) := by decide +kernel
theorem dX7_packsLeaves_77 : decode cX7_packsLeaves 77 = .ok (.iload_n 3, 1) := by decide +kernel
theorem dX7_packsLeaves_78 : decode cX7_packsLeaves 78 = .ok (.iaload, 1) := by decide +kernel
theorem dX7_packsLeaves_79 : decode cX7_packsLeaves 79 = .ok (.invokevirtual 216, 3) := by decide +kernel
theorem dX7_packsLeaves_82 : decode cX7_packsLeaves 82 = .ok (.iinc 3 1, 3) := by decide +kernel
theorem dX7_packsLeaves_85 : decode cX7_packsLeaves 85 = .ok (.goto (-36), 3) := by decide +kernel
theorem dX7_packsLeaves_88 : decode cX7_packsLeaves 88 = .ok (.return_, 1) := by decide +kernel
theorem dX7_packsAbove_0 : decode cX7_packsAbove 0 = .ok (.iconst 0, 1) := by decide +kernel
theorem dX7_packsAbove_1 : decode cX7_packsAbove 1 = .ok (.istore_n 2, 1) := by decide +kernel
theorem dX7_packsAbove_2 : decode cX7_packsAbove 2 = .ok (.iconst 0, 1) := by decide +kernel
theorem dX7_packsAbove_3 : decode cX7_packsAbove 3 = .ok (.istore_n 3, 1) := by decide +kernel
theorem dX7_packsAbove_4 : decode cX7_packsAbove 4 = .ok (.iconst 0, 1) := by decide +kernel
theorem dX7_packsAbove_5 : decode cX7_packsAbove 5 = .ok (.istore 4, 2) := by decide +kernel
theorem dX7_packsAbove_7 : decode cX7_packsAbove 7 = .ok (.iload 4, 2) := by decide +kernel
theorem dX7_packsAbove_9 : decode cX7_packsAbove 9 = .ok (.aload_n 0, 1) := by decide +kernel
theorem dX7_packsAbove_10 : decode cX7_packsAbove 10 = .ok (.invokevirtual 76, 3) := by decide +kernel
theorem dX7_packsAbove_13 : decode cX7_packsAbove 13 = .ok (.if_icmp .ge 60, 3) := by decide +kernel
theorem dX7_packsAbove_16 : decode cX7_packsAbove 16 = .ok (.aload_n 0, 1) := by decide +kernel
theorem dX7_packsAbove_17 : decode cX7_packsAbove 17 = .ok (.iload 4, 2) := by decide +kernel
theorem dX7_packsAbove_19 : decode cX7_packsAbove 19 = .ok (.invokevirtual 80, 3) := by decide +kernel
theorem dX7_packsAbove_22 : decode cX7_packsAbove 22 = .ok (.iload_n 1, 1) := by decide +kernel
theorem dX7_packsAbove_23 : decode cX7_packsAbove 23 = .ok (.if_icmp .ne 44, 3) := by decide +kernel
theorem dX7_packsAbove_26 : decode cX7_packsAbove 26 = .ok (.iload_n 2, 1) := by decide +kernel
theorem dX7_packsAbove_27 : decode cX7_packsAbove 27 = .ok (.aload_n 0, 1) := by decide +kernel
theorem dX7_packsAbove_28 : decode cX7_packsAbove 28 = .ok (.getfield 7, 3) := by decide +kernel
theorem dX7_packsAbove_31 : decode cX7_packsAbove 31 = .ok (.iconst 0, 1) := by decide +kernel
theorem dX7_packsAbove_32 : decode cX7_packsAbove 32 = .ok (.iaload, 1) := by decide +kernel
theorem dX7_packsAbove_33 : decode cX7_packsAbove 33 = .ok (.irem, 1) := by decide +kernel
theorem dX7_packsAbove_34 : decode cX7_packsAbove 34 = .ok (.ifCond .ne 30, 3) := by decide +kernel
theorem dX7_packsAbove_37 : decode cX7_packsAbove 37 = .ok (.aload_n 0, 1) := by decide +kernel
theorem dX7_packsAbove_38 : decode cX7_packsAbove 38 = .ok (.iload 4, 2) := by decide +kernel
theorem dX7_packsAbove_40 : decode cX7_packsAbove 40 = .ok (.iconst 1, 1) := by decide +kernel
theorem dX7_packsAbove_41 : decode cX7_packsAbove 41 = .ok (.invokevirtual 117, 3) := by decide +kernel
theorem dX7_packsAbove_44 : decode cX7_packsAbove 44 = .ok (.aload_n 0, 1) := by decide +kernel
theorem dX7_packsAbove_45 : decode cX7_packsAbove 45 = .ok (.getfield 7, 3) := by decide +kernel
theorem dX7_packsAbove_48 : decode cX7_packsAbove 48 = .ok (.bipush 101, 2) := by decide +kernel
theorem dX7_packsAbove_50 : decode cX7_packsAbove 50 = .ok (.iload 4, 2) := by decide +kernel
theorem dX7_packsAbove_52 : decode cX7_packsAbove 52 = .ok (.iadd, 1) := by decide +kernel
theorem dX7_packsAbove_53 : decode cX7_packsAbove 53 = .ok (.bipush (-2), 2) := by decide +kernel
theorem dX7_packsAbove_55 : decode cX7_packsAbove 55 = .ok (.iload_n 1, 1) := by decide +kernel
theorem dX7_packsAbove_56 : decode cX7_packsAbove 56 = .ok (.isub, 1) := by decide +kernel
theorem dX7_packsAbove_57 : decode cX7_packsAbove 57 = .ok (.iastore, 1) := by decide +kernel
theorem dX7_packsAbove_58 : decode cX7_packsAbove 58 = .ok (.iinc 3 1, 3) := by decide +kernel
theorem dX7_packsAbove_61 : decode cX7_packsAbove 61 = .ok (.iinc 4 1, 3) := by decide +kernel
theorem dX7_packsAbove_64 : decode cX7_packsAbove 64 = .ok (.iinc 2 1, 3) := by decide +kernel
theorem dX7_packsAbove_67 : decode cX7_packsAbove 67 = .ok (.iinc 4 1, 3) := by decide +kernel
theorem dX7_packsAbove_70 : decode cX7_packsAbove 70 = .ok (.goto (-63), 3) := by decide +kernel
theorem dX7_packsAbove_73 : decode cX7_packsAbove 73 = .ok (.iload_n 3, 1) := by decide +kernel
theorem dX7_packsAbove_74 : decode cX7_packsAbove 74 = .ok (.ireturn, 1) := by decide +kernel
theorem dX7_pack_0 : decode cX7_pack 0 = .ok (.aload_n 0, 1) := by decide +kernel
theorem dX7_pack_1 : decode cX7_pack 1 = .ok (.invokevirtual 186, 3) := by decide +kernel
theorem dX7_pack_4 : decode cX7_pack 4 = .ok (.iconst 0, 1) := by decide +kernel
theorem dX7_pack_5 : decode cX7_pack 5 = .ok (.istore_n 1, 1) := by decide +kernel
theorem dX7_pack_6 : decode cX7_pack 6 = .ok (.iconst 0, 1) := by decide +kernel
theorem dX7_pack_7 : decode cX7_pack 7 = .ok (.istore_n 2, 1) := by decide +kernel
theorem dX7_pack_8 : decode cX7_pack 8 = .ok (.iload_n 2, 1) := by decide +kernel
theorem dX7_pack_9 : decode cX7_pack 9 = .ok (.bipush 24, 2) := by decide +kernel
theorem dX7_pack_11 : decode cX7_pack 11 = .ok (.if_icmp .ge 27, 3) := by decide +kernel
theorem dX7_pack_14 : decode cX7_pack 14 = .ok (.aload_n 0, 1) := by decide +kernel
theorem dX7_pack_15 : decode cX7_pack 15 = .ok (.iload_n 2, 1) := by decide +kernel
theorem dX7_pack_16 : decode cX7_pack 16 = .ok (.invokevirtual 168, 3) := by decide +kernel
theorem dX7_pack_19 : decode cX7_pack 19 = .ok (.ifCond .eq 13, 3) := by decide +kernel
theorem dX7_pack_22 : decode cX7_pack 22 = .ok (.aload_n 0, 1) := by decide +kernel
theorem dX7_pack_23 : decode cX7_pack 23 = .ok (.getfield 56, 3) := by decide +kernel
theorem dX7_pack_26 : decode cX7_pack 26 = .ok (.iload_n 1, 1) := by decide +kernel
theorem dX7_pack_27 : decode cX7_pack 27 = .ok (.iload_n 2, 1) := by decide +kernel
theorem dX7_pack_28 : decode cX7_pack 28 = .ok (.iastore, 1) := by decide +kernel
theorem dX7_pack_29 : decode cX7_pack 29 = .ok (.iinc 1 1, 3) := by decide +kernel
theorem dX7_pack_32 : decode cX7_pack 32 = .ok (.iinc 2 1, 3) := by decide +kernel
theorem dX7_pack_35 : decode cX7_pack 35 = .ok (.goto (-27), 3) := by decide +kernel
theorem dX7_pack_38 : decode cX7_pack 38 = .ok (.iload_n 1, 1) := by decide +kernel
theorem dX7_pack_39 : decode cX7_pack 39 = .ok (.ifCond .ne 20, 3) := by decide +kernel
theorem dX7_pack_42 : decode cX7_pack 42 = .ok (.aload_n 0, 1) := by decide +kernel
theorem dX7_pack_43 : decode cX7_pack 43 = .ok (.getfield 7, 3) := by decide +kernel
theorem dX7_pack_46 : decode cX7_pack 46 = .ok (.iconst 4, 1) := by decide +kernel
theorem dX7_pack_47 : decode cX7_pack 47 = .ok (.iconst 1, 1) := by decide +kernel
theorem dX7_pack_48 : decode cX7_pack 48 = .ok (.iastore, 1) := by decide +kernel
theorem dX7_pack_49 : decode cX7_pack 49 = .ok (.aload_n 0, 1) := by decide +kernel
theorem dX7_pack_50 : decode cX7_pack 50 = .ok (.getfield 7, 3) := by decide +kernel
theorem dX7_pack_53 : decode cX7_pack 53 = .ok (.bipush 101, 2) := by decide +kernel
theorem dX7_pack_55 : decode cX7_pack 55 = .ok (.iconst (-1), 1) := by decide +kernel
theorem dX7_pack_56 : decode cX7_pack 56 = .ok (.iastore, 1) := by decide +kernel
theorem dX7_pack_57 : decode cX7_pack 57 = .ok (.iconst 1, 1) := by decide +kernel
theorem dX7_pack_58 : decode cX7_pack 58 = .ok (.ireturn, 1) := by decide +kernel
