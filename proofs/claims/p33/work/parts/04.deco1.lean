theorem dX4_placeOf_9 : decode cX4_placeOf 9 = .ok (.iload 4, 2) := by decide +kernel
theorem dX4_placeOf_11 : decode cX4_placeOf 11 = .ok (.iload_n 3, 1) := by decide +kernel
theorem dX4_placeOf_12 : decode cX4_placeOf 12 = .ok (.if_icmp .ge 23, 3) := by decide +kernel
theorem dX4_placeOf_15 : decode cX4_placeOf 15 = .ok (.aload_n 0, 1) := by decide +kernel
theorem dX4_placeOf_16 : decode cX4_placeOf 16 = .ok (.iload_n 1, 1) := by decide +kernel
theorem dX4_placeOf_17 : decode cX4_placeOf 17 = .ok (.iload 4, 2) := by decide +kernel
theorem dX4_placeOf_19 : decode cX4_placeOf 19 = .ok (.invokevirtual 109, 3) := by decide +kernel
theorem dX4_placeOf_22 : decode cX4_placeOf 22 = .ok (.iload_n 2, 1) := by decide +kernel
theorem dX4_placeOf_23 : decode cX4_placeOf 23 = .ok (.if_icmp .ne 6, 3) := by decide +kernel
theorem dX4_placeOf_26 : decode cX4_placeOf 26 = .ok (.iload 4, 2) := by decide +kernel
theorem dX4_placeOf_28 : decode cX4_placeOf 28 = .ok (.ireturn, 1) := by decide +kernel
theorem dX4_placeOf_29 : decode cX4_placeOf 29 = .ok (.iinc 4 1, 3) := by decide +kernel
theorem dX4_placeOf_32 : decode cX4_placeOf 32 = .ok (.goto (-23), 3) := by decide +kernel
theorem dX4_placeOf_35 : decode cX4_placeOf 35 = .ok (.iconst (-1), 1) := by decide +kernel
theorem dX4_placeOf_36 : decode cX4_placeOf 36 = .ok (.ireturn, 1) := by decide +kernel
theorem dX4_takeOut_0 : decode cX4_takeOut 0 = .ok (.aload_n 0, 1) := by decide +kernel
theorem dX4_takeOut_1 : decode cX4_takeOut 1 = .ok (.iload_n 1, 1) := by decide +kernel
theorem dX4_takeOut_2 : decode cX4_takeOut 2 = .ok (.invokevirtual 112, 3) := by decide +kernel
theorem dX4_takeOut_5 : decode cX4_takeOut 5 = .ok (.istore_n 2, 1) := by decide +kernel
theorem dX4_takeOut_6 : decode cX4_takeOut 6 = .ok (.aload_n 0, 1) := by decide +kernel
theorem dX4_takeOut_7 : decode cX4_takeOut 7 = .ok (.iload_n 2, 1) := by decide +kernel
theorem dX4_takeOut_8 : decode cX4_takeOut 8 = .ok (.iload_n 1, 1) := by decide +kernel
theorem dX4_takeOut_9 : decode cX4_takeOut 9 = .ok (.invokevirtual 99, 3) := by decide +kernel
theorem dX4_takeOut_12 : decode cX4_takeOut 12 = .ok (.istore_n 3, 1) := by decide +kernel
theorem dX4_takeOut_13 : decode cX4_takeOut 13 = .ok (.iload_n 3, 1) := by decide +kernel
theorem dX4_takeOut_14 : decode cX4_takeOut 14 = .ok (.iconst (-1), 1) := by decide +kernel
theorem dX4_takeOut_15 : decode cX4_takeOut 15 = .ok (.if_icmp .ne 4, 3) := by decide +kernel
theorem dX4_takeOut_18 : decode cX4_takeOut 18 = .ok (.return_, 1) := by decide +kernel
theorem dX4_takeOut_19 : decode cX4_takeOut 19 = .ok (.iload_n 2, 1) := by decide +kernel
theorem dX4_takeOut_20 : decode cX4_takeOut 20 = .ok (.bipush 6, 2) := by decide +kernel
theorem dX4_takeOut_22 : decode cX4_takeOut 22 = .ok (.imul, 1) := by decide +kernel
theorem dX4_takeOut_23 : decode cX4_takeOut 23 = .ok (.istore 4, 2) := by decide +kernel
theorem dX4_takeOut_25 : decode cX4_takeOut 25 = .ok (.aload_n 0, 1) := by decide +kernel
theorem dX4_takeOut_26 : decode cX4_takeOut 26 = .ok (.iload_n 2, 1) := by decide +kernel
theorem dX4_takeOut_27 : decode cX4_takeOut 27 = .ok (.invokevirtual 73, 3) := by decide +kernel
theorem dX4_takeOut_30 : decode cX4_takeOut 30 = .ok (.iconst 1, 1) := by decide +kernel
theorem dX4_takeOut_31 : decode cX4_takeOut 31 = .ok (.isub, 1) := by decide +kernel
theorem dX4_takeOut_32 : decode cX4_takeOut 32 = .ok (.istore 5, 2) := by decide +kernel
theorem dX4_takeOut_34 : decode cX4_takeOut 34 = .ok (.iload_n 3, 1) := by decide +kernel
theorem dX4_takeOut_35 : decode cX4_takeOut 35 = .ok (.istore 6, 2) := by decide +kernel
theorem dX4_takeOut_37 : decode cX4_takeOut 37 = .ok (.iload 6, 2) := by decide +kernel
theorem dX4_takeOut_39 : decode cX4_takeOut 39 = .ok (.iload 5, 2) := by decide +kernel
theorem dX4_takeOut_41 : decode cX4_takeOut 41 = .ok (.if_icmp .ge 35, 3) := by decide +kernel
theorem dX4_takeOut_44 : decode cX4_takeOut 44 = .ok (.aload_n 0, 1) := by decide +kernel
theorem dX4_takeOut_45 : decode cX4_takeOut 45 = .ok (.getfield 24, 3) := by decide +kernel
theorem dX4_takeOut_48 : decode cX4_takeOut 48 = .ok (.iload 4, 2) := by decide +kernel
theorem dX4_takeOut_50 : decode cX4_takeOut 50 = .ok (.iload 6, 2) := by decide +kernel
theorem dX4_takeOut_52 : decode cX4_takeOut 52 = .ok (.iadd, 1) := by decide +kernel
theorem dX4_takeOut_53 : decode cX4_takeOut 53 = .ok (.aload_n 0, 1) := by decide +kernel
theorem dX4_takeOut_54 : decode cX4_takeOut 54 = .ok (.getfield 24, 3) := by decide +kernel
theorem dX4_takeOut_57 : decode cX4_takeOut 57 = .ok (.iload 4, 2) := by decide +kernel
theorem dX4_takeOut_59 : decode cX4_takeOut 59 = .ok (.iload 6, 2) := by decide +kernel
theorem dX4_takeOut_61 : decode cX4_takeOut 61 = .ok (.iadd, 1) := by decide +kernel
theorem dX4_takeOut_62 : decode cX4_takeOut 62 = .ok (.iconst 1, 1) := by decide +kernel
theorem dX4_takeOut_63 : decode cX4_takeOut 63 = .ok (.iadd, 1) := by decide +kernel
theorem dX4_takeOut_64 : decode cX4_takeOut 64 = .ok (.invokestatic 69, 3) := by decide +kernel
theorem dX4_takeOut_67 : decode cX4_takeOut 67 = .ok (.invokestatic 49, 3) := by decide +kernel
theorem dX4_takeOut_70 : decode cX4_takeOut 70 = .ok (.iinc 6 1, 3) := by decide +kernel
theorem dX4_takeOut_73 : decode cX4_takeOut 73 = .ok (.goto (-36), 3) := by decide +kernel
theorem dX4_takeOut_76 : decode cX4_takeOut 76 = .ok (.aload_n 0, 1) := by decide +kernel
theorem dX4_takeOut_77 : decode cX4_takeOut 77 = .ok (.getfield 18, 3) := by decide +kernel
theorem dX4_takeOut_80 : decode cX4_takeOut 80 = .ok (.iload_n 2, 1) := by decide +kernel
theorem dX4_takeOut_81 : decode cX4_takeOut 81 = .ok (.iload 5, 2) := by decide +kernel
theorem dX4_takeOut_83 : decode cX4_takeOut 83 = .ok (.invokestatic 49, 3) := by decide +kernel
theorem dX4_takeOut_86 : decode cX4_takeOut 86 = .ok (.aload_n 0, 1) := by decide +kernel
theorem dX4_takeOut_87 : decode cX4_takeOut 87 = .ok (.getfield 15, 3) := by decide +kernel
theorem dX4_takeOut_90 : decode cX4_takeOut 90 = .ok (.iload_n 1, 1) := by decide +kernel
theorem dX4_takeOut_91 : decode cX4_takeOut 91 = .ok (.iconst (-1), 1) := by decide +kernel
theorem dX4_takeOut_92 : decode cX4_takeOut 92 = .ok (.invokestatic 49, 3) := by decide +kernel
theorem dX4_takeOut_95 : decode cX4_takeOut 95 = .ok (.aload_n 0, 1) := by decide +kernel
theorem dX4_takeOut_96 : decode cX4_takeOut 96 = .ok (.iload_n 2, 1) := by decide +kernel
theorem dX4_takeOut_97 : decode cX4_takeOut 97 = .ok (.invokevirtual 106, 3) := by decide +kernel
theorem dX4_takeOut_100 : decode cX4_takeOut 100 = .ok (.return_, 1) := by decide +kernel
theorem dX4_refreshUp_0 : decode cX4_refreshUp 0 = .ok (.iload_n 1, 1) := by decide +kernel
theorem dX4_refreshUp_1 : decode cX4_refreshUp 1 = .ok (.istore_n 2, 1) := by decide +kernel
theorem dX4_refreshUp_2 : decode cX4_refreshUp 2 = .ok (.iconst 0, 1) := by decide +kernel
theorem dX4_refreshUp_3 : decode cX4_refreshUp 3 = .ok (.istore_n 3, 1) := by decide +kernel
theorem dX4_refreshUp_4 : decode cX4_refreshUp 4 = .ok (.aload_n 0, 1) := by decide +kernel
theorem dX4_refreshUp_5 : decode cX4_refreshUp 5 = .ok (.iload_n 2, 1) := by decide +kernel
theorem dX4_refreshUp_6 : decode cX4_refreshUp 6 = .ok (.invokevirtual 115, 3) := by decide +kernel
theorem dX4_refreshUp_9 : decode cX4_refreshUp 9 = .ok (.ifCond .eq 146, 3) := by decide +kernel
theorem dX4_refreshUp_12 : decode cX4_refreshUp 12 = .ok (.iload_n 3, 1) := by decide +kernel
theorem dX4_refreshUp_13 : decode cX4_refreshUp 13 = .ok (.ldc 118, 2) := by decide +kernel
theorem dX4_refreshUp_15 : decode cX4_refreshUp 15 = .ok (.if_icmp .ge 140, 3) := by decide +kernel
theorem dX4_refreshUp_18 : decode cX4_refreshUp 18 = .ok (.bipush 99, 2) := by decide +kernel
theorem dX4_refreshUp_20 : decode cX4_refreshUp 20 = .ok (.istore 4, 2) := by decide +kernel
theorem dX4_refreshUp_22 : decode cX4_refreshUp 22 = .ok (.bipush 99, 2) := by decide +kernel
theorem dX4_refreshUp_24 : decode cX4_refreshUp 24 = .ok (.istore 5, 2) := by decide +kernel
theorem dX4_refreshUp_26 : decode cX4_refreshUp 26 = .ok (.iconst 0, 1) := by decide +kernel
theorem dX4_refreshUp_27 : decode cX4_refreshUp 27 = .ok (.istore 6, 2) := by decide +kernel
theorem dX4_refreshUp_29 : decode cX4_refreshUp 29 = .ok (.iconst 0, 1) := by decide +kernel
theorem dX4_refreshUp_30 : decode cX4_refreshUp 30 = .ok (.istore 7, 2) := by decide +kernel
theorem dX4_refreshUp_32 : decode cX4_refreshUp 32 = .ok (.aload_n 0, 1) := by decide +kernel
theorem dX4_refreshUp_33 : decode cX4_refreshUp 33 = .ok (.iload_n 2, 1) := by decide +kernel
theorem dX4_refreshUp_34 : decode cX4_refreshUp 34 = .ok (.invokevirtual 73, 3) := by decide +kernel
theorem dX4_refreshUp_37 : decode cX4_refreshUp 37 = .ok (.istore 8, 2) := by decide +kernel
theorem dX4_refreshUp_39 : decode cX4_refreshUp 39 = .ok (.iconst 0, 1) := by decide +kernel
theorem dX4_refreshUp_40 : decode cX4_refreshUp 40 = .ok (.istore 9, 2) := by decide +kernel
theorem dX4_refreshUp_42 : decode cX4_refreshUp 42 = .ok (.iload 9, 2) := by decide +kernel
theorem dX4_refreshUp_44 : decode cX4_refreshUp 44 = .ok (.iload 8, 2) := by decide +kernel
theorem dX4_refreshUp_46 : decode cX4_refreshUp 46 = .ok (.if_icmp .ge 81, 3) := by decide +kernel
theorem dX4_refreshUp_49 : decode cX4_refreshUp 49 = .ok (.aload_n 0, 1) := by decide +kernel
theorem dX4_refreshUp_50 : decode cX4_refreshUp 50 = .ok (.getfield 24, 3) := by decide +kernel
theorem dX4_refreshUp_53 : decode cX4_refreshUp 53 = .ok (.iload_n 2, 1) := by decide +kernel
theorem dX4_refreshUp_54 : decode cX4_refreshUp 54 = .ok (.bipush 6, 2) := by decide +kernel
theorem dX4_refreshUp_56 : decode cX4_refreshUp 56 = .ok (.imul, 1) := by decide +kernel
theorem dX4_refreshUp_57 : decode cX4_refreshUp 57 = .ok (.iload 9, 2) := by decide +kernel
theorem dX4_refreshUp_59 : decode cX4_refreshUp 59 = .ok (.iadd, 1) := by decide +kernel
theorem dX4_refreshUp_60 : decode cX4_refreshUp 60 = .ok (.invokestatic 69, 3) := by decide +kernel
theorem dX4_refreshUp_63 : decode cX4_refreshUp 63 = .ok (.istore 10, 2) := by decide +kernel
theorem dX4_refreshUp_65 : decode cX4_refreshUp 65 = .ok (.iload 4, 2) := by decide +kernel
theorem dX4_refreshUp_67 : decode cX4_refreshUp 67 = .ok (.aload_n 0, 1) := by decide +kernel
theorem dX4_refreshUp_68 : decode cX4_refreshUp 68 = .ok (.iload 10, 2) := by decide +kernel
theorem dX4_refreshUp_70 : decode cX4_refreshUp 70 = .ok (.iconst 0, 1) := by decide +kernel
theorem dX4_refreshUp_71 : decode cX4_refreshUp 71 = .ok (.invokevirtual 119, 3) := by decide +kernel
theorem dX4_refreshUp_74 : decode cX4_refreshUp 74 = .ok (.invokestatic 57, 3) := by decide +kernel
theorem dX4_refreshUp_77 : decode cX4_refreshUp 77 = .ok (.istore 4, 2) := by decide +kernel
theorem dX4_refreshUp_79 : decode cX4_refreshUp 79 = .ok (.iload 5, 2) := by decide +kernel
theorem dX4_refreshUp_81 : decode cX4_refreshUp 81 = .ok (.aload_n 0, 1) := by decide +kernel
theorem dX4_refreshUp_82 : decode cX4_refreshUp 82 = .ok (.iload 10, 2) := by decide +kernel
theorem dX4_refreshUp_84 : decode cX4_refreshUp 84 = .ok (.iconst 1, 1) := by decide +kernel
theorem dX4_refreshUp_85 : decode cX4_refreshUp 85 = .ok (.invokevirtual 119, 3) := by decide +kernel
theorem dX4_refreshUp_88 : decode cX4_refreshUp 88 = .ok (.invokestatic 57, 3) := by decide +kernel
theorem dX4_refreshUp_91 : decode cX4_refreshUp 91 = .ok (.istore 5, 2) := by decide +kernel
theorem dX4_refreshUp_93 : decode cX4_refreshUp 93 = .ok (.iload 6, 2) := by decide +kernel
theorem dX4_refreshUp_95 : decode cX4_refreshUp 95 = .ok (.aload_n 0, 1) := by decide +kernel
theorem dX4_refreshUp_96 : decode cX4_refreshUp 96 = .ok (.iload 10, 2) := by decide +kernel
theorem dX4_refreshUp_98 : decode cX4_refreshUp 98 = .ok (.iconst 2, 1) := by decide +kernel
theorem dX4_refreshUp_99 : decode cX4_refreshUp 99 = .ok (.invokevirtual 119, 3) := by decide +kernel
theorem dX4_refreshUp_102 : decode cX4_refreshUp 102 = .ok (.invokestatic 122, 3) := by decide +kernel
theorem dX4_refreshUp_105 : decode cX4_refreshUp 105 = .ok (.istore 6, 2) := by decide +kernel
theorem dX4_refreshUp_107 : decode cX4_refreshUp 107 = .ok (.iload 7, 2) := by decide +kernel
theorem dX4_refreshUp_109 : decode cX4_refreshUp 109 = .ok (.aload_n 0, 1) := by decide +kernel
theorem dX4_refreshUp_110 : decode cX4_refreshUp 110 = .ok (.iload 10, 2) := by decide +kernel
theorem dX4_refreshUp_112 : decode cX4_refreshUp 112 = .ok (.iconst 3, 1) := by decide +kernel
theorem dX4_refreshUp_113 : decode cX4_refreshUp 113 = .ok (.invokevirtual 119, 3) := by decide +kernel
theorem dX4_refreshUp_116 : decode cX4_refreshUp 116 = .ok (.invokestatic 122, 3) := by decide +kernel
theorem dX4_refreshUp_119 : decode cX4_refreshUp 119 = .ok (.istore 7, 2) := by decide +kernel
theorem dX4_refreshUp_121 : decode cX4_refreshUp 121 = .ok (.iinc 9 1, 3) := by decide +kernel
theorem dX4_refreshUp_124 : decode cX4_refreshUp 124 = .ok (.goto (-82), 3) := by decide +kernel
theorem dX4_refreshUp_127 : decode cX4_refreshUp 127 = .ok (.aload_n 0, 1) := by decide +kernel
theorem dX4_refreshUp_128 : decode cX4_refreshUp 128 = .ok (.iload_n 2, 1) := by decide +kernel
theorem dX4_refreshUp_129 : decode cX4_refreshUp 129 = .ok (.iload 4, 2) := by decide +kernel
theorem dX4_refreshUp_131 : decode cX4_refreshUp 131 = .ok (.iload 5, 2) := by decide +kernel
theorem dX4_refreshUp_133 : decode cX4_refreshUp 133 = .ok (.iload 6, 2) := by decide +kernel
theorem dX4_refreshUp_135 : decode cX4_refreshUp 135 = .ok (.iload 7, 2) := by decide +kernel
theorem dX4_refreshUp_137 : decode cX4_refreshUp 137 = .ok (.invokevirtual 91, 3) := by decide +kernel
theorem dX4_refreshUp_140 : decode cX4_refreshUp 140 = .ok (.aload_n 0, 1) := by decide +kernel
theorem dX4_refreshUp_141 : decode cX4_refreshUp 141 = .ok (.getfield 15, 3) := by decide +kernel
theorem dX4_refreshUp_144 : decode cX4_refreshUp 144 = .ok (.iload_n 2, 1) := by decide +kernel
theorem dX4_refreshUp_145 : decode cX4_refreshUp 145 = .ok (.invokestatic 69, 3) := by decide +kernel
theorem dX4_refreshUp_148 : decode cX4_refreshUp 148 = .ok (.istore_n 2, 1) := by decide +kernel
theorem dX4_refreshUp_149 : decode cX4_refreshUp 149 = .ok (.iinc 3 1, 3) := by decide +kernel
theorem dX4_refreshUp_152 : decode cX4_refreshUp 152 = .ok (.goto (-148), 3) := by decide +kernel
theorem dX4_refreshUp_155 : decode cX4_refreshUp 155 = .ok (.return_, 1) := by decide +kernel
theorem dX4_setCorners_0 : decode cX4_setCorners 0 = .ok (.iload_n 1, 1) := by decide +kernel
theorem dX4_setCorners_1 : decode cX4_setCorners 1 = .ok (.iconst 4, 1) := by decide +kernel
theorem dX4_setCorners_2 : decode cX4_setCorners 2 = .ok (.imul, 1) := by decide +kernel
theorem dX4_setCorners_3 : decode cX4_setCorners 3 = .ok (.istore 6, 2) := by decide +kernel
theorem dX4_setCorners_5 : decode cX4_setCorners 5 = .ok (.iload 6, 2) := by decide +kernel
theorem dX4_setCorners_7 : decode cX4_setCorners 7 = .ok (.ifCond .lt 55, 3) := by decide +kernel
theorem dX4_setCorners_10 : decode cX4_setCorners 10 = .ok (.iload 6, 2) := by decide +kernel
theorem dX4_setCorners_12 : decode cX4_setCorners 12 = .ok (.aload_n 0, 1) := by decide +kernel
theorem dX4_setCorners_13 : decode cX4_setCorners 13 = .ok (.getfield 21, 3) := by decide +kernel
theorem dX4_setCorners_16 : decode cX4_setCorners 16 = .ok (.arraylength, 1) := by decide +kernel
theorem dX4_setCorners_17 : decode cX4_setCorners 17 = .ok (.iconst 4, 1) := by decide +kernel
theorem dX4_setCorners_18 : decode cX4_setCorners 18 = .ok (.isub, 1) := by decide +kernel
theorem dX4_setCorners_19 : decode cX4_setCorners 19 = .ok (.if_icmp .gt 43, 3) := by decide +kernel
theorem dX4_setCorners_22 : decode cX4_setCorners 22 = .ok (.aload_n 0, 1) := by decide +kernel
theorem dX4_setCorners_23 : decode cX4_setCorners 23 = .ok (.getfield 21, 3) := by decide +kernel
theorem dX4_setCorners_26 : decode cX4_setCorners 26 = .ok (.iload 6, 2) := by decide +kernel
theorem dX4_setCorners_28 : decode cX4_setCorners 28 = .ok (.iload_n 2, 1) := by decide +kernel
theorem dX4_setCorners_29 : decode cX4_setCorners 29 = .ok (.iastore, 1) := by decide +kernel
theorem dX4_setCorners_30 : decode cX4_setCorners 30 = .ok (.aload_n 0, 1) := by decide +kernel
theorem dX4_setCorners_31 : decode cX4_setCorners 31 = .ok (.getfield 21, 3) := by decide +kernel
theorem dX4_setCorners_34 : decode cX4_setCorners 34 = .ok (.iload 6, 2) := by decide +kernel
theorem dX4_setCorners_36 : decode cX4_setCorners 36 = .ok (.iconst 1, 1) := by decide +kernel
theorem dX4_setCorners_37 : decode cX4_setCorners 37 = .ok (.iadd, 1) := by decide +kernel
theorem dX4_setCorners_38 : decode cX4_setCorners 38 = .ok (.iload_n 3, 1) := by decide +kernel
theorem dX4_setCorners_39 : decode cX4_setCorners 39 = .ok (.iastore, 1) := by decide +kernel
theorem dX4_setCorners_40 : decode cX4_setCorners 40 = .ok (.aload_n 0, 1) := by decide +kernel
theorem dX4_setCorners_41 : decode cX4_setCorners 41 = .ok (.getfield 21, 3) := by decide +kernel
theorem dX4_setCorners_44 : decode cX4_setCorners 44 = .ok (.iload 6, 2) := by decide +kernel
theorem dX4_setCorners_46 : decode cX4_setCorners 46 = .ok (.iconst 2, 1) := by decide +kernel
theorem dX4_setCorners_47 : decode cX4_setCorners 47 = .ok (.iadd, 1) := by decide +kernel
theorem dX4_setCorners_48 : decode cX4_setCorners 48 = .ok (.iload 4, 2) := by decide +kernel
theorem dX4_setCorners_50 : decode cX4_setCorners 50 = .ok (.iastore, 1) := by decide +kernel
theorem dX4_setCorners_51 : decode cX4_setCorners 51 = .ok (.aload_n 0, 1) := by decide +kernel
theorem dX4_setCorners_52 : decode cX4_setCorners 52 = .ok (.getfield 21, 3) := by decide +kernel
theorem dX4_setCorners_55 : decode cX4_setCorners 55 = .ok (.iload 6, 2) := by decide +kernel
theorem dX4_setCorners_57 : decode cX4_setCorners 57 = .ok (.iconst 3, 1) := by decide +kernel
theorem dX4_setCorners_58 : decode cX4_setCorners 58 = .ok (.iadd, 1) := by decide +kernel
theorem dX4_setCorners_59 : decode cX4_setCorners 59 = .ok (.iload 5, 2) := by decide +kernel
theorem dX4_setCorners_61 : decode cX4_setCorners 61 = .ok (.iastore, 1) := by decide +kernel
theorem dX4_setCorners_62 : decode cX4_setCorners 62 = .ok (.return_, 1) := by decide +kernel
theorem dX4_raiseRoot_0 : decode cX4_raiseRoot 0 = .ok (.aload_n 0, 1) := by decide +kernel
theorem dX4_raiseRoot_1 : decode cX4_raiseRoot 1 = .ok (.getfield 27, 3) := by decide +kernel
theorem dX4_raiseRoot_4 : decode cX4_raiseRoot 4 = .ok (.istore_n 1, 1) := by decide +kernel
theorem dX4_raiseRoot_5 : decode cX4_raiseRoot 5 = .ok (.aload_n 0, 1) := by decide +kernel
theorem dX4_raiseRoot_6 : decode cX4_raiseRoot 6 = .ok (.aload_n 0, 1) := by decide +kernel
theorem dX4_raiseRoot_7 : decode cX4_raiseRoot 7 = .ok (.iload_n 1, 1) := by decide +kernel
theorem dX4_raiseRoot_8 : decode cX4_raiseRoot 8 = .ok (.invokevirtual 77, 3) := by decide +kernel
theorem dX4_raiseRoot_11 : decode cX4_raiseRoot 11 = .ok (.iconst 1, 1) := by decide +kernel
theorem dX4_raiseRoot_12 : decode cX4_raiseRoot 12 = .ok (.iadd, 1) := by decide +kernel
theorem dX4_raiseRoot_13 : decode cX4_raiseRoot 13 = .ok (.invokevirtual 125, 3) := by decide +kernel
theorem dX4_raiseRoot_16 : decode cX4_raiseRoot 16 = .ok (.istore_n 2, 1) := by decide +kernel
theorem dX4_raiseRoot_17 : decode cX4_raiseRoot 17 = .ok (.iload_n 2, 1) := by decide +kernel
theorem dX4_raiseRoot_18 : decode cX4_raiseRoot 18 = .ok (.iconst (-1), 1) := by decide +kernel
theorem dX4_raiseRoot_19 : decode cX4_raiseRoot 19 = .ok (.if_icmp .eq 15, 3) := by decide +kernel
theorem dX4_raiseRoot_22 : decode cX4_raiseRoot 22 = .ok (.aload_n 0, 1) := by decide +kernel
theorem dX4_raiseRoot_23 : decode cX4_raiseRoot 23 = .ok (.iload_n 2, 1) := by decide +kernel
theorem dX4_raiseRoot_24 : decode cX4_raiseRoot 24 = .ok (.putfield 27, 3) := by decide +kernel
theorem dX4_raiseRoot_27 : decode cX4_raiseRoot 27 = .ok (.aload_n 0, 1) := by decide +kernel
theorem dX4_raiseRoot_28 : decode cX4_raiseRoot 28 = .ok (.iload_n 2, 1) := by decide +kernel
theorem dX4_raiseRoot_29 : decode cX4_raiseRoot 29 = .ok (.iconst 0, 1) := by decide +kernel
theorem dX4_raiseRoot_30 : decode cX4_raiseRoot 30 = .ok (.iload_n 1, 1) := by decide +kernel
theorem dX4_raiseRoot_31 : decode cX4_raiseRoot 31 = .ok (.invokevirtual 102, 3) := by decide +kernel
theorem dX4_raiseRoot_34 : decode cX4_raiseRoot 34 = .ok (.iload_n 2, 1) := by decide +kernel
theorem dX4_raiseRoot_35 : decode cX4_raiseRoot 35 = .ok (.ireturn, 1) := by decide +kernel
theorem dX4_lowerRoot_0 : decode cX4_lowerRoot 0 = .ok (.iconst 0, 1) := by decide +kernel
theorem dX4_lowerRoot_1 : decode cX4_lowerRoot 1 = .ok (.istore_n 1, 1) := by decide +kernel
theorem dX4_lowerRoot_2 : decode cX4_lowerRoot 2 = .ok (.aload_n 0, 1) := by decide +kernel
theorem dX4_lowerRoot_3 : decode cX4_lowerRoot 3 = .ok (.aload_n 0, 1) := by decide +kernel
theorem dX4_lowerRoot_4 : decode cX4_lowerRoot 4 = .ok (.getfield 27, 3) := by decide +kernel
theorem dX4_lowerRoot_7 : decode cX4_lowerRoot 7 = .ok (.invokevirtual 77, 3) := by decide +kernel
theorem dX4_lowerRoot_10 : decode cX4_lowerRoot 10 = .ok (.ifCond .le 55, 3) := by decide +kernel
theorem dX4_lowerRoot_13 : decode cX4_lowerRoot 13 = .ok (.aload_n 0, 1) := by decide +kernel
theorem dX4_lowerRoot_14 : decode cX4_lowerRoot 14 = .ok (.aload_n 0, 1) := by decide +kernel
theorem dX4_lowerRoot_15 : decode cX4_lowerRoot 15 = .ok (.getfield 27, 3) := by decide +kernel
theorem dX4_lowerRoot_18 : decode cX4_lowerRoot 18 = .ok (.invokevirtual 73, 3) := by decide +kernel
theorem dX4_lowerRoot_21 : decode cX4_lowerRoot 21 = .ok (.iconst 1, 1) := by decide +kernel
theorem dX4_lowerRoot_22 : decode cX4_lowerRoot 22 = .ok (.if_icmp .ne 43, 3) := by decide +kernel
theorem dX4_lowerRoot_25 : decode cX4_lowerRoot 25 = .ok (.iload_n 1, 1) := by decide +kernel
theorem dX4_lowerRoot_26 : decode cX4_lowerRoot 26 = .ok (.ldc 118, 2) := by decide +kernel
theorem dX4_lowerRoot_28 : decode cX4_lowerRoot 28 = .ok (.if_icmp .ge 37, 3) := by decide +kernel
theorem dX4_lowerRoot_31 : decode cX4_lowerRoot 31 = .ok (.aload_n 0, 1) := by decide +kernel
theorem dX4_lowerRoot_32 : decode cX4_lowerRoot 32 = .ok (.aload_n 0, 1) := by decide +kernel
theorem dX4_lowerRoot_33 : decode cX4_lowerRoot 33 = .ok (.getfield 27, 3) := by decide +kernel
theorem dX4_lowerRoot_36 : decode cX4_lowerRoot 36 = .ok (.iconst 0, 1) := by decide +kernel
theorem dX4_lowerRoot_37 : decode cX4_lowerRoot 37 = .ok (.invokevirtual 109, 3) := by decide +kernel
theorem dX4_lowerRoot_40 : decode cX4_lowerRoot 40 = .ok (.istore_n 2, 1) := by decide +kernel
theorem dX4_lowerRoot_41 : decode cX4_lowerRoot 41 = .ok (.aload_n 0, 1) := by decide +kernel
theorem dX4_lowerRoot_42 : decode cX4_lowerRoot 42 = .ok (.aload_n 0, 1) := by decide +kernel
theorem dX4_lowerRoot_43 : decode cX4_lowerRoot 43 = .ok (.getfield 27, 3) := by decide +kernel
theorem dX4_lowerRoot_46 : decode cX4_lowerRoot 46 = .ok (.invokevirtual 95, 3) := by decide +kernel
theorem dX4_lowerRoot_49 : decode cX4_lowerRoot 49 = .ok (.aload_n 0, 1) := by decide +kernel
theorem dX4_lowerRoot_50 : decode cX4_lowerRoot 50 = .ok (.iload_n 2, 1) := by decide +kernel
theorem dX4_lowerRoot_51 : decode cX4_lowerRoot 51 = .ok (.invokevirtual 128, 3) := by decide +kernel
theorem dX4_lowerRoot_54 : decode cX4_lowerRoot 54 = .ok (.aload_n 0, 1) := by decide +kernel
theorem dX4_lowerRoot_55 : decode cX4_lowerRoot 55 = .ok (.iload_n 2, 1) := by decide +kernel
theorem dX4_lowerRoot_56 : decode cX4_lowerRoot 56 = .ok (.putfield 27, 3) := by decide +kernel
theorem dX4_lowerRoot_59 : decode cX4_lowerRoot 59 = .ok (.iinc 1 1, 3) := by decide +kernel
theorem dX4_lowerRoot_62 : decode cX4_lowerRoot 62 = .ok (.goto (-60), 3) := by decide +kernel
theorem dX4_lowerRoot_65 : decode cX4_lowerRoot 65 = .ok (.aload_n 0, 1) := by decide +kernel
theorem dX4_lowerRoot_66 : decode cX4_lowerRoot 66 = .ok (.aload_n 0, 1) := by decide +kernel
theorem dX4_lowerRoot_67 : decode cX4_lowerRoot 67 = .ok (.getfield 27, 3) := by decide +kernel
theorem dX4_lowerRoot_70 : decode cX4_lowerRoot 70 = .ok (.invokevirtual 77, 3) := by decide +kernel
theorem dX4_lowerRoot_73 : decode cX4_lowerRoot 73 = .ok (.ifCond .le 26, 3) := by decide +kernel
theorem dX4_lowerRoot_76 : decode cX4_lowerRoot 76 = .ok (.aload_n 0, 1) := by decide +kernel
theorem dX4_lowerRoot_77 : decode cX4_lowerRoot 77 = .ok (.aload_n 0, 1) := by decide +kernel
theorem dX4_lowerRoot_78 : decode cX4_lowerRoot 78 = .ok (.getfield 27, 3) := by decide +kernel
theorem dX4_lowerRoot_81 : decode cX4_lowerRoot 81 = .ok (.invokevirtual 73, 3) := by decide +kernel
theorem dX4_lowerRoot_84 : decode cX4_lowerRoot 84 = .ok (.ifCond .ne 15, 3) := by decide +kernel
theorem dX4_lowerRoot_87 : decode cX4_lowerRoot 87 = .ok (.aload_n 0, 1) := by decide +kernel
theorem dX4_lowerRoot_88 : decode cX4_lowerRoot 88 = .ok (.getfield 9, 3) := by decide +kernel
theorem dX4_lowerRoot_91 : decode cX4_lowerRoot 91 = .ok (.aload_n 0, 1) := by decide +kernel
theorem dX4_lowerRoot_92 : decode cX4_lowerRoot 92 = .ok (.getfield 27, 3) := by decide +kernel
theorem dX4_lowerRoot_95 : decode cX4_lowerRoot 95 = .ok (.iconst 0, 1) := by decide +kernel
theorem dX4_lowerRoot_96 : decode cX4_lowerRoot 96 = .ok (.invokestatic 49, 3) := by decide +kernel
theorem dX4_lowerRoot_99 : decode cX4_lowerRoot 99 = .ok (.return_, 1) := by decide +kernel
theorem dX4_areaOf_0 : decode cX4_areaOf 0 = .ok (.aload_n 0, 1) := by decide +kernel
theorem dX4_areaOf_1 : decode cX4_areaOf 1 = .ok (.iload_n 1, 1) := by decide +kernel
theorem dX4_areaOf_2 : decode cX4_areaOf 2 = .ok (.iconst 2, 1) := by decide +kernel
theorem dX4_areaOf_3 : decode cX4_areaOf 3 = .ok (.invokevirtual 119, 3) := by decide +kernel
theorem dX4_areaOf_6 : decode cX4_areaOf 6 = .ok (.aload_n 0, 1) := by decide +kernel
theorem dX4_areaOf_7 : decode cX4_areaOf 7 = .ok (.iload_n 1, 1) := by decide +kernel
theorem dX4_areaOf_8 : decode cX4_areaOf 8 = .ok (.iconst 0, 1) := by decide +kernel
theorem dX4_areaOf_9 : decode cX4_areaOf 9 = .ok (.invokevirtual 119, 3) := by decide +kernel
theorem dX4_areaOf_12 : decode cX4_areaOf 12 = .ok (.isub, 1) := by decide +kernel
theorem dX4_areaOf_13 : decode cX4_areaOf 13 = .ok (.iconst 1, 1) := by decide +kernel
theorem dX4_areaOf_14 : decode cX4_areaOf 14 = .ok (.iadd, 1) := by decide +kernel
theorem dX4_areaOf_15 : decode cX4_areaOf 15 = .ok (.aload_n 0, 1) := by decide +kernel
theorem dX4_areaOf_16 : decode cX4_areaOf 16 = .ok (.iload_n 1, 1) := by decide +kernel
theorem dX4_areaOf_17 : decode cX4_areaOf 17 = .ok (.iconst 3, 1) := by decide +kernel
theorem dX4_areaOf_18 : decode cX4_areaOf 18 = .ok (.invokevirtual 119, 3) := by decide +kernel
theorem dX4_areaOf_21 : decode cX4_areaOf 21 = .ok (.aload_n 0, 1) := by decide +kernel
theorem dX4_areaOf_22 : decode cX4_areaOf 22 = .ok (.iload_n 1, 1) := by decide +kernel
theorem dX4_areaOf_23 : decode cX4_areaOf 23 = .ok (.iconst 1, 1) := by decide +kernel
theorem dX4_areaOf_24 : decode cX4_areaOf 24 = .ok (.invokevirtual 119, 3) := by decide +kernel
theorem dX4_areaOf_27 : decode cX4_areaOf 27 = .ok (.isub, 1) := by decide +kernel
theorem dX4_areaOf_28 : decode cX4_areaOf 28 = .ok (.iconst 1, 1) := by decide +kernel
theorem dX4_areaOf_29 : decode cX4_areaOf 29 = .ok (.iadd, 1) := by decide +kernel
theorem dX4_areaOf_30 : decode cX4_areaOf 30 = .ok (.imul, 1) := by decide +kernel
theorem dX4_areaOf_31 : decode cX4_areaOf 31 = .ok (.ireturn, 1) := by decide +kernel
theorem dX4_unionArea_0 : decode cX4_unionArea 0 = .ok (.aload_n 0, 1) := by decide +kernel
theorem dX4_unionArea_1 : decode cX4_unionArea 1 = .ok (.iload_n 1, 1) := by decide +kernel
theorem dX4_unionArea_2 : decode cX4_unionArea 2 = .ok (.iconst 2, 1) := by decide +kernel
theorem dX4_unionArea_3 : decode cX4_unionArea 3 = .ok (.invokevirtual 119, 3) := by decide +kernel
theorem dX4_unionArea_6 : decode cX4_unionArea 6 = .ok (.aload_n 0, 1) := by decide +kernel
theorem dX4_unionArea_7 : decode cX4_unionArea 7 = .ok (.iload_n 2, 1) := by decide +kernel
theorem dX4_unionArea_8 : decode cX4_unionArea 8 = .ok (.iconst 2, 1) := by decide +kernel
theorem dX4_unionArea_9 : decode cX4_unionArea 9 = .ok (.invokevirtual 119, 3) := by decide +kernel
theorem dX4_unionArea_12 : decode cX4_unionArea 12 = .ok (.invokestatic 122, 3) := by decide +kernel
theorem dX4_unionArea_15 : decode cX4_unionArea 15 = .ok (.aload_n 0, 1) := by decide +kernel
theorem dX4_unionArea_16 : decode cX4_unionArea 16 = .ok (.iload_n 1, 1) := by decide +kernel
theorem dX4_unionArea_17 : decode cX4_unionArea 17 = .ok (.iconst 0, 1) := by decide +kernel
theorem dX4_unionArea_18 : decode cX4_unionArea 18 = .ok (.invokevirtual 119, 3) := by decide +kernel
theorem dX4_unionArea_21 : decode cX4_unionArea 21 = .ok (.aload_n 0, 1) := by decide +kernel
theorem dX4_unionArea_22 : decode cX4_unionArea 22 = .ok (.iload_n 2, 1) := by decide +kernel
theorem dX4_unionArea_23 : decode cX4_unionArea 23 = .ok (.iconst 0, 1) := by decide +kernel
theorem dX4_unionArea_24 : decode cX4_unionArea 24 = .ok (.invokevirtual 119, 3) := by decide +kernel
theorem dX4_unionArea_27 : decode cX4_unionArea 27 = .ok (.invokestatic 57, 3) := by decide +kernel
theorem dX4_unionArea_30 : decode cX4_unionArea 30 = .ok (.isub, 1) := by decide +kernel
theorem dX4_unionArea_31 : decode cX4_unionArea 31 = .ok (.iconst 1, 1) := by decide +kernel
theorem dX4_unionArea_32 : decode cX4_unionArea 32 = .ok (.iadd, 1) := by decide +kernel
theorem dX4_unionArea_33 : decode cX4_unionArea 33 = .ok (.istore_n 3, 1) := by decide +kernel
theorem dX4_unionArea_34 : decode cX4_unionArea 34 = .ok (.aload_n 0, 1) := by decide +kernel
theorem dX4_unionArea_35 : decode cX4_unionArea 35 = .ok (.iload_n 1, 1) := by decide +kernel
theorem dX4_unionArea_36 : decode cX4_unionArea 36 = .ok (.iconst 3, 1) := by decide +kernel
theorem dX4_unionArea_37 : decode cX4_unionArea 37 = .ok (.invokevirtual 119, 3) := by decide +kernel
theorem dX4_unionArea_40 : decode cX4_unionArea 40 = .ok (.aload_n 0, 1) := by decide +kernel
theorem dX4_unionArea_41 : decode cX4_unionArea 41 = .ok (.iload_n 2, 1) := by decide +kernel
theorem dX4_unionArea_42 : decode cX4_unionArea 42 = .ok (.iconst 3, 1) := by decide +kernel
theorem dX4_unionArea_43 : decode cX4_unionArea 43 = .ok (.invokevirtual 119, 3) := by decide +kernel
theorem dX4_unionArea_46 : decode cX4_unionArea 46 = .ok (.invokestatic 122, 3) := by decide +kernel
theorem dX4_unionArea_49 : decode cX4_unionArea 49 = .ok (.aload_n 0, 1) := by decide +kernel
theorem dX4_unionArea_50 : decode cX4_unionArea 50 = .ok (.iload_n 1, 1) := by decide +kernel
theorem dX4_unionArea_51 : decode cX4_unionArea 51 = .ok (.iconst 1, 1) := by decide +kernel
theorem dX4_unionArea_52 : decode cX4_unionArea 52 = .ok (.invokevirtual 119, 3) := by decide +kernel
theorem dX4_unionArea_55 : decode cX4_unionArea 55 = .ok (.aload_n 0, 1) := by decide +kernel
theorem dX4_unionArea_56 : decode cX4_unionArea 56 = .ok (.iload_n 2, 1) := by decide +kernel
theorem dX4_unionArea_57 : decode cX4_unionArea 57 = .ok (.iconst 1, 1) := by decide +kernel
theorem dX4_unionArea_58 : decode cX4_unionArea 58 = .ok (.invokevirtual 119, 3) := by decide +kernel
theorem dX4_unionArea_61 : decode cX4_unionArea 61 = .ok (.invokestatic 57, 3) := by decide +kernel
theorem dX4_unionArea_64 : decode cX4_unionArea 64 = .ok (.isub, 1) := by decide +kernel
theorem dX4_unionArea_65 : decode cX4_unionArea 65 = .ok (.iconst 1, 1) := by decide +kernel
theorem dX4_unionArea_66 : decode cX4_unionArea 66 = .ok (.iadd, 1) := by decide +kernel
theorem dX4_unionArea_67 : decode cX4_unionArea 67 = .ok (.istore 4, 2) := by decide +kernel
theorem dX4_unionArea_69 : decode cX4_unionArea 69 = .ok (.iload_n 3, 1) := by decide +kernel
theorem dX4_unionArea_70 : decode cX4_unionArea 70 = .ok (.iload 4, 2) := by decide +kernel
theorem dX4_unionArea_72 : decode cX4_unionArea 72 = .ok (.imul, 1) := by decide +kernel
theorem dX4_unionArea_73 : decode cX4_unionArea 73 = .ok (.ireturn, 1) := by decide +kernel
theorem dX4_commonArea_0 : decode cX4_commonArea 0 = .ok (.aload_n 0, 1) := by decide +kernel
theorem dX4_commonArea_1 : decode cX4_commonArea 1 = .ok (.iload_n 1, 1) := by decide +kernel
theorem dX4_commonArea_2 : decode cX4_commonArea 2 = .ok (.iconst 2, 1) := by decide +kernel
theorem dX4_commonArea_3 : decode cX4_commonArea 3 = .ok (.invokevirtual 119, 3) := by decide +kernel
theorem dX4_commonArea_6 : decode cX4_commonArea 6 = .ok (.aload_n 0, 1) := by decide +kernel
theorem dX4_commonArea_7 : decode cX4_commonArea 7 = .ok (.iload_n 2, 1) := by decide +kernel
theorem dX4_commonArea_8 : decode cX4_commonArea 8 = .ok (.iconst 2, 1) := by decide +kernel
theorem dX4_commonArea_9 : decode cX4_commonArea 9 = .ok (.invokevirtual 119, 3) := by decide +kernel
theorem dX4_commonArea_12 : decode cX4_commonArea 12 = .ok (.invokestatic 57, 3) := by decide +kernel
theorem dX4_commonArea_15 : decode cX4_commonArea 15 = .ok (.aload_n 0, 1) := by decide +kernel
theorem dX4_commonArea_16 : decode cX4_commonArea 16 = .ok (.iload_n 1, 1) := by decide +kernel
theorem dX4_commonArea_17 : decode cX4_commonArea 17 = .ok (.iconst 0, 1) := by decide +kernel
theorem dX4_commonArea_18 : decode cX4_commonArea 18 = .ok (.invokevirtual 119, 3) := by decide +kernel
theorem dX4_commonArea_21 : decode cX4_commonArea 21 = .ok (.aload_n 0, 1) := by decide +kernel
theorem dX4_commonArea_22 : decode cX4_commonArea 22 = .ok (.iload_n 2, 1) := by decide +kernel
theorem dX4_commonArea_23 : decode cX4_commonArea 23 = .ok (.iconst 0, 1) := by decide +kernel
theorem dX4_commonArea_24 : decode cX4_commonArea 24 = .ok (.invokevirtual 119, 3) := by decide +kernel
theorem dX4_commonArea_27 : decode cX4_commonArea 27 = .ok (.invokestatic 122, 3) := by decide +kernel
theorem dX4_commonArea_30 : decode cX4_commonArea 30 = .ok (.isub, 1) := by decide +kernel
theorem dX4_commonArea_31 : decode cX4_commonArea 31 = .ok (.iconst 1, 1) := by decide +kernel
theorem dX4_commonArea_32 : decode cX4_commonArea 32 = .ok (.iadd, 1) := by decide +kernel
theorem dX4_commonArea_33 : decode cX4_commonArea 33 = .ok (.istore_n 3, 1) := by decide +kernel
theorem dX4_commonArea_34 : decode cX4_commonArea 34 = .ok (.aload_n 0, 1) := by decide +kernel
theorem dX4_commonArea_35 : decode cX4_commonArea 35 = .ok (.iload_n 1, 1) := by decide +kernel
theorem dX4_commonArea_36 : decode cX4_commonArea 36 = .ok (.iconst 3, 1) := by decide +kernel
theorem dX4_commonArea_37 : decode cX4_commonArea 37 = .ok (.invokevirtual 119, 3) := by decide +kernel
theorem dX4_commonArea_40 : decode cX4_commonArea 40 = .ok (.aload_n 0, 1) := by decide +kernel
theorem dX4_commonArea_41 : decode cX4_commonArea 41 = .ok (.iload_n 2, 1) := by decide +kernel
theorem dX4_commonArea_42 : decode cX4_commonArea 42 = .ok (.iconst 3, 1) := by decide +kernel
theorem dX4_commonArea_43 : decode cX4_commonArea 43 = .ok (.invokevirtual 119, 3) := by decide +kernel
theorem dX4_commonArea_46 : decode cX4_commonArea 46 = .ok (.invokestatic 57, 3) := by decide +kernel
theorem dX4_commonArea_49 : decode cX4_commonArea 49 = .ok (.aload_n 0, 1) := by decide +kernel
theorem dX4_commonArea_50 : decode cX4_commonArea 50 = .ok (.iload_n 1, 1) := by decide +kernel
theorem dX4_commonArea_51 : decode cX4_commonArea 51 = .ok (.iconst 1, 1) := by decide +kernel
theorem dX4_commonArea_52 : decode cX4_commonArea 52 = .ok (.invokevirtual 119, 3) := by decide +kernel
theorem dX4_commonArea_55 : decode cX4_commonArea 55 = .ok (.aload_n 0, 1) := by decide +kernel
theorem dX4_commonArea_56 : decode cX4_commonArea 56 = .ok (.iload_n 2, 1) := by decide +kernel
theorem dX4_commonArea_57 : decode cX4_commonArea 57 = .ok (.iconst 1, 1) := by decide +kernel
theorem dX4_commonArea_58 : decode cX4_commonArea 58 = .ok (.invokevirtual 119, 3) := by decide +kernel
theorem dX4_commonArea_61 : decode cX4_commonArea 61 = .ok (.invokestatic 122, 3) := by decide +kernel
theorem dX4_commonArea_64 : decode cX4_commonArea 64 = .ok (.isub, 1) := by decide +kernel
theorem dX4_commonArea_65 : decode cX4_commonArea 65 = .ok (.iconst 1, 1) := by decide +kernel
theorem dX4_commonArea_66 : decode cX4_commonArea 66 = .ok (.iadd, 1) := by decide +kernel
theorem dX4_commonArea_67 : decode cX4_commonArea 67 = .ok (.istore 4, 2) := by decide +kernel
theorem dX4_commonArea_69 : decode cX4_commonArea 69 = .ok (.iload_n 3, 1) := by decide +kernel
theorem dX4_commonArea_70 : decode cX4_commonArea 70 = .ok (.ifCond .le 15, 3) := by decide +kernel
theorem dX4_commonArea_73 : decode cX4_commonArea 73 = .ok (.iload 4, 2) := by decide +kernel
theorem dX4_commonArea_75 : decode cX4_commonArea 75 = .ok (.ifCond .le 10, 3) := by decide +kernel
theorem dX4_commonArea_78 : decode cX4_commonArea 78 = .ok (.iload_n 3, 1) := by decide +kernel
theorem dX4_commonArea_79 : decode cX4_commonArea 79 = .ok (.iload 4, 2) := by decide +kernel
theorem dX4_commonArea_81 : decode cX4_commonArea 81 = .ok (.imul, 1) := by decide +kernel
theorem dX4_commonArea_82 : decode cX4_commonArea 82 = .ok (.goto 4, 3) := by decide +kernel
theorem dX4_commonArea_85 : decode cX4_commonArea 85 = .ok (.iconst 0, 1) := by decide +kernel
theorem dX4_commonArea_86 : decode cX4_commonArea 86 = .ok (.ireturn, 1) := by decide +kernel
theorem dX4_enlargement_0 : decode cX4_enlargement 0 = .ok (.aload_n 0, 1) := by decide +kernel
theorem dX4_enlargement_1 : decode cX4_enlargement 1 = .ok (.iload_n 1, 1) := by decide +kernel
theorem dX4_enlargement_2 : decode cX4_enlargement 2 = .ok (.iload_n 2, 1) := by decide +kernel
theorem dX4_enlargement_3 : decode cX4_enlargement 3 = .ok (.invokevirtual 131, 3) := by decide +kernel
theorem dX4_enlargement_6 : decode cX4_enlargement 6 = .ok (.aload_n 0, 1) := by decide +kernel
theorem dX4_enlargement_7 : decode cX4_enlargement 7 = .ok (.iload_n 1, 1) := by decide +kernel
theorem dX4_enlargement_8 : decode cX4_enlargement 8 = .ok (.invokevirtual 134, 3) := by decide +kernel
theorem dX4_enlargement_11 : decode cX4_enlargement 11 = .ok (.isub, 1) := by decide +kernel
theorem dX4_enlargement_12 : decode cX4_enlargement 12 = .ok (.ireturn, 1) := by decide +kernel
theorem dX4_doubleCenter_0 : decode cX4_doubleCenter 0 = .ok (.aload_n 0, 1) := by decide +kernel
theorem dX4_doubleCenter_1 : decode cX4_doubleCenter 1 = .ok (.iload_n 1, 1) := by decide +kernel
theorem dX4_doubleCenter_2 : decode cX4_doubleCenter 2 = .ok (.iload_n 2, 1) := by decide +kernel
theorem dX4_doubleCenter_3 : decode cX4_doubleCenter 3 = .ok (.invokevirtual 119, 3) := by decide +kernel
theorem dX4_doubleCenter_6 : decode cX4_doubleCenter 6 = .ok (.aload_n 0, 1) := by decide +kernel
theorem dX4_doubleCenter_7 : decode cX4_doubleCenter 7 = .ok (.iload_n 1, 1) := by decide +kernel
theorem dX4_doubleCenter_8 : decode cX4_doubleCenter 8 = .ok (.iload_n 2, 1) := by decide +kernel
theorem dX4_doubleCenter_9 : decode cX4_doubleCenter 9 = .ok (.iconst 2, 1) := by decide +kernel
theorem dX4_doubleCenter_10 : decode cX4_doubleCenter 10 = .ok (.iadd, 1) := by decide +kernel
theorem dX4_doubleCenter_11 : decode cX4_doubleCenter 11 = .ok (.invokevirtual 119, 3) := by decide +kernel
theorem dX4_doubleCenter_14 : decode cX4_doubleCenter 14 = .ok (.iadd, 1) := by decide +kernel
theorem dX4_doubleCenter_15 : decode cX4_doubleCenter 15 = .ok (.ireturn, 1) := by decide +kernel
theorem dX4_centerDistance_0 : decode cX4_centerDistance 0 = .ok (.aload_n 0, 1) := by decide +kernel
theorem dX4_centerDistance_1 : decode cX4_centerDistance 1 = .ok (.iload_n 1, 1) := by decide +kernel
theorem dX4_centerDistance_2 : decode cX4_centerDistance 2 = .ok (.iconst 0, 1) := by decide +kernel
theorem dX4_centerDistance_3 : decode cX4_centerDistance 3 = .ok (.invokevirtual 137, 3) := by decide +kernel
theorem dX4_centerDistance_6 : decode cX4_centerDistance 6 = .ok (.aload_n 0, 1) := by decide +kernel
theorem dX4_centerDistance_7 : decode cX4_centerDistance 7 = .ok (.iload_n 2, 1) := by decide +kernel
theorem dX4_centerDistance_8 : decode cX4_centerDistance 8 = .ok (.iconst 0, 1) := by decide +kernel
theorem dX4_centerDistance_9 : decode cX4_centerDistance 9 = .ok (.invokevirtual 137, 3) := by decide +kernel
theorem dX4_centerDistance_12 : decode cX4_centerDistance 12 = .ok (.isub, 1) := by decide +kernel
theorem dX4_centerDistance_13 : decode cX4_centerDistance 13 = .ok (.istore_n 3, 1) := by decide +kernel
theorem dX4_centerDistance_14 : decode cX4_centerDistance 14 = .ok (.aload_n 0, 1) := by decide +kernel
theorem dX4_centerDistance_15 : decode cX4_centerDistance 15 = .ok (.iload_n 1, 1) := by decide +kernel
theorem dX4_centerDistance_16 : decode cX4_centerDistance 16 = .ok (.iconst 1, 1) := by decide +kernel
theorem dX4_centerDistance_17 : decode cX4_centerDistance 17 = .ok (.invokevirtual 137, 3) := by decide +kernel
theorem dX4_centerDistance_20 : decode cX4_centerDistance 20 = .ok (.aload_n 0, 1) := by decide +kernel
theorem dX4_centerDistance_21 : decode cX4_centerDistance 21 = .ok (.iload_n 2, 1) := by decide +kernel
theorem dX4_centerDistance_22 : decode cX4_centerDistance 22 = .ok (.iconst 1, 1) := by decide +kernel
theorem dX4_centerDistance_23 : decode cX4_centerDistance 23 = .ok (.invokevirtual 137, 3) := by decide +kernel
theorem dX4_centerDistance_26 : decode cX4_centerDistance 26 = .ok (.isub, 1) := by decide +kernel
theorem dX4_centerDistance_27 : decode cX4_centerDistance 27 = .ok (.istore 4, 2) := by decide +kernel
theorem dX4_centerDistance_29 : decode cX4_centerDistance 29 = .ok (.iload_n 3, 1) := by decide +kernel
theorem dX4_centerDistance_30 : decode cX4_centerDistance 30 = .ok (.iload_n 3, 1) := by decide +kernel
theorem dX4_centerDistance_31 : decode cX4_centerDistance 31 = .ok (.imul, 1) := by decide +kernel
theorem dX4_centerDistance_32 : decode cX4_centerDistance 32 = .ok (.iload 4, 2) := by decide +kernel
theorem dX4_centerDistance_34 : decode cX4_centerDistance 34 = .ok (.iload 4, 2) := by decide +kernel
theorem dX4_centerDistance_36 : decode cX4_centerDistance 36 = .ok (.imul, 1) := by decide +kernel
theorem dX4_centerDistance_37 : decode cX4_centerDistance 37 = .ok (.iadd, 1) := by decide +kernel
theorem dX4_centerDistance_38 : decode cX4_centerDistance 38 = .ok (.ireturn, 1) := by decide +kernel
theorem dX4_meetsWindow_0 : decode cX4_meetsWindow 0 = .ok (.aload_n 0, 1) := by decide +kernel
theorem dX4_meetsWindow_1 : decode cX4_meetsWindow 1 = .ok (.iload_n 1, 1) := by decide +kernel
theorem dX4_meetsWindow_2 : decode cX4_meetsWindow 2 = .ok (.iconst 0, 1) := by decide +kernel
theorem dX4_meetsWindow_3 : decode cX4_meetsWindow 3 = .ok (.invokevirtual 119, 3) := by decide +kernel
theorem dX4_meetsWindow_6 : decode cX4_meetsWindow 6 = .ok (.iload 4, 2) := by decide +kernel
theorem dX4_meetsWindow_8 : decode cX4_meetsWindow 8 = .ok (.if_icmp .gt 38, 3) := by decide +kernel
theorem dX4_meetsWindow_11 : decode cX4_meetsWindow 11 = .ok (.aload_n 0, 1) := by decide +kernel
theorem dX4_meetsWindow_12 : decode cX4_meetsWindow 12 = .ok (.iload_n 1, 1) := by decide +kernel
theorem dX4_meetsWindow_13 : decode cX4_meetsWindow 13 = .ok (.iconst 2, 1) := by decide +kernel
theorem dX4_meetsWindow_14 : decode cX4_meetsWindow 14 = .ok (.invokevirtual 119, 3) := by decide +kernel
theorem dX4_meetsWindow_17 : decode cX4_meetsWindow 17 = .ok (.iload_n 2, 1) := by decide +kernel
theorem dX4_meetsWindow_18 : decode cX4_meetsWindow 18 = .ok (.if_icmp .lt 28, 3) := by decide +kernel
theorem dX4_meetsWindow_21 : decode cX4_meetsWindow 21 = .ok (.aload_n 0, 1) := by decide +kernel
theorem dX4_meetsWindow_22 : decode cX4_meetsWindow 22 = .ok (.iload_n 1, 1) := by decide +kernel
theorem dX4_meetsWindow_23 : decode cX4_meetsWindow 23 = .ok (.iconst 1, 1) := by decide +kernel
theorem dX4_meetsWindow_24 : decode cX4_meetsWindow 24 = .ok (.invokevirtual 119, 3) := by decide +kernel
theorem dX4_meetsWindow_27 : decode cX4_meetsWindow 27 = .ok (.iload 5, 2) := by decide +kernel
theorem dX4_meetsWindow_29 : decode cX4_meetsWindow 29 = .ok (.if_icmp .gt 17, 3) := by decide +kernel
theorem dX4_meetsWindow_32 : decode cX4_meetsWindow 32 = .ok (.aload_n 0, 1) := by decide +kernel
theorem dX4_meetsWindow_33 : decode cX4_meetsWindow 33 = .ok (.iload_n 1, 1) := by decide +kernel
theorem dX4_meetsWindow_34 : decode cX4_meetsWindow 34 = .ok (.iconst 3, 1) := by decide +kernel
theorem dX4_meetsWindow_35 : decode cX4_meetsWindow 35 = .ok (.invokevirtual 119, 3) := by decide +kernel
theorem dX4_meetsWindow_38 : decode cX4_meetsWindow 38 = .ok (.iload_n 3, 1) := by decide +kernel
theorem dX4_meetsWindow_39 : decode cX4_meetsWindow 39 = .ok (.if_icmp .lt 7, 3) := by decide +kernel
theorem dX4_meetsWindow_42 : decode cX4_meetsWindow 42 = .ok (.iconst 1, 1) := by decide +kernel
theorem dX4_meetsWindow_43 : decode cX4_meetsWindow 43 = .ok (.goto 4, 3) := by decide +kernel
theorem dX4_meetsWindow_46 : decode cX4_meetsWindow 46 = .ok (.iconst 0, 1) := by decide +kernel
theorem dX4_meetsWindow_47 : decode cX4_meetsWindow 47 = .ok (.ireturn, 1) := by decide +kernel
theorem dX4_liesInWindow_0 : decode cX4_liesInWindow 0 = .ok (.aload_n 0, 1) := by decide +kernel
theorem dX4_liesInWindow_1 : decode cX4_liesInWindow 1 = .ok (.iload_n 1, 1) := by decide +kernel
theorem dX4_liesInWindow_2 : decode cX4_liesInWindow 2 = .ok (.iconst 0, 1) := by decide +kernel
theorem dX4_liesInWindow_3 : decode cX4_liesInWindow 3 = .ok (.invokevirtual 119, 3) := by decide +kernel
theorem dX4_liesInWindow_6 : decode cX4_liesInWindow 6 = .ok (.iload_n 2, 1) := by decide +kernel
theorem dX4_liesInWindow_7 : decode cX4_liesInWindow 7 = .ok (.if_icmp .lt 39, 3) := by decide +kernel
theorem dX4_liesInWindow_10 : decode cX4_liesInWindow 10 = .ok (.aload_n 0, 1) := by decide +kernel
theorem dX4_liesInWindow_11 : decode cX4_liesInWindow 11 = .ok (.iload_n 1, 1) := by decide +kernel
theorem dX4_liesInWindow_12 : decode cX4_liesInWindow 12 = .ok (.iconst 2, 1) := by decide +kernel
theorem dX4_liesInWindow_13 : decode cX4_liesInWindow 13 = .ok (.invokevirtual 119, 3) := by decide +kernel
theorem dX4_liesInWindow_16 : decode cX4_liesInWindow 16 = .ok (.iload 4, 2) := by decide +kernel
theorem dX4_liesInWindow_18 : decode cX4_liesInWindow 18 = .ok (.if_icmp .gt 28, 3) := by decide +kernel
theorem dX4_liesInWindow_21 : decode cX4_liesInWindow 21 = .ok (.aload_n 0, 1) := by decide +kernel
theorem dX4_liesInWindow_22 : decode cX4_liesInWindow 22 = .ok (.iload_n 1, 1) := by decide +kernel
theorem dX4_liesInWindow_23 : decode cX4_liesInWindow 23 = .ok (.iconst 1, 1) := by decide +kernel
theorem dX4_liesInWindow_24 : decode cX4_liesInWindow 24 = .ok (.invokevirtual 119, 3) := by decide +kernel
theorem dX4_liesInWindow_27 : decode cX4_liesInWindow 27 = .ok (.iload_n 3, 1) := by decide +kernel
theorem dX4_liesInWindow_28 : decode cX4_liesInWindow 28 = .ok (.if_icmp .lt 18, 3) := by decide +kernel
theorem dX4_liesInWindow_31 : decode cX4_liesInWindow 31 = .ok (.aload_n 0, 1) := by decide +kernel
theorem dX4_liesInWindow_32 : decode cX4_liesInWindow 32 = .ok (.iload_n 1, 1) := by decide +kernel
theorem dX4_liesInWindow_33 : decode cX4_liesInWindow 33 = .ok (.iconst 3, 1) := by decide +kernel
theorem dX4_liesInWindow_34 : decode cX4_liesInWindow 34 = .ok (.invokevirtual 119, 3) := by decide +kernel
theorem dX4_liesInWindow_37 : decode cX4_liesInWindow 37 = .ok (.iload 5, 2) := by decide +kernel
theorem dX4_liesInWindow_39 : decode cX4_liesInWindow 39 = .ok (.if_icmp .gt 7, 3) := by decide +kernel
theorem dX4_liesInWindow_42 : decode cX4_liesInWindow 42 = .ok (.iconst 1, 1) := by decide +kernel
theorem dX4_liesInWindow_43 : decode cX4_liesInWindow 43 = .ok (.goto 4, 3) := by decide +kernel
theorem dX4_liesInWindow_46 : decode cX4_liesInWindow 46 = .ok (.iconst 0, 1) := by decide +kernel
theorem dX4_liesInWindow_47 : decode cX4_liesInWindow 47 = .ok (.ireturn, 1) := by decide +kernel
theorem dX4_squareDistance_0 : decode cX4_squareDistance 0 = .ok (.iconst 0, 1) := by decide +kernel
theorem dX4_squareDistance_1 : decode cX4_squareDistance 1 = .ok (.aload_n 0, 1) := by decide +kernel
theorem dX4_squareDistance_2 : decode cX4_squareDistance 2 = .ok (.iload_n 1, 1) := by decide +kernel
theorem dX4_squareDistance_3 : decode cX4_squareDistance 3 = .ok (.iconst 0, 1) := by decide +kernel
theorem dX4_squareDistance_4 : decode cX4_squareDistance 4 = .ok (.invokevirtual 119, 3) := by decide +kernel
theorem dX4_squareDistance_7 : decode cX4_squareDistance 7 = .ok (.iload_n 2, 1) := by decide +kernel
theorem dX4_squareDistance_8 : decode cX4_squareDistance 8 = .ok (.isub, 1) := by decide +kernel
theorem dX4_squareDistance_9 : decode cX4_squareDistance 9 = .ok (.iload_n 2, 1) := by decide +kernel
theorem dX4_squareDistance_10 : decode cX4_squareDistance 10 = .ok (.aload_n 0, 1) := by decide +kernel
theorem dX4_squareDistance_11 : decode cX4_squareDistance 11 = .ok (.iload_n 1, 1) := by decide +kernel
theorem dX4_squareDistance_12 : decode cX4_squareDistance 12 = .ok (.iconst 2, 1) := by decide +kernel
theorem dX4_squareDistance_13 : decode cX4_squareDistance 13 = .ok (.invokevirtual 119, 3) := by decide +kernel
theorem dX4_squareDistance_16 : decode cX4_squareDistance 16 = .ok (.isub, 1) := by decide +kernel
theorem dX4_squareDistance_17 : decode cX4_squareDistance 17 = .ok (.invokestatic 122, 3) := by decide +kernel
theorem dX4_squareDistance_20 : decode cX4_squareDistance 20 = .ok (.invokestatic 122, 3) := by decide +kernel
theorem dX4_squareDistance_23 : decode cX4_squareDistance 23 = .ok (.istore 4, 2) := by decide +kernel
theorem dX4_squareDistance_25 : decode cX4_squareDistance 25 = .ok (.iconst 0, 1) := by decide +kernel
theorem dX4_squareDistance_26 : decode cX4_squareDistance 26 = .ok (.aload_n 0, 1) := by decide +kernel
theorem dX4_squareDistance_27 : decode cX4_squareDistance 27 = .ok (.iload_n 1, 1) := by decide +kernel
theorem dX4_squareDistance_28 : decode cX4_squareDistance 28 = .ok (.iconst 1, 1) := by decide +kernel
theorem dX4_squareDistance_29 : decode cX4_squareDistance 29 = .ok (.invokevirtual 119, 3) := by decide +kernel
theorem dX4_squareDistance_32 : decode cX4_squareDistance 32 = .ok (.iload_n 3, 1) := by decide +kernel
theorem dX4_squareDistance_33 : decode cX4_squareDistance 33 = .ok (.isub, 1) := by decide +kernel
theorem dX4_squareDistance_34 : decode cX4_squareDistance 34 = .ok (.iload_n 3, 1) := by decide +kernel
theorem dX4_squareDistance_35 : decode cX4_squareDistance 35 = .ok (.aload_n 0, 1) := by decide +kernel
theorem dX4_squareDistance_36 : decode cX4_squareDistance 36 = .ok (.iload_n 1, 1) := by decide +kernel
theorem dX4_squareDistance_37 : decode cX4_squareDistance 37 = .ok (.iconst 3, 1) := by decide +kernel
theorem dX4_squareDistance_38 : decode cX4_squareDistance 38 = .ok (.invokevirtual 119, 3) := by decide +kernel
theorem dX4_squareDistance_41 : decode cX4_squareDistance 41 = .ok (.isub, 1) := by decide +kernel
theorem dX4_squareDistance_42 : decode cX4_squareDistance 42 = .ok (.invokestatic 122, 3) := by decide +kernel
theorem dX4_squareDistance_45 : decode cX4_squareDistance 45 = .ok (.invokestatic 122, 3) := by decide +kernel
theorem dX4_squareDistance_48 : decode cX4_squareDistance 48 = .ok (.istore 5, 2) := by decide +kernel
theorem dX4_squareDistance_50 : decode cX4_squareDistance 50 = .ok (.iload 4, 2) := by decide +kernel
theorem dX4_squareDistance_52 : decode cX4_squareDistance 52 = .ok (.iload 4, 2) := by decide +kernel
theorem dX4_squareDistance_54 : decode cX4_squareDistance 54 = .ok (.imul, 1) := by decide +kernel
theorem dX4_squareDistance_55 : decode cX4_squareDistance 55 = .ok (.iload 5, 2) := by decide +kernel
theorem dX4_squareDistance_57 : decode cX4_squareDistance 57 = .ok (.iload 5, 2) := by decide +kernel
theorem dX4_squareDistance_59 : decode cX4_squareDistance 59 = .ok (.imul, 1) := by decide +kernel
theorem dX4_squareDistance_60 : decode cX4_squareDistance 60 = .ok (.iadd, 1) := by decide +kernel
theorem dX4_squareDistance_61 : decode cX4_squareDistance 61 = .ok (.ireturn, 1) := by decide +kernel
theorem dX5_init_0 : decode cX5_init 0 = .ok (.aload_n 0, 1) := by decide +kernel
theorem dX5_init_1 : decode cX5_init 1 = .ok (.invokespecial 3, 3) := by decide +kernel
theorem dX5_init_4 : decode cX5_init 4 = .ok (.aload_n 0, 1) := by decide +kernel
theorem dX5_init_5 : decode cX5_init 5 = .ok (.sipush 157, 3) := by decide +kernel
theorem dX5_init_8 : decode cX5_init 8 = .ok (.newarray .int, 2) := by decide +kernel
theorem dX5_init_10 : decode cX5_init 10 = .ok (.putfield 9, 3) := by decide +kernel
theorem dX5_init_13 : decode cX5_init 13 = .ok (.aload_n 0, 1) := by decide +kernel
theorem dX5_init_14 : decode cX5_init 14 = .ok (.iconst 0, 1) := by decide +kernel
theorem dX5_init_15 : decode cX5_init 15 = .ok (.putfield 15, 3) := by decide +kernel
theorem dX5_init_18 : decode cX5_init 18 = .ok (.aload_n 0, 1) := by decide +kernel
theorem dX5_init_19 : decode cX5_init 19 = .ok (.sipush 157, 3) := by decide +kernel
theorem dX5_init_22 : decode cX5_init 22 = .ok (.newarray .int, 2) := by decide +kernel
theorem dX5_init_24 : decode cX5_init 24 = .ok (.putfield 19, 3) := by decide +kernel
theorem dX5_init_27 : decode cX5_init 27 = .ok (.return_, 1) := by decide +kernel
theorem dX5_gather_0 : decode cX5_gather 0 = .ok (.aload_n 0, 1) := by decide +kernel
theorem dX5_gather_1 : decode cX5_gather 1 = .ok (.iconst 0, 1) := by decide +kernel
theorem dX5_gather_2 : decode cX5_gather 2 = .ok (.putfield 15, 3) := by decide +kernel
theorem dX5_gather_5 : decode cX5_gather 5 = .ok (.aload_n 0, 1) := by decide +kernel
theorem dX5_gather_6 : decode cX5_gather 6 = .ok (.getfield 19, 3) := by decide +kernel
theorem dX5_gather_9 : decode cX5_gather 9 = .ok (.iconst 0, 1) := by decide +kernel
theorem dX5_gather_10 : decode cX5_gather 10 = .ok (.iload_n 2, 1) := by decide +kernel
theorem dX5_gather_11 : decode cX5_gather 11 = .ok (.invokestatic 22, 3) := by decide +kernel
theorem dX5_gather_14 : decode cX5_gather 14 = .ok (.iconst 1, 1) := by decide +kernel
theorem dX5_gather_15 : decode cX5_gather 15 = .ok (.istore 4, 2) := by decide +kernel
theorem dX5_gather_17 : decode cX5_gather 17 = .ok (.iconst 0, 1) := by decide +kernel
theorem dX5_gather_18 : decode cX5_gather 18 = .ok (.istore 5, 2) := by decide +kernel
theorem dX5_gather_20 : decode cX5_gather 20 = .ok (.iload 4, 2) := by decide +kernel
theorem dX5_gather_22 : decode cX5_gather 22 = .ok (.ifCond .le 110, 3) := by decide +kernel
theorem dX5_gather_25 : decode cX5_gather 25 = .ok (.iload 5, 2) := by decide +kernel
theorem dX5_gather_27 : decode cX5_gather 27 = .ok (.ldc 26, 2) := by decide +kernel
theorem dX5_gather_29 : decode cX5_gather 29 = .ok (.if_icmp .ge 103, 3) := by decide +kernel
theorem dX5_gather_32 : decode cX5_gather 32 = .ok (.iinc 4 (-1), 3) := by decide +kernel
theorem dX5_gather_35 : decode cX5_gather 35 = .ok (.aload_n 0, 1) := by decide +kernel
theorem dX5_gather_36 : decode cX5_gather 36 = .ok (.getfield 19, 3) := by decide +kernel
theorem dX5_gather_39 : decode cX5_gather 39 = .ok (.iload 4, 2) := by decide +kernel
theorem dX5_gather_41 : decode cX5_gather 41 = .ok (.invokestatic 27, 3) := by decide +kernel
theorem dX5_gather_44 : decode cX5_gather 44 = .ok (.istore 6, 2) := by decide +kernel
theorem dX5_gather_46 : decode cX5_gather 46 = .ok (.iload 6, 2) := by decide +kernel
theorem dX5_gather_48 : decode cX5_gather 48 = .ok (.bipush 24, 2) := by decide +kernel
theorem dX5_gather_50 : decode cX5_gather 50 = .ok (.if_icmp .lt 7, 3) := by decide +kernel
theorem dX5_gather_53 : decode cX5_gather 53 = .ok (.iconst 1, 1) := by decide +kernel
theorem dX5_gather_54 : decode cX5_gather 54 = .ok (.goto 4, 3) := by decide +kernel
theorem dX5_gather_57 : decode cX5_gather 57 = .ok (.iconst 0, 1) := by decide +kernel
theorem dX5_gather_58 : decode cX5_gather 58 = .ok (.iload_n 3, 1) := by decide +kernel
theorem dX5_gather_59 : decode cX5_gather 59 = .ok (.if_icmp .ne 26, 3) := by decide +kernel
theorem dX5_gather_62 : decode cX5_gather 62 = .ok (.aload_n 0, 1) := by decide +kernel
theorem dX5_gather_63 : decode cX5_gather 63 = .ok (.getfield 9, 3) := by decide +kernel
theorem dX5_gather_66 : decode cX5_gather 66 = .ok (.aload_n 0, 1) := by decide +kernel
theorem dX5_gather_67 : decode cX5_gather 67 = .ok (.getfield 15, 3) := by decide +kernel
theorem dX5_gather_70 : decode cX5_gather 70 = .ok (.iload 6, 2) := by decide +kernel
theorem dX5_gather_72 : decode cX5_gather 72 = .ok (.invokestatic 22, 3) := by decide +kernel
theorem dX5_gather_75 : decode cX5_gather 75 = .ok (.aload_n 0, 1) := by decide +kernel
theorem dX5_gather_76 : decode cX5_gather 76 = .ok (.dup, 1) := by decide +kernel
theorem dX5_gather_77 : decode cX5_gather 77 = .ok (.getfield 15, 3) := by decide +kernel
theorem dX5_gather_80 : decode cX5_gather 80 = .ok (.iconst 1, 1) := by decide +kernel
theorem dX5_gather_81 : decode cX5_gather 81 = .ok (.iadd, 1) := by decide +kernel
theorem dX5_gather_82 : decode cX5_gather 82 = .ok (.putfield 15, 3) := by decide +kernel
theorem dX5_gather_85 : decode cX5_gather 85 = .ok (.aload_n 1, 1) := by decide +kernel
theorem dX5_gather_86 : decode cX5_gather 86 = .ok (.iload 6, 2) := by decide +kernel
theorem dX5_gather_88 : decode cX5_gather 88 = .ok (.invokevirtual 31, 3) := by decide +kernel
theorem dX5_gather_91 : decode cX5_gather 91 = .ok (.iconst 1, 1) := by decide +kernel
theorem dX5_gather_92 : decode cX5_gather 92 = .ok (.isub, 1) := by decide +kernel
theorem dX5_gather_93 : decode cX5_gather 93 = .ok (.istore 7, 2) := by decide +kernel
theorem dX5_gather_95 : decode cX5_gather 95 = .ok (.iload 7, 2) := by decide +kernel
theorem dX5_gather_97 : decode cX5_gather 97 = .ok (.ifCond .lt 29, 3) := by decide +kernel
theorem dX5_gather_100 : decode cX5_gather 100 = .ok (.aload_n 0, 1) := by decide +kernel
theorem dX5_gather_101 : decode cX5_gather 101 = .ok (.getfield 19, 3) := by decide +kernel
theorem dX5_gather_104 : decode cX5_gather 104 = .ok (.iload 4, 2) := by decide +kernel
theorem dX5_gather_106 : decode cX5_gather 106 = .ok (.aload_n 1, 1) := by decide +kernel
theorem dX5_gather_107 : decode cX5_gather 107 = .ok (.iload 6, 2) := by decide +kernel
theorem dX5_gather_109 : decode cX5_gather 109 = .ok (.iload 7, 2) := by decide +kernel
theorem dX5_gather_111 : decode cX5_gather 111 = .ok (.invokevirtual 37, 3) := by decide +kernel
theorem dX5_gather_114 : decode cX5_gather 114 = .ok (.invokestatic 22, 3) := by decide +kernel
theorem dX5_gather_117 : decode cX5_gather 117 = .ok (.iinc 4 1, 3) := by decide +kernel
theorem dX5_gather_120 : decode cX5_gather 120 = .ok (.iinc 7 (-1), 3) := by decide +kernel
theorem dX5_gather_123 : decode cX5_gather 123 = .ok (.goto (-28), 3) := by decide +kernel
theorem dX5_gather_126 : decode cX5_gather 126 = .ok (.iinc 5 1, 3) := by decide +kernel
theorem dX5_gather_129 : decode cX5_gather 129 = .ok (.goto (-109), 3) := by decide +kernel
theorem dX5_gather_132 : decode cX5_gather 132 = .ok (.return_, 1) := by decide +kernel
theorem dX5_placeOf_0 : decode cX5_placeOf 0 = .ok (.iconst 0, 1) := by decide +kernel
theorem dX5_placeOf_1 : decode cX5_placeOf 1 = .ok (.istore_n 2, 1) := by decide +kernel
theorem dX5_placeOf_2 : decode cX5_placeOf 2 = .ok (.iload_n 2, 1) := by decide +kernel
theorem dX5_placeOf_3 : decode cX5_placeOf 3 = .ok (.aload_n 0, 1) := by decide +kernel
theorem dX5_placeOf_4 : decode cX5_placeOf 4 = .ok (.getfield 15, 3) := by decide +kernel
theorem dX5_placeOf_7 : decode cX5_placeOf 7 = .ok (.if_icmp .ge 23, 3) := by decide +kernel
theorem dX5_placeOf_10 : decode cX5_placeOf 10 = .ok (.aload_n 0, 1) := by decide +kernel
theorem dX5_placeOf_11 : decode cX5_placeOf 11 = .ok (.getfield 9, 3) := by decide +kernel
theorem dX5_placeOf_14 : decode cX5_placeOf 14 = .ok (.iload_n 2, 1) := by decide +kernel
theorem dX5_placeOf_15 : decode cX5_placeOf 15 = .ok (.invokestatic 27, 3) := by decide +kernel
theorem dX5_placeOf_18 : decode cX5_placeOf 18 = .ok (.iload_n 1, 1) := by decide +kernel
theorem dX5_placeOf_19 : decode cX5_placeOf 19 = .ok (.if_icmp .ne 5, 3) := by decide +kernel
theorem dX5_placeOf_22 : decode cX5_placeOf 22 = .ok (.iload_n 2, 1) := by decide +kernel
theorem dX5_placeOf_23 : decode cX5_placeOf 23 = .ok (.ireturn, 1) := by decide +kernel
theorem dX5_placeOf_24 : decode cX5_placeOf 24 = .ok (.iinc 2 1, 3) := by decide +kernel
theorem dX5_placeOf_27 : decode cX5_placeOf 27 = .ok (.goto (-25), 3) := by decide +kernel
theorem dX5_placeOf_30 : decode cX5_placeOf 30 = .ok (.iconst (-1), 1) := by decide +kernel
theorem dX5_placeOf_31 : decode cX5_placeOf 31 = .ok (.ireturn, 1) := by decide +kernel
theorem dX6_init_0 : decode cX6_init 0 = .ok (.aload_n 0, 1) := by decide +kernel
theorem dX6_init_1 : decode cX6_init 1 = .ok (.invokespecial 3, 3) := by decide +kernel
theorem dX6_init_4 : decode cX6_init 4 = .ok (.aload_n 0, 1) := by decide +kernel
theorem dX6_init_5 : decode cX6_init 5 = .ok (.new 9, 3) := by decide +kernel
theorem dX6_init_8 : decode cX6_init 8 = .ok (.dup, 1) := by decide +kernel
theorem dX6_init_9 : decode cX6_init 9 = .ok (.invokespecial 11, 3) := by decide +kernel
theorem dX6_init_12 : decode cX6_init 12 = .ok (.putfield 12, 3) := by decide +kernel
theorem dX6_init_15 : decode cX6_init 15 = .ok (.aload_n 0, 1) := by decide +kernel
theorem dX6_init_16 : decode cX6_init 16 = .ok (.new 16, 3) := by decide +kernel
theorem dX6_init_19 : decode cX6_init 19 = .ok (.dup, 1) := by decide +kernel
theorem dX6_init_20 : decode cX6_init 20 = .ok (.aload_n 0, 1) := by decide +kernel
theorem dX6_init_21 : decode cX6_init 21 = .ok (.getfield 12, 3) := by decide +kernel
theorem dX6_init_24 : decode cX6_init 24 = .ok (.invokespecial 18, 3) := by decide +kernel
theorem dX6_init_27 : decode cX6_init 27 = .ok (.putfield 21, 3) := by decide +kernel
theorem dX6_init_30 : decode cX6_init 30 = .ok (.aload_n 0, 1) := by decide +kernel
theorem dX6_init_31 : decode cX6_init 31 = .ok (.new 25, 3) := by decide +kernel
theorem dX6_init_34 : decode cX6_init 34 = .ok (.dup, 1) := by decide +kernel
theorem dX6_init_35 : decode cX6_init 35 = .ok (.aload_n 0, 1) := by decide +kernel
theorem dX6_init_36 : decode cX6_init 36 = .ok (.getfield 12, 3) := by decide +kernel
theorem dX6_init_39 : decode cX6_init 39 = .ok (.invokespecial 27, 3) := by decide +kernel
theorem dX6_init_42 : decode cX6_init 42 = .ok (.putfield 28, 3) := by decide +kernel
theorem dX6_init_45 : decode cX6_init 45 = .ok (.aload_n 0, 1) := by decide +kernel
theorem dX6_init_46 : decode cX6_init 46 = .ok (.new 32, 3) := by decide +kernel
theorem dX6_init_49 : decode cX6_init 49 = .ok (.dup, 1) := by decide +kernel
theorem dX6_init_50 : decode cX6_init 50 = .ok (.invokespecial 34, 3) := by decide +kernel
theorem dX6_init_53 : decode cX6_init 53 = .ok (.putfield 35, 3) := by decide +kernel
theorem dX6_init_56 : decode cX6_init 56 = .ok (.aload_n 0, 1) := by decide +kernel
theorem dX6_init_57 : decode cX6_init 57 = .ok (.new 39, 3) := by decide +kernel
theorem dX6_init_60 : decode cX6_init 60 = .ok (.dup, 1) := by decide +kernel
theorem dX6_init_61 : decode cX6_init 61 = .ok (.invokespecial 41, 3) := by decide +kernel
theorem dX6_init_64 : decode cX6_init 64 = .ok (.putfield 42, 3) := by decide +kernel
theorem dX6_init_67 : decode cX6_init 67 = .ok (.aload_n 0, 1) := by decide +kernel
theorem dX6_init_68 : decode cX6_init 68 = .ok (.new 46, 3) := by decide +kernel
theorem dX6_init_71 : decode cX6_init 71 = .ok (.dup, 1) := by decide +kernel
theorem dX6_init_72 : decode cX6_init 72 = .ok (.invokespecial 48, 3) := by decide +kernel
theorem dX6_init_75 : decode cX6_init 75 = .ok (.putfield 49, 3) := by decide +kernel
theorem dX6_init_78 : decode cX6_init 78 = .ok (.aload_n 0, 1) := by decide +kernel
theorem dX6_init_79 : decode cX6_init 79 = .ok (.new 9, 3) := by decide +kernel
theorem dX6_init_82 : decode cX6_init 82 = .ok (.dup, 1) := by decide +kernel
theorem dX6_init_83 : decode cX6_init 83 = .ok (.invokespecial 11, 3) := by decide +kernel
theorem dX6_init_86 : decode cX6_init 86 = .ok (.putfield 53, 3) := by decide +kernel
theorem dX6_init_89 : decode cX6_init 89 = .ok (.aload_n 0, 1) := by decide +kernel
theorem dX6_init_90 : decode cX6_init 90 = .ok (.iconst 0, 1) := by decide +kernel
theorem dX6_init_91 : decode cX6_init 91 = .ok (.putfield 56, 3) := by decide +kernel
theorem dX6_init_94 : decode cX6_init 94 = .ok (.aload_n 0, 1) := by decide +kernel
theorem dX6_init_95 : decode cX6_init 95 = .ok (.invokevirtual 60, 3) := by decide +kernel
theorem dX6_init_98 : decode cX6_init 98 = .ok (.return_, 1) := by decide +kernel
theorem dX6_insert_0 : decode cX6_insert 0 = .ok (.iload_n 1, 1) := by decide +kernel
theorem dX6_insert_1 : decode cX6_insert 1 = .ok (.iload_n 2, 1) := by decide +kernel
theorem dX6_insert_2 : decode cX6_insert 2 = .ok (.iload_n 3, 1) := by decide +kernel
theorem dX6_insert_3 : decode cX6_insert 3 = .ok (.iload 4, 2) := by decide +kernel
theorem dX6_insert_5 : decode cX6_insert 5 = .ok (.invokestatic 63, 3) := by decide +kernel
theorem dX6_insert_8 : decode cX6_insert 8 = .ok (.ifCond .ne 6, 3) := by decide +kernel
theorem dX6_insert_11 : decode cX6_insert 11 = .ok (.bipush (-2), 2) := by decide +kernel
theorem dX6_insert_13 : decode cX6_insert 13 = .ok (.ireturn, 1) := by decide +kernel
theorem dX6_insert_14 : decode cX6_insert 14 = .ok (.aload_n 0, 1) := by decide +kernel
theorem dX6_insert_15 : decode cX6_insert 15 = .ok (.getfield 12, 3) := by decide +kernel
theorem dX6_insert_18 : decode cX6_insert 18 = .ok (.invokevirtual 67, 3) := by decide +kernel
theorem dX6_insert_21 : decode cX6_insert 21 = .ok (.bipush 24, 2) := by decide +kernel
theorem dX6_insert_23 : decode cX6_insert 23 = .ok (.if_icmp .lt 6, 3) := by decide +kernel
theorem dX6_insert_26 : decode cX6_insert 26 = .ok (.bipush (-3), 2) := by decide +kernel
theorem dX6_insert_28 : decode cX6_insert 28 = .ok (.ireturn, 1) := by decide +kernel
theorem dX6_insert_29 : decode cX6_insert 29 = .ok (.aload_n 0, 1) := by decide +kernel
theorem dX6_insert_30 : decode cX6_insert 30 = .ok (.getfield 49, 3) := by decide +kernel
theorem dX6_insert_33 : decode cX6_insert 33 = .ok (.aload_n 0, 1) := by decide +kernel
theorem dX6_insert_34 : decode cX6_insert 34 = .ok (.getfield 12, 3) := by decide +kernel
theorem dX6_insert_37 : decode cX6_insert 37 = .ok (.invokevirtual 71, 3) := by decide +kernel
theorem dX6_insert_40 : decode cX6_insert 40 = .ok (.aload_n 0, 1) := by decide +kernel
theorem dX6_insert_41 : decode cX6_insert 41 = .ok (.getfield 12, 3) := by decide +kernel
theorem dX6_insert_44 : decode cX6_insert 44 = .ok (.iload_n 1, 1) := by decide +kernel
theorem dX6_insert_45 : decode cX6_insert 45 = .ok (.iload_n 2, 1) := by decide +kernel
theorem dX6_insert_46 : decode cX6_insert 46 = .ok (.iload_n 3, 1) := by decide +kernel
theorem dX6_insert_47 : decode cX6_insert 47 = .ok (.iload 4, 2) := by decide +kernel
theorem dX6_insert_49 : decode cX6_insert 49 = .ok (.invokevirtual 74, 3) := by decide +kernel
theorem dX6_insert_52 : decode cX6_insert 52 = .ok (.istore 5, 2) := by decide +kernel
theorem dX6_insert_54 : decode cX6_insert 54 = .ok (.aload_n 0, 1) := by decide +kernel
theorem dX6_insert_55 : decode cX6_insert 55 = .ok (.getfield 21, 3) := by decide +kernel
theorem dX6_insert_58 : decode cX6_insert 58 = .ok (.iload 5, 2) := by decide +kernel
theorem dX6_insert_60 : decode cX6_insert 60 = .ok (.invokevirtual 78, 3) := by decide +kernel
theorem dX6_insert_63 : decode cX6_insert 63 = .ok (.aload_n 0, 1) := by decide +kernel
theorem dX6_insert_64 : decode cX6_insert 64 = .ok (.invokevirtual 60, 3) := by decide +kernel
theorem dX6_insert_67 : decode cX6_insert 67 = .ok (.iload 5, 2) := by decide +kernel
theorem dX6_insert_69 : decode cX6_insert 69 = .ok (.ireturn, 1) := by decide +kernel
theorem dX6_remove_0 : decode cX6_remove 0 = .ok (.aload_n 0, 1) := by decide +kernel
theorem dX6_remove_1 : decode cX6_remove 1 = .ok (.getfield 12, 3) := by decide +kernel
theorem dX6_remove_4 : decode cX6_remove 4 = .ok (.iload_n 1, 1) := by decide +kernel
theorem dX6_remove_5 : decode cX6_remove 5 = .ok (.invokevirtual 82, 3) := by decide +kernel
theorem dX6_remove_8 : decode cX6_remove 8 = .ok (.ifCond .ne 5, 3) := by decide +kernel
theorem dX6_remove_11 : decode cX6_remove 11 = .ok (.iconst (-1), 1) := by decide +kernel
theorem dX6_remove_12 : decode cX6_remove 12 = .ok (.ireturn, 1) := by decide +kernel
theorem dX6_remove_13 : decode cX6_remove 13 = .ok (.aload_n 0, 1) := by decide +kernel
theorem dX6_remove_14 : decode cX6_remove 14 = .ok (.getfield 49, 3) := by decide +kernel
theorem dX6_remove_17 : decode cX6_remove 17 = .ok (.aload_n 0, 1) := by decide +kernel
theorem dX6_remove_18 : decode cX6_remove 18 = .ok (.getfield 12, 3) := by decide +kernel
theorem dX6_remove_21 : decode cX6_remove 21 = .ok (.invokevirtual 71, 3) := by decide +kernel
theorem dX6_remove_24 : decode cX6_remove 24 = .ok (.aload_n 0, 1) := by decide +kernel
theorem dX6_remove_25 : decode cX6_remove 25 = .ok (.getfield 21, 3) := by decide +kernel
theorem dX6_remove_28 : decode cX6_remove 28 = .ok (.iload_n 1, 1) := by decide +kernel
theorem dX6_remove_29 : decode cX6_remove 29 = .ok (.invokevirtual 86, 3) := by decide +kernel
theorem dX6_remove_32 : decode cX6_remove 32 = .ok (.aload_n 0, 1) := by decide +kernel
theorem dX6_remove_33 : decode cX6_remove 33 = .ok (.getfield 21, 3) := by decide +kernel
theorem dX6_remove_36 : decode cX6_remove 36 = .ok (.invokevirtual 89, 3) := by decide +kernel
theorem dX6_remove_39 : decode cX6_remove 39 = .ok (.aload_n 0, 1) := by decide +kernel
theorem dX6_remove_40 : decode cX6_remove 40 = .ok (.invokevirtual 60, 3) := by decide +kernel
theorem dX6_remove_43 : decode cX6_remove 43 = .ok (.aload_n 0, 1) := by decide +kernel
theorem dX6_remove_44 : decode cX6_remove 44 = .ok (.getfield 12, 3) := by decide +kernel
theorem dX6_remove_47 : decode cX6_remove 47 = .ok (.invokevirtual 67, 3) := by decide +kernel
theorem dX6_remove_50 : decode cX6_remove 50 = .ok (.ireturn, 1) := by decide +kernel
theorem dX6_pack_0 : decode cX6_pack 0 = .ok (.aload_n 0, 1) := by decide +kernel
theorem dX6_pack_1 : decode cX6_pack 1 = .ok (.getfield 49, 3) := by decide +kernel
theorem dX6_pack_4 : decode cX6_pack 4 = .ok (.aload_n 0, 1) := by decide +kernel
theorem dX6_pack_5 : decode cX6_pack 5 = .ok (.getfield 12, 3) := by decide +kernel
theorem dX6_pack_8 : decode cX6_pack 8 = .ok (.invokevirtual 71, 3) := by decide +kernel
theorem dX6_pack_11 : decode cX6_pack 11 = .ok (.aload_n 0, 1) := by decide +kernel
theorem dX6_pack_12 : decode cX6_pack 12 = .ok (.getfield 28, 3) := by decide +kernel
theorem dX6_pack_15 : decode cX6_pack 15 = .ok (.invokevirtual 92, 3) := by decide +kernel
theorem dX6_pack_18 : decode cX6_pack 18 = .ok (.aload_n 0, 1) := by decide +kernel
theorem dX6_pack_19 : decode cX6_pack 19 = .ok (.invokevirtual 60, 3) := by decide +kernel
theorem dX6_pack_22 : decode cX6_pack 22 = .ok (.aload_n 0, 1) := by decide +kernel
theorem dX6_pack_23 : decode cX6_pack 23 = .ok (.getfield 35, 3) := by decide +kernel
theorem dX6_pack_26 : decode cX6_pack 26 = .ok (.getfield 95, 3) := by decide +kernel
theorem dX6_pack_29 : decode cX6_pack 29 = .ok (.ireturn, 1) := by decide +kernel
theorem dX6_setSetting_0 : decode cX6_setSetting 0 = .ok (.aload_n 0, 1) := by decide +kernel
theorem dX6_setSetting_1 : decode cX6_setSetting 1 = .ok (.iload_n 1, 1) := by decide +kernel
theorem dX6_setSetting_2 : decode cX6_setSetting 2 = .ok (.invokevirtual 99, 3) := by decide +kernel
theorem dX6_setSetting_5 : decode cX6_setSetting 5 = .ok (.istore_n 3, 1) := by decide +kernel
theorem dX6_setSetting_6 : decode cX6_setSetting 6 = .ok (.iload_n 3, 1) := by decide +kernel
theorem dX6_setSetting_7 : decode cX6_setSetting 7 = .ok (.iconst (-1), 1) := by decide +kernel
theorem dX6_setSetting_8 : decode cX6_setSetting 8 = .ok (.if_icmp .ne 5, 3) := by decide +kernel
theorem dX6_setSetting_11 : decode cX6_setSetting 11 = .ok (.iconst (-1), 1) := by decide +kernel
theorem dX6_setSetting_12 : decode cX6_setSetting 12 = .ok (.ireturn, 1) := by decide +kernel
theorem dX6_setSetting_13 : decode cX6_setSetting 13 = .ok (.iload_n 1, 1) := by decide +kernel
theorem dX6_setSetting_14 : decode cX6_setSetting 14 = .ok (.ifCond .ne 7, 3) := by decide +kernel
theorem dX6_setSetting_17 : decode cX6_setSetting 17 = .ok (.iconst 3, 1) := by decide +kernel
theorem dX6_setSetting_18 : decode cX6_setSetting 18 = .ok (.goto 4, 3) := by decide +kernel
theorem dX6_setSetting_21 : decode cX6_setSetting 21 = .ok (.iconst 0, 1) := by decide +kernel
theorem dX6_setSetting_22 : decode cX6_setSetting 22 = .ok (.istore 4, 2) := by decide +kernel
theorem dX6_setSetting_24 : decode cX6_setSetting 24 = .ok (.iload_n 1, 1) := by decide +kernel
theorem dX6_setSetting_25 : decode cX6_setSetting 25 = .ok (.ifCond .ne 7, 3) := by decide +kernel
theorem dX6_setSetting_28 : decode cX6_setSetting 28 = .ok (.iconst 5, 1) := by decide +kernel
theorem dX6_setSetting_29 : decode cX6_setSetting 29 = .ok (.goto 4, 3) := by decide +kernel
theorem dX6_setSetting_32 : decode cX6_setSetting 32 = .ok (.iconst 1, 1) := by decide +kernel
theorem dX6_setSetting_33 : decode cX6_setSetting 33 = .ok (.istore 5, 2) := by decide +kernel
theorem dX6_setSetting_35 : decode cX6_setSetting 35 = .ok (.iload_n 2, 1) := by decide +kernel
theorem dX6_setSetting_36 : decode cX6_setSetting 36 = .ok (.iload 4, 2) := by decide +kernel
theorem dX6_setSetting_38 : decode cX6_setSetting 38 = .ok (.if_icmp .lt 9, 3) := by decide +kernel
theorem dX6_setSetting_41 : decode cX6_setSetting 41 = .ok (.iload_n 2, 1) := by decide +kernel
theorem dX6_setSetting_42 : decode cX6_setSetting 42 = .ok (.iload 5, 2) := by decide +kernel
theorem dX6_setSetting_44 : decode cX6_setSetting 44 = .ok (.if_icmp .le 6, 3) := by decide +kernel
theorem dX6_setSetting_47 : decode cX6_setSetting 47 = .ok (.bipush (-2), 2) := by decide +kernel
theorem dX6_setSetting_49 : decode cX6_setSetting 49 = .ok (.ireturn, 1) := by decide +kernel
theorem dX6_setSetting_50 : decode cX6_setSetting 50 = .ok (.aload_n 0, 1) := by decide +kernel
theorem dX6_setSetting_51 : decode cX6_setSetting 51 = .ok (.getfield 49, 3) := by decide +kernel
theorem dX6_setSetting_54 : decode cX6_setSetting 54 = .ok (.aload_n 0, 1) := by decide +kernel
theorem dX6_setSetting_55 : decode cX6_setSetting 55 = .ok (.getfield 12, 3) := by decide +kernel
theorem dX6_setSetting_58 : decode cX6_setSetting 58 = .ok (.invokevirtual 71, 3) := by decide +kernel
theorem dX6_setSetting_61 : decode cX6_setSetting 61 = .ok (.iload_n 1, 1) := by decide +kernel
theorem dX6_setSetting_62 : decode cX6_setSetting 62 = .ok (.ifCond .ne 14, 3) := by decide +kernel
theorem dX6_setSetting_65 : decode cX6_setSetting 65 = .ok (.aload_n 0, 1) := by decide +kernel
theorem dX6_setSetting_66 : decode cX6_setSetting 66 = .ok (.getfield 12, 3) := by decide +kernel
theorem dX6_setSetting_69 : decode cX6_setSetting 69 = .ok (.iload_n 2, 1) := by decide +kernel
theorem dX6_setSetting_70 : decode cX6_setSetting 70 = .ok (.putfield 103, 3) := by decide +kernel
theorem dX6_setSetting_73 : decode cX6_setSetting 73 = .ok (.goto 11, 3) := by decide +kernel
theorem dX6_setSetting_76 : decode cX6_setSetting 76 = .ok (.aload_n 0, 1) := by decide +kernel
theorem dX6_setSetting_77 : decode cX6_setSetting 77 = .ok (.getfield 12, 3) := by decide +kernel
theorem dX6_setSetting_80 : decode cX6_setSetting 80 = .ok (.iload_n 2, 1) := by decide +kernel
theorem dX6_setSetting_81 : decode cX6_setSetting 81 = .ok (.putfield 106, 3) := by decide +kernel
theorem dX6_setSetting_84 : decode cX6_setSetting 84 = .ok (.iload_n 3, 1) := by decide +kernel
theorem dX6_setSetting_85 : decode cX6_setSetting 85 = .ok (.ireturn, 1) := by decide +kernel
theorem dX6_append_0 : decode cX6_append 0 = .ok (.iload_n 1, 1) := by decide +kernel
theorem dX6_append_1 : decode cX6_append 1 = .ok (.bipush 32, 2) := by decide +kernel
theorem dX6_append_3 : decode cX6_append 3 = .ok (.if_icmp .lt 9, 3) := by decide +kernel
theorem dX6_append_6 : decode cX6_append 6 = .ok (.iload_n 1, 1) := by decide +kernel
theorem dX6_append_7 : decode cX6_append 7 = .ok (.bipush 126, 2) := by decide +kernel
theorem dX6_append_9 : decode cX6_append 9 = .ok (.if_icmp .le 6, 3) := by decide +kernel
theorem dX6_append_12 : decode cX6_append 12 = .ok (.bipush (-2), 2) := by decide +kernel
theorem dX6_append_14 : decode cX6_append 14 = .ok (.ireturn, 1) := by decide +kernel
theorem dX6_append_15 : decode cX6_append 15 = .ok (.aload_n 0, 1) := by decide +kernel
theorem dX6_append_16 : decode cX6_append 16 = .ok (.getfield 42, 3) := by decide +kernel
theorem dX6_append_19 : decode cX6_append 19 = .ok (.invokevirtual 109, 3) := by decide +kernel
theorem dX6_append_22 : decode cX6_append 22 = .ok (.ifCond .eq 6, 3) := by decide +kernel
theorem dX6_append_25 : decode cX6_append 25 = .ok (.bipush (-3), 2) := by decide +kernel
theorem dX6_append_27 : decode cX6_append 27 = .ok (.ireturn, 1) := by decide +kernel
theorem dX6_append_28 : decode cX6_append 28 = .ok (.aload_n 0, 1) := by decide +kernel
theorem dX6_append_29 : decode cX6_append 29 = .ok (.getfield 42, 3) := by decide +kernel
theorem dX6_append_32 : decode cX6_append 32 = .ok (.iload_n 1, 1) := by decide +kernel
theorem dX6_append_33 : decode cX6_append 33 = .ok (.invokevirtual 113, 3) := by decide +kernel
theorem dX6_append_36 : decode cX6_append 36 = .ok (.ireturn, 1) := by decide +kernel
theorem dX6_clearText_0 : decode cX6_clearText 0 = .ok (.aload_n 0, 1) := by decide +kernel
theorem dX6_clearText_1 : decode cX6_clearText 1 = .ok (.getfield 42, 3) := by decide +kernel
theorem dX6_clearText_4 : decode cX6_clearText 4 = .ok (.invokevirtual 116, 3) := by decide +kernel
theorem dX6_clearText_7 : decode cX6_clearText 7 = .ok (.ireturn, 1) := by decide +kernel
theorem dX6_fault_0 : decode cX6_fault 0 = .ok (.aload_n 0, 1) := by decide +kernel
theorem dX6_fault_1 : decode cX6_fault 1 = .ok (.getfield 42, 3) := by decide +kernel
theorem dX6_fault_4 : decode cX6_fault 4 = .ok (.invokevirtual 119, 3) := by decide +kernel
theorem dX6_fault_7 : decode cX6_fault 7 = .ok (.ireturn, 1) := by decide +kernel
theorem dX6_read_0 : decode cX6_read 0 = .ok (.aload_n 0, 1) := by decide +kernel
theorem dX6_read_1 : decode cX6_read 1 = .ok (.getfield 42, 3) := by decide +kernel
theorem dX6_read_4 : decode cX6_read 4 = .ok (.invokevirtual 119, 3) := by decide +kernel
theorem dX6_read_7 : decode cX6_read 7 = .ok (.istore_n 1, 1) := by decide +kernel
theorem dX6_read_8 : decode cX6_read 8 = .ok (.iload_n 1, 1) := by decide +kernel
theorem dX6_read_9 : decode cX6_read 9 = .ok (.bipush (-5), 2) := by decide +kernel
theorem dX6_read_11 : decode cX6_read 11 = .ok (.if_icmp .eq 8, 3) := by decide +kernel
theorem dX6_read_14 : decode cX6_read 14 = .ok (.bipush (-100), 2) := by decide +kernel
theorem dX6_read_16 : decode cX6_read 16 = .ok (.iload_n 1, 1) := by decide +kernel
theorem dX6_read_17 : decode cX6_read 17 = .ok (.isub, 1) := by decide +kernel
theorem dX6_read_18 : decode cX6_read 18 = .ok (.ireturn, 1) := by decide +kernel
theorem dX6_read_19 : decode cX6_read 19 = .ok (.aload_n 0, 1) := by decide +kernel
theorem dX6_read_20 : decode cX6_read 20 = .ok (.getfield 42, 3) := by decide +kernel
theorem dX6_read_23 : decode cX6_read 23 = .ok (.getfield 122, 3) := by decide +kernel
theorem dX6_read_26 : decode cX6_read 26 = .ok (.istore_n 2, 1) := by decide +kernel
theorem dX6_read_27 : decode cX6_read 27 = .ok (.aload_n 0, 1) := by decide +kernel
theorem dX6_read_28 : decode cX6_read 28 = .ok (.getfield 12, 3) := by decide +kernel
theorem dX6_read_31 : decode cX6_read 31 = .ok (.invokevirtual 67, 3) := by decide +kernel
theorem dX6_read_34 : decode cX6_read 34 = .ok (.iload_n 2, 1) := by decide +kernel
theorem dX6_read_35 : decode cX6_read 35 = .ok (.iadd, 1) := by decide +kernel
theorem dX6_read_36 : decode cX6_read 36 = .ok (.bipush 24, 2) := by decide +kernel
theorem dX6_read_38 : decode cX6_read 38 = .ok (.if_icmp .le 6, 3) := by decide +kernel
theorem dX6_read_41 : decode cX6_read 41 = .ok (.bipush (-3), 2) := by decide +kernel
theorem dX6_read_43 : decode cX6_read 43 = .ok (.ireturn, 1) := by decide +kernel
theorem dX6_read_44 : decode cX6_read 44 = .ok (.aload_n 0, 1) := by decide +kernel
theorem dX6_read_45 : decode cX6_read 45 = .ok (.getfield 49, 3) := by decide +kernel
theorem dX6_read_48 : decode cX6_read 48 = .ok (.aload_n 0, 1) := by decide +kernel
theorem dX6_read_49 : decode cX6_read 49 = .ok (.getfield 12, 3) := by decide +kernel
theorem dX6_read_52 : decode cX6_read 52 = .ok (.invokevirtual 71, 3) := by decide +kernel
theorem dX6_read_55 : decode cX6_read 55 = .ok (.iconst 0, 1) := by decide +kernel
theorem dX6_read_56 : decode cX6_read 56 = .ok (.istore_n 3, 1) := by decide +kernel
theorem dX6_read_57 : decode cX6_read 57 = .ok (.iload_n 3, 1) := by decide +kernel
theorem dX6_read_58 : decode cX6_read 58 = .ok (.iload_n 2, 1) := by decide +kernel
theorem dX6_read_59 : decode cX6_read 59 = .ok (.if_icmp .ge 63, 3) := by decide +kernel
theorem dX6_read_62 : decode cX6_read 62 = .ok (.aload_n 0, 1) := by decide +kernel
theorem dX6_read_63 : decode cX6_read 63 = .ok (.getfield 12, 3) := by decide +kernel
theorem dX6_read_66 : decode cX6_read 66 = .ok (.aload_n 0, 1) := by decide +kernel
theorem dX6_read_67 : decode cX6_read 67 = .ok (.getfield 42, 3) := by decide +kernel
theorem dX6_read_70 : decode cX6_read 70 = .ok (.iload_n 3, 1) := by decide +kernel
theorem dX6_read_71 : decode cX6_read 71 = .ok (.iconst 0, 1) := by decide +kernel
theorem dX6_read_72 : decode cX6_read 72 = .ok (.invokevirtual 125, 3) := by decide +kernel
theorem dX6_read_75 : decode cX6_read 75 = .ok (.aload_n 0, 1) := by decide +kernel
theorem dX6_read_76 : decode cX6_read 76 = .ok (.getfield 42, 3) := by decide +kernel
theorem dX6_read_79 : decode cX6_read 79 = .ok (.iload_n 3, 1) := by decide +kernel
theorem dX6_read_80 : decode cX6_read 80 = .ok (.iconst 1, 1) := by decide +kernel
theorem dX6_read_81 : decode cX6_read 81 = .ok (.invokevirtual 125, 3) := by decide +kernel
theorem dX6_read_84 : decode cX6_read 84 = .ok (.aload_n 0, 1) := by decide +kernel
theorem dX6_read_85 : decode cX6_read 85 = .ok (.getfield 42, 3) := by decide +kernel
theorem dX6_read_88 : decode cX6_read 88 = .ok (.iload_n 3, 1) := by decide +kernel
theorem dX6_read_89 : decode cX6_read 89 = .ok (.iconst 2, 1) := by decide +kernel
theorem dX6_read_90 : decode cX6_read 90 = .ok (.invokevirtual 125, 3) := by decide +kernel
theorem dX6_read_93 : decode cX6_read 93 = .ok (.aload_n 0, 1) := by decide +kernel
theorem dX6_read_94 : decode cX6_read 94 = .ok (.getfield 42, 3) := by decide +kernel
theorem dX6_read_97 : decode cX6_read 97 = .ok (.iload_n 3, 1) := by decide +kernel
theorem dX6_read_98 : decode cX6_read 98 = .ok (.iconst 3, 1) := by decide +kernel
theorem dX6_read_99 : decode cX6_read 99 = .ok (.invokevirtual 125, 3) := by decide +kernel
theorem dX6_read_102 : decode cX6_read 102 = .ok (.invokevirtual 74, 3) := by decide +kernel
theorem dX6_read_105 : decode cX6_read 105 = .ok (.istore 4, 2) := by decide +kernel
theorem dX6_read_107 : decode cX6_read 107 = .ok (.aload_n 0, 1) := by decide +kernel
theorem dX6_read_108 : decode cX6_read 108 = .ok (.getfield 21, 3) := by decide +kernel
theorem dX6_read_111 : decode cX6_read 111 = .ok (.iload 4, 2) := by decide +kernel
theorem dX6_read_113 : decode cX6_read 113 = .ok (.invokevirtual 78, 3) := by decide +kernel
theorem dX6_read_116 : decode cX6_read 116 = .ok (.iinc 3 1, 3) := by decide +kernel
theorem dX6_read_119 : decode cX6_read 119 = .ok (.goto (-62), 3) := by decide +kernel
theorem dX6_read_122 : decode cX6_read 122 = .ok (.aload_n 0, 1) := by decide +kernel
theorem dX6_read_123 : decode cX6_read 123 = .ok (.invokevirtual 60, 3) := by decide +kernel
theorem dX6_read_126 : decode cX6_read 126 = .ok (.iload_n 2, 1) := by decide +kernel
theorem dX6_read_127 : decode cX6_read 127 = .ok (.ireturn, 1) := by decide +kernel
theorem dX6_boxes_0 : decode cX6_boxes 0 = .ok (.iconst 0, 1) := by decide +kernel
theorem dX6_boxes_1 : decode cX6_boxes 1 = .ok (.istore_n 1, 1) := by decide +kernel
theorem dX6_boxes_2 : decode cX6_boxes 2 = .ok (.iconst 0, 1) := by decide +kernel
theorem dX6_boxes_3 : decode cX6_boxes 3 = .ok (.istore_n 2, 1) := by decide +kernel
theorem dX6_boxes_4 : decode cX6_boxes 4 = .ok (.iload_n 2, 1) := by decide +kernel
theorem dX6_boxes_5 : decode cX6_boxes 5 = .ok (.bipush 24, 2) := by decide +kernel
theorem dX6_boxes_7 : decode cX6_boxes 7 = .ok (.if_icmp .ge 26, 3) := by decide +kernel
theorem dX6_boxes_10 : decode cX6_boxes 10 = .ok (.aload_n 0, 1) := by decide +kernel
theorem dX6_boxes_11 : decode cX6_boxes 11 = .ok (.getfield 12, 3) := by decide +kernel
theorem dX6_boxes_14 : decode cX6_boxes 14 = .ok (.iload_n 2, 1) := by decide +kernel
theorem dX6_boxes_15 : decode cX6_boxes 15 = .ok (.invokevirtual 82, 3) := by decide +kernel
theorem dX6_boxes_18 : decode cX6_boxes 18 = .ok (.ifCond .eq 9, 3) := by decide +kernel
theorem dX6_boxes_21 : decode cX6_boxes 21 = .ok (.iload_n 1, 1) := by decide +kernel
theorem dX6_boxes_22 : decode cX6_boxes 22 = .ok (.iconst 1, 1) := by decide +kernel
theorem dX6_boxes_23 : decode cX6_boxes 23 = .ok (.iload_n 2, 1) := by decide +kernel
theorem dX6_boxes_24 : decode cX6_boxes 24 = .ok (.ishl, 1) := by decide +kernel
theorem dX6_boxes_25 : decode cX6_boxes 25 = .ok (.ior, 1) := by decide +kernel
theorem dX6_boxes_26 : decode cX6_boxes 26 = .ok (.istore_n 1, 1) := by decide +kernel
theorem dX6_boxes_27 : decode cX6_boxes 27 = .ok (.iinc 2 1, 3) := by decide +kernel
theorem dX6_boxes_30 : decode cX6_boxes 30 = .ok (.goto (-26), 3) := by decide +kernel
theorem dX6_boxes_33 : decode cX6_boxes 33 = .ok (.iload_n 1, 1) := by decide +kernel
theorem dX6_boxes_34 : decode cX6_boxes 34 = .ok (.ireturn, 1) := by decide +kernel
theorem dX6_side_0 : decode cX6_side 0 = .ok (.aload_n 0, 1) := by decide +kernel
theorem dX6_side_1 : decode cX6_side 1 = .ok (.getfield 12, 3) := by decide +kernel
theorem dX6_side_4 : decode cX6_side 4 = .ok (.iload_n 1, 1) := by decide +kernel
theorem dX6_side_5 : decode cX6_side 5 = .ok (.invokevirtual 82, 3) := by decide +kernel
theorem dX6_side_8 : decode cX6_side 8 = .ok (.ifCond .ne 5, 3) := by decide +kernel
theorem dX6_side_11 : decode cX6_side 11 = .ok (.iconst (-1), 1) := by decide +kernel
theorem dX6_side_12 : decode cX6_side 12 = .ok (.ireturn, 1) := by decide +kernel
theorem dX6_side_13 : decode cX6_side 13 = .ok (.iload_n 2, 1) := by decide +kernel
theorem dX6_side_14 : decode cX6_side 14 = .ok (.ifCond .lt 8, 3) := by decide +kernel
theorem dX6_side_17 : decode cX6_side 17 = .ok (.iload_n 2, 1) := by decide +kernel
theorem dX6_side_18 : decode cX6_side 18 = .ok (.iconst 4, 1) := by decide +kernel
theorem dX6_side_19 : decode cX6_side 19 = .ok (.if_icmp .lt 6, 3) := by decide +kernel
theorem dX6_side_22 : decode cX6_side 22 = .ok (.bipush (-2), 2) := by decide +kernel
theorem dX6_side_24 : decode cX6_side 24 = .ok (.ireturn, 1) := by decide +kernel
theorem dX6_side_25 : decode cX6_side 25 = .ok (.aload_n 0, 1) := by decide +kernel
theorem dX6_side_26 : decode cX6_side 26 = .ok (.getfield 12, 3) := by decide +kernel
theorem dX6_side_29 : decode cX6_side 29 = .ok (.iload_n 1, 1) := by decide +kernel
theorem dX6_side_30 : decode cX6_side 30 = .ok (.iload_n 2, 1) := by decide +kernel
theorem dX6_side_31 : decode cX6_side 31 = .ok (.invokevirtual 136, 3) := by decide +kernel
theorem dX6_side_34 : decode cX6_side 34 = .ok (.ireturn, 1) := by decide +kernel
theorem dX6_nodes_0 : decode cX6_nodes 0 = .ok (.aload_n 0, 1) := by decide +kernel
theorem dX6_nodes_1 : decode cX6_nodes 1 = .ok (.getfield 35, 3) := by decide +kernel
theorem dX6_nodes_4 : decode cX6_nodes 4 = .ok (.getfield 95, 3) := by decide +kernel
theorem dX6_nodes_7 : decode cX6_nodes 7 = .ok (.ireturn, 1) := by decide +kernel
theorem dX6_height_0 : decode cX6_height 0 = .ok (.aload_n 0, 1) := by decide +kernel
theorem dX6_height_1 : decode cX6_height 1 = .ok (.getfield 12, 3) := by decide +kernel
theorem dX6_height_4 : decode cX6_height 4 = .ok (.aload_n 0, 1) := by decide +kernel
theorem dX6_height_5 : decode cX6_height 5 = .ok (.getfield 12, 3) := by decide +kernel
theorem dX6_height_8 : decode cX6_height 8 = .ok (.getfield 139, 3) := by decide +kernel
theorem dX6_height_11 : decode cX6_height 11 = .ok (.invokevirtual 142, 3) := by decide +kernel
theorem dX6_height_14 : decode cX6_height 14 = .ok (.ireturn, 1) := by decide +kernel
theorem dX6_level_0 : decode cX6_level 0 = .ok (.aload_n 0, 1) := by decide +kernel
theorem dX6_level_1 : decode cX6_level 1 = .ok (.iload_n 1, 1) := by decide +kernel
theorem dX6_level_2 : decode cX6_level 2 = .ok (.invokevirtual 145, 3) := by decide +kernel
theorem dX6_level_5 : decode cX6_level 5 = .ok (.ifCond .eq 18, 3) := by decide +kernel
theorem dX6_level_8 : decode cX6_level 8 = .ok (.aload_n 0, 1) := by decide +kernel
theorem dX6_level_9 : decode cX6_level 9 = .ok (.getfield 12, 3) := by decide +kernel
theorem dX6_level_12 : decode cX6_level 12 = .ok (.aload_n 0, 1) := by decide +kernel
theorem dX6_level_13 : decode cX6_level 13 = .ok (.iload_n 1, 1) := by decide +kernel
theorem dX6_level_14 : decode cX6_level 14 = .ok (.invokevirtual 148, 3) := by decide +kernel
theorem dX6_level_17 : decode cX6_level 17 = .ok (.invokevirtual 142, 3) := by decide +kernel
theorem dX6_level_20 : decode cX6_level 20 = .ok (.goto 4, 3) := by decide +kernel
theorem dX6_level_23 : decode cX6_level 23 = .ok (.iconst (-1), 1) := by decide +kernel
theorem dX6_level_24 : decode cX6_level 24 = .ok (.ireturn, 1) := by decide +kernel
theorem dX6_entries_0 : decode cX6_entries 0 = .ok (.aload_n 0, 1) := by decide +kernel
theorem dX6_entries_1 : decode cX6_entries 1 = .ok (.iload_n 1, 1) := by decide +kernel
theorem dX6_entries_2 : decode cX6_entries 2 = .ok (.invokevirtual 145, 3) := by decide +kernel
theorem dX6_entries_5 : decode cX6_entries 5 = .ok (.ifCond .eq 18, 3) := by decide +kernel
theorem dX6_entries_8 : decode cX6_entries 8 = .ok (.aload_n 0, 1) := by decide +kernel
theorem dX6_entries_9 : decode cX6_entries 9 = .ok (.getfield 12, 3) := by decide +kernel
theorem dX6_entries_12 : decode cX6_entries 12 = .ok (.aload_n 0, 1) := by decide +kernel
theorem dX6_entries_13 : decode cX6_entries 13 = .ok (.iload_n 1, 1) := by decide +kernel
theorem dX6_entries_14 : decode cX6_entries 14 = .ok (.invokevirtual 148, 3) := by decide +kernel
theorem dX6_entries_17 : decode cX6_entries 17 = .ok (.invokevirtual 151, 3) := by decide +kernel
theorem dX6_entries_20 : decode cX6_entries 20 = .ok (.goto 4, 3) := by decide +kernel
theorem dX6_entries_23 : decode cX6_entries 23 = .ok (.iconst (-1), 1) := by decide +kernel
theorem dX6_entries_24 : decode cX6_entries 24 = .ok (.ireturn, 1) := by decide +kernel
theorem dX6_entry_0 : decode cX6_entry 0 = .ok (.aload_n 0, 1) := by decide +kernel
theorem dX6_entry_1 : decode cX6_entry 1 = .ok (.iload_n 1, 1) := by decide +kernel
theorem dX6_entry_2 : decode cX6_entry 2 = .ok (.invokevirtual 145, 3) := by decide +kernel
theorem dX6_entry_5 : decode cX6_entry 5 = .ok (.ifCond .ne 5, 3) := by decide +kernel
theorem dX6_entry_8 : decode cX6_entry 8 = .ok (.iconst (-1), 1) := by decide +kernel
theorem dX6_entry_9 : decode cX6_entry 9 = .ok (.ireturn, 1) := by decide +kernel
theorem dX6_entry_10 : decode cX6_entry 10 = .ok (.aload_n 0, 1) := by decide +kernel
theorem dX6_entry_11 : decode cX6_entry 11 = .ok (.iload_n 1, 1) := by decide +kernel
theorem dX6_entry_12 : decode cX6_entry 12 = .ok (.invokevirtual 148, 3) := by decide +kernel
theorem dX6_entry_15 : decode cX6_entry 15 = .ok (.istore_n 3, 1) := by decide +kernel
theorem dX6_entry_16 : decode cX6_entry 16 = .ok (.iload_n 2, 1) := by decide +kernel
theorem dX6_entry_17 : decode cX6_entry 17 = .ok (.ifCond .lt 15, 3) := by decide +kernel
theorem dX6_entry_20 : decode cX6_entry 20 = .ok (.iload_n 2, 1) := by decide +kernel
theorem dX6_entry_21 : decode cX6_entry 21 = .ok (.aload_n 0, 1) := by decide +kernel
theorem dX6_entry_22 : decode cX6_entry 22 = .ok (.getfield 12, 3) := by decide +kernel
theorem dX6_entry_25 : decode cX6_entry 25 = .ok (.iload_n 3, 1) := by decide +kernel
theorem dX6_entry_26 : decode cX6_entry 26 = .ok (.invokevirtual 151, 3) := by decide +kernel
theorem dX6_entry_29 : decode cX6_entry 29 = .ok (.if_icmp .lt 5, 3) := by decide +kernel
theorem dX6_entry_32 : decode cX6_entry 32 = .ok (.iconst (-1), 1) := by decide +kernel
theorem dX6_entry_33 : decode cX6_entry 33 = .ok (.ireturn, 1) := by decide +kernel
theorem dX6_entry_34 : decode cX6_entry 34 = .ok (.aload_n 0, 1) := by decide +kernel
theorem dX6_entry_35 : decode cX6_entry 35 = .ok (.getfield 12, 3) := by decide +kernel
theorem dX6_entry_38 : decode cX6_entry 38 = .ok (.iload_n 3, 1) := by decide +kernel
theorem dX6_entry_39 : decode cX6_entry 39 = .ok (.iload_n 2, 1) := by decide +kernel
theorem dX6_entry_40 : decode cX6_entry 40 = .ok (.invokevirtual 154, 3) := by decide +kernel
theorem dX6_entry_43 : decode cX6_entry 43 = .ok (.istore 4, 2) := by decide +kernel
theorem dX6_entry_45 : decode cX6_entry 45 = .ok (.iload 4, 2) := by decide +kernel
theorem dX6_entry_47 : decode cX6_entry 47 = .ok (.bipush 24, 2) := by decide +kernel
theorem dX6_entry_49 : decode cX6_entry 49 = .ok (.if_icmp .ge 8, 3) := by decide +kernel
theorem dX6_entry_52 : decode cX6_entry 52 = .ok (.iload 4, 2) := by decide +kernel
theorem dX6_entry_54 : decode cX6_entry 54 = .ok (.goto 12, 3) := by decide +kernel
theorem dX6_entry_57 : decode cX6_entry 57 = .ok (.aload_n 0, 1) := by decide +kernel
theorem dX6_entry_58 : decode cX6_entry 58 = .ok (.getfield 35, 3) := by decide +kernel
theorem dX6_entry_61 : decode cX6_entry 61 = .ok (.iload 4, 2) := by decide +kernel
theorem dX6_entry_63 : decode cX6_entry 63 = .ok (.invokevirtual 157, 3) := by decide +kernel
theorem dX6_entry_66 : decode cX6_entry 66 = .ok (.ireturn, 1) := by decide +kernel
theorem dX6_bound_0 : decode cX6_bound 0 = .ok (.aload_n 0, 1) := by decide +kernel
theorem dX6_bound_1 : decode cX6_bound 1 = .ok (.iload_n 1, 1) := by decide +kernel
theorem dX6_bound_2 : decode cX6_bound 2 = .ok (.invokevirtual 145, 3) := by decide +kernel
theorem dX6_bound_5 : decode cX6_bound 5 = .ok (.ifCond .ne 5, 3) := by decide +kernel
theorem dX6_bound_8 : decode cX6_bound 8 = .ok (.iconst (-1), 1) := by decide +kernel
theorem dX6_bound_9 : decode cX6_bound 9 = .ok (.ireturn, 1) := by decide +kernel
theorem dX6_bound_10 : decode cX6_bound 10 = .ok (.iload_n 2, 1) := by decide +kernel
theorem dX6_bound_11 : decode cX6_bound 11 = .ok (.ifCond .lt 8, 3) := by decide +kernel
theorem dX6_bound_14 : decode cX6_bound 14 = .ok (.iload_n 2, 1) := by decide +kernel
theorem dX6_bound_15 : decode cX6_bound 15 = .ok (.iconst 4, 1) := by decide +kernel
theorem dX6_bound_16 : decode cX6_bound 16 = .ok (.if_icmp .lt 6, 3) := by decide +kernel
theorem dX6_bound_19 : decode cX6_bound 19 = .ok (.bipush (-2), 2) := by decide +kernel
theorem dX6_bound_21 : decode cX6_bound 21 = .ok (.ireturn, 1) := by decide +kernel
theorem dX6_bound_22 : decode cX6_bound 22 = .ok (.aload_n 0, 1) := by decide +kernel
theorem dX6_bound_23 : decode cX6_bound 23 = .ok (.iload_n 1, 1) := by decide +kernel
theorem dX6_bound_24 : decode cX6_bound 24 = .ok (.invokevirtual 148, 3) := by decide +kernel
theorem dX6_bound_27 : decode cX6_bound 27 = .ok (.istore_n 3, 1) := by decide +kernel
theorem dX6_bound_28 : decode cX6_bound 28 = .ok (.aload_n 0, 1) := by decide +kernel
theorem dX6_bound_29 : decode cX6_bound 29 = .ok (.getfield 12, 3) := by decide +kernel
theorem dX6_bound_32 : decode cX6_bound 32 = .ok (.iload_n 3, 1) := by decide +kernel
theorem dX6_bound_33 : decode cX6_bound 33 = .ok (.invokevirtual 151, 3) := by decide +kernel
theorem dX6_bound_36 : decode cX6_bound 36 = .ok (.ifCond .ne 8, 3) := by decide +kernel
theorem dX6_bound_39 : decode cX6_bound 39 = .ok (.bipush (-5), 2) := by decide +kernel
theorem dX6_bound_41 : decode cX6_bound 41 = .ok (.goto 12, 3) := by decide +kernel
theorem dX6_bound_44 : decode cX6_bound 44 = .ok (.aload_n 0, 1) := by decide +kernel
theorem dX6_bound_45 : decode cX6_bound 45 = .ok (.getfield 12, 3) := by decide +kernel
theorem dX6_bound_48 : decode cX6_bound 48 = .ok (.iload_n 3, 1) := by decide +kernel
theorem dX6_bound_49 : decode cX6_bound 49 = .ok (.iload_n 2, 1) := by decide +kernel
theorem dX6_bound_50 : decode cX6_bound 50 = .ok (.invokevirtual 136, 3) := by decide +kernel
theorem dX6_bound_53 : decode cX6_bound 53 = .ok (.ireturn, 1) := by decide +kernel
theorem dX6_leafOf_0 : decode cX6_leafOf 0 = .ok (.aload_n 0, 1) := by decide +kernel
theorem dX6_leafOf_1 : decode cX6_leafOf 1 = .ok (.getfield 12, 3) := by decide +kernel
theorem dX6_leafOf_4 : decode cX6_leafOf 4 = .ok (.iload_n 1, 1) := by decide +kernel
theorem dX6_leafOf_5 : decode cX6_leafOf 5 = .ok (.invokevirtual 82, 3) := by decide +kernel
theorem dX6_leafOf_8 : decode cX6_leafOf 8 = .ok (.ifCond .eq 21, 3) := by decide +kernel
theorem dX6_leafOf_11 : decode cX6_leafOf 11 = .ok (.aload_n 0, 1) := by decide +kernel
theorem dX6_leafOf_12 : decode cX6_leafOf 12 = .ok (.getfield 35, 3) := by decide +kernel
theorem dX6_leafOf_15 : decode cX6_leafOf 15 = .ok (.aload_n 0, 1) := by decide +kernel
theorem dX6_leafOf_16 : decode cX6_leafOf 16 = .ok (.getfield 12, 3) := by decide +kernel
theorem dX6_leafOf_19 : decode cX6_leafOf 19 = .ok (.iload_n 1, 1) := by decide +kernel
theorem dX6_leafOf_20 : decode cX6_leafOf 20 = .ok (.invokevirtual 160, 3) := by decide +kernel
theorem dX6_leafOf_23 : decode cX6_leafOf 23 = .ok (.invokevirtual 157, 3) := by decide +kernel
theorem dX6_leafOf_26 : decode cX6_leafOf 26 = .ok (.goto 4, 3) := by decide +kernel
theorem dX6_leafOf_29 : decode cX6_leafOf 29 = .ok (.iconst (-1), 1) := by decide +kernel
theorem dX6_leafOf_30 : decode cX6_leafOf 30 = .ok (.ireturn, 1) := by decide +kernel
theorem dX6_setting_0 : decode cX6_setting 0 = .ok (.iload_n 1, 1) := by decide +kernel
theorem dX6_setting_1 : decode cX6_setting 1 = .ok (.ifCond .ne 11, 3) := by decide +kernel
theorem dX6_setting_4 : decode cX6_setting 4 = .ok (.aload_n 0, 1) := by decide +kernel
theorem dX6_setting_5 : decode cX6_setting 5 = .ok (.getfield 12, 3) := by decide +kernel
theorem dX6_setting_8 : decode cX6_setting 8 = .ok (.getfield 103, 3) := by decide +kernel
theorem dX6_setting_11 : decode cX6_setting 11 = .ok (.ireturn, 1) := by decide +kernel
theorem dX6_setting_12 : decode cX6_setting 12 = .ok (.iload_n 1, 1) := by decide +kernel
theorem dX6_setting_13 : decode cX6_setting 13 = .ok (.iconst 1, 1) := by decide +kernel
theorem dX6_setting_14 : decode cX6_setting 14 = .ok (.if_icmp .ne 13, 3) := by decide +kernel
theorem dX6_setting_17 : decode cX6_setting 17 = .ok (.aload_n 0, 1) := by decide +kernel
theorem dX6_setting_18 : decode cX6_setting 18 = .ok (.getfield 12, 3) := by decide +kernel
theorem dX6_setting_21 : decode cX6_setting 21 = .ok (.getfield 106, 3) := by decide +kernel
theorem dX6_setting_24 : decode cX6_setting 24 = .ok (.goto 4, 3) := by decide +kernel
theorem dX6_setting_27 : decode cX6_setting 27 = .ok (.iconst (-1), 1) := by decide +kernel
theorem dX6_setting_28 : decode cX6_setting 28 = .ok (.ireturn, 1) := by decide +kernel
theorem dX6_splits_0 : decode cX6_splits 0 = .ok (.aload_n 0, 1) := by decide +kernel
theorem dX6_splits_1 : decode cX6_splits 1 = .ok (.getfield 12, 3) := by decide +kernel
theorem dX6_splits_4 : decode cX6_splits 4 = .ok (.getfield 163, 3) := by decide +kernel
theorem dX6_splits_7 : decode cX6_splits 7 = .ok (.ireturn, 1) := by decide +kernel
theorem dX6_reinsertions_0 : decode cX6_reinsertions 0 = .ok (.aload_n 0, 1) := by decide +kernel
theorem dX6_reinsertions_1 : decode cX6_reinsertions 1 = .ok (.getfield 12, 3) := by decide +kernel
theorem dX6_reinsertions_4 : decode cX6_reinsertions 4 = .ok (.getfield 166, 3) := by decide +kernel
theorem dX6_reinsertions_7 : decode cX6_reinsertions 7 = .ok (.ireturn, 1) := by decide +kernel
theorem dX6_meeting_0 : decode cX6_meeting 0 = .ok (.iload_n 1, 1) := by decide +kernel
theorem dX6_meeting_1 : decode cX6_meeting 1 = .ok (.iload_n 2, 1) := by decide +kernel
theorem dX6_meeting_2 : decode cX6_meeting 2 = .ok (.iload_n 3, 1) := by decide +kernel
theorem dX6_meeting_3 : decode cX6_meeting 3 = .ok (.iload 4, 2) := by decide +kernel
theorem dX6_meeting_5 : decode cX6_meeting 5 = .ok (.invokestatic 63, 3) := by decide +kernel
theorem dX6_meeting_8 : decode cX6_meeting 8 = .ok (.ifCond .ne 6, 3) := by decide +kernel
theorem dX6_meeting_11 : decode cX6_meeting 11 = .ok (.bipush (-2), 2) := by decide +kernel
theorem dX6_meeting_13 : decode cX6_meeting 13 = .ok (.ireturn, 1) := by decide +kernel
theorem dX6_meeting_14 : decode cX6_meeting 14 = .ok (.iconst 0, 1) := by decide +kernel
theorem dX6_meeting_15 : decode cX6_meeting 15 = .ok (.istore 5, 2) := by decide +kernel
theorem dX6_meeting_17 : decode cX6_meeting 17 = .ok (.iconst 0, 1) := by decide +kernel
theorem dX6_meeting_18 : decode cX6_meeting 18 = .ok (.istore 6, 2) := by decide +kernel
theorem dX6_meeting_20 : decode cX6_meeting 20 = .ok (.iload 6, 2) := by decide +kernel
theorem dX6_meeting_22 : decode cX6_meeting 22 = .ok (.bipush 24, 2) := by decide +kernel
theorem dX6_meeting_24 : decode cX6_meeting 24 = .ok (.if_icmp .ge 41, 3) := by decide +kernel
theorem dX6_meeting_27 : decode cX6_meeting 27 = .ok (.aload_n 0, 1) := by decide +kernel
theorem dX6_meeting_28 : decode cX6_meeting 28 = .ok (.getfield 12, 3) := by decide +kernel
theorem dX6_meeting_31 : decode cX6_meeting 31 = .ok (.iload 6, 2) := by decide +kernel
theorem dX6_meeting_33 : decode cX6_meeting 33 = .ok (.invokevirtual 82, 3) := by decide +kernel
theorem dX6_meeting_36 : decode cX6_meeting 36 = .ok (.ifCond .eq 23, 3) := by decide +kernel
theorem dX6_meeting_39 : decode cX6_meeting 39 = .ok (.aload_n 0, 1) := by decide +kernel
theorem dX6_meeting_40 : decode cX6_meeting 40 = .ok (.getfield 12, 3) := by decide +kernel
theorem dX6_meeting_43 : decode cX6_meeting 43 = .ok (.iload 6, 2) := by decide +kernel
theorem dX6_meeting_45 : decode cX6_meeting 45 = .ok (.iload_n 1, 1) := by decide +kernel
theorem dX6_meeting_46 : decode cX6_meeting 46 = .ok (.iload_n 2, 1) := by decide +kernel
theorem dX6_meeting_47 : decode cX6_meeting 47 = .ok (.iload_n 3, 1) := by decide +kernel
theorem dX6_meeting_48 : decode cX6_meeting 48 = .ok (.iload 4, 2) := by decide +kernel
theorem dX6_meeting_50 : decode cX6_meeting 50 = .ok (.invokevirtual 169, 3) := by decide +kernel
theorem dX6_meeting_53 : decode cX6_meeting 53 = .ok (.ifCond .eq 6, 3) := by decide +kernel
theorem dX6_meeting_56 : decode cX6_meeting 56 = .ok (.iinc 5 1, 3) := by decide +kernel
theorem dX6_meeting_59 : decode cX6_meeting 59 = .ok (.iinc 6 1, 3) := by decide +kernel
theorem dX6_meeting_62 : decode cX6_meeting 62 = .ok (.goto (-42), 3) := by decide +kernel
theorem dX6_meeting_65 : decode cX6_meeting 65 = .ok (.iload 5, 2) := by decide +kernel
theorem dX6_meeting_67 : decode cX6_meeting 67 = .ok (.ireturn, 1) := by decide +kernel
theorem dX6_inside_0 : decode cX6_inside 0 = .ok (.iload_n 1, 1) := by decide +kernel
theorem dX6_inside_1 : decode cX6_inside 1 = .ok (.iload_n 2, 1) := by decide +kernel
theorem dX6_inside_2 : decode cX6_inside 2 = .ok (.iload_n 3, 1) := by decide +kernel
theorem dX6_inside_3 : decode cX6_inside 3 = .ok (.iload 4, 2) := by decide +kernel
theorem dX6_inside_5 : decode cX6_inside 5 = .ok (.invokestatic 63, 3) := by decide +kernel
theorem dX6_inside_8 : decode cX6_inside 8 = .ok (.ifCond .ne 6, 3) := by decide +kernel
theorem dX6_inside_11 : decode cX6_inside 11 = .ok (.bipush (-2), 2) := by decide +kernel
theorem dX6_inside_13 : decode cX6_inside 13 = .ok (.ireturn, 1) := by decide +kernel
theorem dX6_inside_14 : decode cX6_inside 14 = .ok (.iconst 0, 1) := by decide +kernel
theorem dX6_inside_15 : decode cX6_inside 15 = .ok (.istore 5, 2) := by decide +kernel
theorem dX6_inside_17 : decode cX6_inside 17 = .ok (.iconst 0, 1) := by decide +kernel
theorem dX6_inside_18 : decode cX6_inside 18 = .ok (.istore 6, 2) := by decide +kernel
theorem dX6_inside_20 : decode cX6_inside 20 = .ok (.iload 6, 2) := by decide +kernel
theorem dX6_inside_22 : decode cX6_inside 22 = .ok (.bipush 24, 2) := by decide +kernel
theorem dX6_inside_24 : decode cX6_inside 24 = .ok (.if_icmp .ge 47, 3) := by decide +kernel
theorem dX6_inside_27 : decode cX6_inside 27 = .ok (.aload_n 0, 1) := by decide +kernel
theorem dX6_inside_28 : decode cX6_inside 28 = .ok (.getfield 12, 3) := by decide +kernel
theorem dX6_inside_31 : decode cX6_inside 31 = .ok (.iload 6, 2) := by decide +kernel
theorem dX6_inside_33 : decode cX6_inside 33 = .ok (.invokevirtual 82, 3) := by decide +kernel
theorem dX6_inside_36 : decode cX6_inside 36 = .ok (.ifCond .eq 29, 3) := by decide +kernel
theorem dX6_inside_39 : decode cX6_inside 39 = .ok (.aload_n 0, 1) := by decide +kernel
theorem dX6_inside_40 : decode cX6_inside 40 = .ok (.getfield 12, 3) := by decide +kernel
theorem dX6_inside_43 : decode cX6_inside 43 = .ok (.iload 6, 2) := by decide +kernel
theorem dX6_inside_45 : decode cX6_inside 45 = .ok (.iload_n 1, 1) := by decide +kernel
theorem dX6_inside_46 : decode cX6_inside 46 = .ok (.iload_n 2, 1) := by decide +kernel
theorem dX6_inside_47 : decode cX6_inside 47 = .ok (.iload_n 3, 1) := by decide +kernel
theorem dX6_inside_48 : decode cX6_inside 48 = .ok (.iload 4, 2) := by decide +kernel
theorem dX6_inside_50 : decode cX6_inside 50 = .ok (.invokevirtual 173, 3) := by decide +kernel
theorem dX6_inside_53 : decode cX6_inside 53 = .ok (.ifCond .eq 12, 3) := by decide +kernel
theorem dX6_inside_56 : decode cX6_inside 56 = .ok (.iload 5, 2) := by decide +kernel
theorem dX6_inside_58 : decode cX6_inside 58 = .ok (.iconst 1, 1) := by decide +kernel
theorem dX6_inside_59 : decode cX6_inside 59 = .ok (.iload 6, 2) := by decide +kernel
theorem dX6_inside_61 : decode cX6_inside 61 = .ok (.ishl, 1) := by decide +kernel
theorem dX6_inside_62 : decode cX6_inside 62 = .ok (.ior, 1) := by decide +kernel
theorem dX6_inside_63 : decode cX6_inside 63 = .ok (.istore 5, 2) := by decide +kernel
theorem dX6_inside_65 : decode cX6_inside 65 = .ok (.iinc 6 1, 3) := by decide +kernel
theorem dX6_inside_68 : decode cX6_inside 68 = .ok (.goto (-48), 3) := by decide +kernel
theorem dX6_inside_71 : decode cX6_inside 71 = .ok (.iload 5, 2) := by decide +kernel
theorem dX6_inside_73 : decode cX6_inside 73 = .ok (.ireturn, 1) := by decide +kernel
theorem dX6_visits_0 : decode cX6_visits 0 = .ok (.iload_n 1, 1) := by decide +kernel
theorem dX6_visits_1 : decode cX6_visits 1 = .ok (.iload_n 2, 1) := by decide +kernel
theorem dX6_visits_2 : decode cX6_visits 2 = .ok (.iload_n 3, 1) := by decide +kernel
theorem dX6_visits_3 : decode cX6_visits 3 = .ok (.iload 4, 2) := by decide +kernel
theorem dX6_visits_5 : decode cX6_visits 5 = .ok (.invokestatic 63, 3) := by decide +kernel
theorem dX6_visits_8 : decode cX6_visits 8 = .ok (.ifCond .ne 6, 3) := by decide +kernel
theorem dX6_visits_11 : decode cX6_visits 11 = .ok (.bipush (-2), 2) := by decide +kernel
theorem dX6_visits_13 : decode cX6_visits 13 = .ok (.ireturn, 1) := by decide +kernel
theorem dX6_visits_14 : decode cX6_visits 14 = .ok (.iconst 1, 1) := by decide +kernel
theorem dX6_visits_15 : decode cX6_visits 15 = .ok (.istore 5, 2) := by decide +kernel
theorem dX6_visits_17 : decode cX6_visits 17 = .ok (.iconst 1, 1) := by decide +kernel
theorem dX6_visits_18 : decode cX6_visits 18 = .ok (.istore 6, 2) := by decide +kernel
theorem dX6_visits_20 : decode cX6_visits 20 = .ok (.iload 6, 2) := by decide +kernel
theorem dX6_visits_22 : decode cX6_visits 22 = .ok (.aload_n 0, 1) := by decide +kernel
theorem dX6_visits_23 : decode cX6_visits 23 = .ok (.getfield 35, 3) := by decide +kernel
theorem dX6_visits_26 : decode cX6_visits 26 = .ok (.getfield 95, 3) := by decide +kernel
theorem dX6_visits_29 : decode cX6_visits 29 = .ok (.if_icmp .ge 33, 3) := by decide +kernel
theorem dX6_visits_32 : decode cX6_visits 32 = .ok (.aload_n 0, 1) := by decide +kernel
theorem dX6_visits_33 : decode cX6_visits 33 = .ok (.getfield 12, 3) := by decide +kernel
theorem dX6_visits_36 : decode cX6_visits 36 = .ok (.aload_n 0, 1) := by decide +kernel
theorem dX6_visits_37 : decode cX6_visits 37 = .ok (.iload 6, 2) := by decide +kernel
theorem dX6_visits_39 : decode cX6_visits 39 = .ok (.invokevirtual 148, 3) := by decide +kernel
theorem dX6_visits_42 : decode cX6_visits 42 = .ok (.iload_n 1, 1) := by decide +kernel
theorem dX6_visits_43 : decode cX6_visits 43 = .ok (.iload_n 2, 1) := by decide +kernel
theorem dX6_visits_44 : decode cX6_visits 44 = .ok (.iload_n 3, 1) := by decide +kernel
theorem dX6_visits_45 : decode cX6_visits 45 = .ok (.iload 4, 2) := by decide +kernel
theorem dX6_visits_47 : decode cX6_visits 47 = .ok (.invokevirtual 169, 3) := by decide +kernel
theorem dX6_visits_50 : decode cX6_visits 50 = .ok (.ifCond .eq 6, 3) := by decide +kernel
theorem dX6_visits_53 : decode cX6_visits 53 = .ok (.iinc 5 1, 3) := by decide +kernel
theorem dX6_visits_56 : decode cX6_visits 56 = .ok (.iinc 6 1, 3) := by decide +kernel
theorem dX6_visits_59 : decode cX6_visits 59 = .ok (.goto (-39), 3) := by decide +kernel
theorem dX6_visits_62 : decode cX6_visits 62 = .ok (.iload 5, 2) := by decide +kernel
theorem dX6_visits_64 : decode cX6_visits 64 = .ok (.ireturn, 1) := by decide +kernel
theorem dX6_nearest_0 : decode cX6_nearest 0 = .ok (.iload_n 1, 1) := by decide +kernel
theorem dX6_nearest_1 : decode cX6_nearest 1 = .ok (.iload_n 2, 1) := by decide +kernel
theorem dX6_nearest_2 : decode cX6_nearest 2 = .ok (.iload_n 1, 1) := by decide +kernel
theorem dX6_nearest_3 : decode cX6_nearest 3 = .ok (.iload_n 2, 1) := by decide +kernel
theorem dX6_nearest_4 : decode cX6_nearest 4 = .ok (.invokestatic 63, 3) := by decide +kernel
theorem dX6_nearest_7 : decode cX6_nearest 7 = .ok (.ifCond .ne 6, 3) := by decide +kernel
theorem dX6_nearest_10 : decode cX6_nearest 10 = .ok (.bipush (-2), 2) := by decide +kernel
theorem dX6_nearest_12 : decode cX6_nearest 12 = .ok (.ireturn, 1) := by decide +kernel
theorem dX6_nearest_13 : decode cX6_nearest 13 = .ok (.bipush (-5), 2) := by decide +kernel
theorem dX6_nearest_15 : decode cX6_nearest 15 = .ok (.istore_n 3, 1) := by decide +kernel
theorem dX6_nearest_16 : decode cX6_nearest 16 = .ok (.iconst 0, 1) := by decide +kernel
theorem dX6_nearest_17 : decode cX6_nearest 17 = .ok (.istore 4, 2) := by decide +kernel
theorem dX6_nearest_19 : decode cX6_nearest 19 = .ok (.iconst 0, 1) := by decide +kernel
theorem dX6_nearest_20 : decode cX6_nearest 20 = .ok (.istore 5, 2) := by decide +kernel
theorem dX6_nearest_22 : decode cX6_nearest 22 = .ok (.iload 5, 2) := by decide +kernel
theorem dX6_nearest_24 : decode cX6_nearest 24 = .ok (.bipush 24, 2) := by decide +kernel
theorem dX6_nearest_26 : decode cX6_nearest 26 = .ok (.if_icmp .ge 57, 3) := by decide +kernel
theorem dX6_nearest_29 : decode cX6_nearest 29 = .ok (.aload_n 0, 1) := by decide +kernel
theorem dX6_nearest_30 : decode cX6_nearest 30 = .ok (.getfield 12, 3) := by decide +kernel
theorem dX6_nearest_33 : decode cX6_nearest 33 = .ok (.iload 5, 2) := by decide +kernel
theorem dX6_nearest_35 : decode cX6_nearest 35 = .ok (.invokevirtual 82, 3) := by decide +kernel
theorem dX6_nearest_38 : decode cX6_nearest 38 = .ok (.ifCond .ne 6, 3) := by decide +kernel
theorem dX6_nearest_41 : decode cX6_nearest 41 = .ok (.goto 36, 3) := by decide +kernel
theorem dX6_nearest_44 : decode cX6_nearest 44 = .ok (.aload_n 0, 1) := by decide +kernel
theorem dX6_nearest_45 : decode cX6_nearest 45 = .ok (.getfield 12, 3) := by decide +kernel
theorem dX6_nearest_48 : decode cX6_nearest 48 = .ok (.iload 5, 2) := by decide +kernel
theorem dX6_nearest_50 : decode cX6_nearest 50 = .ok (.iload_n 1, 1) := by decide +kernel
theorem dX6_nearest_51 : decode cX6_nearest 51 = .ok (.iload_n 2, 1) := by decide +kernel
theorem dX6_nearest_52 : decode cX6_nearest 52 = .ok (.invokevirtual 176, 3) := by decide +kernel
theorem dX6_nearest_55 : decode cX6_nearest 55 = .ok (.istore 6, 2) := by decide +kernel
theorem dX6_nearest_57 : decode cX6_nearest 57 = .ok (.iload_n 3, 1) := by decide +kernel
theorem dX6_nearest_58 : decode cX6_nearest 58 = .ok (.bipush (-5), 2) := by decide +kernel
theorem dX6_nearest_60 : decode cX6_nearest 60 = .ok (.if_icmp .eq 10, 3) := by decide +kernel
theorem dX6_nearest_63 : decode cX6_nearest 63 = .ok (.iload 6, 2) := by decide +kernel
theorem dX6_nearest_65 : decode cX6_nearest 65 = .ok (.iload 4, 2) := by decide +kernel
theorem dX6_nearest_67 : decode cX6_nearest 67 = .ok (.if_icmp .ge 10, 3) := by decide +kernel
theorem dX6_nearest_70 : decode cX6_nearest 70 = .ok (.iload 5, 2) := by decide +kernel
theorem dX6_nearest_72 : decode cX6_nearest 72 = .ok (.istore_n 3, 1) := by decide +kernel
theorem dX6_nearest_73 : decode cX6_nearest 73 = .ok (.iload 6, 2) := by decide +kernel
theorem dX6_nearest_75 : decode cX6_nearest 75 = .ok (.istore 4, 2) := by decide +kernel
theorem dX6_nearest_77 : decode cX6_nearest 77 = .ok (.iinc 5 1, 3) := by decide +kernel
theorem dX6_nearest_80 : decode cX6_nearest 80 = .ok (.goto (-58), 3) := by decide +kernel
theorem dX6_nearest_83 : decode cX6_nearest 83 = .ok (.iload_n 3, 1) := by decide +kernel
theorem dX6_nearest_84 : decode cX6_nearest 84 = .ok (.ireturn, 1) := by decide +kernel
theorem dX6_area_0 : decode cX6_area 0 = .ok (.iload_n 1, 1) := by decide +kernel
theorem dX6_area_1 : decode cX6_area 1 = .ok (.ifCond .lt 11, 3) := by decide +kernel
theorem dX6_area_4 : decode cX6_area 4 = .ok (.iload_n 1, 1) := by decide +kernel
theorem dX6_area_5 : decode cX6_area 5 = .ok (.aload_n 0, 1) := by decide +kernel
theorem dX6_area_6 : decode cX6_area 6 = .ok (.invokevirtual 180, 3) := by decide +kernel
theorem dX6_area_9 : decode cX6_area 9 = .ok (.if_icmp .le 5, 3) := by decide +kernel
theorem dX6_area_12 : decode cX6_area 12 = .ok (.iconst (-1), 1) := by decide +kernel
theorem dX6_area_13 : decode cX6_area 13 = .ok (.ireturn, 1) := by decide +kernel
theorem dX6_area_14 : decode cX6_area 14 = .ok (.iconst 0, 1) := by decide +kernel
theorem dX6_area_15 : decode cX6_area 15 = .ok (.istore_n 2, 1) := by decide +kernel
theorem dX6_area_16 : decode cX6_area 16 = .ok (.iconst 0, 1) := by decide +kernel
theorem dX6_area_17 : decode cX6_area 17 = .ok (.istore_n 3, 1) := by decide +kernel
theorem dX6_area_18 : decode cX6_area 18 = .ok (.iload_n 3, 1) := by decide +kernel
theorem dX6_area_19 : decode cX6_area 19 = .ok (.aload_n 0, 1) := by decide +kernel
theorem dX6_area_20 : decode cX6_area 20 = .ok (.getfield 35, 3) := by decide +kernel
theorem dX6_area_23 : decode cX6_area 23 = .ok (.getfield 95, 3) := by decide +kernel
theorem dX6_area_26 : decode cX6_area 26 = .ok (.if_icmp .ge 53, 3) := by decide +kernel
theorem dX6_area_29 : decode cX6_area 29 = .ok (.aload_n 0, 1) := by decide +kernel
theorem dX6_area_30 : decode cX6_area 30 = .ok (.iload_n 3, 1) := by decide +kernel
theorem dX6_area_31 : decode cX6_area 31 = .ok (.invokevirtual 148, 3) := by decide +kernel
theorem dX6_area_34 : decode cX6_area 34 = .ok (.istore 4, 2) := by decide +kernel
theorem dX6_area_36 : decode cX6_area 36 = .ok (.aload_n 0, 1) := by decide +kernel
theorem dX6_area_37 : decode cX6_area 37 = .ok (.getfield 12, 3) := by decide +kernel
theorem dX6_area_40 : decode cX6_area 40 = .ok (.iload 4, 2) := by decide +kernel
theorem dX6_area_42 : decode cX6_area 42 = .ok (.invokevirtual 142, 3) := by decide +kernel
theorem dX6_area_45 : decode cX6_area 45 = .ok (.iload_n 1, 1) := by decide +kernel
theorem dX6_area_46 : decode cX6_area 46 = .ok (.if_icmp .ne 27, 3) := by decide +kernel
theorem dX6_area_49 : decode cX6_area 49 = .ok (.aload_n 0, 1) := by decide +kernel
theorem dX6_area_50 : decode cX6_area 50 = .ok (.getfield 12, 3) := by decide +kernel
theorem dX6_area_53 : decode cX6_area 53 = .ok (.iload 4, 2) := by decide +kernel
theorem dX6_area_55 : decode cX6_area 55 = .ok (.invokevirtual 151, 3) := by decide +kernel
theorem dX6_area_58 : decode cX6_area 58 = .ok (.ifCond .le 15, 3) := by decide +kernel
theorem dX6_area_61 : decode cX6_area 61 = .ok (.iload_n 2, 1) := by decide +kernel
theorem dX6_area_62 : decode cX6_area 62 = .ok (.aload_n 0, 1) := by decide +kernel
theorem dX6_area_63 : decode cX6_area 63 = .ok (.getfield 12, 3) := by decide +kernel
theorem dX6_area_66 : decode cX6_area 66 = .ok (.iload 4, 2) := by decide +kernel
theorem dX6_area_68 : decode cX6_area 68 = .ok (.invokevirtual 183, 3) := by decide +kernel
theorem dX6_area_71 : decode cX6_area 71 = .ok (.iadd, 1) := by decide +kernel
theorem dX6_area_72 : decode cX6_area 72 = .ok (.istore_n 2, 1) := by decide +kernel
theorem dX6_area_73 : decode cX6_area 73 = .ok (.iinc 3 1, 3) := by decide +kernel
theorem dX6_area_76 : decode cX6_area 76 = .ok (.goto (-58), 3) := by decide +kernel
theorem dX6_area_79 : decode cX6_area 79 = .ok (.iload_n 2, 1) := by decide +kernel
theorem dX6_area_80 : decode cX6_area 80 = .ok (.ireturn, 1) := by decide +kernel
theorem dX6_overlap_0 : decode cX6_overlap 0 = .ok (.iload_n 1, 1) := by decide +kernel
theorem dX6_overlap_1 : decode cX6_overlap 1 = .ok (.ifCond .lt 11, 3) := by decide +kernel
theorem dX6_overlap_4 : decode cX6_overlap 4 = .ok (.iload_n 1, 1) := by decide +kernel
theorem dX6_overlap_5 : decode cX6_overlap 5 = .ok (.aload_n 0, 1) := by decide +kernel
theorem dX6_overlap_6 : decode cX6_overlap 6 = .ok (.invokevirtual 180, 3) := by decide +kernel
theorem dX6_overlap_9 : decode cX6_overlap 9 = .ok (.if_icmp .le 5, 3) := by decide +kernel
theorem dX6_overlap_12 : decode cX6_overlap 12 = .ok (.iconst (-1), 1) := by decide +kernel
theorem dX6_overlap_13 : decode cX6_overlap 13 = .ok (.ireturn, 1) := by decide +kernel
theorem dX6_overlap_14 : decode cX6_overlap 14 = .ok (.iconst 0, 1) := by decide +kernel
theorem dX6_overlap_15 : decode cX6_overlap 15 = .ok (.istore_n 2, 1) := by decide +kernel
theorem dX6_overlap_16 : decode cX6_overlap 16 = .ok (.iconst 1, 1) := by decide +kernel
theorem dX6_overlap_17 : decode cX6_overlap 17 = .ok (.istore_n 3, 1) := by decide +kernel
theorem dX6_overlap_18 : decode cX6_overlap 18 = .ok (.iload_n 3, 1) := by decide +kernel
theorem dX6_overlap_19 : decode cX6_overlap 19 = .ok (.aload_n 0, 1) := by decide +kernel
theorem dX6_overlap_20 : decode cX6_overlap 20 = .ok (.getfield 35, 3) := by decide +kernel
theorem dX6_overlap_23 : decode cX6_overlap 23 = .ok (.getfield 95, 3) := by decide +kernel
theorem dX6_overlap_26 : decode cX6_overlap 26 = .ok (.if_icmp .ge 34, 3) := by decide +kernel
theorem dX6_overlap_29 : decode cX6_overlap 29 = .ok (.aload_n 0, 1) := by decide +kernel
theorem dX6_overlap_30 : decode cX6_overlap 30 = .ok (.getfield 12, 3) := by decide +kernel
theorem dX6_overlap_33 : decode cX6_overlap 33 = .ok (.aload_n 0, 1) := by decide +kernel
theorem dX6_overlap_34 : decode cX6_overlap 34 = .ok (.iload_n 3, 1) := by decide +kernel
theorem dX6_overlap_35 : decode cX6_overlap 35 = .ok (.invokevirtual 148, 3) := by decide +kernel
theorem dX6_overlap_38 : decode cX6_overlap 38 = .ok (.invokevirtual 142, 3) := by decide +kernel
theorem dX6_overlap_41 : decode cX6_overlap 41 = .ok (.iload_n 1, 1) := by decide +kernel
theorem dX6_overlap_42 : decode cX6_overlap 42 = .ok (.if_icmp .ne 12, 3) := by decide +kernel
theorem dX6_overlap_45 : decode cX6_overlap 45 = .ok (.iload_n 2, 1) := by decide +kernel
theorem dX6_overlap_46 : decode cX6_overlap 46 = .ok (.aload_n 0, 1) := by decide +kernel
theorem dX6_overlap_47 : decode cX6_overlap 47 = .ok (.iload_n 3, 1) := by decide +kernel
theorem dX6_overlap_48 : decode cX6_overlap 48 = .ok (.iload_n 1, 1) := by decide +kernel
theorem dX6_overlap_49 : decode cX6_overlap 49 = .ok (.invokevirtual 186, 3) := by decide +kernel
theorem dX6_overlap_52 : decode cX6_overlap 52 = .ok (.iadd, 1) := by decide +kernel
theorem dX6_overlap_53 : decode cX6_overlap 53 = .ok (.istore_n 2, 1) := by decide +kernel
theorem dX6_overlap_54 : decode cX6_overlap 54 = .ok (.iinc 3 1, 3) := by decide +kernel
theorem dX6_overlap_57 : decode cX6_overlap 57 = .ok (.goto (-39), 3) := by decide +kernel
theorem dX6_overlap_60 : decode cX6_overlap 60 = .ok (.iload_n 2, 1) := by decide +kernel
theorem dX6_overlap_61 : decode cX6_overlap 61 = .ok (.ireturn, 1) := by decide +kernel
theorem dX6_fill_0 : decode cX6_fill 0 = .ok (.iconst 0, 1) := by decide +kernel
theorem dX6_fill_1 : decode cX6_fill 1 = .ok (.istore_n 1, 1) := by decide +kernel
theorem dX6_fill_2 : decode cX6_fill 2 = .ok (.iconst 0, 1) := by decide +kernel
theorem dX6_fill_3 : decode cX6_fill 3 = .ok (.istore_n 2, 1) := by decide +kernel
theorem dX6_fill_4 : decode cX6_fill 4 = .ok (.iload_n 2, 1) := by decide +kernel
theorem dX6_fill_5 : decode cX6_fill 5 = .ok (.aload_n 0, 1) := by decide +kernel
theorem dX6_fill_6 : decode cX6_fill 6 = .ok (.getfield 35, 3) := by decide +kernel
theorem dX6_fill_9 : decode cX6_fill 9 = .ok (.getfield 95, 3) := by decide +kernel
theorem dX6_fill_12 : decode cX6_fill 12 = .ok (.if_icmp .ge 24, 3) := by decide +kernel
theorem dX6_fill_15 : decode cX6_fill 15 = .ok (.iload_n 1, 1) := by decide +kernel
theorem dX6_fill_16 : decode cX6_fill 16 = .ok (.aload_n 0, 1) := by decide +kernel
theorem dX6_fill_17 : decode cX6_fill 17 = .ok (.getfield 12, 3) := by decide +kernel
theorem dX6_fill_20 : decode cX6_fill 20 = .ok (.aload_n 0, 1) := by decide +kernel
theorem dX6_fill_21 : decode cX6_fill 21 = .ok (.iload_n 2, 1) := by decide +kernel
theorem dX6_fill_22 : decode cX6_fill 22 = .ok (.invokevirtual 148, 3) := by decide +kernel
theorem dX6_fill_25 : decode cX6_fill 25 = .ok (.invokevirtual 151, 3) := by decide +kernel
theorem dX6_fill_28 : decode cX6_fill 28 = .ok (.iadd, 1) := by decide +kernel
theorem dX6_fill_29 : decode cX6_fill 29 = .ok (.istore_n 1, 1) := by decide +kernel
theorem dX6_fill_30 : decode cX6_fill 30 = .ok (.iinc 2 1, 3) := by decide +kernel
theorem dX6_fill_33 : decode cX6_fill 33 = .ok (.goto (-29), 3) := by decide +kernel
theorem dX6_fill_36 : decode cX6_fill 36 = .ok (.aload_n 0, 1) := by decide +kernel
theorem dX6_fill_37 : decode cX6_fill 37 = .ok (.getfield 35, 3) := by decide +kernel
theorem dX6_fill_40 : decode cX6_fill 40 = .ok (.getfield 95, 3) := by decide +kernel
theorem dX6_fill_43 : decode cX6_fill 43 = .ok (.aload_n 0, 1) := by decide +kernel
theorem dX6_fill_44 : decode cX6_fill 44 = .ok (.getfield 12, 3) := by decide +kernel
theorem dX6_fill_47 : decode cX6_fill 47 = .ok (.getfield 103, 3) := by decide +kernel
theorem dX6_fill_50 : decode cX6_fill 50 = .ok (.imul, 1) := by decide +kernel
theorem dX6_fill_51 : decode cX6_fill 51 = .ok (.istore_n 2, 1) := by decide +kernel
theorem dX6_fill_52 : decode cX6_fill 52 = .ok (.iload_n 2, 1) := by decide +kernel
theorem dX6_fill_53 : decode cX6_fill 53 = .ok (.ifCond .le 11, 3) := by decide +kernel
theorem dX6_fill_56 : decode cX6_fill 56 = .ok (.iload_n 1, 1) := by decide +kernel
theorem dX6_fill_57 : decode cX6_fill 57 = .ok (.i2f, 1) := by decide +kernel
theorem dX6_fill_58 : decode cX6_fill 58 = .ok (.iload_n 2, 1) := by decide +kernel
theorem dX6_fill_59 : decode cX6_fill 59 = .ok (.i2f, 1) := by decide +kernel
theorem dX6_fill_60 : decode cX6_fill 60 = .ok (.fdiv, 1) := by decide +kernel
theorem dX6_fill_61 : decode cX6_fill 61 = .ok (.goto 4, 3) := by decide +kernel
theorem dX6_fill_64 : decode cX6_fill 64 = .ok (.fconst 0, 1) := by decide +kernel
theorem dX6_fill_65 : decode cX6_fill 65 = .ok (.freturn, 1) := by decide +kernel
theorem dX6_overlapWithEarlier_0 : decode cX6_overlapWithEarlier 0 = .ok (.iconst 0, 1) := by decide +kernel
theorem dX6_overlapWithEarlier_1 : decode cX6_overlapWithEarlier 1 = .ok (.istore_n 3, 1) := by decide +kernel
theorem dX6_overlapWithEarlier_2 : decode cX6_overlapWithEarlier 2 = .ok (.iconst 0, 1) := by decide +kernel
theorem dX6_overlapWithEarlier_3 : decode cX6_overlapWithEarlier 3 = .ok (.istore 4, 2) := by decide +kernel
theorem dX6_overlapWithEarlier_5 : decode cX6_overlapWithEarlier 5 = .ok (.iload 4, 2) := by decide +kernel
theorem dX6_overlapWithEarlier_7 : decode cX6_overlapWithEarlier 7 = .ok (.iload_n 1, 1) := by decide +kernel
theorem dX6_overlapWithEarlier_8 : decode cX6_overlapWithEarlier 8 = .ok (.if_icmp .ge 47, 3) := by decide +kernel
theorem dX6_overlapWithEarlier_11 : decode cX6_overlapWithEarlier 11 = .ok (.aload_n 0, 1) := by decide +kernel
theorem dX6_overlapWithEarlier_12 : decode cX6_overlapWithEarlier 12 = .ok (.getfield 12, 3) := by decide +kernel
theorem dX6_overlapWithEarlier_15 : decode cX6_overlapWithEarlier 15 = .ok (.aload_n 0, 1) := by decide +kernel
theorem dX6_overlapWithEarlier_16 : decode cX6_overlapWithEarlier 16 = .ok (.iload 4, 2) := by decide +kernel
theorem dX6_overlapWithEarlier_18 : decode cX6_overlapWithEarlier 18 = .ok (.invokevirtual 148, 3) := by decide +kernel
theorem dX6_overlapWithEarlier_21 : decode cX6_overlapWithEarlier 21 = .ok (.invokevirtual 142, 3) := by decide +kernel
theorem dX6_overlapWithEarlier_24 : decode cX6_overlapWithEarlier 24 = .ok (.iload_n 2, 1) := by decide +kernel
theorem dX6_overlapWithEarlier_25 : decode cX6_overlapWithEarlier 25 = .ok (.if_icmp .ne 24, 3) := by decide +kernel
theorem dX6_overlapWithEarlier_28 : decode cX6_overlapWithEarlier 28 = .ok (.iload_n 3, 1) := by decide +kernel
theorem dX6_overlapWithEarlier_29 : decode cX6_overlapWithEarlier 29 = .ok (.aload_n 0, 1) := by decide +kernel
theorem dX6_overlapWithEarlier_30 : decode cX6_overlapWithEarlier 30 = .ok (.getfield 12, 3) := by decide +kernel
theorem dX6_overlapWithEarlier_33 : decode cX6_overlapWithEarlier 33 = .ok (.aload_n 0, 1) := by decide +kernel
theorem dX6_overlapWithEarlier_34 : decode cX6_overlapWithEarlier 34 = .ok (.iload 4, 2) := by decide +kernel
theorem dX6_overlapWithEarlier_36 : decode cX6_overlapWithEarlier 36 = .ok (.invokevirtual 148, 3) := by decide +kernel
theorem dX6_overlapWithEarlier_39 : decode cX6_overlapWithEarlier 39 = .ok (.aload_n 0, 1) := by decide +kernel
theorem dX6_overlapWithEarlier_40 : decode cX6_overlapWithEarlier 40 = .ok (.iload_n 1, 1) := by decide +kernel
theorem dX6_overlapWithEarlier_41 : decode cX6_overlapWithEarlier 41 = .ok (.invokevirtual 148, 3) := by decide +kernel
theorem dX6_overlapWithEarlier_44 : decode cX6_overlapWithEarlier 44 = .ok (.invokevirtual 189, 3) := by decide +kernel
theorem dX6_overlapWithEarlier_47 : decode cX6_overlapWithEarlier 47 = .ok (.iadd, 1) := by decide +kernel
theorem dX6_overlapWithEarlier_48 : decode cX6_overlapWithEarlier 48 = .ok (.istore_n 3, 1) := by decide +kernel
theorem dX6_overlapWithEarlier_49 : decode cX6_overlapWithEarlier 49 = .ok (.iinc 4 1, 3) := by decide +kernel
theorem dX6_overlapWithEarlier_52 : decode cX6_overlapWithEarlier 52 = .ok (.goto (-47), 3) := by decide +kernel
theorem dX6_overlapWithEarlier_55 : decode cX6_overlapWithEarlier 55 = .ok (.iload_n 3, 1) := by decide +kernel
theorem dX6_overlapWithEarlier_56 : decode cX6_overlapWithEarlier 56 = .ok (.ireturn, 1) := by decide +kernel
theorem dX6_numberNodes_0 : decode cX6_numberNodes 0 = .ok (.aload_n 0, 1) := by decide +kernel
theorem dX6_numberNodes_1 : decode cX6_numberNodes 1 = .ok (.getfield 35, 3) := by decide +kernel
theorem dX6_numberNodes_4 : decode cX6_numberNodes 4 = .ok (.aload_n 0, 1) := by decide +kernel
theorem dX6_numberNodes_5 : decode cX6_numberNodes 5 = .ok (.getfield 12, 3) := by decide +kernel
theorem dX6_numberNodes_8 : decode cX6_numberNodes 8 = .ok (.aload_n 0, 1) := by decide +kernel
theorem dX6_numberNodes_9 : decode cX6_numberNodes 9 = .ok (.getfield 12, 3) := by decide +kernel
theorem dX6_numberNodes_12 : decode cX6_numberNodes 12 = .ok (.getfield 139, 3) := by decide +kernel
theorem dX6_numberNodes_15 : decode cX6_numberNodes 15 = .ok (.iconst 1, 1) := by decide +kernel
theorem dX6_numberNodes_16 : decode cX6_numberNodes 16 = .ok (.invokevirtual 192, 3) := by decide +kernel
theorem dX6_numberNodes_19 : decode cX6_numberNodes 19 = .ok (.return_, 1) := by decide +kernel
theorem dX6_hasNode_0 : decode cX6_hasNode 0 = .ok (.iload_n 1, 1) := by decide +kernel
theorem dX6_hasNode_1 : decode cX6_hasNode 1 = .ok (.ifCond .lt 18, 3) := by decide +kernel
theorem dX6_hasNode_4 : decode cX6_hasNode 4 = .ok (.iload_n 1, 1) := by decide +kernel
theorem dX6_hasNode_5 : decode cX6_hasNode 5 = .ok (.aload_n 0, 1) := by decide +kernel
theorem dX6_hasNode_6 : decode cX6_hasNode 6 = .ok (.getfield 35, 3) := by decide +kernel
theorem dX6_hasNode_9 : decode cX6_hasNode 9 = .ok (.getfield 95, 3) := by decide +kernel
theorem dX6_hasNode_12 : decode cX6_hasNode 12 = .ok (.if_icmp .ge 7, 3) := by decide +kernel
theorem dX6_hasNode_15 : decode cX6_hasNode 15 = .ok (.iconst 1, 1) := by decide +kernel
theorem dX6_hasNode_16 : decode cX6_hasNode 16 = .ok (.goto 4, 3) := by decide +kernel
theorem dX6_hasNode_19 : decode cX6_hasNode 19 = .ok (.iconst 0, 1) := by decide +kernel
theorem dX6_hasNode_20 : decode cX6_hasNode 20 = .ok (.ireturn, 1) := by decide +kernel
theorem dX6_nodeAt_0 : decode cX6_nodeAt 0 = .ok (.aload_n 0, 1) := by decide +kernel
theorem dX6_nodeAt_1 : decode cX6_nodeAt 1 = .ok (.getfield 35, 3) := by decide +kernel
theorem dX6_nodeAt_4 : decode cX6_nodeAt 4 = .ok (.getfield 196, 3) := by decide +kernel
theorem dX6_nodeAt_7 : decode cX6_nodeAt 7 = .ok (.iload_n 1, 1) := by decide +kernel
theorem dX6_nodeAt_8 : decode cX6_nodeAt 8 = .ok (.invokestatic 200, 3) := by decide +kernel
theorem dX6_nodeAt_11 : decode cX6_nodeAt 11 = .ok (.ireturn, 1) := by decide +kernel
theorem dX6_isRectangle_0 : decode cX6_isRectangle 0 = .ok (.iload_n 0, 1) := by decide +kernel
theorem dX6_isRectangle_1 : decode cX6_isRectangle 1 = .ok (.iload_n 2, 1) := by decide +kernel
theorem dX6_isRectangle_2 : decode cX6_isRectangle 2 = .ok (.invokestatic 204, 3) := by decide +kernel
theorem dX6_isRectangle_5 : decode cX6_isRectangle 5 = .ok (.ifCond .eq 15, 3) := by decide +kernel
theorem dX6_isRectangle_8 : decode cX6_isRectangle 8 = .ok (.iload_n 1, 1) := by decide +kernel
theorem dX6_isRectangle_9 : decode cX6_isRectangle 9 = .ok (.iload_n 3, 1) := by decide +kernel
theorem dX6_isRectangle_10 : decode cX6_isRectangle 10 = .ok (.invokestatic 204, 3) := by decide +kernel
theorem dX6_isRectangle_13 : decode cX6_isRectangle 13 = .ok (.ifCond .eq 7, 3) := by decide +kernel
theorem dX6_isRectangle_16 : decode cX6_isRectangle 16 = .ok (.iconst 1, 1) := by decide +kernel
theorem dX6_isRectangle_17 : decode cX6_isRectangle 17 = .ok (.goto 4, 3) := by decide +kernel
theorem dX6_isRectangle_20 : decode cX6_isRectangle 20 = .ok (.iconst 0, 1) := by decide +kernel
theorem dX6_isRectangle_21 : decode cX6_isRectangle 21 = .ok (.ireturn, 1) := by decide +kernel
theorem dX6_isSpan_0 : decode cX6_isSpan 0 = .ok (.iload_n 0, 1) := by decide +kernel
theorem dX6_isSpan_1 : decode cX6_isSpan 1 = .ok (.ifCond .lt 18, 3) := by decide +kernel
theorem dX6_isSpan_4 : decode cX6_isSpan 4 = .ok (.iload_n 0, 1) := by decide +kernel
theorem dX6_isSpan_5 : decode cX6_isSpan 5 = .ok (.iload_n 1, 1) := by decide +kernel
theorem dX6_isSpan_6 : decode cX6_isSpan 6 = .ok (.if_icmp .gt 13, 3) := by decide +kernel
theorem dX6_isSpan_9 : decode cX6_isSpan 9 = .ok (.iload_n 1, 1) := by decide +kernel
theorem dX6_isSpan_10 : decode cX6_isSpan 10 = .ok (.bipush 99, 2) := by decide +kernel
theorem dX6_isSpan_12 : decode cX6_isSpan 12 = .ok (.if_icmp .gt 7, 3) := by decide +kernel
theorem dX6_isSpan_15 : decode cX6_isSpan 15 = .ok (.iconst 1, 1) := by decide +kernel
theorem dX6_isSpan_16 : decode cX6_isSpan 16 = .ok (.goto 4, 3) := by decide +kernel
theorem dX6_isSpan_19 : decode cX6_isSpan 19 = .ok (.iconst 0, 1) := by decide +kernel
theorem dX6_isSpan_20 : decode cX6_isSpan 20 = .ok (.ireturn, 1) := by decide +kernel
theorem dX6_at_0 : decode cX6_at 0 = .ok (.iload_n 1, 1) := by decide +kernel
theorem dX6_at_1 : decode cX6_at 1 = .ok (.ifCond .lt 15, 3) := by decide +kernel
theorem dX6_at_4 : decode cX6_at 4 = .ok (.iload_n 1, 1) := by decide +kernel
theorem dX6_at_5 : decode cX6_at 5 = .ok (.aload_n 0, 1) := by decide +kernel
theorem dX6_at_6 : decode cX6_at 6 = .ok (.arraylength, 1) := by decide +kernel
theorem dX6_at_7 : decode cX6_at 7 = .ok (.if_icmp .ge 9, 3) := by decide +kernel
theorem dX6_at_10 : decode cX6_at 10 = .ok (.aload_n 0, 1) := by decide +kernel
theorem dX6_at_11 : decode cX6_at 11 = .ok (.iload_n 1, 1) := by decide +kernel
theorem dX6_at_12 : decode cX6_at 12 = .ok (.iaload, 1) := by decide +kernel
theorem dX6_at_13 : decode cX6_at 13 = .ok (.goto 4, 3) := by decide +kernel
theorem dX6_at_16 : decode cX6_at 16 = .ok (.iconst (-1), 1) := by decide +kernel
theorem dX6_at_17 : decode cX6_at 17 = .ok (.ireturn, 1) := by decide +kernel
theorem dX6_put_0 : decode cX6_put 0 = .ok (.iload_n 1, 1) := by decide +kernel
theorem dX6_put_1 : decode cX6_put 1 = .ok (.ifCond .lt 13, 3) := by decide +kernel
theorem dX6_put_4 : decode cX6_put 4 = .ok (.iload_n 1, 1) := by decide +kernel
theorem dX6_put_5 : decode cX6_put 5 = .ok (.aload_n 0, 1) := by decide +kernel
theorem dX6_put_6 : decode cX6_put 6 = .ok (.arraylength, 1) := by decide +kernel
theorem dX6_put_7 : decode cX6_put 7 = .ok (.if_icmp .ge 7, 3) := by decide +kernel
theorem dX6_put_10 : decode cX6_put 10 = .ok (.aload_n 0, 1) := by decide +kernel
theorem dX6_put_11 : decode cX6_put 11 = .ok (.iload_n 1, 1) := by decide +kernel
theorem dX6_put_12 : decode cX6_put 12 = .ok (.iload_n 2, 1) := by decide +kernel
theorem dX6_put_13 : decode cX6_put 13 = .ok (.iastore, 1) := by decide +kernel
theorem dX6_put_14 : decode cX6_put 14 = .ok (.return_, 1) := by decide +kernel
theorem dJ9_abs_0f7a4_0 : decode cJ9_abs_0f7a4 0 = .ok (.iload_n 0, 1) := by decide +kernel
theorem dJ9_abs_0f7a4_1 : decode cJ9_abs_0f7a4 1 = .ok (.ifCond .ge 8, 3) := by decide +kernel
theorem dJ9_abs_0f7a4_4 : decode cJ9_abs_0f7a4 4 = .ok (.iload_n 0, 1) := by decide +kernel
theorem dJ9_abs_0f7a4_5 : decode cJ9_abs_0f7a4 5 = .ok (.ineg, 1) := by decide +kernel
theorem dJ9_abs_0f7a4_6 : decode cJ9_abs_0f7a4 6 = .ok (.goto 4, 3) := by decide +kernel
theorem dJ9_abs_0f7a4_9 : decode cJ9_abs_0f7a4 9 = .ok (.iload_n 0, 1) := by decide +kernel
theorem dJ9_abs_0f7a4_10 : decode cJ9_abs_0f7a4 10 = .ok (.ireturn, 1) := by decide +kernel
theorem dJ9_max_7cf53_0 : decode cJ9_max_7cf53 0 = .ok (.iload_n 0, 1) := by decide +kernel
theorem dJ9_max_7cf53_1 : decode cJ9_max_7cf53 1 = .ok (.iload_n 1, 1) := by decide +kernel
theorem dJ9_max_7cf53_2 : decode cJ9_max_7cf53 2 = .ok (.if_icmp .lt 7, 3) := by decide +kernel
theorem dJ9_max_7cf53_5 : decode cJ9_max_7cf53 5 = .ok (.iload_n 0, 1) := by decide +kernel
theorem dJ9_max_7cf53_6 : decode cJ9_max_7cf53 6 = .ok (.goto 4, 3) := by decide +kernel
theorem dJ9_max_7cf53_9 : decode cJ9_max_7cf53 9 = .ok (.iload_n 1, 1) := by decide +kernel
theorem dJ9_max_7cf53_10 : decode cJ9_max_7cf53 10 = .ok (.ireturn, 1) := by decide +kernel
theorem dJ9_min_7cf53_0 : decode cJ9_min_7cf53 0 = .ok (.iload_n 0, 1) := by decide +kernel
theorem dJ9_min_7cf53_1 : decode cJ9_min_7cf53 1 = .ok (.iload_n 1, 1) := by decide +kernel
theorem dJ9_min_7cf53_2 : decode cJ9_min_7cf53 2 = .ok (.if_icmp .gt 7, 3) := by decide +kernel
theorem dJ9_min_7cf53_5 : decode cJ9_min_7cf53 5 = .ok (.iload_n 0, 1) := by decide +kernel
theorem dJ9_min_7cf53_6 : decode cJ9_min_7cf53 6 = .ok (.goto 4, 3) := by decide +kernel
theorem dJ9_min_7cf53_9 : decode cJ9_min_7cf53 9 = .ok (.iload_n 1, 1) := by decide +kernel
theorem dJ9_min_7cf53_10 : decode cJ9_min_7cf53 10 = .ok (.ireturn, 1) := by decide +kernel
theorem dJ7_fill_53178_0 : decode cJ7_fill_53178 0 = .ok (.iconst 0, 1) := by decide +kernel
theorem dJ7_fill_53178_1 : decode cJ7_fill_53178 1 = .ok (.istore_n 2, 1) := by decide +kernel
theorem dJ7_fill_53178_2 : decode cJ7_fill_53178 2 = .ok (.aload_n 0, 1) := by decide +kernel
theorem dJ7_fill_53178_3 : decode cJ7_fill_53178 3 = .ok (.arraylength, 1) := by decide +kernel
theorem dJ7_fill_53178_4 : decode cJ7_fill_53178 4 = .ok (.istore_n 3, 1) := by decide +kernel
theorem dJ7_fill_53178_5 : decode cJ7_fill_53178 5 = .ok (.iload_n 2, 1) := by decide +kernel
theorem dJ7_fill_53178_6 : decode cJ7_fill_53178 6 = .ok (.iload_n 3, 1) := by decide +kernel
theorem dJ7_fill_53178_7 : decode cJ7_fill_53178 7 = .ok (.if_icmp .ge 13, 3) := by decide +kernel
theorem dJ7_fill_53178_10 : decode cJ7_fill_53178 10 = .ok (.aload_n 0, 1) := by decide +kernel
theorem dJ7_fill_53178_11 : decode cJ7_fill_53178 11 = .ok (.iload_n 2, 1) := by decide +kernel
theorem dJ7_fill_53178_12 : decode cJ7_fill_53178 12 = .ok (.iload_n 1, 1) := by decide +kernel
theorem dJ7_fill_53178_13 : decode cJ7_fill_53178 13 = .ok (.iastore, 1) := by decide +kernel
theorem dJ7_fill_53178_14 : decode cJ7_fill_53178 14 = .ok (.iinc 2 1, 3) := by decide +kernel
theorem dJ7_fill_53178_17 : decode cJ7_fill_53178 17 = .ok (.goto (-12), 3) := by decide +kernel
theorem dJ7_fill_53178_20 : decode cJ7_fill_53178 20 = .ok (.return_, 1) := by decide +kernel
theorem dL_cell_0 : decode cL_cell 0 = .ok (.iload_n 1, 1) := by decide +kernel
theorem dL_cell_1 : decode cL_cell 1 = .ok (.aload_n 0, 1) := by decide +kernel
theorem dL_cell_2 : decode cL_cell 2 = .ok (.arraylength, 1) := by decide +kernel
theorem dL_cell_3 : decode cL_cell 3 = .ok (.if_icmp .ge 9, 3) := by decide +kernel
theorem dL_cell_6 : decode cL_cell 6 = .ok (.aload_n 0, 1) := by decide +kernel
theorem dL_cell_7 : decode cL_cell 7 = .ok (.iload_n 1, 1) := by decide +kernel
theorem dL_cell_8 : decode cL_cell 8 = .ok (.iaload, 1) := by decide +kernel
theorem dL_cell_9 : decode cL_cell 9 = .ok (.goto 9, 3) := by decide +kernel
theorem dL_cell_12 : decode cL_cell 12 = .ok (.ldc 7, 2) := by decide +kernel
theorem dL_cell_14 : decode cL_cell 14 = .ok (.iload_n 1, 1) := by decide +kernel
theorem dL_cell_15 : decode cL_cell 15 = .ok (.iconst 3, 1) := by decide +kernel
theorem dL_cell_16 : decode cL_cell 16 = .ok (.iadd, 1) := by decide +kernel
theorem dL_cell_17 : decode cL_cell 17 = .ok (.imul, 1) := by decide +kernel
theorem dL_cell_18 : decode cL_cell 18 = .ok (.ireturn, 1) := by decide +kernel
theorem dL_corner_0 : decode cL_corner 0 = .ok (.iload_n 1, 1) := by decide +kernel
theorem dL_corner_1 : decode cL_corner 1 = .ok (.ifCond .ne 10, 3) := by decide +kernel
theorem dL_corner_4 : decode cL_corner 4 = .ok (.iload_n 0, 1) := by decide +kernel
theorem dL_corner_5 : decode cL_corner 5 = .ok (.bipush 100, 2) := by decide +kernel
theorem dL_corner_7 : decode cL_corner 7 = .ok (.irem, 1) := by decide +kernel
theorem dL_corner_8 : decode cL_corner 8 = .ok (.goto 38, 3) := by decide +kernel
theorem dL_corner_11 : decode cL_corner 11 = .ok (.iload_n 1, 1) := by decide +kernel
theorem dL_corner_12 : decode cL_corner 12 = .ok (.iconst 1, 1) := by decide +kernel
theorem dL_corner_13 : decode cL_corner 13 = .ok (.if_icmp .ne 13, 3) := by decide +kernel
theorem dL_corner_16 : decode cL_corner 16 = .ok (.iload_n 0, 1) := by decide +kernel
theorem dL_corner_17 : decode cL_corner 17 = .ok (.bipush 100, 2) := by decide +kernel
theorem dL_corner_19 : decode cL_corner 19 = .ok (.idiv, 1) := by decide +kernel
theorem dL_corner_20 : decode cL_corner 20 = .ok (.bipush 100, 2) := by decide +kernel
theorem dL_corner_22 : decode cL_corner 22 = .ok (.irem, 1) := by decide +kernel
theorem dL_corner_23 : decode cL_corner 23 = .ok (.goto 23, 3) := by decide +kernel
theorem dL_corner_26 : decode cL_corner 26 = .ok (.iload_n 1, 1) := by decide +kernel
theorem dL_corner_27 : decode cL_corner 27 = .ok (.iconst 2, 1) := by decide +kernel
theorem dL_corner_28 : decode cL_corner 28 = .ok (.if_icmp .ne 14, 3) := by decide +kernel
theorem dL_corner_31 : decode cL_corner 31 = .ok (.iload_n 0, 1) := by decide +kernel
theorem dL_corner_32 : decode cL_corner 32 = .ok (.sipush 10000, 3) := by decide +kernel
theorem dL_corner_35 : decode cL_corner 35 = .ok (.idiv, 1) := by decide +kernel
theorem dL_corner_36 : decode cL_corner 36 = .ok (.bipush 100, 2) := by decide +kernel
theorem dL_corner_38 : decode cL_corner 38 = .ok (.irem, 1) := by decide +kernel
theorem dL_corner_39 : decode cL_corner 39 = .ok (.goto 7, 3) := by decide +kernel
theorem dL_corner_42 : decode cL_corner 42 = .ok (.iload_n 0, 1) := by decide +kernel
theorem dL_corner_43 : decode cL_corner 43 = .ok (.ldc 9, 2) := by decide +kernel
theorem dL_corner_45 : decode cL_corner 45 = .ok (.idiv, 1) := by decide +kernel
theorem dL_corner_46 : decode cL_corner 46 = .ok (.ireturn, 1) := by decide +kernel
theorem dL_many_0 : decode cL_many 0 = .ok (.iconst 0, 1) := by decide +kernel
theorem dL_many_1 : decode cL_many 1 = .ok (.istore_n 1, 1) := by decide +kernel
theorem dL_many_2 : decode cL_many 2 = .ok (.iconst 0, 1) := by decide +kernel
theorem dL_many_3 : decode cL_many 3 = .ok (.istore_n 2, 1) := by decide +kernel
theorem dL_many_4 : decode cL_many 4 = .ok (.iload_n 2, 1) := by decide +kernel
theorem dL_many_5 : decode cL_many 5 = .ok (.bipush 24, 2) := by decide +kernel
theorem dL_many_7 : decode cL_many 7 = .ok (.if_icmp .ge 23, 3) := by decide +kernel
theorem dL_many_10 : decode cL_many 10 = .ok (.iload_n 1, 1) := by decide +kernel
theorem dL_many_11 : decode cL_many 11 = .ok (.aload_n 0, 1) := by decide +kernel
theorem dL_many_12 : decode cL_many 12 = .ok (.iload_n 2, 1) := by decide +kernel
theorem dL_many_13 : decode cL_many 13 = .ok (.iaload, 1) := by decide +kernel
theorem dL_many_14 : decode cL_many 14 = .ok (.ifCond .ge 7, 3) := by decide +kernel
theorem dL_many_17 : decode cL_many 17 = .ok (.iconst 0, 1) := by decide +kernel
theorem dL_many_18 : decode cL_many 18 = .ok (.goto 4, 3) := by decide +kernel
theorem dL_many_21 : decode cL_many 21 = .ok (.iconst 1, 1) := by decide +kernel
theorem dL_many_22 : decode cL_many 22 = .ok (.iadd, 1) := by decide +kernel
theorem dL_many_23 : decode cL_many 23 = .ok (.istore_n 1, 1) := by decide +kernel
theorem dL_many_24 : decode cL_many 24 = .ok (.iinc 2 1, 3) := by decide +kernel
theorem dL_many_27 : decode cL_many 27 = .ok (.goto (-23), 3) := by decide +kernel
theorem dL_many_30 : decode cL_many 30 = .ok (.iload_n 1, 1) := by decide +kernel
theorem dL_many_31 : decode cL_many 31 = .ok (.ireturn, 1) := by decide +kernel
theorem dL_behind_0 : decode cL_behind 0 = .ok (.iload_n 1, 1) := by decide +kernel
theorem dL_behind_1 : decode cL_behind 1 = .ok (.iconst 1, 1) := by decide +kernel
theorem dL_behind_2 : decode cL_behind 2 = .ok (.iadd, 1) := by decide +kernel
theorem dL_behind_3 : decode cL_behind 3 = .ok (.istore 4, 2) := by decide +kernel
theorem dL_behind_5 : decode cL_behind 5 = .ok (.iload 4, 2) := by decide +kernel
theorem dL_behind_7 : decode cL_behind 7 = .ok (.iload_n 3, 1) := by decide +kernel
theorem dL_behind_8 : decode cL_behind 8 = .ok (.if_icmp .ge 19, 3) := by decide +kernel
theorem dL_behind_11 : decode cL_behind 11 = .ok (.aload_n 0, 1) := by decide +kernel
theorem dL_behind_12 : decode cL_behind 12 = .ok (.iload 4, 2) := by decide +kernel
theorem dL_behind_14 : decode cL_behind 14 = .ok (.invokevirtual 10, 3) := by decide +kernel
theorem dL_behind_17 : decode cL_behind 17 = .ok (.iload_n 2, 1) := by decide +kernel
theorem dL_behind_18 : decode cL_behind 18 = .ok (.if_icmp .ge 9, 3) := by decide +kernel
theorem dL_behind_21 : decode cL_behind 21 = .ok (.iinc 4 1, 3) := by decide +kernel
theorem dL_behind_24 : decode cL_behind 24 = .ok (.goto (-19), 3) := by decide +kernel
theorem dL_behind_27 : decode cL_behind 27 = .ok (.iload 4, 2) := by decide +kernel
theorem dL_behind_29 : decode cL_behind 29 = .ok (.ireturn, 1) := by decide +kernel
theorem dL_leaf_0 : decode cL_leaf 0 = .ok (.iload_n 3, 1) := by decide +kernel
theorem dL_leaf_1 : decode cL_leaf 1 = .ok (.istore 4, 2) := by decide +kernel
theorem dL_leaf_3 : decode cL_leaf 3 = .ok (.aload_n 0, 1) := by decide +kernel
theorem dL_leaf_4 : decode cL_leaf 4 = .ok (.iload_n 2, 1) := by decide +kernel
theorem dL_leaf_5 : decode cL_leaf 5 = .ok (.invokevirtual 16, 3) := by decide +kernel
theorem dL_leaf_8 : decode cL_leaf 8 = .ok (.istore 5, 2) := by decide +kernel
theorem dL_leaf_10 : decode cL_leaf 10 = .ok (.iconst 0, 1) := by decide +kernel
theorem dL_leaf_11 : decode cL_leaf 11 = .ok (.istore 6, 2) := by decide +kernel
theorem dL_leaf_13 : decode cL_leaf 13 = .ok (.iload 6, 2) := by decide +kernel
theorem dL_leaf_15 : decode cL_leaf 15 = .ok (.iload 5, 2) := by decide +kernel
theorem dL_leaf_17 : decode cL_leaf 17 = .ok (.if_icmp .ge 69, 3) := by decide +kernel
theorem dL_leaf_20 : decode cL_leaf 20 = .ok (.aload_n 0, 1) := by decide +kernel
theorem dL_leaf_21 : decode cL_leaf 21 = .ok (.iload_n 2, 1) := by decide +kernel
theorem dL_leaf_22 : decode cL_leaf 22 = .ok (.iload 6, 2) := by decide +kernel
theorem dL_leaf_24 : decode cL_leaf 24 = .ok (.invokevirtual 19, 3) := by decide +kernel
theorem dL_leaf_27 : decode cL_leaf 27 = .ok (.istore 7, 2) := by decide +kernel
theorem dL_leaf_29 : decode cL_leaf 29 = .ok (.iload 7, 2) := by decide +kernel
theorem dL_leaf_31 : decode cL_leaf 31 = .ok (.ifCond .lt 38, 3) := by decide +kernel
theorem dL_leaf_34 : decode cL_leaf 34 = .ok (.iload 7, 2) := by decide +kernel
theorem dL_leaf_36 : decode cL_leaf 36 = .ok (.bipush 23, 2) := by decide +kernel
theorem dL_leaf_38 : decode cL_leaf 38 = .ok (.if_icmp .gt 31, 3) := by decide +kernel
theorem dL_leaf_41 : decode cL_leaf 41 = .ok (.aload_n 1, 1) := by decide +kernel
theorem dL_leaf_42 : decode cL_leaf 42 = .ok (.iload 7, 2) := by decide +kernel
theorem dL_leaf_44 : decode cL_leaf 44 = .ok (.iaload, 1) := by decide +kernel
theorem dL_leaf_45 : decode cL_leaf 45 = .ok (.ifCond .lt 24, 3) := by decide +kernel
theorem dL_leaf_48 : decode cL_leaf 48 = .ok (.iload 4, 2) := by decide +kernel
theorem dL_leaf_50 : decode cL_leaf 50 = .ok (.iload 7, 2) := by decide +kernel
theorem dL_leaf_52 : decode cL_leaf 52 = .ok (.ishr, 1) := by decide +kernel
theorem dL_leaf_53 : decode cL_leaf 53 = .ok (.iconst 1, 1) := by decide +kernel
theorem dL_leaf_54 : decode cL_leaf 54 = .ok (.iand, 1) := by decide +kernel
theorem dL_leaf_55 : decode cL_leaf 55 = .ok (.iconst 1, 1) := by decide +kernel
theorem dL_leaf_56 : decode cL_leaf 56 = .ok (.if_icmp .eq 13, 3) := by decide +kernel
theorem dL_leaf_59 : decode cL_leaf 59 = .ok (.aload_n 0, 1) := by decide +kernel
theorem dL_leaf_60 : decode cL_leaf 60 = .ok (.iload 7, 2) := by decide +kernel
theorem dL_leaf_62 : decode cL_leaf 62 = .ok (.invokevirtual 23, 3) := by decide +kernel
theorem dL_leaf_65 : decode cL_leaf 65 = .ok (.iload_n 2, 1) := by decide +kernel
theorem dL_leaf_66 : decode cL_leaf 66 = .ok (.if_icmp .eq 5, 3) := by decide +kernel
theorem dL_leaf_69 : decode cL_leaf 69 = .ok (.iconst (-1), 1) := by decide +kernel
theorem dL_leaf_70 : decode cL_leaf 70 = .ok (.ireturn, 1) := by decide +kernel
theorem dL_leaf_71 : decode cL_leaf 71 = .ok (.iload 4, 2) := by decide +kernel
theorem dL_leaf_73 : decode cL_leaf 73 = .ok (.iconst 1, 1) := by decide +kernel
theorem dL_leaf_74 : decode cL_leaf 74 = .ok (.iload 7, 2) := by decide +kernel
theorem dL_leaf_76 : decode cL_leaf 76 = .ok (.ishl, 1) := by decide +kernel
theorem dL_leaf_77 : decode cL_leaf 77 = .ok (.ior, 1) := by decide +kernel
theorem dL_leaf_78 : decode cL_leaf 78 = .ok (.istore 4, 2) := by decide +kernel
theorem dL_leaf_80 : decode cL_leaf 80 = .ok (.iinc 6 1, 3) := by decide +kernel
theorem dL_leaf_83 : decode cL_leaf 83 = .ok (.goto (-70), 3) := by decide +kernel
theorem dL_leaf_86 : decode cL_leaf 86 = .ok (.iconst 0, 1) := by decide +kernel
theorem dL_leaf_87 : decode cL_leaf 87 = .ok (.istore 6, 2) := by decide +kernel
theorem dL_leaf_89 : decode cL_leaf 89 = .ok (.iload 6, 2) := by decide +kernel
theorem dL_leaf_91 : decode cL_leaf 91 = .ok (.iconst 4, 1) := by decide +kernel
theorem dL_leaf_92 : decode cL_leaf 92 = .ok (.if_icmp .ge 113, 3) := by decide +kernel
theorem dL_leaf_95 : decode cL_leaf 95 = .ok (.iload 5, 2) := by decide +kernel
theorem dL_leaf_97 : decode cL_leaf 97 = .ok (.ifCond .le 108, 3) := by decide +kernel
theorem dL_leaf_100 : decode cL_leaf 100 = .ok (.iload 6, 2) := by decide +kernel
theorem dL_leaf_102 : decode cL_leaf 102 = .ok (.iconst 2, 1) := by decide +kernel
theorem dL_leaf_103 : decode cL_leaf 103 = .ok (.if_icmp .ge 8, 3) := by decide +kernel
theorem dL_leaf_106 : decode cL_leaf 106 = .ok (.bipush 100, 2) := by decide +kernel
theorem dL_leaf_108 : decode cL_leaf 108 = .ok (.goto 4, 3) := by decide +kernel
theorem dL_leaf_111 : decode cL_leaf 111 = .ok (.iconst (-1), 1) := by decide +kernel
theorem dL_leaf_112 : decode cL_leaf 112 = .ok (.istore 7, 2) := by decide +kernel
theorem dL_leaf_114 : decode cL_leaf 114 = .ok (.iconst 0, 1) := by decide +kernel
theorem dL_leaf_115 : decode cL_leaf 115 = .ok (.istore 8, 2) := by decide +kernel
theorem dL_leaf_117 : decode cL_leaf 117 = .ok (.iload 8, 2) := by decide +kernel
theorem dL_leaf_119 : decode cL_leaf 119 = .ok (.iload 5, 2) := by decide +kernel
theorem dL_leaf_121 : decode cL_leaf 121 = .ok (.if_icmp .ge 64, 3) := by decide +kernel
theorem dL_leaf_124 : decode cL_leaf 124 = .ok (.aload_n 1, 1) := by decide +kernel
theorem dL_leaf_125 : decode cL_leaf 125 = .ok (.aload_n 0, 1) := by decide +kernel
theorem dL_leaf_126 : decode cL_leaf 126 = .ok (.iload_n 2, 1) := by decide +kernel
theorem dL_leaf_127 : decode cL_leaf 127 = .ok (.iload 8, 2) := by decide +kernel
theorem dL_leaf_129 : decode cL_leaf 129 = .ok (.invokevirtual 19, 3) := by decide +kernel
theorem dL_leaf_132 : decode cL_leaf 132 = .ok (.iaload, 1) := by decide +kernel
theorem dL_leaf_133 : decode cL_leaf 133 = .ok (.iload 6, 2) := by decide +kernel
theorem dL_leaf_135 : decode cL_leaf 135 = .ok (.invokestatic 26, 3) := by decide +kernel
theorem dL_leaf_138 : decode cL_leaf 138 = .ok (.istore 9, 2) := by decide +kernel
theorem dL_leaf_140 : decode cL_leaf 140 = .ok (.iload 6, 2) := by decide +kernel
theorem dL_leaf_142 : decode cL_leaf 142 = .ok (.iconst 2, 1) := by decide +kernel
theorem dL_leaf_143 : decode cL_leaf 143 = .ok (.if_icmp .ge 20, 3) := by decide +kernel
theorem dL_leaf_146 : decode cL_leaf 146 = .ok (.iload 9, 2) := by decide +kernel
theorem dL_leaf_148 : decode cL_leaf 148 = .ok (.iload 7, 2) := by decide +kernel
theorem dL_leaf_150 : decode cL_leaf 150 = .ok (.if_icmp .ge 8, 3) := by decide +kernel
theorem dL_leaf_153 : decode cL_leaf 153 = .ok (.iload 9, 2) := by decide +kernel
theorem dL_leaf_155 : decode cL_leaf 155 = .ok (.goto 22, 3) := by decide +kernel
theorem dL_leaf_158 : decode cL_leaf 158 = .ok (.iload 7, 2) := by decide +kernel
theorem dL_leaf_160 : decode cL_leaf 160 = .ok (.goto 17, 3) := by decide +kernel
theorem dL_leaf_163 : decode cL_leaf 163 = .ok (.iload 9, 2) := by decide +kernel
theorem dL_leaf_165 : decode cL_leaf 165 = .ok (.iload 7, 2) := by decide +kernel
theorem dL_leaf_167 : decode cL_leaf 167 = .ok (.if_icmp .le 8, 3) := by decide +kernel
theorem dL_leaf_170 : decode cL_leaf 170 = .ok (.iload 9, 2) := by decide +kernel
theorem dL_leaf_172 : decode cL_leaf 172 = .ok (.goto 5, 3) := by decide +kernel
theorem dL_leaf_175 : decode cL_leaf 175 = .ok (.iload 7, 2) := by decide +kernel
theorem dL_leaf_177 : decode cL_leaf 177 = .ok (.istore 7, 2) := by decide +kernel
theorem dL_leaf_179 : decode cL_leaf 179 = .ok (.iinc 8 1, 3) := by decide +kernel
theorem dL_leaf_182 : decode cL_leaf 182 = .ok (.goto (-65), 3) := by decide +kernel
theorem dL_leaf_185 : decode cL_leaf 185 = .ok (.aload_n 0, 1) := by decide +kernel
theorem dL_leaf_186 : decode cL_leaf 186 = .ok (.iload_n 2, 1) := by decide +kernel
theorem dL_leaf_187 : decode cL_leaf 187 = .ok (.iload 6, 2) := by decide +kernel
theorem dL_leaf_189 : decode cL_leaf 189 = .ok (.invokevirtual 31, 3) := by decide +kernel
theorem dL_leaf_192 : decode cL_leaf 192 = .ok (.iload 7, 2) := by decide +kernel
theorem dL_leaf_194 : decode cL_leaf 194 = .ok (.if_icmp .eq 5, 3) := by decide +kernel
theorem dL_leaf_197 : decode cL_leaf 197 = .ok (.iconst (-1), 1) := by decide +kernel
theorem dL_leaf_198 : decode cL_leaf 198 = .ok (.ireturn, 1) := by decide +kernel
theorem dL_leaf_199 : decode cL_leaf 199 = .ok (.iinc 6 1, 3) := by decide +kernel
theorem dL_leaf_202 : decode cL_leaf 202 = .ok (.goto (-113), 3) := by decide +kernel
theorem dL_leaf_205 : decode cL_leaf 205 = .ok (.iload 4, 2) := by decide +kernel
theorem dL_leaf_207 : decode cL_leaf 207 = .ok (.ireturn, 1) := by decide +kernel
theorem dL_isNode_0 : decode cL_isNode 0 = .ok (.iload_n 1, 1) := by decide +kernel
theorem dL_isNode_1 : decode cL_isNode 1 = .ok (.iconst 1, 1) := by decide +kernel
theorem dL_isNode_2 : decode cL_isNode 2 = .ok (.iadd, 1) := by decide +kernel
theorem dL_isNode_3 : decode cL_isNode 3 = .ok (.istore 4, 2) := by decide +kernel
theorem dL_isNode_5 : decode cL_isNode 5 = .ok (.aload_n 0, 1) := by decide +kernel
theorem dL_isNode_6 : decode cL_isNode 6 = .ok (.iload_n 1, 1) := by decide +kernel
theorem dL_isNode_7 : decode cL_isNode 7 = .ok (.invokevirtual 16, 3) := by decide +kernel
theorem dL_isNode_10 : decode cL_isNode 10 = .ok (.istore 5, 2) := by decide +kernel
theorem dL_isNode_12 : decode cL_isNode 12 = .ok (.iconst 0, 1) := by decide +kernel
theorem dL_isNode_13 : decode cL_isNode 13 = .ok (.istore 6, 2) := by decide +kernel
theorem dL_isNode_15 : decode cL_isNode 15 = .ok (.iload 6, 2) := by decide +kernel
theorem dL_isNode_17 : decode cL_isNode 17 = .ok (.iload 5, 2) := by decide +kernel
theorem dL_isNode_19 : decode cL_isNode 19 = .ok (.if_icmp .ge 53, 3) := by decide +kernel
theorem dL_isNode_22 : decode cL_isNode 22 = .ok (.iload 4, 2) := by decide +kernel
theorem dL_isNode_24 : decode cL_isNode 24 = .ok (.iload_n 3, 1) := by decide +kernel
theorem dL_isNode_25 : decode cL_isNode 25 = .ok (.if_icmp .ge 27, 3) := by decide +kernel
theorem dL_isNode_28 : decode cL_isNode 28 = .ok (.aload_n 0, 1) := by decide +kernel
theorem dL_isNode_29 : decode cL_isNode 29 = .ok (.iload_n 1, 1) := by decide +kernel
theorem dL_isNode_30 : decode cL_isNode 30 = .ok (.iload 6, 2) := by decide +kernel
theorem dL_isNode_32 : decode cL_isNode 32 = .ok (.invokevirtual 19, 3) := by decide +kernel
theorem dL_isNode_35 : decode cL_isNode 35 = .ok (.iload 4, 2) := by decide +kernel
theorem dL_isNode_37 : decode cL_isNode 37 = .ok (.if_icmp .ne 15, 3) := by decide +kernel
theorem dL_isNode_40 : decode cL_isNode 40 = .ok (.aload_n 0, 1) := by decide +kernel
theorem dL_isNode_41 : decode cL_isNode 41 = .ok (.iload 4, 2) := by decide +kernel
theorem dL_isNode_43 : decode cL_isNode 43 = .ok (.invokevirtual 10, 3) := by decide +kernel
theorem dL_isNode_46 : decode cL_isNode 46 = .ok (.iload_n 2, 1) := by decide +kernel
theorem dL_isNode_47 : decode cL_isNode 47 = .ok (.iconst 1, 1) := by decide +kernel
theorem dL_isNode_48 : decode cL_isNode 48 = .ok (.isub, 1) := by decide +kernel
theorem dL_isNode_49 : decode cL_isNode 49 = .ok (.if_icmp .eq 5, 3) := by decide +kernel
theorem dL_isNode_52 : decode cL_isNode 52 = .ok (.iconst 0, 1) := by decide +kernel
theorem dL_isNode_53 : decode cL_isNode 53 = .ok (.ireturn, 1) := by decide +kernel
theorem dL_isNode_54 : decode cL_isNode 54 = .ok (.aload_n 0, 1) := by decide +kernel
theorem dL_isNode_55 : decode cL_isNode 55 = .ok (.iload 4, 2) := by decide +kernel
theorem dL_isNode_57 : decode cL_isNode 57 = .ok (.iload_n 2, 1) := by decide +kernel
theorem dL_isNode_58 : decode cL_isNode 58 = .ok (.iconst 1, 1) := by decide +kernel
theorem dL_isNode_59 : decode cL_isNode 59 = .ok (.isub, 1) := by decide +kernel
theorem dL_isNode_60 : decode cL_isNode 60 = .ok (.iload_n 3, 1) := by decide +kernel
theorem dL_isNode_61 : decode cL_isNode 61 = .ok (.invokestatic 34, 3) := by decide +kernel
theorem dL_isNode_64 : decode cL_isNode 64 = .ok (.istore 4, 2) := by decide +kernel
theorem dL_isNode_66 : decode cL_isNode 66 = .ok (.iinc 6 1, 3) := by decide +kernel
theorem dL_isNode_69 : decode cL_isNode 69 = .ok (.goto (-54), 3) := by decide +kernel
theorem dL_isNode_72 : decode cL_isNode 72 = .ok (.iconst 0, 1) := by decide +kernel
theorem dL_isNode_73 : decode cL_isNode 73 = .ok (.istore 6, 2) := by decide +kernel
theorem dL_isNode_75 : decode cL_isNode 75 = .ok (.iload 6, 2) := by decide +kernel
theorem dL_isNode_77 : decode cL_isNode 77 = .ok (.iconst 4, 1) := by decide +kernel
theorem dL_isNode_78 : decode cL_isNode 78 = .ok (.if_icmp .ge 107, 3) := by decide +kernel
theorem dL_isNode_81 : decode cL_isNode 81 = .ok (.iload 6, 2) := by decide +kernel
theorem dL_isNode_83 : decode cL_isNode 83 = .ok (.iconst 2, 1) := by decide +kernel
theorem dL_isNode_84 : decode cL_isNode 84 = .ok (.if_icmp .ge 8, 3) := by decide +kernel
theorem dL_isNode_87 : decode cL_isNode 87 = .ok (.bipush 100, 2) := by decide +kernel
theorem dL_isNode_89 : decode cL_isNode 89 = .ok (.goto 4, 3) := by decide +kernel
theorem dL_isNode_92 : decode cL_isNode 92 = .ok (.iconst (-1), 1) := by decide +kernel
theorem dL_isNode_93 : decode cL_isNode 93 = .ok (.istore 7, 2) := by decide +kernel
theorem dL_isNode_95 : decode cL_isNode 95 = .ok (.iconst 0, 1) := by decide +kernel
theorem dL_isNode_96 : decode cL_isNode 96 = .ok (.istore 8, 2) := by decide +kernel
theorem dL_isNode_98 : decode cL_isNode 98 = .ok (.iload 8, 2) := by decide +kernel
theorem dL_isNode_100 : decode cL_isNode 100 = .ok (.iload 5, 2) := by decide +kernel
theorem dL_isNode_102 : decode cL_isNode 102 = .ok (.if_icmp .ge 63, 3) := by decide +kernel
theorem dL_isNode_105 : decode cL_isNode 105 = .ok (.aload_n 0, 1) := by decide +kernel
theorem dL_isNode_106 : decode cL_isNode 106 = .ok (.aload_n 0, 1) := by decide +kernel
theorem dL_isNode_107 : decode cL_isNode 107 = .ok (.iload_n 1, 1) := by decide +kernel
theorem dL_isNode_108 : decode cL_isNode 108 = .ok (.iload 8, 2) := by decide +kernel
theorem dL_isNode_110 : decode cL_isNode 110 = .ok (.invokevirtual 19, 3) := by decide +kernel
theorem dL_isNode_113 : decode cL_isNode 113 = .ok (.iload 6, 2) := by decide +kernel
theorem dL_isNode_115 : decode cL_isNode 115 = .ok (.invokevirtual 31, 3) := by decide +kernel
theorem dL_isNode_118 : decode cL_isNode 118 = .ok (.istore 9, 2) := by decide +kernel
theorem dL_isNode_120 : decode cL_isNode 120 = .ok (.iload 6, 2) := by decide +kernel
theorem dL_isNode_122 : decode cL_isNode 122 = .ok (.iconst 2, 1) := by decide +kernel
theorem dL_isNode_123 : decode cL_isNode 123 = .ok (.if_icmp .ge 20, 3) := by decide +kernel
theorem dL_isNode_126 : decode cL_isNode 126 = .ok (.iload 9, 2) := by decide +kernel
theorem dL_isNode_128 : decode cL_isNode 128 = .ok (.iload 7, 2) := by decide +kernel
theorem dL_isNode_130 : decode cL_isNode 130 = .ok (.if_icmp .ge 8, 3) := by decide +kernel
theorem dL_isNode_133 : decode cL_isNode 133 = .ok (.iload 9, 2) := by decide +kernel
theorem dL_isNode_135 : decode cL_isNode 135 = .ok (.goto 22, 3) := by decide +kernel
theorem dL_isNode_138 : decode cL_isNode 138 = .ok (.iload 7, 2) := by decide +kernel
theorem dL_isNode_140 : decode cL_isNode 140 = .ok (.goto 17, 3) := by decide +kernel
theorem dL_isNode_143 : decode cL_isNode 143 = .ok (.iload 9, 2) := by decide +kernel
theorem dL_isNode_145 : decode cL_isNode 145 = .ok (.iload 7, 2) := by decide +kernel
theorem dL_isNode_147 : decode cL_isNode 147 = .ok (.if_icmp .le 8, 3) := by decide +kernel
theorem dL_isNode_150 : decode cL_isNode 150 = .ok (.iload 9, 2) := by decide +kernel
theorem dL_isNode_152 : decode cL_isNode 152 = .ok (.goto 5, 3) := by decide +kernel
theorem dL_isNode_155 : decode cL_isNode 155 = .ok (.iload 7, 2) := by decide +kernel
theorem dL_isNode_157 : decode cL_isNode 157 = .ok (.istore 7, 2) := by decide +kernel
theorem dL_isNode_159 : decode cL_isNode 159 = .ok (.iinc 8 1, 3) := by decide +kernel
theorem dL_isNode_162 : decode cL_isNode 162 = .ok (.goto (-64), 3) := by decide +kernel
theorem dL_isNode_165 : decode cL_isNode 165 = .ok (.aload_n 0, 1) := by decide +kernel
theorem dL_isNode_166 : decode cL_isNode 166 = .ok (.iload_n 1, 1) := by decide +kernel
theorem dL_isNode_167 : decode cL_isNode 167 = .ok (.iload 6, 2) := by decide +kernel
theorem dL_isNode_169 : decode cL_isNode 169 = .ok (.invokevirtual 31, 3) := by decide +kernel
theorem dL_isNode_172 : decode cL_isNode 172 = .ok (.iload 7, 2) := by decide +kernel
theorem dL_isNode_174 : decode cL_isNode 174 = .ok (.if_icmp .eq 5, 3) := by decide +kernel
theorem dL_isNode_177 : decode cL_isNode 177 = .ok (.iconst 0, 1) := by decide +kernel
theorem dL_isNode_178 : decode cL_isNode 178 = .ok (.ireturn, 1) := by decide +kernel
theorem dL_isNode_179 : decode cL_isNode 179 = .ok (.iinc 6 1, 3) := by decide +kernel
theorem dL_isNode_182 : decode cL_isNode 182 = .ok (.goto (-107), 3) := by decide +kernel
theorem dL_isNode_185 : decode cL_isNode 185 = .ok (.iload 5, 2) := by decide +kernel
theorem dL_isNode_187 : decode cL_isNode 187 = .ok (.ifCond .le 19, 3) := by decide +kernel
theorem dL_isNode_190 : decode cL_isNode 190 = .ok (.iload 4, 2) := by decide +kernel
theorem dL_isNode_192 : decode cL_isNode 192 = .ok (.aload_n 0, 1) := by decide +kernel
theorem dL_isNode_193 : decode cL_isNode 193 = .ok (.iload_n 1, 1) := by decide +kernel
theorem dL_isNode_194 : decode cL_isNode 194 = .ok (.iload_n 2, 1) := by decide +kernel
theorem dL_isNode_195 : decode cL_isNode 195 = .ok (.iload_n 3, 1) := by decide +kernel
theorem dL_isNode_196 : decode cL_isNode 196 = .ok (.invokestatic 34, 3) := by decide +kernel
theorem dL_isNode_199 : decode cL_isNode 199 = .ok (.if_icmp .ne 7, 3) := by decide +kernel
theorem dL_isNode_202 : decode cL_isNode 202 = .ok (.iconst 1, 1) := by decide +kernel
theorem dL_isNode_203 : decode cL_isNode 203 = .ok (.goto 4, 3) := by decide +kernel
theorem dL_isNode_206 : decode cL_isNode 206 = .ok (.iconst 0, 1) := by decide +kernel
theorem dL_isNode_207 : decode cL_isNode 207 = .ok (.ireturn, 1) := by decide +kernel
theorem dL_isTree_0 : decode cL_isTree 0 = .ok (.aload_n 0, 1) := by decide +kernel
theorem dL_isTree_1 : decode cL_isTree 1 = .ok (.invokevirtual 38, 3) := by decide +kernel
theorem dL_isTree_4 : decode cL_isTree 4 = .ok (.istore_n 2, 1) := by decide +kernel
theorem dL_isTree_5 : decode cL_isTree 5 = .ok (.aload_n 1, 1) := by decide +kernel
theorem dL_isTree_6 : decode cL_isTree 6 = .ok (.invokestatic 42, 3) := by decide +kernel
theorem dL_isTree_9 : decode cL_isTree 9 = .ok (.istore_n 3, 1) := by decide +kernel
theorem dL_isTree_10 : decode cL_isTree 10 = .ok (.iconst 0, 1) := by decide +kernel
theorem dL_isTree_11 : decode cL_isTree 11 = .ok (.istore 4, 2) := by decide +kernel
theorem dL_isTree_13 : decode cL_isTree 13 = .ok (.iload_n 2, 1) := by decide +kernel
theorem dL_isTree_14 : decode cL_isTree 14 = .ok (.iconst 1, 1) := by decide +kernel
theorem dL_isTree_15 : decode cL_isTree 15 = .ok (.if_icmp .lt 70, 3) := by decide +kernel
theorem dL_isTree_18 : decode cL_isTree 18 = .ok (.iload_n 2, 1) := by decide +kernel
theorem dL_isTree_19 : decode cL_isTree 19 = .ok (.sipush 400, 3) := by decide +kernel
theorem dL_isTree_22 : decode cL_isTree 22 = .ok (.if_icmp .gt 63, 3) := by decide +kernel
theorem dL_isTree_25 : decode cL_isTree 25 = .ok (.aload_n 0, 1) := by decide +kernel
theorem dL_isTree_26 : decode cL_isTree 26 = .ok (.iconst 0, 1) := by decide +kernel
theorem dL_isTree_27 : decode cL_isTree 27 = .ok (.invokevirtual 10, 3) := by decide +kernel
theorem dL_isTree_30 : decode cL_isTree 30 = .ok (.aload_n 0, 1) := by decide +kernel
theorem dL_isTree_31 : decode cL_isTree 31 = .ok (.invokevirtual 46, 3) := by decide +kernel
theorem dL_isTree_34 : decode cL_isTree 34 = .ok (.if_icmp .ne 51, 3) := by decide +kernel
theorem dL_isTree_37 : decode cL_isTree 37 = .ok (.aload_n 0, 1) := by decide +kernel
theorem dL_isTree_38 : decode cL_isTree 38 = .ok (.iload_n 2, 1) := by decide +kernel
theorem dL_isTree_39 : decode cL_isTree 39 = .ok (.invokevirtual 10, 3) := by decide +kernel
theorem dL_isTree_42 : decode cL_isTree 42 = .ok (.iconst (-1), 1) := by decide +kernel
theorem dL_isTree_43 : decode cL_isTree 43 = .ok (.if_icmp .ne 42, 3) := by decide +kernel
theorem dL_isTree_46 : decode cL_isTree 46 = .ok (.aload_n 0, 1) := by decide +kernel
theorem dL_isTree_47 : decode cL_isTree 47 = .ok (.iconst (-1), 1) := by decide +kernel
theorem dL_isTree_48 : decode cL_isTree 48 = .ok (.invokevirtual 10, 3) := by decide +kernel
theorem dL_isTree_51 : decode cL_isTree 51 = .ok (.iconst (-1), 1) := by decide +kernel
theorem dL_isTree_52 : decode cL_isTree 52 = .ok (.if_icmp .ne 33, 3) := by decide +kernel
theorem dL_isTree_55 : decode cL_isTree 55 = .ok (.aload_n 0, 1) := by decide +kernel
theorem dL_isTree_56 : decode cL_isTree 56 = .ok (.iload_n 2, 1) := by decide +kernel
theorem dL_isTree_57 : decode cL_isTree 57 = .ok (.invokevirtual 16, 3) := by decide +kernel
theorem dL_isTree_60 : decode cL_isTree 60 = .ok (.iconst (-1), 1) := by decide +kernel
theorem dL_isTree_61 : decode cL_isTree 61 = .ok (.if_icmp .ne 24, 3) := by decide +kernel
theorem dL_isTree_64 : decode cL_isTree 64 = .ok (.aload_n 0, 1) := by decide +kernel
theorem dL_isTree_65 : decode cL_isTree 65 = .ok (.iload_n 2, 1) := by decide +kernel
theorem dL_isTree_66 : decode cL_isTree 66 = .ok (.iconst 4, 1) := by decide +kernel
theorem dL_isTree_67 : decode cL_isTree 67 = .ok (.invokevirtual 31, 3) := by decide +kernel
theorem dL_isTree_70 : decode cL_isTree 70 = .ok (.iconst (-1), 1) := by decide +kernel
theorem dL_isTree_71 : decode cL_isTree 71 = .ok (.if_icmp .ne 14, 3) := by decide +kernel
theorem dL_isTree_74 : decode cL_isTree 74 = .ok (.aload_n 0, 1) := by decide +kernel
theorem dL_isTree_75 : decode cL_isTree 75 = .ok (.iconst 0, 1) := by decide +kernel
theorem dL_isTree_76 : decode cL_isTree 76 = .ok (.iconst 4, 1) := by decide +kernel
theorem dL_isTree_77 : decode cL_isTree 77 = .ok (.invokevirtual 31, 3) := by decide +kernel
theorem dL_isTree_80 : decode cL_isTree 80 = .ok (.bipush (-2), 2) := by decide +kernel
theorem dL_isTree_82 : decode cL_isTree 82 = .ok (.if_icmp .eq 5, 3) := by decide +kernel
theorem dL_isTree_85 : decode cL_isTree 85 = .ok (.iconst 0, 1) := by decide +kernel
theorem dL_isTree_86 : decode cL_isTree 86 = .ok (.ireturn, 1) := by decide +kernel
theorem dL_isTree_87 : decode cL_isTree 87 = .ok (.iconst 0, 1) := by decide +kernel
theorem dL_isTree_88 : decode cL_isTree 88 = .ok (.istore 5, 2) := by decide +kernel
theorem dL_isTree_90 : decode cL_isTree 90 = .ok (.iload 5, 2) := by decide +kernel
theorem dL_isTree_92 : decode cL_isTree 92 = .ok (.iload_n 2, 1) := by decide +kernel
theorem dL_isTree_93 : decode cL_isTree 93 = .ok (.if_icmp .ge 162, 3) := by decide +kernel
