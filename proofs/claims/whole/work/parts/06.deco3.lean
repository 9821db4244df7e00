theorem dX7_pack_59 : decode cX7_pack 59 = .ok (.aload_n 0, 1) := by decide +kernel
theorem dX7_pack_60 : decode cX7_pack 60 = .ok (.iload_n 1, 1) := by decide +kernel
theorem dX7_pack_61 : decode cX7_pack 61 = .ok (.invokevirtual 219, 3) := by decide +kernel
theorem dX7_pack_64 : decode cX7_pack 64 = .ok (.aload_n 0, 1) := by decide +kernel
theorem dX7_pack_65 : decode cX7_pack 65 = .ok (.invokevirtual 222, 3) := by decide +kernel
theorem dX7_pack_68 : decode cX7_pack 68 = .ok (.istore_n 2, 1) := by decide +kernel
theorem dX7_pack_69 : decode cX7_pack 69 = .ok (.iconst 0, 1) := by decide +kernel
theorem dX7_pack_70 : decode cX7_pack 70 = .ok (.istore_n 3, 1) := by decide +kernel
theorem dX7_pack_71 : decode cX7_pack 71 = .ok (.iload_n 2, 1) := by decide +kernel
theorem dX7_pack_72 : decode cX7_pack 72 = .ok (.iconst 1, 1) := by decide +kernel
theorem dX7_pack_73 : decode cX7_pack 73 = .ok (.if_icmp .le 15, 3) := by decide +kernel
theorem dX7_pack_76 : decode cX7_pack 76 = .ok (.aload_n 0, 1) := by decide +kernel
theorem dX7_pack_77 : decode cX7_pack 77 = .ok (.iload_n 3, 1) := by decide +kernel
theorem dX7_pack_78 : decode cX7_pack 78 = .ok (.invokevirtual 225, 3) := by decide +kernel
theorem dX7_pack_81 : decode cX7_pack 81 = .ok (.istore_n 2, 1) := by decide +kernel
theorem dX7_pack_82 : decode cX7_pack 82 = .ok (.iinc 3 1, 3) := by decide +kernel
theorem dX7_pack_85 : decode cX7_pack 85 = .ok (.goto (-14), 3) := by decide +kernel
theorem dX7_pack_88 : decode cX7_pack 88 = .ok (.aload_n 0, 1) := by decide +kernel
theorem dX7_pack_89 : decode cX7_pack 89 = .ok (.invokevirtual 222, 3) := by decide +kernel
theorem dX7_pack_92 : decode cX7_pack 92 = .ok (.ireturn, 1) := by decide +kernel
theorem dX7_setSetting_0 : decode cX7_setSetting 0 = .ok (.iload_n 1, 1) := by decide +kernel
theorem dX7_setSetting_1 : decode cX7_setSetting 1 = .ok (.iconst 0, 1) := by decide +kernel
theorem dX7_setSetting_2 : decode cX7_setSetting 2 = .ok (.iconst 1, 1) := by decide +kernel
theorem dX7_setSetting_3 : decode cX7_setSetting 3 = .ok (.invokestatic 172, 3) := by decide +kernel
theorem dX7_setSetting_6 : decode cX7_setSetting 6 = .ok (.ifCond .ne 5, 3) := by decide +kernel
theorem dX7_setSetting_9 : decode cX7_setSetting 9 = .ok (.iconst (-1), 1) := by decide +kernel
theorem dX7_setSetting_10 : decode cX7_setSetting 10 = .ok (.ireturn, 1) := by decide +kernel
theorem dX7_setSetting_11 : decode cX7_setSetting 11 = .ok (.iload_n 2, 1) := by decide +kernel
theorem dX7_setSetting_12 : decode cX7_setSetting 12 = .ok (.iload_n 1, 1) := by decide +kernel
theorem dX7_setSetting_13 : decode cX7_setSetting 13 = .ok (.ifCond .ne 7, 3) := by decide +kernel
theorem dX7_setSetting_16 : decode cX7_setSetting 16 = .ok (.iconst 3, 1) := by decide +kernel
theorem dX7_setSetting_17 : decode cX7_setSetting 17 = .ok (.goto 4, 3) := by decide +kernel
theorem dX7_setSetting_20 : decode cX7_setSetting 20 = .ok (.iconst 0, 1) := by decide +kernel
theorem dX7_setSetting_21 : decode cX7_setSetting 21 = .ok (.iload_n 1, 1) := by decide +kernel
theorem dX7_setSetting_22 : decode cX7_setSetting 22 = .ok (.ifCond .ne 7, 3) := by decide +kernel
theorem dX7_setSetting_25 : decode cX7_setSetting 25 = .ok (.iconst 5, 1) := by decide +kernel
theorem dX7_setSetting_26 : decode cX7_setSetting 26 = .ok (.goto 4, 3) := by decide +kernel
theorem dX7_setSetting_29 : decode cX7_setSetting 29 = .ok (.iconst 1, 1) := by decide +kernel
theorem dX7_setSetting_30 : decode cX7_setSetting 30 = .ok (.invokestatic 172, 3) := by decide +kernel
theorem dX7_setSetting_33 : decode cX7_setSetting 33 = .ok (.ifCond .ne 6, 3) := by decide +kernel
theorem dX7_setSetting_36 : decode cX7_setSetting 36 = .ok (.bipush (-2), 2) := by decide +kernel
theorem dX7_setSetting_38 : decode cX7_setSetting 38 = .ok (.ireturn, 1) := by decide +kernel
theorem dX7_setSetting_39 : decode cX7_setSetting 39 = .ok (.aload_n 0, 1) := by decide +kernel
theorem dX7_setSetting_40 : decode cX7_setSetting 40 = .ok (.invokevirtual 186, 3) := by decide +kernel
theorem dX7_setSetting_43 : decode cX7_setSetting 43 = .ok (.aload_n 0, 1) := by decide +kernel
theorem dX7_setSetting_44 : decode cX7_setSetting 44 = .ok (.getfield 7, 3) := by decide +kernel
theorem dX7_setSetting_47 : decode cX7_setSetting 47 = .ok (.iload_n 1, 1) := by decide +kernel
theorem dX7_setSetting_48 : decode cX7_setSetting 48 = .ok (.iaload, 1) := by decide +kernel
theorem dX7_setSetting_49 : decode cX7_setSetting 49 = .ok (.istore_n 3, 1) := by decide +kernel
theorem dX7_setSetting_50 : decode cX7_setSetting 50 = .ok (.aload_n 0, 1) := by decide +kernel
theorem dX7_setSetting_51 : decode cX7_setSetting 51 = .ok (.getfield 7, 3) := by decide +kernel
theorem dX7_setSetting_54 : decode cX7_setSetting 54 = .ok (.iload_n 1, 1) := by decide +kernel
theorem dX7_setSetting_55 : decode cX7_setSetting 55 = .ok (.iload_n 2, 1) := by decide +kernel
theorem dX7_setSetting_56 : decode cX7_setSetting 56 = .ok (.iastore, 1) := by decide +kernel
theorem dX7_setSetting_57 : decode cX7_setSetting 57 = .ok (.iload_n 3, 1) := by decide +kernel
theorem dX7_setSetting_58 : decode cX7_setSetting 58 = .ok (.ireturn, 1) := by decide +kernel
theorem dX7_append_0 : decode cX7_append 0 = .ok (.iload_n 1, 1) := by decide +kernel
theorem dX7_append_1 : decode cX7_append 1 = .ok (.bipush 32, 2) := by decide +kernel
theorem dX7_append_3 : decode cX7_append 3 = .ok (.bipush 126, 2) := by decide +kernel
theorem dX7_append_5 : decode cX7_append 5 = .ok (.invokestatic 172, 3) := by decide +kernel
theorem dX7_append_8 : decode cX7_append 8 = .ok (.ifCond .ne 6, 3) := by decide +kernel
theorem dX7_append_11 : decode cX7_append 11 = .ok (.bipush (-2), 2) := by decide +kernel
theorem dX7_append_13 : decode cX7_append 13 = .ok (.ireturn, 1) := by decide +kernel
theorem dX7_append_14 : decode cX7_append 14 = .ok (.aload_n 0, 1) := by decide +kernel
theorem dX7_append_15 : decode cX7_append 15 = .ok (.getfield 228, 3) := by decide +kernel
theorem dX7_append_18 : decode cX7_append 18 = .ok (.bipush 80, 2) := by decide +kernel
theorem dX7_append_20 : decode cX7_append 20 = .ok (.if_icmp .ne 6, 3) := by decide +kernel
theorem dX7_append_23 : decode cX7_append 23 = .ok (.bipush (-3), 2) := by decide +kernel
theorem dX7_append_25 : decode cX7_append 25 = .ok (.ireturn, 1) := by decide +kernel
theorem dX7_append_26 : decode cX7_append 26 = .ok (.aload_n 0, 1) := by decide +kernel
theorem dX7_append_27 : decode cX7_append 27 = .ok (.getfield 19, 3) := by decide +kernel
theorem dX7_append_30 : decode cX7_append 30 = .ok (.aload_n 0, 1) := by decide +kernel
theorem dX7_append_31 : decode cX7_append 31 = .ok (.getfield 228, 3) := by decide +kernel
theorem dX7_append_34 : decode cX7_append 34 = .ok (.iload_n 1, 1) := by decide +kernel
theorem dX7_append_35 : decode cX7_append 35 = .ok (.iastore, 1) := by decide +kernel
theorem dX7_append_36 : decode cX7_append 36 = .ok (.aload_n 0, 1) := by decide +kernel
theorem dX7_append_37 : decode cX7_append 37 = .ok (.dup, 1) := by decide +kernel
theorem dX7_append_38 : decode cX7_append 38 = .ok (.getfield 228, 3) := by decide +kernel
theorem dX7_append_41 : decode cX7_append 41 = .ok (.iconst 1, 1) := by decide +kernel
theorem dX7_append_42 : decode cX7_append 42 = .ok (.iadd, 1) := by decide +kernel
theorem dX7_append_43 : decode cX7_append 43 = .ok (.putfield 228, 3) := by decide +kernel
theorem dX7_append_46 : decode cX7_append 46 = .ok (.aload_n 0, 1) := by decide +kernel
theorem dX7_append_47 : decode cX7_append 47 = .ok (.getfield 228, 3) := by decide +kernel
theorem dX7_append_50 : decode cX7_append 50 = .ok (.ireturn, 1) := by decide +kernel
theorem dX7_clearText_0 : decode cX7_clearText 0 = .ok (.aload_n 0, 1) := by decide +kernel
theorem dX7_clearText_1 : decode cX7_clearText 1 = .ok (.getfield 228, 3) := by decide +kernel
theorem dX7_clearText_4 : decode cX7_clearText 4 = .ok (.istore_n 1, 1) := by decide +kernel
theorem dX7_clearText_5 : decode cX7_clearText 5 = .ok (.aload_n 0, 1) := by decide +kernel
theorem dX7_clearText_6 : decode cX7_clearText 6 = .ok (.iconst 0, 1) := by decide +kernel
theorem dX7_clearText_7 : decode cX7_clearText 7 = .ok (.putfield 228, 3) := by decide +kernel
theorem dX7_clearText_10 : decode cX7_clearText 10 = .ok (.iload_n 1, 1) := by decide +kernel
theorem dX7_clearText_11 : decode cX7_clearText 11 = .ok (.ireturn, 1) := by decide +kernel
theorem dX7_isDigit_0 : decode cX7_isDigit 0 = .ok (.aload_n 0, 1) := by decide +kernel
theorem dX7_isDigit_1 : decode cX7_isDigit 1 = .ok (.getfield 231, 3) := by decide +kernel
theorem dX7_isDigit_4 : decode cX7_isDigit 4 = .ok (.aload_n 0, 1) := by decide +kernel
theorem dX7_isDigit_5 : decode cX7_isDigit 5 = .ok (.getfield 228, 3) := by decide +kernel
theorem dX7_isDigit_8 : decode cX7_isDigit 8 = .ok (.if_icmp .ge 26, 3) := by decide +kernel
theorem dX7_isDigit_11 : decode cX7_isDigit 11 = .ok (.aload_n 0, 1) := by decide +kernel
theorem dX7_isDigit_12 : decode cX7_isDigit 12 = .ok (.getfield 19, 3) := by decide +kernel
theorem dX7_isDigit_15 : decode cX7_isDigit 15 = .ok (.aload_n 0, 1) := by decide +kernel
theorem dX7_isDigit_16 : decode cX7_isDigit 16 = .ok (.getfield 231, 3) := by decide +kernel
theorem dX7_isDigit_19 : decode cX7_isDigit 19 = .ok (.iaload, 1) := by decide +kernel
theorem dX7_isDigit_20 : decode cX7_isDigit 20 = .ok (.bipush 48, 2) := by decide +kernel
theorem dX7_isDigit_22 : decode cX7_isDigit 22 = .ok (.bipush 57, 2) := by decide +kernel
theorem dX7_isDigit_24 : decode cX7_isDigit 24 = .ok (.invokestatic 172, 3) := by decide +kernel
theorem dX7_isDigit_27 : decode cX7_isDigit 27 = .ok (.ifCond .eq 7, 3) := by decide +kernel
theorem dX7_isDigit_30 : decode cX7_isDigit 30 = .ok (.iconst 1, 1) := by decide +kernel
theorem dX7_isDigit_31 : decode cX7_isDigit 31 = .ok (.goto 4, 3) := by decide +kernel
theorem dX7_isDigit_34 : decode cX7_isDigit 34 = .ok (.iconst 0, 1) := by decide +kernel
theorem dX7_isDigit_35 : decode cX7_isDigit 35 = .ok (.ireturn, 1) := by decide +kernel
theorem dX7_reads_0 : decode cX7_reads 0 = .ok (.aload_n 0, 1) := by decide +kernel
theorem dX7_reads_1 : decode cX7_reads 1 = .ok (.invokevirtual 234, 3) := by decide +kernel
theorem dX7_reads_4 : decode cX7_reads 4 = .ok (.ifCond .ne 5, 3) := by decide +kernel
theorem dX7_reads_7 : decode cX7_reads 7 = .ok (.iconst 0, 1) := by decide +kernel
theorem dX7_reads_8 : decode cX7_reads 8 = .ok (.ireturn, 1) := by decide +kernel
theorem dX7_reads_9 : decode cX7_reads 9 = .ok (.aload_n 0, 1) := by decide +kernel
theorem dX7_reads_10 : decode cX7_reads 10 = .ok (.getfield 19, 3) := by decide +kernel
theorem dX7_reads_13 : decode cX7_reads 13 = .ok (.aload_n 0, 1) := by decide +kernel
theorem dX7_reads_14 : decode cX7_reads 14 = .ok (.getfield 231, 3) := by decide +kernel
theorem dX7_reads_17 : decode cX7_reads 17 = .ok (.iaload, 1) := by decide +kernel
theorem dX7_reads_18 : decode cX7_reads 18 = .ok (.bipush 48, 2) := by decide +kernel
theorem dX7_reads_20 : decode cX7_reads 20 = .ok (.isub, 1) := by decide +kernel
theorem dX7_reads_21 : decode cX7_reads 21 = .ok (.istore_n 3, 1) := by decide +kernel
theorem dX7_reads_22 : decode cX7_reads 22 = .ok (.iload_n 3, 1) := by decide +kernel
theorem dX7_reads_23 : decode cX7_reads 23 = .ok (.ifCond .ne 10, 3) := by decide +kernel
theorem dX7_reads_26 : decode cX7_reads 26 = .ok (.iload_n 2, 1) := by decide +kernel
theorem dX7_reads_27 : decode cX7_reads 27 = .ok (.ifCond .le 19, 3) := by decide +kernel
theorem dX7_reads_30 : decode cX7_reads 30 = .ok (.goto 14, 3) := by decide +kernel
theorem dX7_reads_33 : decode cX7_reads 33 = .ok (.bipush 10, 2) := by decide +kernel
theorem dX7_reads_35 : decode cX7_reads 35 = .ok (.iload_n 3, 1) := by decide +kernel
theorem dX7_reads_36 : decode cX7_reads 36 = .ok (.imul, 1) := by decide +kernel
theorem dX7_reads_37 : decode cX7_reads 37 = .ok (.bipush 9, 2) := by decide +kernel
theorem dX7_reads_39 : decode cX7_reads 39 = .ok (.iadd, 1) := by decide +kernel
theorem dX7_reads_40 : decode cX7_reads 40 = .ok (.iload_n 2, 1) := by decide +kernel
theorem dX7_reads_41 : decode cX7_reads 41 = .ok (.if_icmp .ge 5, 3) := by decide +kernel
theorem dX7_reads_44 : decode cX7_reads 44 = .ok (.iconst 0, 1) := by decide +kernel
theorem dX7_reads_45 : decode cX7_reads 45 = .ok (.ireturn, 1) := by decide +kernel
theorem dX7_reads_46 : decode cX7_reads 46 = .ok (.aload_n 0, 1) := by decide +kernel
theorem dX7_reads_47 : decode cX7_reads 47 = .ok (.dup, 1) := by decide +kernel
theorem dX7_reads_48 : decode cX7_reads 48 = .ok (.getfield 231, 3) := by decide +kernel
theorem dX7_reads_51 : decode cX7_reads 51 = .ok (.iconst 1, 1) := by decide +kernel
theorem dX7_reads_52 : decode cX7_reads 52 = .ok (.iadd, 1) := by decide +kernel
theorem dX7_reads_53 : decode cX7_reads 53 = .ok (.putfield 231, 3) := by decide +kernel
theorem dX7_reads_56 : decode cX7_reads 56 = .ok (.iload_n 3, 1) := by decide +kernel
theorem dX7_reads_57 : decode cX7_reads 57 = .ok (.ifCond .le 45, 3) := by decide +kernel
theorem dX7_reads_60 : decode cX7_reads 60 = .ok (.aload_n 0, 1) := by decide +kernel
theorem dX7_reads_61 : decode cX7_reads 61 = .ok (.invokevirtual 234, 3) := by decide +kernel
theorem dX7_reads_64 : decode cX7_reads 64 = .ok (.ifCond .eq 38, 3) := by decide +kernel
theorem dX7_reads_67 : decode cX7_reads 67 = .ok (.bipush 10, 2) := by decide +kernel
theorem dX7_reads_69 : decode cX7_reads 69 = .ok (.iload_n 3, 1) := by decide +kernel
theorem dX7_reads_70 : decode cX7_reads 70 = .ok (.imul, 1) := by decide +kernel
theorem dX7_reads_71 : decode cX7_reads 71 = .ok (.aload_n 0, 1) := by decide +kernel
theorem dX7_reads_72 : decode cX7_reads 72 = .ok (.getfield 19, 3) := by decide +kernel
theorem dX7_reads_75 : decode cX7_reads 75 = .ok (.aload_n 0, 1) := by decide +kernel
theorem dX7_reads_76 : decode cX7_reads 76 = .ok (.getfield 231, 3) := by decide +kernel
theorem dX7_reads_79 : decode cX7_reads 79 = .ok (.iaload, 1) := by decide +kernel
theorem dX7_reads_80 : decode cX7_reads 80 = .ok (.iadd, 1) := by decide +kernel
theorem dX7_reads_81 : decode cX7_reads 81 = .ok (.bipush 48, 2) := by decide +kernel
theorem dX7_reads_83 : decode cX7_reads 83 = .ok (.isub, 1) := by decide +kernel
theorem dX7_reads_84 : decode cX7_reads 84 = .ok (.istore_n 3, 1) := by decide +kernel
theorem dX7_reads_85 : decode cX7_reads 85 = .ok (.iload_n 3, 1) := by decide +kernel
theorem dX7_reads_86 : decode cX7_reads 86 = .ok (.iload_n 2, 1) := by decide +kernel
theorem dX7_reads_87 : decode cX7_reads 87 = .ok (.if_icmp .ge 5, 3) := by decide +kernel
theorem dX7_reads_90 : decode cX7_reads 90 = .ok (.iconst 0, 1) := by decide +kernel
theorem dX7_reads_91 : decode cX7_reads 91 = .ok (.ireturn, 1) := by decide +kernel
theorem dX7_reads_92 : decode cX7_reads 92 = .ok (.aload_n 0, 1) := by decide +kernel
theorem dX7_reads_93 : decode cX7_reads 93 = .ok (.dup, 1) := by decide +kernel
theorem dX7_reads_94 : decode cX7_reads 94 = .ok (.getfield 231, 3) := by decide +kernel
theorem dX7_reads_97 : decode cX7_reads 97 = .ok (.iconst 1, 1) := by decide +kernel
theorem dX7_reads_98 : decode cX7_reads 98 = .ok (.iadd, 1) := by decide +kernel
theorem dX7_reads_99 : decode cX7_reads 99 = .ok (.putfield 231, 3) := by decide +kernel
theorem dX7_reads_102 : decode cX7_reads 102 = .ok (.aload_n 0, 1) := by decide +kernel
theorem dX7_reads_103 : decode cX7_reads 103 = .ok (.getfield 59, 3) := by decide +kernel
theorem dX7_reads_106 : decode cX7_reads 106 = .ok (.iconst 4, 1) := by decide +kernel
theorem dX7_reads_107 : decode cX7_reads 107 = .ok (.aload_n 0, 1) := by decide +kernel
theorem dX7_reads_108 : decode cX7_reads 108 = .ok (.getfield 238, 3) := by decide +kernel
theorem dX7_reads_111 : decode cX7_reads 111 = .ok (.imul, 1) := by decide +kernel
theorem dX7_reads_112 : decode cX7_reads 112 = .ok (.iload_n 1, 1) := by decide +kernel
theorem dX7_reads_113 : decode cX7_reads 113 = .ok (.iadd, 1) := by decide +kernel
theorem dX7_reads_114 : decode cX7_reads 114 = .ok (.iload_n 3, 1) := by decide +kernel
theorem dX7_reads_115 : decode cX7_reads 115 = .ok (.iastore, 1) := by decide +kernel
theorem dX7_reads_116 : decode cX7_reads 116 = .ok (.iload_n 3, 1) := by decide +kernel
theorem dX7_reads_117 : decode cX7_reads 117 = .ok (.iload_n 2, 1) := by decide +kernel
theorem dX7_reads_118 : decode cX7_reads 118 = .ok (.if_icmp .lt 7, 3) := by decide +kernel
theorem dX7_reads_121 : decode cX7_reads 121 = .ok (.iconst 1, 1) := by decide +kernel
theorem dX7_reads_122 : decode cX7_reads 122 = .ok (.goto 4, 3) := by decide +kernel
theorem dX7_reads_125 : decode cX7_reads 125 = .ok (.iconst 0, 1) := by decide +kernel
theorem dX7_reads_126 : decode cX7_reads 126 = .ok (.ireturn, 1) := by decide +kernel
theorem dX7_readsRectangle_0 : decode cX7_readsRectangle 0 = .ok (.iconst 0, 1) := by decide +kernel
theorem dX7_readsRectangle_1 : decode cX7_readsRectangle 1 = .ok (.istore_n 1, 1) := by decide +kernel
theorem dX7_readsRectangle_2 : decode cX7_readsRectangle 2 = .ok (.iload_n 1, 1) := by decide +kernel
theorem dX7_readsRectangle_3 : decode cX7_readsRectangle 3 = .ok (.iconst 4, 1) := by decide +kernel
theorem dX7_readsRectangle_4 : decode cX7_readsRectangle 4 = .ok (.if_icmp .ge 84, 3) := by decide +kernel
theorem dX7_readsRectangle_7 : decode cX7_readsRectangle 7 = .ok (.iload_n 1, 1) := by decide +kernel
theorem dX7_readsRectangle_8 : decode cX7_readsRectangle 8 = .ok (.ifCond .le 40, 3) := by decide +kernel
theorem dX7_readsRectangle_11 : decode cX7_readsRectangle 11 = .ok (.aload_n 0, 1) := by decide +kernel
theorem dX7_readsRectangle_12 : decode cX7_readsRectangle 12 = .ok (.getfield 231, 3) := by decide +kernel
theorem dX7_readsRectangle_15 : decode cX7_readsRectangle 15 = .ok (.aload_n 0, 1) := by decide +kernel
theorem dX7_readsRectangle_16 : decode cX7_readsRectangle 16 = .ok (.getfield 228, 3) := by decide +kernel
theorem dX7_readsRectangle_19 : decode cX7_readsRectangle 19 = .ok (.if_icmp .eq 17, 3) := by decide +kernel
theorem dX7_readsRectangle_22 : decode cX7_readsRectangle 22 = .ok (.aload_n 0, 1) := by decide +kernel
theorem dX7_readsRectangle_23 : decode cX7_readsRectangle 23 = .ok (.getfield 19, 3) := by decide +kernel
theorem dX7_readsRectangle_26 : decode cX7_readsRectangle 26 = .ok (.aload_n 0, 1) := by decide +kernel
theorem dX7_readsRectangle_27 : decode cX7_readsRectangle 27 = .ok (.getfield 231, 3) := by decide +kernel
theorem dX7_readsRectangle_30 : decode cX7_readsRectangle 30 = .ok (.iaload, 1) := by decide +kernel
theorem dX7_readsRectangle_31 : decode cX7_readsRectangle 31 = .ok (.bipush 44, 2) := by decide +kernel
theorem dX7_readsRectangle_33 : decode cX7_readsRectangle 33 = .ok (.if_icmp .eq 5, 3) := by decide +kernel
theorem dX7_readsRectangle_36 : decode cX7_readsRectangle 36 = .ok (.iconst 0, 1) := by decide +kernel
theorem dX7_readsRectangle_37 : decode cX7_readsRectangle 37 = .ok (.ireturn, 1) := by decide +kernel
theorem dX7_readsRectangle_38 : decode cX7_readsRectangle 38 = .ok (.aload_n 0, 1) := by decide +kernel
theorem dX7_readsRectangle_39 : decode cX7_readsRectangle 39 = .ok (.dup, 1) := by decide +kernel
theorem dX7_readsRectangle_40 : decode cX7_readsRectangle 40 = .ok (.getfield 231, 3) := by decide +kernel
theorem dX7_readsRectangle_43 : decode cX7_readsRectangle 43 = .ok (.iconst 1, 1) := by decide +kernel
theorem dX7_readsRectangle_44 : decode cX7_readsRectangle 44 = .ok (.iadd, 1) := by decide +kernel
theorem dX7_readsRectangle_45 : decode cX7_readsRectangle 45 = .ok (.putfield 231, 3) := by decide +kernel
theorem dX7_readsRectangle_48 : decode cX7_readsRectangle 48 = .ok (.aload_n 0, 1) := by decide +kernel
theorem dX7_readsRectangle_49 : decode cX7_readsRectangle 49 = .ok (.iload_n 1, 1) := by decide +kernel
theorem dX7_readsRectangle_50 : decode cX7_readsRectangle 50 = .ok (.iload_n 1, 1) := by decide +kernel
theorem dX7_readsRectangle_51 : decode cX7_readsRectangle 51 = .ok (.iconst 2, 1) := by decide +kernel
theorem dX7_readsRectangle_52 : decode cX7_readsRectangle 52 = .ok (.if_icmp .ge 7, 3) := by decide +kernel
theorem dX7_readsRectangle_55 : decode cX7_readsRectangle 55 = .ok (.iconst 0, 1) := by decide +kernel
theorem dX7_readsRectangle_56 : decode cX7_readsRectangle 56 = .ok (.goto 18, 3) := by decide +kernel
theorem dX7_readsRectangle_59 : decode cX7_readsRectangle 59 = .ok (.aload_n 0, 1) := by decide +kernel
theorem dX7_readsRectangle_60 : decode cX7_readsRectangle 60 = .ok (.getfield 59, 3) := by decide +kernel
theorem dX7_readsRectangle_63 : decode cX7_readsRectangle 63 = .ok (.iconst 4, 1) := by decide +kernel
theorem dX7_readsRectangle_64 : decode cX7_readsRectangle 64 = .ok (.aload_n 0, 1) := by decide +kernel
theorem dX7_readsRectangle_65 : decode cX7_readsRectangle 65 = .ok (.getfield 238, 3) := by decide +kernel
theorem dX7_readsRectangle_68 : decode cX7_readsRectangle 68 = .ok (.imul, 1) := by decide +kernel
theorem dX7_readsRectangle_69 : decode cX7_readsRectangle 69 = .ok (.iload_n 1, 1) := by decide +kernel
theorem dX7_readsRectangle_70 : decode cX7_readsRectangle 70 = .ok (.iadd, 1) := by decide +kernel
theorem dX7_readsRectangle_71 : decode cX7_readsRectangle 71 = .ok (.iconst 2, 1) := by decide +kernel
theorem dX7_readsRectangle_72 : decode cX7_readsRectangle 72 = .ok (.isub, 1) := by decide +kernel
theorem dX7_readsRectangle_73 : decode cX7_readsRectangle 73 = .ok (.iaload, 1) := by decide +kernel
theorem dX7_readsRectangle_74 : decode cX7_readsRectangle 74 = .ok (.invokevirtual 241, 3) := by decide +kernel
theorem dX7_readsRectangle_77 : decode cX7_readsRectangle 77 = .ok (.ifCond .ne 5, 3) := by decide +kernel
theorem dX7_readsRectangle_80 : decode cX7_readsRectangle 80 = .ok (.iconst 0, 1) := by decide +kernel
theorem dX7_readsRectangle_81 : decode cX7_readsRectangle 81 = .ok (.ireturn, 1) := by decide +kernel
theorem dX7_readsRectangle_82 : decode cX7_readsRectangle 82 = .ok (.iinc 1 1, 3) := by decide +kernel
theorem dX7_readsRectangle_85 : decode cX7_readsRectangle 85 = .ok (.goto (-83), 3) := by decide +kernel
theorem dX7_readsRectangle_88 : decode cX7_readsRectangle 88 = .ok (.aload_n 0, 1) := by decide +kernel
theorem dX7_readsRectangle_89 : decode cX7_readsRectangle 89 = .ok (.dup, 1) := by decide +kernel
theorem dX7_readsRectangle_90 : decode cX7_readsRectangle 90 = .ok (.getfield 238, 3) := by decide +kernel
theorem dX7_readsRectangle_93 : decode cX7_readsRectangle 93 = .ok (.iconst 1, 1) := by decide +kernel
theorem dX7_readsRectangle_94 : decode cX7_readsRectangle 94 = .ok (.iadd, 1) := by decide +kernel
theorem dX7_readsRectangle_95 : decode cX7_readsRectangle 95 = .ok (.putfield 238, 3) := by decide +kernel
theorem dX7_readsRectangle_98 : decode cX7_readsRectangle 98 = .ok (.iconst 1, 1) := by decide +kernel
theorem dX7_readsRectangle_99 : decode cX7_readsRectangle 99 = .ok (.ireturn, 1) := by decide +kernel
theorem dX7_isList_0 : decode cX7_isList 0 = .ok (.aload_n 0, 1) := by decide +kernel
theorem dX7_isList_1 : decode cX7_isList 1 = .ok (.iconst 0, 1) := by decide +kernel
theorem dX7_isList_2 : decode cX7_isList 2 = .ok (.putfield 231, 3) := by decide +kernel
theorem dX7_isList_5 : decode cX7_isList 5 = .ok (.aload_n 0, 1) := by decide +kernel
theorem dX7_isList_6 : decode cX7_isList 6 = .ok (.iconst 0, 1) := by decide +kernel
theorem dX7_isList_7 : decode cX7_isList 7 = .ok (.putfield 238, 3) := by decide +kernel
theorem dX7_isList_10 : decode cX7_isList 10 = .ok (.iconst 1, 1) := by decide +kernel
theorem dX7_isList_11 : decode cX7_isList 11 = .ok (.istore_n 1, 1) := by decide +kernel
theorem dX7_isList_12 : decode cX7_isList 12 = .ok (.iload_n 1, 1) := by decide +kernel
theorem dX7_isList_13 : decode cX7_isList 13 = .ok (.ifCond .eq 64, 3) := by decide +kernel
theorem dX7_isList_16 : decode cX7_isList 16 = .ok (.aload_n 0, 1) := by decide +kernel
theorem dX7_isList_17 : decode cX7_isList 17 = .ok (.invokevirtual 245, 3) := by decide +kernel
theorem dX7_isList_20 : decode cX7_isList 20 = .ok (.ifCond .ne 5, 3) := by decide +kernel
theorem dX7_isList_23 : decode cX7_isList 23 = .ok (.iconst 0, 1) := by decide +kernel
theorem dX7_isList_24 : decode cX7_isList 24 = .ok (.ireturn, 1) := by decide +kernel
theorem dX7_isList_25 : decode cX7_isList 25 = .ok (.aload_n 0, 1) := by decide +kernel
theorem dX7_isList_26 : decode cX7_isList 26 = .ok (.getfield 231, 3) := by decide +kernel
theorem dX7_isList_29 : decode cX7_isList 29 = .ok (.aload_n 0, 1) := by decide +kernel
theorem dX7_isList_30 : decode cX7_isList 30 = .ok (.getfield 228, 3) := by decide +kernel
theorem dX7_isList_33 : decode cX7_isList 33 = .ok (.if_icmp .ge 21, 3) := by decide +kernel
theorem dX7_isList_36 : decode cX7_isList 36 = .ok (.aload_n 0, 1) := by decide +kernel
theorem dX7_isList_37 : decode cX7_isList 37 = .ok (.getfield 19, 3) := by decide +kernel
theorem dX7_isList_40 : decode cX7_isList 40 = .ok (.aload_n 0, 1) := by decide +kernel
theorem dX7_isList_41 : decode cX7_isList 41 = .ok (.getfield 231, 3) := by decide +kernel
theorem dX7_isList_44 : decode cX7_isList 44 = .ok (.iaload, 1) := by decide +kernel
theorem dX7_isList_45 : decode cX7_isList 45 = .ok (.bipush 59, 2) := by decide +kernel
theorem dX7_isList_47 : decode cX7_isList 47 = .ok (.if_icmp .ne 7, 3) := by decide +kernel
theorem dX7_isList_50 : decode cX7_isList 50 = .ok (.iconst 1, 1) := by decide +kernel
theorem dX7_isList_51 : decode cX7_isList 51 = .ok (.goto 4, 3) := by decide +kernel
theorem dX7_isList_54 : decode cX7_isList 54 = .ok (.iconst 0, 1) := by decide +kernel
theorem dX7_isList_55 : decode cX7_isList 55 = .ok (.istore_n 1, 1) := by decide +kernel
theorem dX7_isList_56 : decode cX7_isList 56 = .ok (.aload_n 0, 1) := by decide +kernel
theorem dX7_isList_57 : decode cX7_isList 57 = .ok (.dup, 1) := by decide +kernel
theorem dX7_isList_58 : decode cX7_isList 58 = .ok (.getfield 231, 3) := by decide +kernel
theorem dX7_isList_61 : decode cX7_isList 61 = .ok (.iload_n 1, 1) := by decide +kernel
theorem dX7_isList_62 : decode cX7_isList 62 = .ok (.ifCond .eq 7, 3) := by decide +kernel
theorem dX7_isList_65 : decode cX7_isList 65 = .ok (.iconst 1, 1) := by decide +kernel
theorem dX7_isList_66 : decode cX7_isList 66 = .ok (.goto 4, 3) := by decide +kernel
theorem dX7_isList_69 : decode cX7_isList 69 = .ok (.iconst 0, 1) := by decide +kernel
theorem dX7_isList_70 : decode cX7_isList 70 = .ok (.iadd, 1) := by decide +kernel
theorem dX7_isList_71 : decode cX7_isList 71 = .ok (.putfield 231, 3) := by decide +kernel
theorem dX7_isList_74 : decode cX7_isList 74 = .ok (.goto (-62), 3) := by decide +kernel
theorem dX7_isList_77 : decode cX7_isList 77 = .ok (.aload_n 0, 1) := by decide +kernel
theorem dX7_isList_78 : decode cX7_isList 78 = .ok (.getfield 231, 3) := by decide +kernel
theorem dX7_isList_81 : decode cX7_isList 81 = .ok (.aload_n 0, 1) := by decide +kernel
theorem dX7_isList_82 : decode cX7_isList 82 = .ok (.getfield 228, 3) := by decide +kernel
theorem dX7_isList_85 : decode cX7_isList 85 = .ok (.if_icmp .ne 7, 3) := by decide +kernel
theorem dX7_isList_88 : decode cX7_isList 88 = .ok (.iconst 1, 1) := by decide +kernel
theorem dX7_isList_89 : decode cX7_isList 89 = .ok (.goto 4, 3) := by decide +kernel
theorem dX7_isList_92 : decode cX7_isList 92 = .ok (.iconst 0, 1) := by decide +kernel
theorem dX7_isList_93 : decode cX7_isList 93 = .ok (.ireturn, 1) := by decide +kernel
theorem dX7_fault_0 : decode cX7_fault 0 = .ok (.aload_n 0, 1) := by decide +kernel
theorem dX7_fault_1 : decode cX7_fault 1 = .ok (.invokevirtual 248, 3) := by decide +kernel
theorem dX7_fault_4 : decode cX7_fault 4 = .ok (.ifCond .eq 8, 3) := by decide +kernel
theorem dX7_fault_7 : decode cX7_fault 7 = .ok (.bipush (-5), 2) := by decide +kernel
theorem dX7_fault_9 : decode cX7_fault 9 = .ok (.goto 7, 3) := by decide +kernel
theorem dX7_fault_12 : decode cX7_fault 12 = .ok (.aload_n 0, 1) := by decide +kernel
theorem dX7_fault_13 : decode cX7_fault 13 = .ok (.getfield 231, 3) := by decide +kernel
theorem dX7_fault_16 : decode cX7_fault 16 = .ok (.ireturn, 1) := by decide +kernel
theorem dX7_read_0 : decode cX7_read 0 = .ok (.aload_n 0, 1) := by decide +kernel
theorem dX7_read_1 : decode cX7_read 1 = .ok (.invokevirtual 248, 3) := by decide +kernel
theorem dX7_read_4 : decode cX7_read 4 = .ok (.ifCond .ne 11, 3) := by decide +kernel
theorem dX7_read_7 : decode cX7_read 7 = .ok (.bipush (-100), 2) := by decide +kernel
theorem dX7_read_9 : decode cX7_read 9 = .ok (.aload_n 0, 1) := by decide +kernel
theorem dX7_read_10 : decode cX7_read 10 = .ok (.getfield 231, 3) := by decide +kernel
theorem dX7_read_13 : decode cX7_read 13 = .ok (.isub, 1) := by decide +kernel
theorem dX7_read_14 : decode cX7_read 14 = .ok (.ireturn, 1) := by decide +kernel
theorem dX7_read_15 : decode cX7_read 15 = .ok (.aload_n 0, 1) := by decide +kernel
theorem dX7_read_16 : decode cX7_read 16 = .ok (.invokevirtual 183, 3) := by decide +kernel
theorem dX7_read_19 : decode cX7_read 19 = .ok (.aload_n 0, 1) := by decide +kernel
theorem dX7_read_20 : decode cX7_read 20 = .ok (.getfield 238, 3) := by decide +kernel
theorem dX7_read_23 : decode cX7_read 23 = .ok (.iadd, 1) := by decide +kernel
theorem dX7_read_24 : decode cX7_read 24 = .ok (.bipush 24, 2) := by decide +kernel
theorem dX7_read_26 : decode cX7_read 26 = .ok (.if_icmp .le 6, 3) := by decide +kernel
theorem dX7_read_29 : decode cX7_read 29 = .ok (.bipush (-3), 2) := by decide +kernel
theorem dX7_read_31 : decode cX7_read 31 = .ok (.ireturn, 1) := by decide +kernel
theorem dX7_read_32 : decode cX7_read 32 = .ok (.aload_n 0, 1) := by decide +kernel
theorem dX7_read_33 : decode cX7_read 33 = .ok (.invokevirtual 186, 3) := by decide +kernel
theorem dX7_read_36 : decode cX7_read 36 = .ok (.iconst 0, 1) := by decide +kernel
theorem dX7_read_37 : decode cX7_read 37 = .ok (.istore_n 1, 1) := by decide +kernel
theorem dX7_read_38 : decode cX7_read 38 = .ok (.iload_n 1, 1) := by decide +kernel
theorem dX7_read_39 : decode cX7_read 39 = .ok (.aload_n 0, 1) := by decide +kernel
theorem dX7_read_40 : decode cX7_read 40 = .ok (.getfield 238, 3) := by decide +kernel
theorem dX7_read_43 : decode cX7_read 43 = .ok (.if_icmp .ge 52, 3) := by decide +kernel
theorem dX7_read_46 : decode cX7_read 46 = .ok (.aload_n 0, 1) := by decide +kernel
theorem dX7_read_47 : decode cX7_read 47 = .ok (.aload_n 0, 1) := by decide +kernel
theorem dX7_read_48 : decode cX7_read 48 = .ok (.getfield 59, 3) := by decide +kernel
theorem dX7_read_51 : decode cX7_read 51 = .ok (.iconst 4, 1) := by decide +kernel
theorem dX7_read_52 : decode cX7_read 52 = .ok (.iload_n 1, 1) := by decide +kernel
theorem dX7_read_53 : decode cX7_read 53 = .ok (.imul, 1) := by decide +kernel
theorem dX7_read_54 : decode cX7_read 54 = .ok (.iaload, 1) := by decide +kernel
theorem dX7_read_55 : decode cX7_read 55 = .ok (.aload_n 0, 1) := by decide +kernel
theorem dX7_read_56 : decode cX7_read 56 = .ok (.getfield 59, 3) := by decide +kernel
theorem dX7_read_59 : decode cX7_read 59 = .ok (.iconst 4, 1) := by decide +kernel
theorem dX7_read_60 : decode cX7_read 60 = .ok (.iload_n 1, 1) := by decide +kernel
theorem dX7_read_61 : decode cX7_read 61 = .ok (.imul, 1) := by decide +kernel
theorem dX7_read_62 : decode cX7_read 62 = .ok (.iconst 1, 1) := by decide +kernel
theorem dX7_read_63 : decode cX7_read 63 = .ok (.iadd, 1) := by decide +kernel
theorem dX7_read_64 : decode cX7_read 64 = .ok (.iaload, 1) := by decide +kernel
theorem dX7_read_65 : decode cX7_read 65 = .ok (.aload_n 0, 1) := by decide +kernel
theorem dX7_read_66 : decode cX7_read 66 = .ok (.getfield 59, 3) := by decide +kernel
theorem dX7_read_69 : decode cX7_read 69 = .ok (.iconst 4, 1) := by decide +kernel
theorem dX7_read_70 : decode cX7_read 70 = .ok (.iload_n 1, 1) := by decide +kernel
theorem dX7_read_71 : decode cX7_read 71 = .ok (.imul, 1) := by decide +kernel
theorem dX7_read_72 : decode cX7_read 72 = .ok (.iconst 2, 1) := by decide +kernel
theorem dX7_read_73 : decode cX7_read 73 = .ok (.iadd, 1) := by decide +kernel
theorem dX7_read_74 : decode cX7_read 74 = .ok (.iaload, 1) := by decide +kernel
theorem dX7_read_75 : decode cX7_read 75 = .ok (.aload_n 0, 1) := by decide +kernel
theorem dX7_read_76 : decode cX7_read 76 = .ok (.getfield 59, 3) := by decide +kernel
theorem dX7_read_79 : decode cX7_read 79 = .ok (.iconst 4, 1) := by decide +kernel
theorem dX7_read_80 : decode cX7_read 80 = .ok (.iload_n 1, 1) := by decide +kernel
theorem dX7_read_81 : decode cX7_read 81 = .ok (.imul, 1) := by decide +kernel
theorem dX7_read_82 : decode cX7_read 82 = .ok (.iconst 3, 1) := by decide +kernel
theorem dX7_read_83 : decode cX7_read 83 = .ok (.iadd, 1) := by decide +kernel
theorem dX7_read_84 : decode cX7_read 84 = .ok (.iaload, 1) := by decide +kernel
theorem dX7_read_85 : decode cX7_read 85 = .ok (.invokevirtual 189, 3) := by decide +kernel
theorem dX7_read_88 : decode cX7_read 88 = .ok (.istore_n 2, 1) := by decide +kernel
theorem dX7_read_89 : decode cX7_read 89 = .ok (.iinc 1 1, 3) := by decide +kernel
theorem dX7_read_92 : decode cX7_read 92 = .ok (.goto (-54), 3) := by decide +kernel
theorem dX7_read_95 : decode cX7_read 95 = .ok (.aload_n 0, 1) := by decide +kernel
theorem dX7_read_96 : decode cX7_read 96 = .ok (.getfield 238, 3) := by decide +kernel
theorem dX7_read_99 : decode cX7_read 99 = .ok (.ireturn, 1) := by decide +kernel
theorem dX7_undo_0 : decode cX7_undo 0 = .ok (.aload_n 0, 1) := by decide +kernel
theorem dX7_undo_1 : decode cX7_undo 1 = .ok (.getfield 65, 3) := by decide +kernel
theorem dX7_undo_4 : decode cX7_undo 4 = .ok (.ifCond .ne 6, 3) := by decide +kernel
theorem dX7_undo_7 : decode cX7_undo 7 = .ok (.bipush (-5), 2) := by decide +kernel
theorem dX7_undo_9 : decode cX7_undo 9 = .ok (.ireturn, 1) := by decide +kernel
theorem dX7_undo_10 : decode cX7_undo 10 = .ok (.aload_n 0, 1) := by decide +kernel
theorem dX7_undo_11 : decode cX7_undo 11 = .ok (.dup, 1) := by decide +kernel
theorem dX7_undo_12 : decode cX7_undo 12 = .ok (.getfield 65, 3) := by decide +kernel
theorem dX7_undo_15 : decode cX7_undo 15 = .ok (.iconst 1, 1) := by decide +kernel
theorem dX7_undo_16 : decode cX7_undo 16 = .ok (.isub, 1) := by decide +kernel
theorem dX7_undo_17 : decode cX7_undo 17 = .ok (.putfield 65, 3) := by decide +kernel
theorem dX7_undo_20 : decode cX7_undo 20 = .ok (.iconst 0, 1) := by decide +kernel
theorem dX7_undo_21 : decode cX7_undo 21 = .ok (.istore_n 1, 1) := by decide +kernel
theorem dX7_undo_22 : decode cX7_undo 22 = .ok (.iload_n 1, 1) := by decide +kernel
theorem dX7_undo_23 : decode cX7_undo 23 = .ok (.sipush 461, 3) := by decide +kernel
theorem dX7_undo_26 : decode cX7_undo 26 = .ok (.if_icmp .ge 30, 3) := by decide +kernel
theorem dX7_undo_29 : decode cX7_undo 29 = .ok (.aload_n 0, 1) := by decide +kernel
theorem dX7_undo_30 : decode cX7_undo 30 = .ok (.getfield 7, 3) := by decide +kernel
theorem dX7_undo_33 : decode cX7_undo 33 = .ok (.iload_n 1, 1) := by decide +kernel
theorem dX7_undo_34 : decode cX7_undo 34 = .ok (.aload_n 0, 1) := by decide +kernel
theorem dX7_undo_35 : decode cX7_undo 35 = .ok (.getfield 13, 3) := by decide +kernel
theorem dX7_undo_38 : decode cX7_undo 38 = .ok (.sipush 461, 3) := by decide +kernel
theorem dX7_undo_41 : decode cX7_undo 41 = .ok (.aload_n 0, 1) := by decide +kernel
theorem dX7_undo_42 : decode cX7_undo 42 = .ok (.getfield 65, 3) := by decide +kernel
theorem dX7_undo_45 : decode cX7_undo 45 = .ok (.imul, 1) := by decide +kernel
theorem dX7_undo_46 : decode cX7_undo 46 = .ok (.iload_n 1, 1) := by decide +kernel
theorem dX7_undo_47 : decode cX7_undo 47 = .ok (.iadd, 1) := by decide +kernel
theorem dX7_undo_48 : decode cX7_undo 48 = .ok (.iaload, 1) := by decide +kernel
theorem dX7_undo_49 : decode cX7_undo 49 = .ok (.iastore, 1) := by decide +kernel
theorem dX7_undo_50 : decode cX7_undo 50 = .ok (.iinc 1 1, 3) := by decide +kernel
theorem dX7_undo_53 : decode cX7_undo 53 = .ok (.goto (-31), 3) := by decide +kernel
theorem dX7_undo_56 : decode cX7_undo 56 = .ok (.aload_n 0, 1) := by decide +kernel
theorem dX7_undo_57 : decode cX7_undo 57 = .ok (.getfield 65, 3) := by decide +kernel
theorem dX7_undo_60 : decode cX7_undo 60 = .ok (.ireturn, 1) := by decide +kernel
theorem dX7_save_0 : decode cX7_save 0 = .ok (.aload_n 0, 1) := by decide +kernel
theorem dX7_save_1 : decode cX7_save 1 = .ok (.iconst 1, 1) := by decide +kernel
theorem dX7_save_2 : decode cX7_save 2 = .ok (.putfield 251, 3) := by decide +kernel
theorem dX7_save_5 : decode cX7_save 5 = .ok (.iconst 0, 1) := by decide +kernel
theorem dX7_save_6 : decode cX7_save 6 = .ok (.istore_n 1, 1) := by decide +kernel
theorem dX7_save_7 : decode cX7_save 7 = .ok (.iload_n 1, 1) := by decide +kernel
theorem dX7_save_8 : decode cX7_save 8 = .ok (.sipush 461, 3) := by decide +kernel
theorem dX7_save_11 : decode cX7_save 11 = .ok (.if_icmp .ge 21, 3) := by decide +kernel
theorem dX7_save_14 : decode cX7_save 14 = .ok (.aload_n 0, 1) := by decide +kernel
theorem dX7_save_15 : decode cX7_save 15 = .ok (.getfield 16, 3) := by decide +kernel
theorem dX7_save_18 : decode cX7_save 18 = .ok (.iload_n 1, 1) := by decide +kernel
theorem dX7_save_19 : decode cX7_save 19 = .ok (.aload_n 0, 1) := by decide +kernel
theorem dX7_save_20 : decode cX7_save 20 = .ok (.getfield 7, 3) := by decide +kernel
theorem dX7_save_23 : decode cX7_save 23 = .ok (.iload_n 1, 1) := by decide +kernel
theorem dX7_save_24 : decode cX7_save 24 = .ok (.iaload, 1) := by decide +kernel
theorem dX7_save_25 : decode cX7_save 25 = .ok (.iastore, 1) := by decide +kernel
theorem dX7_save_26 : decode cX7_save 26 = .ok (.iinc 1 1, 3) := by decide +kernel
theorem dX7_save_29 : decode cX7_save 29 = .ok (.goto (-22), 3) := by decide +kernel
theorem dX7_save_32 : decode cX7_save 32 = .ok (.aload_n 0, 1) := by decide +kernel
theorem dX7_save_33 : decode cX7_save 33 = .ok (.invokevirtual 183, 3) := by decide +kernel
theorem dX7_save_36 : decode cX7_save 36 = .ok (.ireturn, 1) := by decide +kernel
theorem dX7_restore_0 : decode cX7_restore 0 = .ok (.aload_n 0, 1) := by decide +kernel
theorem dX7_restore_1 : decode cX7_restore 1 = .ok (.getfield 251, 3) := by decide +kernel
theorem dX7_restore_4 : decode cX7_restore 4 = .ok (.ifCond .ne 6, 3) := by decide +kernel
theorem dX7_restore_7 : decode cX7_restore 7 = .ok (.bipush (-4), 2) := by decide +kernel
theorem dX7_restore_9 : decode cX7_restore 9 = .ok (.ireturn, 1) := by decide +kernel
theorem dX7_restore_10 : decode cX7_restore 10 = .ok (.aload_n 0, 1) := by decide +kernel
theorem dX7_restore_11 : decode cX7_restore 11 = .ok (.invokevirtual 186, 3) := by decide +kernel
theorem dX7_restore_14 : decode cX7_restore 14 = .ok (.iconst 0, 1) := by decide +kernel
theorem dX7_restore_15 : decode cX7_restore 15 = .ok (.istore_n 1, 1) := by decide +kernel
theorem dX7_restore_16 : decode cX7_restore 16 = .ok (.iload_n 1, 1) := by decide +kernel
theorem dX7_restore_17 : decode cX7_restore 17 = .ok (.sipush 461, 3) := by decide +kernel
theorem dX7_restore_20 : decode cX7_restore 20 = .ok (.if_icmp .ge 21, 3) := by decide +kernel
theorem dX7_restore_23 : decode cX7_restore 23 = .ok (.aload_n 0, 1) := by decide +kernel
theorem dX7_restore_24 : decode cX7_restore 24 = .ok (.getfield 7, 3) := by decide +kernel
theorem dX7_restore_27 : decode cX7_restore 27 = .ok (.iload_n 1, 1) := by decide +kernel
theorem dX7_restore_28 : decode cX7_restore 28 = .ok (.aload_n 0, 1) := by decide +kernel
theorem dX7_restore_29 : decode cX7_restore 29 = .ok (.getfield 16, 3) := by decide +kernel
theorem dX7_restore_32 : decode cX7_restore 32 = .ok (.iload_n 1, 1) := by decide +kernel
theorem dX7_restore_33 : decode cX7_restore 33 = .ok (.iaload, 1) := by decide +kernel
theorem dX7_restore_34 : decode cX7_restore 34 = .ok (.iastore, 1) := by decide +kernel
theorem dX7_restore_35 : decode cX7_restore 35 = .ok (.iinc 1 1, 3) := by decide +kernel
theorem dX7_restore_38 : decode cX7_restore 38 = .ok (.goto (-22), 3) := by decide +kernel
theorem dX7_restore_41 : decode cX7_restore 41 = .ok (.aload_n 0, 1) := by decide +kernel
theorem dX7_restore_42 : decode cX7_restore 42 = .ok (.invokevirtual 183, 3) := by decide +kernel
theorem dX7_restore_45 : decode cX7_restore 45 = .ok (.ireturn, 1) := by decide +kernel
theorem dX7_boxes_0 : decode cX7_boxes 0 = .ok (.iconst 0, 1) := by decide +kernel
theorem dX7_boxes_1 : decode cX7_boxes 1 = .ok (.istore_n 1, 1) := by decide +kernel
theorem dX7_boxes_2 : decode cX7_boxes 2 = .ok (.iconst 0, 1) := by decide +kernel
theorem dX7_boxes_3 : decode cX7_boxes 3 = .ok (.istore_n 2, 1) := by decide +kernel
theorem dX7_boxes_4 : decode cX7_boxes 4 = .ok (.iload_n 2, 1) := by decide +kernel
theorem dX7_boxes_5 : decode cX7_boxes 5 = .ok (.bipush 24, 2) := by decide +kernel
theorem dX7_boxes_7 : decode cX7_boxes 7 = .ok (.if_icmp .ge 27, 3) := by decide +kernel
theorem dX7_boxes_10 : decode cX7_boxes 10 = .ok (.iload_n 1, 1) := by decide +kernel
theorem dX7_boxes_11 : decode cX7_boxes 11 = .ok (.aload_n 0, 1) := by decide +kernel
theorem dX7_boxes_12 : decode cX7_boxes 12 = .ok (.iload_n 2, 1) := by decide +kernel
theorem dX7_boxes_13 : decode cX7_boxes 13 = .ok (.invokevirtual 168, 3) := by decide +kernel
theorem dX7_boxes_16 : decode cX7_boxes 16 = .ok (.ifCond .eq 9, 3) := by decide +kernel
theorem dX7_boxes_19 : decode cX7_boxes 19 = .ok (.iconst 1, 1) := by decide +kernel
theorem dX7_boxes_20 : decode cX7_boxes 20 = .ok (.iload_n 2, 1) := by decide +kernel
theorem dX7_boxes_21 : decode cX7_boxes 21 = .ok (.ishl, 1) := by decide +kernel
theorem dX7_boxes_22 : decode cX7_boxes 22 = .ok (.goto 4, 3) := by decide +kernel
theorem dX7_boxes_25 : decode cX7_boxes 25 = .ok (.iconst 0, 1) := by decide +kernel
theorem dX7_boxes_26 : decode cX7_boxes 26 = .ok (.ior, 1) := by decide +kernel
theorem dX7_boxes_27 : decode cX7_boxes 27 = .ok (.istore_n 1, 1) := by decide +kernel
theorem dX7_boxes_28 : decode cX7_boxes 28 = .ok (.iinc 2 1, 3) := by decide +kernel
theorem dX7_boxes_31 : decode cX7_boxes 31 = .ok (.goto (-27), 3) := by decide +kernel
theorem dX7_boxes_34 : decode cX7_boxes 34 = .ok (.iload_n 1, 1) := by decide +kernel
theorem dX7_boxes_35 : decode cX7_boxes 35 = .ok (.ireturn, 1) := by decide +kernel
theorem dX7_side_0 : decode cX7_side 0 = .ok (.aload_n 0, 1) := by decide +kernel
theorem dX7_side_1 : decode cX7_side 1 = .ok (.iload_n 1, 1) := by decide +kernel
theorem dX7_side_2 : decode cX7_side 2 = .ok (.invokevirtual 168, 3) := by decide +kernel
theorem dX7_side_5 : decode cX7_side 5 = .ok (.ifCond .ne 7, 3) := by decide +kernel
theorem dX7_side_8 : decode cX7_side 8 = .ok (.iconst (-1), 1) := by decide +kernel
theorem dX7_side_9 : decode cX7_side 9 = .ok (.goto 29, 3) := by decide +kernel
theorem dX7_side_12 : decode cX7_side 12 = .ok (.iload_n 2, 1) := by decide +kernel
theorem dX7_side_13 : decode cX7_side 13 = .ok (.iconst 0, 1) := by decide +kernel
theorem dX7_side_14 : decode cX7_side 14 = .ok (.iconst 3, 1) := by decide +kernel
theorem dX7_side_15 : decode cX7_side 15 = .ok (.invokestatic 172, 3) := by decide +kernel
theorem dX7_side_18 : decode cX7_side 18 = .ok (.ifCond .eq 18, 3) := by decide +kernel
theorem dX7_side_21 : decode cX7_side 21 = .ok (.aload_n 0, 1) := by decide +kernel
theorem dX7_side_22 : decode cX7_side 22 = .ok (.getfield 7, 3) := by decide +kernel
theorem dX7_side_25 : decode cX7_side 25 = .ok (.iconst 5, 1) := by decide +kernel
theorem dX7_side_26 : decode cX7_side 26 = .ok (.iconst 4, 1) := by decide +kernel
theorem dX7_side_27 : decode cX7_side 27 = .ok (.iload_n 1, 1) := by decide +kernel
theorem dX7_side_28 : decode cX7_side 28 = .ok (.imul, 1) := by decide +kernel
theorem dX7_side_29 : decode cX7_side 29 = .ok (.iadd, 1) := by decide +kernel
theorem dX7_side_30 : decode cX7_side 30 = .ok (.iload_n 2, 1) := by decide +kernel
theorem dX7_side_31 : decode cX7_side 31 = .ok (.iadd, 1) := by decide +kernel
theorem dX7_side_32 : decode cX7_side 32 = .ok (.iaload, 1) := by decide +kernel
theorem dX7_side_33 : decode cX7_side 33 = .ok (.goto 5, 3) := by decide +kernel
theorem dX7_side_36 : decode cX7_side 36 = .ok (.bipush (-2), 2) := by decide +kernel
theorem dX7_side_38 : decode cX7_side 38 = .ok (.ireturn, 1) := by decide +kernel
theorem dX7_nodes_0 : decode cX7_nodes 0 = .ok (.aload_n 0, 1) := by decide +kernel
theorem dX7_nodes_1 : decode cX7_nodes 1 = .ok (.aload_n 0, 1) := by decide +kernel
theorem dX7_nodes_2 : decode cX7_nodes 2 = .ok (.invokevirtual 76, 3) := by decide +kernel
theorem dX7_nodes_5 : decode cX7_nodes 5 = .ok (.invokevirtual 255, 3) := by decide +kernel
theorem dX7_nodes_8 : decode cX7_nodes 8 = .ok (.ireturn, 1) := by decide +kernel
theorem dX7_height_0 : decode cX7_height 0 = .ok (.aload_n 0, 1) := by decide +kernel
theorem dX7_height_1 : decode cX7_height 1 = .ok (.iconst 0, 1) := by decide +kernel
theorem dX7_height_2 : decode cX7_height 2 = .ok (.invokevirtual 80, 3) := by decide +kernel
theorem dX7_height_5 : decode cX7_height 5 = .ok (.ireturn, 1) := by decide +kernel
theorem dX7_level_0 : decode cX7_level 0 = .ok (.aload_n 0, 1) := by decide +kernel
theorem dX7_level_1 : decode cX7_level 1 = .ok (.iload_n 1, 1) := by decide +kernel
theorem dX7_level_2 : decode cX7_level 2 = .ok (.invokevirtual 258, 3) := by decide +kernel
theorem dX7_level_5 : decode cX7_level 5 = .ok (.istore_n 2, 1) := by decide +kernel
theorem dX7_level_6 : decode cX7_level 6 = .ok (.iload_n 2, 1) := by decide +kernel
theorem dX7_level_7 : decode cX7_level 7 = .ok (.ifCond .ge 7, 3) := by decide +kernel
theorem dX7_level_10 : decode cX7_level 10 = .ok (.iconst (-1), 1) := by decide +kernel
theorem dX7_level_11 : decode cX7_level 11 = .ok (.goto 8, 3) := by decide +kernel
theorem dX7_level_14 : decode cX7_level 14 = .ok (.aload_n 0, 1) := by decide +kernel
theorem dX7_level_15 : decode cX7_level 15 = .ok (.iload_n 2, 1) := by decide +kernel
theorem dX7_level_16 : decode cX7_level 16 = .ok (.invokevirtual 80, 3) := by decide +kernel
theorem dX7_level_19 : decode cX7_level 19 = .ok (.ireturn, 1) := by decide +kernel
theorem dX7_entries_0 : decode cX7_entries 0 = .ok (.aload_n 0, 1) := by decide +kernel
theorem dX7_entries_1 : decode cX7_entries 1 = .ok (.iload_n 1, 1) := by decide +kernel
theorem dX7_entries_2 : decode cX7_entries 2 = .ok (.invokevirtual 258, 3) := by decide +kernel
theorem dX7_entries_5 : decode cX7_entries 5 = .ok (.istore_n 2, 1) := by decide +kernel
theorem dX7_entries_6 : decode cX7_entries 6 = .ok (.iload_n 2, 1) := by decide +kernel
theorem dX7_entries_7 : decode cX7_entries 7 = .ok (.ifCond .ge 7, 3) := by decide +kernel
theorem dX7_entries_10 : decode cX7_entries 10 = .ok (.iconst (-1), 1) := by decide +kernel
theorem dX7_entries_11 : decode cX7_entries 11 = .ok (.goto 8, 3) := by decide +kernel
theorem dX7_entries_14 : decode cX7_entries 14 = .ok (.aload_n 0, 1) := by decide +kernel
theorem dX7_entries_15 : decode cX7_entries 15 = .ok (.iload_n 2, 1) := by decide +kernel
theorem dX7_entries_16 : decode cX7_entries 16 = .ok (.invokevirtual 137, 3) := by decide +kernel
theorem dX7_entries_19 : decode cX7_entries 19 = .ok (.ireturn, 1) := by decide +kernel
theorem dX7_entry_0 : decode cX7_entry 0 = .ok (.aload_n 0, 1) := by decide +kernel
theorem dX7_entry_1 : decode cX7_entry 1 = .ok (.iload_n 1, 1) := by decide +kernel
theorem dX7_entry_2 : decode cX7_entry 2 = .ok (.invokevirtual 258, 3) := by decide +kernel
theorem dX7_entry_5 : decode cX7_entry 5 = .ok (.istore_n 3, 1) := by decide +kernel
theorem dX7_entry_6 : decode cX7_entry 6 = .ok (.iload_n 3, 1) := by decide +kernel
theorem dX7_entry_7 : decode cX7_entry 7 = .ok (.ifCond .lt 18, 3) := by decide +kernel
theorem dX7_entry_10 : decode cX7_entry 10 = .ok (.iload_n 2, 1) := by decide +kernel
theorem dX7_entry_11 : decode cX7_entry 11 = .ok (.iconst 0, 1) := by decide +kernel
theorem dX7_entry_12 : decode cX7_entry 12 = .ok (.aload_n 0, 1) := by decide +kernel
theorem dX7_entry_13 : decode cX7_entry 13 = .ok (.iload_n 3, 1) := by decide +kernel
theorem dX7_entry_14 : decode cX7_entry 14 = .ok (.invokevirtual 137, 3) := by decide +kernel
theorem dX7_entry_17 : decode cX7_entry 17 = .ok (.iconst 1, 1) := by decide +kernel
theorem dX7_entry_18 : decode cX7_entry 18 = .ok (.isub, 1) := by decide +kernel
theorem dX7_entry_19 : decode cX7_entry 19 = .ok (.invokestatic 172, 3) := by decide +kernel
theorem dX7_entry_22 : decode cX7_entry 22 = .ok (.ifCond .ne 5, 3) := by decide +kernel
theorem dX7_entry_25 : decode cX7_entry 25 = .ok (.iconst (-1), 1) := by decide +kernel
theorem dX7_entry_26 : decode cX7_entry 26 = .ok (.ireturn, 1) := by decide +kernel
theorem dX7_entry_27 : decode cX7_entry 27 = .ok (.iload_n 3, 1) := by decide +kernel
theorem dX7_entry_28 : decode cX7_entry 28 = .ok (.iconst 1, 1) := by decide +kernel
theorem dX7_entry_29 : decode cX7_entry 29 = .ok (.iadd, 1) := by decide +kernel
theorem dX7_entry_30 : decode cX7_entry 30 = .ok (.istore 4, 2) := by decide +kernel
theorem dX7_entry_32 : decode cX7_entry 32 = .ok (.iconst 0, 1) := by decide +kernel
theorem dX7_entry_33 : decode cX7_entry 33 = .ok (.istore 5, 2) := by decide +kernel
theorem dX7_entry_35 : decode cX7_entry 35 = .ok (.iload 5, 2) := by decide +kernel
theorem dX7_entry_37 : decode cX7_entry 37 = .ok (.iload_n 2, 1) := by decide +kernel
theorem dX7_entry_38 : decode cX7_entry 38 = .ok (.if_icmp .ge 17, 3) := by decide +kernel
theorem dX7_entry_41 : decode cX7_entry 41 = .ok (.aload_n 0, 1) := by decide +kernel
theorem dX7_entry_42 : decode cX7_entry 42 = .ok (.iload 4, 2) := by decide +kernel
theorem dX7_entry_44 : decode cX7_entry 44 = .ok (.invokevirtual 83, 3) := by decide +kernel
theorem dX7_entry_47 : decode cX7_entry 47 = .ok (.istore 4, 2) := by decide +kernel
theorem dX7_entry_49 : decode cX7_entry 49 = .ok (.iinc 5 1, 3) := by decide +kernel
theorem dX7_entry_52 : decode cX7_entry 52 = .ok (.goto (-17), 3) := by decide +kernel
theorem dX7_entry_55 : decode cX7_entry 55 = .ok (.aload_n 0, 1) := by decide +kernel
theorem dX7_entry_56 : decode cX7_entry 56 = .ok (.iload 4, 2) := by decide +kernel
theorem dX7_entry_58 : decode cX7_entry 58 = .ok (.invokevirtual 69, 3) := by decide +kernel
theorem dX7_entry_61 : decode cX7_entry 61 = .ok (.ifCond .lt 12, 3) := by decide +kernel
theorem dX7_entry_64 : decode cX7_entry 64 = .ok (.aload_n 0, 1) := by decide +kernel
theorem dX7_entry_65 : decode cX7_entry 65 = .ok (.iload 4, 2) := by decide +kernel
theorem dX7_entry_67 : decode cX7_entry 67 = .ok (.invokevirtual 69, 3) := by decide +kernel
theorem dX7_entry_70 : decode cX7_entry 70 = .ok (.goto 9, 3) := by decide +kernel
theorem dX7_entry_73 : decode cX7_entry 73 = .ok (.aload_n 0, 1) := by decide +kernel
theorem dX7_entry_74 : decode cX7_entry 74 = .ok (.iload 4, 2) := by decide +kernel
theorem dX7_entry_76 : decode cX7_entry 76 = .ok (.invokevirtual 255, 3) := by decide +kernel
theorem dX7_entry_79 : decode cX7_entry 79 = .ok (.ireturn, 1) := by decide +kernel
theorem dX7_bound_0 : decode cX7_bound 0 = .ok (.aload_n 0, 1) := by decide +kernel
theorem dX7_bound_1 : decode cX7_bound 1 = .ok (.iload_n 1, 1) := by decide +kernel
theorem dX7_bound_2 : decode cX7_bound 2 = .ok (.invokevirtual 258, 3) := by decide +kernel
theorem dX7_bound_5 : decode cX7_bound 5 = .ok (.istore_n 3, 1) := by decide +kernel
theorem dX7_bound_6 : decode cX7_bound 6 = .ok (.iload_n 3, 1) := by decide +kernel
theorem dX7_bound_7 : decode cX7_bound 7 = .ok (.ifCond .ge 5, 3) := by decide +kernel
theorem dX7_bound_10 : decode cX7_bound 10 = .ok (.iconst (-1), 1) := by decide +kernel
theorem dX7_bound_11 : decode cX7_bound 11 = .ok (.ireturn, 1) := by decide +kernel
theorem dX7_bound_12 : decode cX7_bound 12 = .ok (.iload_n 2, 1) := by decide +kernel
theorem dX7_bound_13 : decode cX7_bound 13 = .ok (.iconst 0, 1) := by decide +kernel
theorem dX7_bound_14 : decode cX7_bound 14 = .ok (.iconst 3, 1) := by decide +kernel
theorem dX7_bound_15 : decode cX7_bound 15 = .ok (.invokestatic 172, 3) := by decide +kernel
theorem dX7_bound_18 : decode cX7_bound 18 = .ok (.ifCond .ne 6, 3) := by decide +kernel
theorem dX7_bound_21 : decode cX7_bound 21 = .ok (.bipush (-2), 2) := by decide +kernel
theorem dX7_bound_23 : decode cX7_bound 23 = .ok (.ireturn, 1) := by decide +kernel
theorem dX7_bound_24 : decode cX7_bound 24 = .ok (.aload_n 0, 1) := by decide +kernel
theorem dX7_bound_25 : decode cX7_bound 25 = .ok (.invokevirtual 76, 3) := by decide +kernel
theorem dX7_bound_28 : decode cX7_bound 28 = .ok (.iconst 1, 1) := by decide +kernel
theorem dX7_bound_29 : decode cX7_bound 29 = .ok (.if_icmp .ne 6, 3) := by decide +kernel
theorem dX7_bound_32 : decode cX7_bound 32 = .ok (.bipush (-5), 2) := by decide +kernel
theorem dX7_bound_34 : decode cX7_bound 34 = .ok (.ireturn, 1) := by decide +kernel
theorem dX7_bound_35 : decode cX7_bound 35 = .ok (.aload_n 0, 1) := by decide +kernel
theorem dX7_bound_36 : decode cX7_bound 36 = .ok (.iload_n 3, 1) := by decide +kernel
theorem dX7_bound_37 : decode cX7_bound 37 = .ok (.iconst 0, 1) := by decide +kernel
theorem dX7_bound_38 : decode cX7_bound 38 = .ok (.invokevirtual 110, 3) := by decide +kernel
theorem dX7_bound_41 : decode cX7_bound 41 = .ok (.aload_n 0, 1) := by decide +kernel
theorem dX7_bound_42 : decode cX7_bound 42 = .ok (.getfield 22, 3) := by decide +kernel
theorem dX7_bound_45 : decode cX7_bound 45 = .ok (.iload_n 2, 1) := by decide +kernel
theorem dX7_bound_46 : decode cX7_bound 46 = .ok (.iaload, 1) := by decide +kernel
theorem dX7_bound_47 : decode cX7_bound 47 = .ok (.ireturn, 1) := by decide +kernel
theorem dX7_leafOf_0 : decode cX7_leafOf 0 = .ok (.aload_n 0, 1) := by decide +kernel
theorem dX7_leafOf_1 : decode cX7_leafOf 1 = .ok (.iload_n 1, 1) := by decide +kernel
theorem dX7_leafOf_2 : decode cX7_leafOf 2 = .ok (.invokevirtual 168, 3) := by decide +kernel
theorem dX7_leafOf_5 : decode cX7_leafOf 5 = .ok (.ifCond .eq 17, 3) := by decide +kernel
theorem dX7_leafOf_8 : decode cX7_leafOf 8 = .ok (.aload_n 0, 1) := by decide +kernel
theorem dX7_leafOf_9 : decode cX7_leafOf 9 = .ok (.aload_n 0, 1) := by decide +kernel
theorem dX7_leafOf_10 : decode cX7_leafOf 10 = .ok (.iload_n 1, 1) := by decide +kernel
theorem dX7_leafOf_11 : decode cX7_leafOf 11 = .ok (.invokevirtual 195, 3) := by decide +kernel
theorem dX7_leafOf_14 : decode cX7_leafOf 14 = .ok (.invokevirtual 255, 3) := by decide +kernel
theorem dX7_leafOf_17 : decode cX7_leafOf 17 = .ok (.iconst 1, 1) := by decide +kernel
theorem dX7_leafOf_18 : decode cX7_leafOf 18 = .ok (.isub, 1) := by decide +kernel
theorem dX7_leafOf_19 : decode cX7_leafOf 19 = .ok (.goto 4, 3) := by decide +kernel
theorem dX7_leafOf_22 : decode cX7_leafOf 22 = .ok (.iconst (-1), 1) := by decide +kernel
theorem dX7_leafOf_23 : decode cX7_leafOf 23 = .ok (.ireturn, 1) := by decide +kernel
theorem dX7_setting_0 : decode cX7_setting 0 = .ok (.iload_n 1, 1) := by decide +kernel
theorem dX7_setting_1 : decode cX7_setting 1 = .ok (.iconst 0, 1) := by decide +kernel
theorem dX7_setting_2 : decode cX7_setting 2 = .ok (.iconst 1, 1) := by decide +kernel
theorem dX7_setting_3 : decode cX7_setting 3 = .ok (.invokestatic 172, 3) := by decide +kernel
theorem dX7_setting_6 : decode cX7_setting 6 = .ok (.ifCond .eq 12, 3) := by decide +kernel
theorem dX7_setting_9 : decode cX7_setting 9 = .ok (.aload_n 0, 1) := by decide +kernel
theorem dX7_setting_10 : decode cX7_setting 10 = .ok (.getfield 7, 3) := by decide +kernel
theorem dX7_setting_13 : decode cX7_setting 13 = .ok (.iload_n 1, 1) := by decide +kernel
theorem dX7_setting_14 : decode cX7_setting 14 = .ok (.iaload, 1) := by decide +kernel
theorem dX7_setting_15 : decode cX7_setting 15 = .ok (.goto 4, 3) := by decide +kernel
theorem dX7_setting_18 : decode cX7_setting 18 = .ok (.iconst (-1), 1) := by decide +kernel
theorem dX7_setting_19 : decode cX7_setting 19 = .ok (.ireturn, 1) := by decide +kernel
theorem dX7_splits_0 : decode cX7_splits 0 = .ok (.aload_n 0, 1) := by decide +kernel
theorem dX7_splits_1 : decode cX7_splits 1 = .ok (.getfield 7, 3) := by decide +kernel
theorem dX7_splits_4 : decode cX7_splits 4 = .ok (.iconst 2, 1) := by decide +kernel
theorem dX7_splits_5 : decode cX7_splits 5 = .ok (.iaload, 1) := by decide +kernel
theorem dX7_splits_6 : decode cX7_splits 6 = .ok (.ireturn, 1) := by decide +kernel
theorem dX7_reinsertions_0 : decode cX7_reinsertions 0 = .ok (.aload_n 0, 1) := by decide +kernel
theorem dX7_reinsertions_1 : decode cX7_reinsertions 1 = .ok (.getfield 7, 3) := by decide +kernel
theorem dX7_reinsertions_4 : decode cX7_reinsertions 4 = .ok (.iconst 3, 1) := by decide +kernel
theorem dX7_reinsertions_5 : decode cX7_reinsertions 5 = .ok (.iaload, 1) := by decide +kernel
theorem dX7_reinsertions_6 : decode cX7_reinsertions 6 = .ok (.ireturn, 1) := by decide +kernel
theorem dX7_frames_0 : decode cX7_frames 0 = .ok (.aload_n 0, 1) := by decide +kernel
theorem dX7_frames_1 : decode cX7_frames 1 = .ok (.getfield 22, 3) := by decide +kernel
theorem dX7_frames_4 : decode cX7_frames 4 = .ok (.bipush 40, 2) := by decide +kernel
theorem dX7_frames_6 : decode cX7_frames 6 = .ok (.iload_n 1, 1) := by decide +kernel
theorem dX7_frames_7 : decode cX7_frames 7 = .ok (.iastore, 1) := by decide +kernel
theorem dX7_frames_8 : decode cX7_frames 8 = .ok (.aload_n 0, 1) := by decide +kernel
theorem dX7_frames_9 : decode cX7_frames 9 = .ok (.getfield 22, 3) := by decide +kernel
theorem dX7_frames_12 : decode cX7_frames 12 = .ok (.bipush 41, 2) := by decide +kernel
theorem dX7_frames_14 : decode cX7_frames 14 = .ok (.iload_n 2, 1) := by decide +kernel
theorem dX7_frames_15 : decode cX7_frames 15 = .ok (.iastore, 1) := by decide +kernel
theorem dX7_frames_16 : decode cX7_frames 16 = .ok (.aload_n 0, 1) := by decide +kernel
theorem dX7_frames_17 : decode cX7_frames 17 = .ok (.getfield 22, 3) := by decide +kernel
theorem dX7_frames_20 : decode cX7_frames 20 = .ok (.bipush 42, 2) := by decide +kernel
theorem dX7_frames_22 : decode cX7_frames 22 = .ok (.iload_n 3, 1) := by decide +kernel
theorem dX7_frames_23 : decode cX7_frames 23 = .ok (.iastore, 1) := by decide +kernel
theorem dX7_frames_24 : decode cX7_frames 24 = .ok (.aload_n 0, 1) := by decide +kernel
theorem dX7_frames_25 : decode cX7_frames 25 = .ok (.getfield 22, 3) := by decide +kernel
theorem dX7_frames_28 : decode cX7_frames 28 = .ok (.bipush 43, 2) := by decide +kernel
theorem dX7_frames_30 : decode cX7_frames 30 = .ok (.iload 4, 2) := by decide +kernel
theorem dX7_frames_32 : decode cX7_frames 32 = .ok (.iastore, 1) := by decide +kernel
theorem dX7_frames_33 : decode cX7_frames 33 = .ok (.return_, 1) := by decide +kernel
theorem dX7_meets_0 : decode cX7_meets 0 = .ok (.aload_n 0, 1) := by decide +kernel
theorem dX7_meets_1 : decode cX7_meets 1 = .ok (.iload_n 1, 1) := by decide +kernel
theorem dX7_meets_2 : decode cX7_meets 2 = .ok (.iconst 0, 1) := by decide +kernel
theorem dX7_meets_3 : decode cX7_meets 3 = .ok (.invokevirtual 110, 3) := by decide +kernel
theorem dX7_meets_6 : decode cX7_meets 6 = .ok (.aload_n 0, 1) := by decide +kernel
theorem dX7_meets_7 : decode cX7_meets 7 = .ok (.iconst 0, 1) := by decide +kernel
theorem dX7_meets_8 : decode cX7_meets 8 = .ok (.bipush 10, 2) := by decide +kernel
theorem dX7_meets_10 : decode cX7_meets 10 = .ok (.invokevirtual 261, 3) := by decide +kernel
theorem dX7_meets_13 : decode cX7_meets 13 = .ok (.ifCond .le 7, 3) := by decide +kernel
theorem dX7_meets_16 : decode cX7_meets 16 = .ok (.iconst 1, 1) := by decide +kernel
theorem dX7_meets_17 : decode cX7_meets 17 = .ok (.goto 4, 3) := by decide +kernel
theorem dX7_meets_20 : decode cX7_meets 20 = .ok (.iconst 0, 1) := by decide +kernel
theorem dX7_meets_21 : decode cX7_meets 21 = .ok (.ireturn, 1) := by decide +kernel
theorem dX7_meeting_0 : decode cX7_meeting 0 = .ok (.iload_n 1, 1) := by decide +kernel
theorem dX7_meeting_1 : decode cX7_meeting 1 = .ok (.iload_n 2, 1) := by decide +kernel
theorem dX7_meeting_2 : decode cX7_meeting 2 = .ok (.iload_n 3, 1) := by decide +kernel
theorem dX7_meeting_3 : decode cX7_meeting 3 = .ok (.iload 4, 2) := by decide +kernel
theorem dX7_meeting_5 : decode cX7_meeting 5 = .ok (.invokestatic 179, 3) := by decide +kernel
theorem dX7_meeting_8 : decode cX7_meeting 8 = .ok (.ifCond .ne 6, 3) := by decide +kernel
theorem dX7_meeting_11 : decode cX7_meeting 11 = .ok (.bipush (-2), 2) := by decide +kernel
theorem dX7_meeting_13 : decode cX7_meeting 13 = .ok (.ireturn, 1) := by decide +kernel
theorem dX7_meeting_14 : decode cX7_meeting 14 = .ok (.aload_n 0, 1) := by decide +kernel
theorem dX7_meeting_15 : decode cX7_meeting 15 = .ok (.iload_n 1, 1) := by decide +kernel
theorem dX7_meeting_16 : decode cX7_meeting 16 = .ok (.iload_n 2, 1) := by decide +kernel
theorem dX7_meeting_17 : decode cX7_meeting 17 = .ok (.iload_n 3, 1) := by decide +kernel
theorem dX7_meeting_18 : decode cX7_meeting 18 = .ok (.iload 4, 2) := by decide +kernel
theorem dX7_meeting_20 : decode cX7_meeting 20 = .ok (.invokevirtual 264, 3) := by decide +kernel
theorem dX7_meeting_23 : decode cX7_meeting 23 = .ok (.iconst 0, 1) := by decide +kernel
theorem dX7_meeting_24 : decode cX7_meeting 24 = .ok (.istore 5, 2) := by decide +kernel
theorem dX7_meeting_26 : decode cX7_meeting 26 = .ok (.iconst 0, 1) := by decide +kernel
theorem dX7_meeting_27 : decode cX7_meeting 27 = .ok (.istore 6, 2) := by decide +kernel
theorem dX7_meeting_29 : decode cX7_meeting 29 = .ok (.iload 6, 2) := by decide +kernel
theorem dX7_meeting_31 : decode cX7_meeting 31 = .ok (.aload_n 0, 1) := by decide +kernel
theorem dX7_meeting_32 : decode cX7_meeting 32 = .ok (.invokevirtual 76, 3) := by decide +kernel
theorem dX7_meeting_35 : decode cX7_meeting 35 = .ok (.if_icmp .ge 37, 3) := by decide +kernel
theorem dX7_meeting_38 : decode cX7_meeting 38 = .ok (.iload 5, 2) := by decide +kernel
theorem dX7_meeting_40 : decode cX7_meeting 40 = .ok (.aload_n 0, 1) := by decide +kernel
theorem dX7_meeting_41 : decode cX7_meeting 41 = .ok (.iload 6, 2) := by decide +kernel
theorem dX7_meeting_43 : decode cX7_meeting 43 = .ok (.invokevirtual 69, 3) := by decide +kernel
theorem dX7_meeting_46 : decode cX7_meeting 46 = .ok (.ifCond .lt 16, 3) := by decide +kernel
theorem dX7_meeting_49 : decode cX7_meeting 49 = .ok (.aload_n 0, 1) := by decide +kernel
theorem dX7_meeting_50 : decode cX7_meeting 50 = .ok (.iload 6, 2) := by decide +kernel
theorem dX7_meeting_52 : decode cX7_meeting 52 = .ok (.invokevirtual 268, 3) := by decide +kernel
theorem dX7_meeting_55 : decode cX7_meeting 55 = .ok (.ifCond .eq 7, 3) := by decide +kernel
theorem dX7_meeting_58 : decode cX7_meeting 58 = .ok (.iconst 1, 1) := by decide +kernel
theorem dX7_meeting_59 : decode cX7_meeting 59 = .ok (.goto 4, 3) := by decide +kernel
theorem dX7_meeting_62 : decode cX7_meeting 62 = .ok (.iconst 0, 1) := by decide +kernel
theorem dX7_meeting_63 : decode cX7_meeting 63 = .ok (.iadd, 1) := by decide +kernel
theorem dX7_meeting_64 : decode cX7_meeting 64 = .ok (.istore 5, 2) := by decide +kernel
theorem dX7_meeting_66 : decode cX7_meeting 66 = .ok (.iinc 6 1, 3) := by decide +kernel
theorem dX7_meeting_69 : decode cX7_meeting 69 = .ok (.goto (-40), 3) := by decide +kernel
theorem dX7_meeting_72 : decode cX7_meeting 72 = .ok (.iload 5, 2) := by decide +kernel
theorem dX7_meeting_74 : decode cX7_meeting 74 = .ok (.ireturn, 1) := by decide +kernel
theorem dX7_inside_0 : decode cX7_inside 0 = .ok (.iload_n 1, 1) := by decide +kernel
theorem dX7_inside_1 : decode cX7_inside 1 = .ok (.iload_n 2, 1) := by decide +kernel
theorem dX7_inside_2 : decode cX7_inside 2 = .ok (.iload_n 3, 1) := by decide +kernel
theorem dX7_inside_3 : decode cX7_inside 3 = .ok (.iload 4, 2) := by decide +kernel
theorem dX7_inside_5 : decode cX7_inside 5 = .ok (.invokestatic 179, 3) := by decide +kernel
theorem dX7_inside_8 : decode cX7_inside 8 = .ok (.ifCond .ne 6, 3) := by decide +kernel
theorem dX7_inside_11 : decode cX7_inside 11 = .ok (.bipush (-2), 2) := by decide +kernel
theorem dX7_inside_13 : decode cX7_inside 13 = .ok (.ireturn, 1) := by decide +kernel
theorem dX7_inside_14 : decode cX7_inside 14 = .ok (.iconst 0, 1) := by decide +kernel
theorem dX7_inside_15 : decode cX7_inside 15 = .ok (.istore 5, 2) := by decide +kernel
theorem dX7_inside_17 : decode cX7_inside 17 = .ok (.iconst 0, 1) := by decide +kernel
theorem dX7_inside_18 : decode cX7_inside 18 = .ok (.istore 6, 2) := by decide +kernel
theorem dX7_inside_20 : decode cX7_inside 20 = .ok (.iload 6, 2) := by decide +kernel
theorem dX7_inside_22 : decode cX7_inside 22 = .ok (.bipush 24, 2) := by decide +kernel
theorem dX7_inside_24 : decode cX7_inside 24 = .ok (.if_icmp .ge 102, 3) := by decide +kernel
theorem dX7_inside_27 : decode cX7_inside 27 = .ok (.iconst 5, 1) := by decide +kernel
theorem dX7_inside_28 : decode cX7_inside 28 = .ok (.iconst 4, 1) := by decide +kernel
theorem dX7_inside_29 : decode cX7_inside 29 = .ok (.iload 6, 2) := by decide +kernel
theorem dX7_inside_31 : decode cX7_inside 31 = .ok (.imul, 1) := by decide +kernel
theorem dX7_inside_32 : decode cX7_inside 32 = .ok (.iadd, 1) := by decide +kernel
theorem dX7_inside_33 : decode cX7_inside 33 = .ok (.istore 7, 2) := by decide +kernel
theorem dX7_inside_35 : decode cX7_inside 35 = .ok (.aload_n 0, 1) := by decide +kernel
theorem dX7_inside_36 : decode cX7_inside 36 = .ok (.iload 6, 2) := by decide +kernel
theorem dX7_inside_38 : decode cX7_inside 38 = .ok (.invokevirtual 168, 3) := by decide +kernel
theorem dX7_inside_41 : decode cX7_inside 41 = .ok (.ifCond .eq 58, 3) := by decide +kernel
theorem dX7_inside_44 : decode cX7_inside 44 = .ok (.aload_n 0, 1) := by decide +kernel
theorem dX7_inside_45 : decode cX7_inside 45 = .ok (.getfield 7, 3) := by decide +kernel
theorem dX7_inside_48 : decode cX7_inside 48 = .ok (.iload 7, 2) := by decide +kernel
theorem dX7_inside_50 : decode cX7_inside 50 = .ok (.iaload, 1) := by decide +kernel
theorem dX7_inside_51 : decode cX7_inside 51 = .ok (.iload_n 1, 1) := by decide +kernel
theorem dX7_inside_52 : decode cX7_inside 52 = .ok (.if_icmp .lt 47, 3) := by decide +kernel
theorem dX7_inside_55 : decode cX7_inside 55 = .ok (.aload_n 0, 1) := by decide +kernel
theorem dX7_inside_56 : decode cX7_inside 56 = .ok (.getfield 7, 3) := by decide +kernel
theorem dX7_inside_59 : decode cX7_inside 59 = .ok (.iload 7, 2) := by decide +kernel
theorem dX7_inside_61 : decode cX7_inside 61 = .ok (.iconst 1, 1) := by decide +kernel
theorem dX7_inside_62 : decode cX7_inside 62 = .ok (.iadd, 1) := by decide +kernel
theorem dX7_inside_63 : decode cX7_inside 63 = .ok (.iaload, 1) := by decide +kernel
theorem dX7_inside_64 : decode cX7_inside 64 = .ok (.iload_n 2, 1) := by decide +kernel
theorem dX7_inside_65 : decode cX7_inside 65 = .ok (.if_icmp .lt 34, 3) := by decide +kernel
theorem dX7_inside_68 : decode cX7_inside 68 = .ok (.aload_n 0, 1) := by decide +kernel
theorem dX7_inside_69 : decode cX7_inside 69 = .ok (.getfield 7, 3) := by decide +kernel
theorem dX7_inside_72 : decode cX7_inside 72 = .ok (.iload 7, 2) := by decide +kernel
theorem dX7_inside_74 : decode cX7_inside 74 = .ok (.iconst 2, 1) := by decide +kernel
theorem dX7_inside_75 : decode cX7_inside 75 = .ok (.iadd, 1) := by decide +kernel
theorem dX7_inside_76 : decode cX7_inside 76 = .ok (.iaload, 1) := by decide +kernel
theorem dX7_inside_77 : decode cX7_inside 77 = .ok (.iload_n 3, 1) := by decide +kernel
theorem dX7_inside_78 : decode cX7_inside 78 = .ok (.if_icmp .gt 21, 3) := by decide +kernel
theorem dX7_inside_81 : decode cX7_inside 81 = .ok (.aload_n 0, 1) := by decide +kernel
theorem dX7_inside_82 : decode cX7_inside 82 = .ok (.getfield 7, 3) := by decide +kernel
theorem dX7_inside_85 : decode cX7_inside 85 = .ok (.iload 7, 2) := by decide +kernel
theorem dX7_inside_87 : decode cX7_inside 87 = .ok (.iconst 3, 1) := by decide +kernel
theorem dX7_inside_88 : decode cX7_inside 88 = .ok (.iadd, 1) := by decide +kernel
theorem dX7_inside_89 : decode cX7_inside 89 = .ok (.iaload, 1) := by decide +kernel
theorem dX7_inside_90 : decode cX7_inside 90 = .ok (.iload 4, 2) := by decide +kernel
theorem dX7_inside_92 : decode cX7_inside 92 = .ok (.if_icmp .gt 7, 3) := by decide +kernel
theorem dX7_inside_95 : decode cX7_inside 95 = .ok (.iconst 1, 1) := by decide +kernel
theorem dX7_inside_96 : decode cX7_inside 96 = .ok (.goto 4, 3) := by decide +kernel
theorem dX7_inside_99 : decode cX7_inside 99 = .ok (.iconst 0, 1) := by decide +kernel
theorem dX7_inside_100 : decode cX7_inside 100 = .ok (.istore 8, 2) := by decide +kernel
theorem dX7_inside_102 : decode cX7_inside 102 = .ok (.iload 5, 2) := by decide +kernel
theorem dX7_inside_104 : decode cX7_inside 104 = .ok (.iload 8, 2) := by decide +kernel
theorem dX7_inside_106 : decode cX7_inside 106 = .ok (.ifCond .eq 10, 3) := by decide +kernel
theorem dX7_inside_109 : decode cX7_inside 109 = .ok (.iconst 1, 1) := by decide +kernel
theorem dX7_inside_110 : decode cX7_inside 110 = .ok (.iload 6, 2) := by decide +kernel
theorem dX7_inside_112 : decode cX7_inside 112 = .ok (.ishl, 1) := by decide +kernel
theorem dX7_inside_113 : decode cX7_inside 113 = .ok (.goto 4, 3) := by decide +kernel
theorem dX7_inside_116 : decode cX7_inside 116 = .ok (.iconst 0, 1) := by decide +kernel
theorem dX7_inside_117 : decode cX7_inside 117 = .ok (.ior, 1) := by decide +kernel
theorem dX7_inside_118 : decode cX7_inside 118 = .ok (.istore 5, 2) := by decide +kernel
theorem dX7_inside_120 : decode cX7_inside 120 = .ok (.iinc 6 1, 3) := by decide +kernel
theorem dX7_inside_123 : decode cX7_inside 123 = .ok (.goto (-103), 3) := by decide +kernel
theorem dX7_inside_126 : decode cX7_inside 126 = .ok (.iload 5, 2) := by decide +kernel
theorem dX7_inside_128 : decode cX7_inside 128 = .ok (.ireturn, 1) := by decide +kernel
theorem dX7_visits_0 : decode cX7_visits 0 = .ok (.iload_n 1, 1) := by decide +kernel
theorem dX7_visits_1 : decode cX7_visits 1 = .ok (.iload_n 2, 1) := by decide +kernel
theorem dX7_visits_2 : decode cX7_visits 2 = .ok (.iload_n 3, 1) := by decide +kernel
theorem dX7_visits_3 : decode cX7_visits 3 = .ok (.iload 4, 2) := by decide +kernel
theorem dX7_visits_5 : decode cX7_visits 5 = .ok (.invokestatic 179, 3) := by decide +kernel
theorem dX7_visits_8 : decode cX7_visits 8 = .ok (.ifCond .ne 6, 3) := by decide +kernel
theorem dX7_visits_11 : decode cX7_visits 11 = .ok (.bipush (-2), 2) := by decide +kernel
theorem dX7_visits_13 : decode cX7_visits 13 = .ok (.ireturn, 1) := by decide +kernel
theorem dX7_visits_14 : decode cX7_visits 14 = .ok (.aload_n 0, 1) := by decide +kernel
theorem dX7_visits_15 : decode cX7_visits 15 = .ok (.iload_n 1, 1) := by decide +kernel
theorem dX7_visits_16 : decode cX7_visits 16 = .ok (.iload_n 2, 1) := by decide +kernel
theorem dX7_visits_17 : decode cX7_visits 17 = .ok (.iload_n 3, 1) := by decide +kernel
theorem dX7_visits_18 : decode cX7_visits 18 = .ok (.iload 4, 2) := by decide +kernel
theorem dX7_visits_20 : decode cX7_visits 20 = .ok (.invokevirtual 264, 3) := by decide +kernel
theorem dX7_visits_23 : decode cX7_visits 23 = .ok (.iconst 0, 1) := by decide +kernel
theorem dX7_visits_24 : decode cX7_visits 24 = .ok (.istore 5, 2) := by decide +kernel
theorem dX7_visits_26 : decode cX7_visits 26 = .ok (.iconst 0, 1) := by decide +kernel
theorem dX7_visits_27 : decode cX7_visits 27 = .ok (.istore 6, 2) := by decide +kernel
theorem dX7_visits_29 : decode cX7_visits 29 = .ok (.iload 6, 2) := by decide +kernel
theorem dX7_visits_31 : decode cX7_visits 31 = .ok (.aload_n 0, 1) := by decide +kernel
theorem dX7_visits_32 : decode cX7_visits 32 = .ok (.invokevirtual 76, 3) := by decide +kernel
theorem dX7_visits_35 : decode cX7_visits 35 = .ok (.if_icmp .ge 78, 3) := by decide +kernel
theorem dX7_visits_38 : decode cX7_visits 38 = .ok (.aload_n 0, 1) := by decide +kernel
theorem dX7_visits_39 : decode cX7_visits 39 = .ok (.getfield 62, 3) := by decide +kernel
theorem dX7_visits_42 : decode cX7_visits 42 = .ok (.iload 6, 2) := by decide +kernel
theorem dX7_visits_44 : decode cX7_visits 44 = .ok (.aload_n 0, 1) := by decide +kernel
theorem dX7_visits_45 : decode cX7_visits 45 = .ok (.iload 6, 2) := by decide +kernel
theorem dX7_visits_47 : decode cX7_visits 47 = .ok (.invokevirtual 69, 3) := by decide +kernel
theorem dX7_visits_50 : decode cX7_visits 50 = .ok (.ifCond .ge 35, 3) := by decide +kernel
theorem dX7_visits_53 : decode cX7_visits 53 = .ok (.iload 6, 2) := by decide +kernel
theorem dX7_visits_55 : decode cX7_visits 55 = .ok (.ifCond .eq 26, 3) := by decide +kernel
theorem dX7_visits_58 : decode cX7_visits 58 = .ok (.aload_n 0, 1) := by decide +kernel
theorem dX7_visits_59 : decode cX7_visits 59 = .ok (.getfield 62, 3) := by decide +kernel
theorem dX7_visits_62 : decode cX7_visits 62 = .ok (.aload_n 0, 1) := by decide +kernel
theorem dX7_visits_63 : decode cX7_visits 63 = .ok (.iload 6, 2) := by decide +kernel
theorem dX7_visits_65 : decode cX7_visits 65 = .ok (.invokevirtual 165, 3) := by decide +kernel
theorem dX7_visits_68 : decode cX7_visits 68 = .ok (.baload, 1) := by decide +kernel
theorem dX7_visits_69 : decode cX7_visits 69 = .ok (.ifCond .eq 16, 3) := by decide +kernel
theorem dX7_visits_72 : decode cX7_visits 72 = .ok (.aload_n 0, 1) := by decide +kernel
theorem dX7_visits_73 : decode cX7_visits 73 = .ok (.iload 6, 2) := by decide +kernel
theorem dX7_visits_75 : decode cX7_visits 75 = .ok (.invokevirtual 268, 3) := by decide +kernel
theorem dX7_visits_78 : decode cX7_visits 78 = .ok (.ifCond .eq 7, 3) := by decide +kernel
theorem dX7_visits_81 : decode cX7_visits 81 = .ok (.iconst 1, 1) := by decide +kernel
theorem dX7_visits_82 : decode cX7_visits 82 = .ok (.goto 4, 3) := by decide +kernel
theorem dX7_visits_85 : decode cX7_visits 85 = .ok (.iconst 0, 1) := by decide +kernel
theorem dX7_visits_86 : decode cX7_visits 86 = .ok (.bastore, 1) := by decide +kernel
theorem dX7_visits_87 : decode cX7_visits 87 = .ok (.iload 5, 2) := by decide +kernel
theorem dX7_visits_89 : decode cX7_visits 89 = .ok (.aload_n 0, 1) := by decide +kernel
theorem dX7_visits_90 : decode cX7_visits 90 = .ok (.getfield 62, 3) := by decide +kernel
theorem dX7_visits_93 : decode cX7_visits 93 = .ok (.iload 6, 2) := by decide +kernel
theorem dX7_visits_95 : decode cX7_visits 95 = .ok (.baload, 1) := by decide +kernel
theorem dX7_visits_96 : decode cX7_visits 96 = .ok (.ifCond .eq 7, 3) := by decide +kernel
theorem dX7_visits_99 : decode cX7_visits 99 = .ok (.iconst 1, 1) := by decide +kernel
theorem dX7_visits_100 : decode cX7_visits 100 = .ok (.goto 4, 3) := by decide +kernel
theorem dX7_visits_103 : decode cX7_visits 103 = .ok (.iconst 0, 1) := by decide +kernel
theorem dX7_visits_104 : decode cX7_visits 104 = .ok (.iadd, 1) := by decide +kernel
theorem dX7_visits_105 : decode cX7_visits 105 = .ok (.istore 5, 2) := by decide +kernel
theorem dX7_visits_107 : decode cX7_visits 107 = .ok (.iinc 6 1, 3) := by decide +kernel
theorem dX7_visits_110 : decode cX7_visits 110 = .ok (.goto (-81), 3) := by decide +kernel
theorem dX7_visits_113 : decode cX7_visits 113 = .ok (.iload 5, 2) := by decide +kernel
theorem dX7_visits_115 : decode cX7_visits 115 = .ok (.ireturn, 1) := by decide +kernel
theorem dX7_off_0 : decode cX7_off 0 = .ok (.iload_n 0, 1) := by decide +kernel
theorem dX7_off_1 : decode cX7_off 1 = .ok (.iload_n 1, 1) := by decide +kernel
theorem dX7_off_2 : decode cX7_off 2 = .ok (.if_icmp .ge 9, 3) := by decide +kernel
theorem dX7_off_5 : decode cX7_off 5 = .ok (.iload_n 1, 1) := by decide +kernel
theorem dX7_off_6 : decode cX7_off 6 = .ok (.iload_n 0, 1) := by decide +kernel
theorem dX7_off_7 : decode cX7_off 7 = .ok (.isub, 1) := by decide +kernel
theorem dX7_off_8 : decode cX7_off 8 = .ok (.goto 15, 3) := by decide +kernel
theorem dX7_off_11 : decode cX7_off 11 = .ok (.iload_n 0, 1) := by decide +kernel
theorem dX7_off_12 : decode cX7_off 12 = .ok (.iload_n 2, 1) := by decide +kernel
theorem dX7_off_13 : decode cX7_off 13 = .ok (.if_icmp .le 9, 3) := by decide +kernel
theorem dX7_off_16 : decode cX7_off 16 = .ok (.iload_n 0, 1) := by decide +kernel
theorem dX7_off_17 : decode cX7_off 17 = .ok (.iload_n 2, 1) := by decide +kernel
theorem dX7_off_18 : decode cX7_off 18 = .ok (.isub, 1) := by decide +kernel
theorem dX7_off_19 : decode cX7_off 19 = .ok (.goto 4, 3) := by decide +kernel
theorem dX7_off_22 : decode cX7_off 22 = .ok (.iconst 0, 1) := by decide +kernel
theorem dX7_off_23 : decode cX7_off 23 = .ok (.ireturn, 1) := by decide +kernel
theorem dX7_nearest_0 : decode cX7_nearest 0 = .ok (.iload_n 1, 1) := by decide +kernel
theorem dX7_nearest_1 : decode cX7_nearest 1 = .ok (.iconst 0, 1) := by decide +kernel
theorem dX7_nearest_2 : decode cX7_nearest 2 = .ok (.bipush 99, 2) := by decide +kernel
theorem dX7_nearest_4 : decode cX7_nearest 4 = .ok (.invokestatic 172, 3) := by decide +kernel
theorem dX7_nearest_7 : decode cX7_nearest 7 = .ok (.ifCond .eq 13, 3) := by decide +kernel
theorem dX7_nearest_10 : decode cX7_nearest 10 = .ok (.iload_n 2, 1) := by decide +kernel
theorem dX7_nearest_11 : decode cX7_nearest 11 = .ok (.iconst 0, 1) := by decide +kernel
theorem dX7_nearest_12 : decode cX7_nearest 12 = .ok (.bipush 99, 2) := by decide +kernel
theorem dX7_nearest_14 : decode cX7_nearest 14 = .ok (.invokestatic 172, 3) := by decide +kernel
theorem dX7_nearest_17 : decode cX7_nearest 17 = .ok (.ifCond .ne 6, 3) := by decide +kernel
theorem dX7_nearest_20 : decode cX7_nearest 20 = .ok (.bipush (-2), 2) := by decide +kernel
theorem dX7_nearest_22 : decode cX7_nearest 22 = .ok (.ireturn, 1) := by decide +kernel
theorem dX7_nearest_23 : decode cX7_nearest 23 = .ok (.bipush (-5), 2) := by decide +kernel
theorem dX7_nearest_25 : decode cX7_nearest 25 = .ok (.istore_n 3, 1) := by decide +kernel
theorem dX7_nearest_26 : decode cX7_nearest 26 = .ok (.iconst 0, 1) := by decide +kernel
theorem dX7_nearest_27 : decode cX7_nearest 27 = .ok (.istore 4, 2) := by decide +kernel
theorem dX7_nearest_29 : decode cX7_nearest 29 = .ok (.iconst 0, 1) := by decide +kernel
theorem dX7_nearest_30 : decode cX7_nearest 30 = .ok (.istore 5, 2) := by decide +kernel
theorem dX7_nearest_32 : decode cX7_nearest 32 = .ok (.iload 5, 2) := by decide +kernel
theorem dX7_nearest_34 : decode cX7_nearest 34 = .ok (.bipush 24, 2) := by decide +kernel
theorem dX7_nearest_36 : decode cX7_nearest 36 = .ok (.if_icmp .ge 129, 3) := by decide +kernel
theorem dX7_nearest_39 : decode cX7_nearest 39 = .ok (.iconst 5, 1) := by decide +kernel
theorem dX7_nearest_40 : decode cX7_nearest 40 = .ok (.iconst 4, 1) := by decide +kernel
theorem dX7_nearest_41 : decode cX7_nearest 41 = .ok (.iload 5, 2) := by decide +kernel
theorem dX7_nearest_43 : decode cX7_nearest 43 = .ok (.imul, 1) := by decide +kernel
theorem dX7_nearest_44 : decode cX7_nearest 44 = .ok (.iadd, 1) := by decide +kernel
theorem dX7_nearest_45 : decode cX7_nearest 45 = .ok (.istore 6, 2) := by decide +kernel
theorem dX7_nearest_47 : decode cX7_nearest 47 = .ok (.iload_n 1, 1) := by decide +kernel
theorem dX7_nearest_48 : decode cX7_nearest 48 = .ok (.aload_n 0, 1) := by decide +kernel
theorem dX7_nearest_49 : decode cX7_nearest 49 = .ok (.getfield 7, 3) := by decide +kernel
theorem dX7_nearest_52 : decode cX7_nearest 52 = .ok (.iload 6, 2) := by decide +kernel
theorem dX7_nearest_54 : decode cX7_nearest 54 = .ok (.iaload, 1) := by decide +kernel
theorem dX7_nearest_55 : decode cX7_nearest 55 = .ok (.aload_n 0, 1) := by decide +kernel
theorem dX7_nearest_56 : decode cX7_nearest 56 = .ok (.getfield 7, 3) := by decide +kernel
theorem dX7_nearest_59 : decode cX7_nearest 59 = .ok (.iload 6, 2) := by decide +kernel
theorem dX7_nearest_61 : decode cX7_nearest 61 = .ok (.iconst 2, 1) := by decide +kernel
theorem dX7_nearest_62 : decode cX7_nearest 62 = .ok (.iadd, 1) := by decide +kernel
theorem dX7_nearest_63 : decode cX7_nearest 63 = .ok (.iaload, 1) := by decide +kernel
theorem dX7_nearest_64 : decode cX7_nearest 64 = .ok (.invokestatic 271, 3) := by decide +kernel
theorem dX7_nearest_67 : decode cX7_nearest 67 = .ok (.istore 7, 2) := by decide +kernel
theorem dX7_nearest_69 : decode cX7_nearest 69 = .ok (.iload_n 2, 1) := by decide +kernel
theorem dX7_nearest_70 : decode cX7_nearest 70 = .ok (.aload_n 0, 1) := by decide +kernel
theorem dX7_nearest_71 : decode cX7_nearest 71 = .ok (.getfield 7, 3) := by decide +kernel
theorem dX7_nearest_74 : decode cX7_nearest 74 = .ok (.iload 6, 2) := by decide +kernel
theorem dX7_nearest_76 : decode cX7_nearest 76 = .ok (.iconst 1, 1) := by decide +kernel
theorem dX7_nearest_77 : decode cX7_nearest 77 = .ok (.iadd, 1) := by decide +kernel
theorem dX7_nearest_78 : decode cX7_nearest 78 = .ok (.iaload, 1) := by decide +kernel
theorem dX7_nearest_79 : decode cX7_nearest 79 = .ok (.aload_n 0, 1) := by decide +kernel
theorem dX7_nearest_80 : decode cX7_nearest 80 = .ok (.getfield 7, 3) := by decide +kernel
theorem dX7_nearest_83 : decode cX7_nearest 83 = .ok (.iload 6, 2) := by decide +kernel
theorem dX7_nearest_85 : decode cX7_nearest 85 = .ok (.iconst 3, 1) := by decide +kernel
theorem dX7_nearest_86 : decode cX7_nearest 86 = .ok (.iadd, 1) := by decide +kernel
theorem dX7_nearest_87 : decode cX7_nearest 87 = .ok (.iaload, 1) := by decide +kernel
theorem dX7_nearest_88 : decode cX7_nearest 88 = .ok (.invokestatic 271, 3) := by decide +kernel
theorem dX7_nearest_91 : decode cX7_nearest 91 = .ok (.istore 8, 2) := by decide +kernel
theorem dX7_nearest_93 : decode cX7_nearest 93 = .ok (.iload 7, 2) := by decide +kernel
theorem dX7_nearest_95 : decode cX7_nearest 95 = .ok (.iload 7, 2) := by decide +kernel
theorem dX7_nearest_97 : decode cX7_nearest 97 = .ok (.imul, 1) := by decide +kernel
theorem dX7_nearest_98 : decode cX7_nearest 98 = .ok (.iload 8, 2) := by decide +kernel
theorem dX7_nearest_100 : decode cX7_nearest 100 = .ok (.iload 8, 2) := by decide +kernel
theorem dX7_nearest_102 : decode cX7_nearest 102 = .ok (.imul, 1) := by decide +kernel
theorem dX7_nearest_103 : decode cX7_nearest 103 = .ok (.iadd, 1) := by decide +kernel
theorem dX7_nearest_104 : decode cX7_nearest 104 = .ok (.istore 9, 2) := by decide +kernel
theorem dX7_nearest_106 : decode cX7_nearest 106 = .ok (.aload_n 0, 1) := by decide +kernel
theorem dX7_nearest_107 : decode cX7_nearest 107 = .ok (.iload 5, 2) := by decide +kernel
theorem dX7_nearest_109 : decode cX7_nearest 109 = .ok (.invokevirtual 168, 3) := by decide +kernel
theorem dX7_nearest_112 : decode cX7_nearest 112 = .ok (.ifCond .eq 18, 3) := by decide +kernel
theorem dX7_nearest_115 : decode cX7_nearest 115 = .ok (.iload_n 3, 1) := by decide +kernel
theorem dX7_nearest_116 : decode cX7_nearest 116 = .ok (.ifCond .lt 10, 3) := by decide +kernel
theorem dX7_nearest_119 : decode cX7_nearest 119 = .ok (.iload 9, 2) := by decide +kernel
theorem dX7_nearest_121 : decode cX7_nearest 121 = .ok (.iload 4, 2) := by decide +kernel
theorem dX7_nearest_123 : decode cX7_nearest 123 = .ok (.if_icmp .ge 7, 3) := by decide +kernel
theorem dX7_nearest_126 : decode cX7_nearest 126 = .ok (.iconst 1, 1) := by decide +kernel
theorem dX7_nearest_127 : decode cX7_nearest 127 = .ok (.goto 4, 3) := by decide +kernel
theorem dX7_nearest_130 : decode cX7_nearest 130 = .ok (.iconst 0, 1) := by decide +kernel
theorem dX7_nearest_131 : decode cX7_nearest 131 = .ok (.istore 10, 2) := by decide +kernel
theorem dX7_nearest_133 : decode cX7_nearest 133 = .ok (.iload 10, 2) := by decide +kernel
theorem dX7_nearest_135 : decode cX7_nearest 135 = .ok (.ifCond .eq 8, 3) := by decide +kernel
theorem dX7_nearest_138 : decode cX7_nearest 138 = .ok (.iload 5, 2) := by decide +kernel
theorem dX7_nearest_140 : decode cX7_nearest 140 = .ok (.goto 4, 3) := by decide +kernel
theorem dX7_nearest_143 : decode cX7_nearest 143 = .ok (.iload_n 3, 1) := by decide +kernel
theorem dX7_nearest_144 : decode cX7_nearest 144 = .ok (.istore_n 3, 1) := by decide +kernel
theorem dX7_nearest_145 : decode cX7_nearest 145 = .ok (.iload 10, 2) := by decide +kernel
theorem dX7_nearest_147 : decode cX7_nearest 147 = .ok (.ifCond .eq 8, 3) := by decide +kernel
theorem dX7_nearest_150 : decode cX7_nearest 150 = .ok (.iload 9, 2) := by decide +kernel
theorem dX7_nearest_152 : decode cX7_nearest 152 = .ok (.goto 5, 3) := by decide +kernel
theorem dX7_nearest_155 : decode cX7_nearest 155 = .ok (.iload 4, 2) := by decide +kernel
theorem dX7_nearest_157 : decode cX7_nearest 157 = .ok (.istore 4, 2) := by decide +kernel
theorem dX7_nearest_159 : decode cX7_nearest 159 = .ok (.iinc 5 1, 3) := by decide +kernel
theorem dX7_nearest_162 : decode cX7_nearest 162 = .ok (.goto (-130), 3) := by decide +kernel
theorem dX7_nearest_165 : decode cX7_nearest 165 = .ok (.iload_n 3, 1) := by decide +kernel
theorem dX7_nearest_166 : decode cX7_nearest 166 = .ok (.ireturn, 1) := by decide +kernel
theorem dX7_area_0 : decode cX7_area 0 = .ok (.iload_n 1, 1) := by decide +kernel
theorem dX7_area_1 : decode cX7_area 1 = .ok (.iconst 0, 1) := by decide +kernel
theorem dX7_area_2 : decode cX7_area 2 = .ok (.aload_n 0, 1) := by decide +kernel
theorem dX7_area_3 : decode cX7_area 3 = .ok (.iconst 0, 1) := by decide +kernel
theorem dX7_area_4 : decode cX7_area 4 = .ok (.invokevirtual 80, 3) := by decide +kernel
theorem dX7_area_7 : decode cX7_area 7 = .ok (.invokestatic 172, 3) := by decide +kernel
theorem dX7_area_10 : decode cX7_area 10 = .ok (.ifCond .ne 5, 3) := by decide +kernel
theorem dX7_area_13 : decode cX7_area 13 = .ok (.iconst (-1), 1) := by decide +kernel
theorem dX7_area_14 : decode cX7_area 14 = .ok (.ireturn, 1) := by decide +kernel
theorem dX7_area_15 : decode cX7_area 15 = .ok (.iconst 0, 1) := by decide +kernel
theorem dX7_area_16 : decode cX7_area 16 = .ok (.istore_n 2, 1) := by decide +kernel
theorem dX7_area_17 : decode cX7_area 17 = .ok (.iconst 0, 1) := by decide +kernel
theorem dX7_area_18 : decode cX7_area 18 = .ok (.istore_n 3, 1) := by decide +kernel
theorem dX7_area_19 : decode cX7_area 19 = .ok (.iload_n 3, 1) := by decide +kernel
theorem dX7_area_20 : decode cX7_area 20 = .ok (.aload_n 0, 1) := by decide +kernel
theorem dX7_area_21 : decode cX7_area 21 = .ok (.invokevirtual 76, 3) := by decide +kernel
theorem dX7_area_24 : decode cX7_area 24 = .ok (.if_icmp .ge 40, 3) := by decide +kernel
theorem dX7_area_27 : decode cX7_area 27 = .ok (.aload_n 0, 1) := by decide +kernel
theorem dX7_area_28 : decode cX7_area 28 = .ok (.invokevirtual 76, 3) := by decide +kernel
theorem dX7_area_31 : decode cX7_area 31 = .ok (.iconst 1, 1) := by decide +kernel
theorem dX7_area_32 : decode cX7_area 32 = .ok (.if_icmp .le 32, 3) := by decide +kernel
theorem dX7_area_35 : decode cX7_area 35 = .ok (.aload_n 0, 1) := by decide +kernel
theorem dX7_area_36 : decode cX7_area 36 = .ok (.iload_n 3, 1) := by decide +kernel
theorem dX7_area_37 : decode cX7_area 37 = .ok (.invokevirtual 80, 3) := by decide +kernel
theorem dX7_area_40 : decode cX7_area 40 = .ok (.iload_n 1, 1) := by decide +kernel
theorem dX7_area_41 : decode cX7_area 41 = .ok (.if_icmp .ne 17, 3) := by decide +kernel
theorem dX7_area_44 : decode cX7_area 44 = .ok (.aload_n 0, 1) := by decide +kernel
theorem dX7_area_45 : decode cX7_area 45 = .ok (.iload_n 3, 1) := by decide +kernel
theorem dX7_area_46 : decode cX7_area 46 = .ok (.iconst 0, 1) := by decide +kernel
theorem dX7_area_47 : decode cX7_area 47 = .ok (.invokevirtual 110, 3) := by decide +kernel
theorem dX7_area_50 : decode cX7_area 50 = .ok (.iload_n 2, 1) := by decide +kernel
theorem dX7_area_51 : decode cX7_area 51 = .ok (.aload_n 0, 1) := by decide +kernel
theorem dX7_area_52 : decode cX7_area 52 = .ok (.iconst 0, 1) := by decide +kernel
theorem dX7_area_53 : decode cX7_area 53 = .ok (.invokevirtual 101, 3) := by decide +kernel
theorem dX7_area_56 : decode cX7_area 56 = .ok (.iadd, 1) := by decide +kernel
theorem dX7_area_57 : decode cX7_area 57 = .ok (.istore_n 2, 1) := by decide +kernel
theorem dX7_area_58 : decode cX7_area 58 = .ok (.iinc 3 1, 3) := by decide +kernel
theorem dX7_area_61 : decode cX7_area 61 = .ok (.goto (-42), 3) := by decide +kernel
theorem dX7_area_64 : decode cX7_area 64 = .ok (.iload_n 2, 1) := by decide +kernel
theorem dX7_area_65 : decode cX7_area 65 = .ok (.ireturn, 1) := by decide +kernel
theorem dX7_overlap_0 : decode cX7_overlap 0 = .ok (.iload_n 1, 1) := by decide +kernel
theorem dX7_overlap_1 : decode cX7_overlap 1 = .ok (.iconst 0, 1) := by decide +kernel
theorem dX7_overlap_2 : decode cX7_overlap 2 = .ok (.aload_n 0, 1) := by decide +kernel
theorem dX7_overlap_3 : decode cX7_overlap 3 = .ok (.iconst 0, 1) := by decide +kernel
theorem dX7_overlap_4 : decode cX7_overlap 4 = .ok (.invokevirtual 80, 3) := by decide +kernel
theorem dX7_overlap_7 : decode cX7_overlap 7 = .ok (.invokestatic 172, 3) := by decide +kernel
theorem dX7_overlap_10 : decode cX7_overlap 10 = .ok (.ifCond .ne 5, 3) := by decide +kernel
theorem dX7_overlap_13 : decode cX7_overlap 13 = .ok (.iconst (-1), 1) := by decide +kernel
theorem dX7_overlap_14 : decode cX7_overlap 14 = .ok (.ireturn, 1) := by decide +kernel
theorem dX7_overlap_15 : decode cX7_overlap 15 = .ok (.iconst 0, 1) := by decide +kernel
theorem dX7_overlap_16 : decode cX7_overlap 16 = .ok (.istore_n 2, 1) := by decide +kernel
theorem dX7_overlap_17 : decode cX7_overlap 17 = .ok (.iconst 0, 1) := by decide +kernel
theorem dX7_overlap_18 : decode cX7_overlap 18 = .ok (.istore_n 3, 1) := by decide +kernel
theorem dX7_overlap_19 : decode cX7_overlap 19 = .ok (.iload_n 3, 1) := by decide +kernel
theorem dX7_overlap_20 : decode cX7_overlap 20 = .ok (.aload_n 0, 1) := by decide +kernel
theorem dX7_overlap_21 : decode cX7_overlap 21 = .ok (.invokevirtual 76, 3) := by decide +kernel
theorem dX7_overlap_24 : decode cX7_overlap 24 = .ok (.if_icmp .ge 70, 3) := by decide +kernel
theorem dX7_overlap_27 : decode cX7_overlap 27 = .ok (.iload_n 3, 1) := by decide +kernel
theorem dX7_overlap_28 : decode cX7_overlap 28 = .ok (.iconst 1, 1) := by decide +kernel
theorem dX7_overlap_29 : decode cX7_overlap 29 = .ok (.iadd, 1) := by decide +kernel
theorem dX7_overlap_30 : decode cX7_overlap 30 = .ok (.istore 4, 2) := by decide +kernel
theorem dX7_overlap_32 : decode cX7_overlap 32 = .ok (.iload 4, 2) := by decide +kernel
theorem dX7_overlap_34 : decode cX7_overlap 34 = .ok (.aload_n 0, 1) := by decide +kernel
theorem dX7_overlap_35 : decode cX7_overlap 35 = .ok (.invokevirtual 76, 3) := by decide +kernel
theorem dX7_overlap_38 : decode cX7_overlap 38 = .ok (.if_icmp .ge 50, 3) := by decide +kernel
theorem dX7_overlap_41 : decode cX7_overlap 41 = .ok (.aload_n 0, 1) := by decide +kernel
theorem dX7_overlap_42 : decode cX7_overlap 42 = .ok (.iload_n 3, 1) := by decide +kernel
theorem dX7_overlap_43 : decode cX7_overlap 43 = .ok (.invokevirtual 80, 3) := by decide +kernel
theorem dX7_overlap_46 : decode cX7_overlap 46 = .ok (.iload_n 1, 1) := by decide +kernel
theorem dX7_overlap_47 : decode cX7_overlap 47 = .ok (.if_icmp .ne 41, 3) := by decide +kernel
theorem dX7_overlap_50 : decode cX7_overlap 50 = .ok (.aload_n 0, 1) := by decide +kernel
theorem dX7_overlap_51 : decode cX7_overlap 51 = .ok (.iload 4, 2) := by decide +kernel
theorem dX7_overlap_53 : decode cX7_overlap 53 = .ok (.invokevirtual 80, 3) := by decide +kernel
theorem dX7_overlap_56 : decode cX7_overlap 56 = .ok (.iload_n 1, 1) := by decide +kernel
theorem dX7_overlap_57 : decode cX7_overlap 57 = .ok (.if_icmp .ne 25, 3) := by decide +kernel
theorem dX7_overlap_60 : decode cX7_overlap 60 = .ok (.aload_n 0, 1) := by decide +kernel
theorem dX7_overlap_61 : decode cX7_overlap 61 = .ok (.iload_n 3, 1) := by decide +kernel
theorem dX7_overlap_62 : decode cX7_overlap 62 = .ok (.iconst 0, 1) := by decide +kernel
theorem dX7_overlap_63 : decode cX7_overlap 63 = .ok (.invokevirtual 110, 3) := by decide +kernel
theorem dX7_overlap_66 : decode cX7_overlap 66 = .ok (.aload_n 0, 1) := by decide +kernel
theorem dX7_overlap_67 : decode cX7_overlap 67 = .ok (.iload 4, 2) := by decide +kernel
theorem dX7_overlap_69 : decode cX7_overlap 69 = .ok (.iconst 1, 1) := by decide +kernel
theorem dX7_overlap_70 : decode cX7_overlap 70 = .ok (.invokevirtual 110, 3) := by decide +kernel
theorem dX7_overlap_73 : decode cX7_overlap 73 = .ok (.iload_n 2, 1) := by decide +kernel
theorem dX7_overlap_74 : decode cX7_overlap 74 = .ok (.aload_n 0, 1) := by decide +kernel
theorem dX7_overlap_75 : decode cX7_overlap 75 = .ok (.iconst 0, 1) := by decide +kernel
theorem dX7_overlap_76 : decode cX7_overlap 76 = .ok (.iconst 1, 1) := by decide +kernel
theorem dX7_overlap_77 : decode cX7_overlap 77 = .ok (.invokevirtual 261, 3) := by decide +kernel
theorem dX7_overlap_80 : decode cX7_overlap 80 = .ok (.iadd, 1) := by decide +kernel
theorem dX7_overlap_81 : decode cX7_overlap 81 = .ok (.istore_n 2, 1) := by decide +kernel
theorem dX7_overlap_82 : decode cX7_overlap 82 = .ok (.iinc 4 1, 3) := by decide +kernel
theorem dX7_overlap_85 : decode cX7_overlap 85 = .ok (.goto (-53), 3) := by decide +kernel
theorem dX7_overlap_88 : decode cX7_overlap 88 = .ok (.iinc 3 1, 3) := by decide +kernel
theorem dX7_overlap_91 : decode cX7_overlap 91 = .ok (.goto (-72), 3) := by decide +kernel
theorem dX7_overlap_94 : decode cX7_overlap 94 = .ok (.iload_n 2, 1) := by decide +kernel
theorem dX7_overlap_95 : decode cX7_overlap 95 = .ok (.ireturn, 1) := by decide +kernel
theorem dX7_fill_0 : decode cX7_fill 0 = .ok (.aload_n 0, 1) := by decide +kernel
theorem dX7_fill_1 : decode cX7_fill 1 = .ok (.invokevirtual 76, 3) := by decide +kernel
theorem dX7_fill_4 : decode cX7_fill 4 = .ok (.iconst 1, 1) := by decide +kernel
theorem dX7_fill_5 : decode cX7_fill 5 = .ok (.isub, 1) := by decide +kernel
theorem dX7_fill_6 : decode cX7_fill 6 = .ok (.i2f, 1) := by decide +kernel
theorem dX7_fill_7 : decode cX7_fill 7 = .ok (.fstore_n 1, 1) := by decide +kernel
theorem dX7_fill_8 : decode cX7_fill 8 = .ok (.aload_n 0, 1) := by decide +kernel
theorem dX7_fill_9 : decode cX7_fill 9 = .ok (.invokevirtual 222, 3) := by decide +kernel
theorem dX7_fill_12 : decode cX7_fill 12 = .ok (.aload_n 0, 1) := by decide +kernel
theorem dX7_fill_13 : decode cX7_fill 13 = .ok (.getfield 7, 3) := by decide +kernel
theorem dX7_fill_16 : decode cX7_fill 16 = .ok (.iconst 0, 1) := by decide +kernel
theorem dX7_fill_17 : decode cX7_fill 17 = .ok (.iaload, 1) := by decide +kernel
theorem dX7_fill_18 : decode cX7_fill 18 = .ok (.imul, 1) := by decide +kernel
theorem dX7_fill_19 : decode cX7_fill 19 = .ok (.i2f, 1) := by decide +kernel
theorem dX7_fill_20 : decode cX7_fill 20 = .ok (.fstore_n 2, 1) := by decide +kernel
theorem dX7_fill_21 : decode cX7_fill 21 = .ok (.fload_n 1, 1) := by decide +kernel
theorem dX7_fill_22 : decode cX7_fill 22 = .ok (.fload_n 2, 1) := by decide +kernel
theorem dX7_fill_23 : decode cX7_fill 23 = .ok (.fdiv, 1) := by decide +kernel
theorem dX7_fill_24 : decode cX7_fill 24 = .ok (.freturn, 1) := by decide +kernel
theorem dJ9_abs_0f7a4_0 : decode cJ9_abs_0f7a4 0 = .ok (.iload_n 0, 1) := by decide +kernel
theorem dJ9_abs_0f7a4_1 : decode cJ9_abs_0f7a4 1 = .ok (.ifCond .ge 8, 3) := by decide +kernel
theorem dJ9_abs_0f7a4_4 : decode cJ9_abs_0f7a4 4 = .ok (.iload_n 0, 1) := by decide +kernel
theorem dJ9_abs_0f7a4_5 : decode cJ9_abs_0f7a4 5 = .ok (.ineg, 1) := by decide +kernel
theorem dJ9_abs_0f7a4_6 : decode cJ9_abs_0f7a4 6 = .ok (.goto 4, 3) := by decide +kernel
theorem dJ9_abs_0f7a4_9 : decode cJ9_abs_0f7a4 9 = .ok (.iload_n 0, 1) := by decide +kernel
theorem dJ9_abs_0f7a4_10 : decode cJ9_abs_0f7a4 10 = .ok (.ireturn, 1) := by decide +kernel
theorem dJ9_max_7cf53_0 : decode cJ9_max_7cf53 0 = .ok (.iload_n 0, 1) := by decide +kernel
theorem dJ9_max_7cf53_1 : decode cJ9_max_7cf53 1 = .ok (.iload_n 1, 1) := by decide +kernel
theorem dJ9_max_7cf53_2 : decode cJ9_max_7cf53 2 = .ok (.if_icmp .lt 7, 3) := by decide +kernel
theorem dJ9_max_7cf53_5 : decode cJ9_max_7cf53 5 = .ok (.iload_n 0, 1) := by decide +kernel
theorem dJ9_max_7cf53_6 : decode cJ9_max_7cf53 6 = .ok (.goto 4, 3) := by decide +kernel
theorem dJ9_max_7cf53_9 : decode cJ9_max_7cf53 9 = .ok (.iload_n 1, 1) := by decide +kernel
theorem dJ9_max_7cf53_10 : decode cJ9_max_7cf53 10 = .ok (.ireturn, 1) := by decide +kernel
theorem dJ9_min_7cf53_0 : decode cJ9_min_7cf53 0 = .ok (.iload_n 0, 1) := by decide +kernel
theorem dJ9_min_7cf53_1 : decode cJ9_min_7cf53 1 = .ok (.iload_n 1, 1) := by decide +kernel
theorem dJ9_min_7cf53_2 : decode cJ9_min_7cf53 2 = .ok (.if_icmp .gt 7, 3) := by decide +kernel
theorem dJ9_min_7cf53_5 : decode cJ9_min_7cf53 5 = .ok (.iload_n 0, 1) := by decide +kernel
theorem dJ9_min_7cf53_6 : decode cJ9_min_7cf53 6 = .ok (.goto 4, 3) := by decide +kernel
theorem dJ9_min_7cf53_9 : decode cJ9_min_7cf53 9 = .ok (.iload_n 1, 1) := by decide +kernel
theorem dJ9_min_7cf53_10 : decode cJ9_min_7cf53 10 = .ok (.ireturn, 1) := by decide +kernel
theorem dJ7_fill_53178_0 : decode cJ7_fill_53178 0 = .ok (.iconst 0, 1) := by decide +kernel
theorem dJ7_fill_53178_1 : decode cJ7_fill_53178 1 = .ok (.istore_n 2, 1) := by decide +kernel
theorem dJ7_fill_53178_2 : decode cJ7_fill_53178 2 = .ok (.aload_n 0, 1) := by decide +kernel
theorem dJ7_fill_53178_3 : decode cJ7_fill_53178 3 = .ok (.arraylength, 1) := by decide +kernel
theorem dJ7_fill_53178_4 : decode cJ7_fill_53178 4 = .ok (.istore_n 3, 1) := by decide +kernel
theorem dJ7_fill_53178_5 : decode cJ7_fill_53178 5 = .ok (.iload_n 2, 1) := by decide +kernel
theorem dJ7_fill_53178_6 : decode cJ7_fill_53178 6 = .ok (.iload_n 3, 1) := by decide +kernel
theorem dJ7_fill_53178_7 : decode cJ7_fill_53178 7 = .ok (.if_icmp .ge 13, 3) := by decide +kernel
theorem dJ7_fill_53178_10 : decode cJ7_fill_53178 10 = .ok (.aload_n 0, 1) := by decide +kernel
theorem dJ7_fill_53178_11 : decode cJ7_fill_53178 11 = .ok (.iload_n 2, 1) := by decide +kernel
theorem dJ7_fill_53178_12 : decode cJ7_fill_53178 12 = .ok (.iload_n 1, 1) := by decide +kernel
theorem dJ7_fill_53178_13 : decode cJ7_fill_53178 13 = .ok (.iastore, 1) := by decide +kernel
theorem dJ7_fill_53178_14 : decode cJ7_fill_53178 14 = .ok (.iinc 2 1, 3) := by decide +kernel
theorem dJ7_fill_53178_17 : decode cJ7_fill_53178 17 = .ok (.goto (-12), 3) := by decide +kernel
theorem dJ7_fill_53178_20 : decode cJ7_fill_53178 20 = .ok (.return_, 1) := by decide +kernel
theorem dL_law_0 : decode cL_law 0 = .ok (.new 7, 3) := by decide +kernel
theorem dL_law_3 : decode cL_law 3 = .ok (.dup, 1) := by decide +kernel
theorem dL_law_4 : decode cL_law 4 = .ok (.invokespecial 9, 3) := by decide +kernel
theorem dL_law_7 : decode cL_law 7 = .ok (.astore_n 1, 1) := by decide +kernel
theorem dL_law_8 : decode cL_law 8 = .ok (.new 10, 3) := by decide +kernel
theorem dL_law_11 : decode cL_law 11 = .ok (.dup, 1) := by decide +kernel
theorem dL_law_12 : decode cL_law 12 = .ok (.invokespecial 12, 3) := by decide +kernel
theorem dL_law_15 : decode cL_law 15 = .ok (.astore_n 2, 1) := by decide +kernel
theorem dL_law_16 : decode cL_law 16 = .ok (.iconst 0, 1) := by decide +kernel
theorem dL_law_17 : decode cL_law 17 = .ok (.istore_n 3, 1) := by decide +kernel
theorem dL_law_18 : decode cL_law 18 = .ok (.iload_n 3, 1) := by decide +kernel
theorem dL_law_19 : decode cL_law 19 = .ok (.aload_n 0, 1) := by decide +kernel
theorem dL_law_20 : decode cL_law 20 = .ok (.arraylength, 1) := by decide +kernel
theorem dL_law_21 : decode cL_law 21 = .ok (.iconst 5, 1) := by decide +kernel
theorem dL_law_22 : decode cL_law 22 = .ok (.isub, 1) := by decide +kernel
theorem dL_law_23 : decode cL_law 23 = .ok (.if_icmp .gt 911, 3) := by decide +kernel
theorem dL_law_26 : decode cL_law 26 = .ok (.aload_n 0, 1) := by decide +kernel
theorem dL_law_27 : decode cL_law 27 = .ok (.iload_n 3, 1) := by decide +kernel
theorem dL_law_28 : decode cL_law 28 = .ok (.iaload, 1) := by decide +kernel
theorem dL_law_29 : decode cL_law 29 = .ok (.bipush 31, 2) := by decide +kernel
theorem dL_law_31 : decode cL_law 31 = .ok (.iand, 1) := by decide +kernel
theorem dL_law_32 : decode cL_law 32 = .ok (.tableswitch 896 0 29 #[136, 189, 212, 225, 258, 281, 294, 307, 320, 333, 346, 359, 372, 405, 418, 431, 454, 477, 510, 543, 566, 589, 602, 615, 668, 721, 774, 807, 830, 853], 136) := by decide +kernel
theorem dL_law_168 : decode cL_law 168 = .ok (.aload_n 1, 1) := by decide +kernel
theorem dL_law_169 : decode cL_law 169 = .ok (.aload_n 0, 1) := by decide +kernel
theorem dL_law_170 : decode cL_law 170 = .ok (.iload_n 3, 1) := by decide +kernel
theorem dL_law_171 : decode cL_law 171 = .ok (.iconst 1, 1) := by decide +kernel
theorem dL_law_172 : decode cL_law 172 = .ok (.iadd, 1) := by decide +kernel
theorem dL_law_173 : decode cL_law 173 = .ok (.iaload, 1) := by decide +kernel
theorem dL_law_174 : decode cL_law 174 = .ok (.aload_n 0, 1) := by decide +kernel
theorem dL_law_175 : decode cL_law 175 = .ok (.iload_n 3, 1) := by decide +kernel
theorem dL_law_176 : decode cL_law 176 = .ok (.iconst 2, 1) := by decide +kernel
theorem dL_law_177 : decode cL_law 177 = .ok (.iadd, 1) := by decide +kernel
theorem dL_law_178 : decode cL_law 178 = .ok (.iaload, 1) := by decide +kernel
theorem dL_law_179 : decode cL_law 179 = .ok (.aload_n 0, 1) := by decide +kernel
theorem dL_law_180 : decode cL_law 180 = .ok (.iload_n 3, 1) := by decide +kernel
theorem dL_law_181 : decode cL_law 181 = .ok (.iconst 3, 1) := by decide +kernel
theorem dL_law_182 : decode cL_law 182 = .ok (.iadd, 1) := by decide +kernel
theorem dL_law_183 : decode cL_law 183 = .ok (.iaload, 1) := by decide +kernel
theorem dL_law_184 : decode cL_law 184 = .ok (.aload_n 0, 1) := by decide +kernel
theorem dL_law_185 : decode cL_law 185 = .ok (.iload_n 3, 1) := by decide +kernel
theorem dL_law_186 : decode cL_law 186 = .ok (.iconst 4, 1) := by decide +kernel
theorem dL_law_187 : decode cL_law 187 = .ok (.iadd, 1) := by decide +kernel
theorem dL_law_188 : decode cL_law 188 = .ok (.iaload, 1) := by decide +kernel
theorem dL_law_189 : decode cL_law 189 = .ok (.invokevirtual 13, 3) := by decide +kernel
theorem dL_law_192 : decode cL_law 192 = .ok (.aload_n 2, 1) := by decide +kernel
theorem dL_law_193 : decode cL_law 193 = .ok (.aload_n 0, 1) := by decide +kernel
theorem dL_law_194 : decode cL_law 194 = .ok (.iload_n 3, 1) := by decide +kernel
theorem dL_law_195 : decode cL_law 195 = .ok (.iconst 1, 1) := by decide +kernel
theorem dL_law_196 : decode cL_law 196 = .ok (.iadd, 1) := by decide +kernel
theorem dL_law_197 : decode cL_law 197 = .ok (.iaload, 1) := by decide +kernel
theorem dL_law_198 : decode cL_law 198 = .ok (.aload_n 0, 1) := by decide +kernel
theorem dL_law_199 : decode cL_law 199 = .ok (.iload_n 3, 1) := by decide +kernel
theorem dL_law_200 : decode cL_law 200 = .ok (.iconst 2, 1) := by decide +kernel
theorem dL_law_201 : decode cL_law 201 = .ok (.iadd, 1) := by decide +kernel
theorem dL_law_202 : decode cL_law 202 = .ok (.iaload, 1) := by decide +kernel
theorem dL_law_203 : decode cL_law 203 = .ok (.aload_n 0, 1) := by decide +kernel
theorem dL_law_204 : decode cL_law 204 = .ok (.iload_n 3, 1) := by decide +kernel
theorem dL_law_205 : decode cL_law 205 = .ok (.iconst 3, 1) := by decide +kernel
theorem dL_law_206 : decode cL_law 206 = .ok (.iadd, 1) := by decide +kernel
theorem dL_law_207 : decode cL_law 207 = .ok (.iaload, 1) := by decide +kernel
theorem dL_law_208 : decode cL_law 208 = .ok (.aload_n 0, 1) := by decide +kernel
theorem dL_law_209 : decode cL_law 209 = .ok (.iload_n 3, 1) := by decide +kernel
theorem dL_law_210 : decode cL_law 210 = .ok (.iconst 4, 1) := by decide +kernel
theorem dL_law_211 : decode cL_law 211 = .ok (.iadd, 1) := by decide +kernel
theorem dL_law_212 : decode cL_law 212 = .ok (.iaload, 1) := by decide +kernel
theorem dL_law_213 : decode cL_law 213 = .ok (.invokevirtual 17, 3) := by decide +kernel
theorem dL_law_216 : decode cL_law 216 = .ok (.if_icmp .eq 712, 3) := by decide +kernel
theorem dL_law_219 : decode cL_law 219 = .ok (.iconst 0, 1) := by decide +kernel
theorem dL_law_220 : decode cL_law 220 = .ok (.ireturn, 1) := by decide +kernel
theorem dL_law_221 : decode cL_law 221 = .ok (.aload_n 1, 1) := by decide +kernel
theorem dL_law_222 : decode cL_law 222 = .ok (.aload_n 0, 1) := by decide +kernel
theorem dL_law_223 : decode cL_law 223 = .ok (.iload_n 3, 1) := by decide +kernel
theorem dL_law_224 : decode cL_law 224 = .ok (.iconst 1, 1) := by decide +kernel
theorem dL_law_225 : decode cL_law 225 = .ok (.iadd, 1) := by decide +kernel
theorem dL_law_226 : decode cL_law 226 = .ok (.iaload, 1) := by decide +kernel
theorem dL_law_227 : decode cL_law 227 = .ok (.invokevirtual 18, 3) := by decide +kernel
theorem dL_law_230 : decode cL_law 230 = .ok (.aload_n 2, 1) := by decide +kernel
theorem dL_law_231 : decode cL_law 231 = .ok (.aload_n 0, 1) := by decide +kernel
theorem dL_law_232 : decode cL_law 232 = .ok (.iload_n 3, 1) := by decide +kernel
theorem dL_law_233 : decode cL_law 233 = .ok (.iconst 1, 1) := by decide +kernel
theorem dL_law_234 : decode cL_law 234 = .ok (.iadd, 1) := by decide +kernel
theorem dL_law_235 : decode cL_law 235 = .ok (.iaload, 1) := by decide +kernel
theorem dL_law_236 : decode cL_law 236 = .ok (.invokevirtual 22, 3) := by decide +kernel
theorem dL_law_239 : decode cL_law 239 = .ok (.if_icmp .eq 689, 3) := by decide +kernel
theorem dL_law_242 : decode cL_law 242 = .ok (.iconst 0, 1) := by decide +kernel
theorem dL_law_243 : decode cL_law 243 = .ok (.ireturn, 1) := by decide +kernel
theorem dL_law_244 : decode cL_law 244 = .ok (.aload_n 1, 1) := by decide +kernel
theorem dL_law_245 : decode cL_law 245 = .ok (.invokevirtual 23, 3) := by decide +kernel
theorem dL_law_248 : decode cL_law 248 = .ok (.aload_n 2, 1) := by decide +kernel
theorem dL_law_249 : decode cL_law 249 = .ok (.invokevirtual 27, 3) := by decide +kernel
theorem dL_law_252 : decode cL_law 252 = .ok (.if_icmp .eq 676, 3) := by decide +kernel
theorem dL_law_255 : decode cL_law 255 = .ok (.iconst 0, 1) := by decide +kernel
theorem dL_law_256 : decode cL_law 256 = .ok (.ireturn, 1) := by decide +kernel
theorem dL_law_257 : decode cL_law 257 = .ok (.aload_n 1, 1) := by decide +kernel
theorem dL_law_258 : decode cL_law 258 = .ok (.aload_n 0, 1) := by decide +kernel
theorem dL_law_259 : decode cL_law 259 = .ok (.iload_n 3, 1) := by decide +kernel
theorem dL_law_260 : decode cL_law 260 = .ok (.iconst 1, 1) := by decide +kernel
theorem dL_law_261 : decode cL_law 261 = .ok (.iadd, 1) := by decide +kernel
theorem dL_law_262 : decode cL_law 262 = .ok (.iaload, 1) := by decide +kernel
theorem dL_law_263 : decode cL_law 263 = .ok (.aload_n 0, 1) := by decide +kernel
theorem dL_law_264 : decode cL_law 264 = .ok (.iload_n 3, 1) := by decide +kernel
theorem dL_law_265 : decode cL_law 265 = .ok (.iconst 2, 1) := by decide +kernel
theorem dL_law_266 : decode cL_law 266 = .ok (.iadd, 1) := by decide +kernel
theorem dL_law_267 : decode cL_law 267 = .ok (.iaload, 1) := by decide +kernel
theorem dL_law_268 : decode cL_law 268 = .ok (.invokevirtual 28, 3) := by decide +kernel
theorem dL_law_271 : decode cL_law 271 = .ok (.aload_n 2, 1) := by decide +kernel
theorem dL_law_272 : decode cL_law 272 = .ok (.aload_n 0, 1) := by decide +kernel
theorem dL_law_273 : decode cL_law 273 = .ok (.iload_n 3, 1) := by decide +kernel
theorem dL_law_274 : decode cL_law 274 = .ok (.iconst 1, 1) := by decide +kernel
theorem dL_law_275 : decode cL_law 275 = .ok (.iadd, 1) := by decide +kernel
theorem dL_law_276 : decode cL_law 276 = .ok (.iaload, 1) := by decide +kernel
theorem dL_law_277 : decode cL_law 277 = .ok (.aload_n 0, 1) := by decide +kernel
theorem dL_law_278 : decode cL_law 278 = .ok (.iload_n 3, 1) := by decide +kernel
theorem dL_law_279 : decode cL_law 279 = .ok (.iconst 2, 1) := by decide +kernel
theorem dL_law_280 : decode cL_law 280 = .ok (.iadd, 1) := by decide +kernel
theorem dL_law_281 : decode cL_law 281 = .ok (.iaload, 1) := by decide +kernel
theorem dL_law_282 : decode cL_law 282 = .ok (.invokevirtual 32, 3) := by decide +kernel
theorem dL_law_285 : decode cL_law 285 = .ok (.if_icmp .eq 643, 3) := by decide +kernel
theorem dL_law_288 : decode cL_law 288 = .ok (.iconst 0, 1) := by decide +kernel
theorem dL_law_289 : decode cL_law 289 = .ok (.ireturn, 1) := by decide +kernel
theorem dL_law_290 : decode cL_law 290 = .ok (.aload_n 1, 1) := by decide +kernel
theorem dL_law_291 : decode cL_law 291 = .ok (.aload_n 0, 1) := by decide +kernel
theorem dL_law_292 : decode cL_law 292 = .ok (.iload_n 3, 1) := by decide +kernel
theorem dL_law_293 : decode cL_law 293 = .ok (.iconst 1, 1) := by decide +kernel
theorem dL_law_294 : decode cL_law 294 = .ok (.iadd, 1) := by decide +kernel
theorem dL_law_295 : decode cL_law 295 = .ok (.iaload, 1) := by decide +kernel
theorem dL_law_296 : decode cL_law 296 = .ok (.invokevirtual 33, 3) := by decide +kernel
theorem dL_law_299 : decode cL_law 299 = .ok (.aload_n 2, 1) := by decide +kernel
theorem dL_law_300 : decode cL_law 300 = .ok (.aload_n 0, 1) := by decide +kernel
theorem dL_law_301 : decode cL_law 301 = .ok (.iload_n 3, 1) := by decide +kernel
theorem dL_law_302 : decode cL_law 302 = .ok (.iconst 1, 1) := by decide +kernel
theorem dL_law_303 : decode cL_law 303 = .ok (.iadd, 1) := by decide +kernel
theorem dL_law_304 : decode cL_law 304 = .ok (.iaload, 1) := by decide +kernel
theorem dL_law_305 : decode cL_law 305 = .ok (.invokevirtual 36, 3) := by decide +kernel
theorem dL_law_308 : decode cL_law 308 = .ok (.if_icmp .eq 620, 3) := by decide +kernel
theorem dL_law_311 : decode cL_law 311 = .ok (.iconst 0, 1) := by decide +kernel
theorem dL_law_312 : decode cL_law 312 = .ok (.ireturn, 1) := by decide +kernel
theorem dL_law_313 : decode cL_law 313 = .ok (.aload_n 1, 1) := by decide +kernel
theorem dL_law_314 : decode cL_law 314 = .ok (.invokevirtual 37, 3) := by decide +kernel
theorem dL_law_317 : decode cL_law 317 = .ok (.aload_n 2, 1) := by decide +kernel
theorem dL_law_318 : decode cL_law 318 = .ok (.invokevirtual 40, 3) := by decide +kernel
theorem dL_law_321 : decode cL_law 321 = .ok (.if_icmp .eq 607, 3) := by decide +kernel
theorem dL_law_324 : decode cL_law 324 = .ok (.iconst 0, 1) := by decide +kernel
theorem dL_law_325 : decode cL_law 325 = .ok (.ireturn, 1) := by decide +kernel
theorem dL_law_326 : decode cL_law 326 = .ok (.aload_n 1, 1) := by decide +kernel
theorem dL_law_327 : decode cL_law 327 = .ok (.invokevirtual 41, 3) := by decide +kernel
theorem dL_law_330 : decode cL_law 330 = .ok (.aload_n 2, 1) := by decide +kernel
theorem dL_law_331 : decode cL_law 331 = .ok (.invokevirtual 44, 3) := by decide +kernel
theorem dL_law_334 : decode cL_law 334 = .ok (.if_icmp .eq 594, 3) := by decide +kernel
theorem dL_law_337 : decode cL_law 337 = .ok (.iconst 0, 1) := by decide +kernel
theorem dL_law_338 : decode cL_law 338 = .ok (.ireturn, 1) := by decide +kernel
theorem dL_law_339 : decode cL_law 339 = .ok (.aload_n 1, 1) := by decide +kernel
theorem dL_law_340 : decode cL_law 340 = .ok (.invokevirtual 45, 3) := by decide +kernel
theorem dL_law_343 : decode cL_law 343 = .ok (.aload_n 2, 1) := by decide +kernel
theorem dL_law_344 : decode cL_law 344 = .ok (.invokevirtual 48, 3) := by decide +kernel
theorem dL_law_347 : decode cL_law 347 = .ok (.if_icmp .eq 581, 3) := by decide +kernel
theorem dL_law_350 : decode cL_law 350 = .ok (.iconst 0, 1) := by decide +kernel
theorem dL_law_351 : decode cL_law 351 = .ok (.ireturn, 1) := by decide +kernel
theorem dL_law_352 : decode cL_law 352 = .ok (.aload_n 1, 1) := by decide +kernel
theorem dL_law_353 : decode cL_law 353 = .ok (.invokevirtual 49, 3) := by decide +kernel
theorem dL_law_356 : decode cL_law 356 = .ok (.aload_n 2, 1) := by decide +kernel
theorem dL_law_357 : decode cL_law 357 = .ok (.invokevirtual 52, 3) := by decide +kernel
theorem dL_law_360 : decode cL_law 360 = .ok (.if_icmp .eq 568, 3) := by decide +kernel
theorem dL_law_363 : decode cL_law 363 = .ok (.iconst 0, 1) := by decide +kernel
theorem dL_law_364 : decode cL_law 364 = .ok (.ireturn, 1) := by decide +kernel
theorem dL_law_365 : decode cL_law 365 = .ok (.aload_n 1, 1) := by decide +kernel
theorem dL_law_366 : decode cL_law 366 = .ok (.invokevirtual 53, 3) := by decide +kernel
theorem dL_law_369 : decode cL_law 369 = .ok (.aload_n 2, 1) := by decide +kernel
theorem dL_law_370 : decode cL_law 370 = .ok (.invokevirtual 56, 3) := by decide +kernel
theorem dL_law_373 : decode cL_law 373 = .ok (.if_icmp .eq 555, 3) := by decide +kernel
theorem dL_law_376 : decode cL_law 376 = .ok (.iconst 0, 1) := by decide +kernel
theorem dL_law_377 : decode cL_law 377 = .ok (.ireturn, 1) := by decide +kernel
theorem dL_law_378 : decode cL_law 378 = .ok (.aload_n 1, 1) := by decide +kernel
theorem dL_law_379 : decode cL_law 379 = .ok (.invokevirtual 57, 3) := by decide +kernel
theorem dL_law_382 : decode cL_law 382 = .ok (.aload_n 2, 1) := by decide +kernel
theorem dL_law_383 : decode cL_law 383 = .ok (.invokevirtual 60, 3) := by decide +kernel
theorem dL_law_386 : decode cL_law 386 = .ok (.if_icmp .eq 542, 3) := by decide +kernel
theorem dL_law_389 : decode cL_law 389 = .ok (.iconst 0, 1) := by decide +kernel
theorem dL_law_390 : decode cL_law 390 = .ok (.ireturn, 1) := by decide +kernel
theorem dL_law_391 : decode cL_law 391 = .ok (.aload_n 1, 1) := by decide +kernel
theorem dL_law_392 : decode cL_law 392 = .ok (.invokevirtual 61, 3) := by decide +kernel
theorem dL_law_395 : decode cL_law 395 = .ok (.aload_n 2, 1) := by decide +kernel
theorem dL_law_396 : decode cL_law 396 = .ok (.invokevirtual 64, 3) := by decide +kernel
theorem dL_law_399 : decode cL_law 399 = .ok (.if_icmp .eq 529, 3) := by decide +kernel
theorem dL_law_402 : decode cL_law 402 = .ok (.iconst 0, 1) := by decide +kernel
theorem dL_law_403 : decode cL_law 403 = .ok (.ireturn, 1) := by decide +kernel
theorem dL_law_404 : decode cL_law 404 = .ok (.aload_n 1, 1) := by decide +kernel
theorem dL_law_405 : decode cL_law 405 = .ok (.aload_n 0, 1) := by decide +kernel
theorem dL_law_406 : decode cL_law 406 = .ok (.iload_n 3, 1) := by decide +kernel
theorem dL_law_407 : decode cL_law 407 = .ok (.iconst 1, 1) := by decide +kernel
theorem dL_law_408 : decode cL_law 408 = .ok (.iadd, 1) := by decide +kernel
theorem dL_law_409 : decode cL_law 409 = .ok (.iaload, 1) := by decide +kernel
theorem dL_law_410 : decode cL_law 410 = .ok (.aload_n 0, 1) := by decide +kernel
theorem dL_law_411 : decode cL_law 411 = .ok (.iload_n 3, 1) := by decide +kernel
theorem dL_law_412 : decode cL_law 412 = .ok (.iconst 2, 1) := by decide +kernel
theorem dL_law_413 : decode cL_law 413 = .ok (.iadd, 1) := by decide +kernel
theorem dL_law_414 : decode cL_law 414 = .ok (.iaload, 1) := by decide +kernel
theorem dL_law_415 : decode cL_law 415 = .ok (.invokevirtual 65, 3) := by decide +kernel
theorem dL_law_418 : decode cL_law 418 = .ok (.aload_n 2, 1) := by decide +kernel
theorem dL_law_419 : decode cL_law 419 = .ok (.aload_n 0, 1) := by decide +kernel
theorem dL_law_420 : decode cL_law 420 = .ok (.iload_n 3, 1) := by decide +kernel
theorem dL_law_421 : decode cL_law 421 = .ok (.iconst 1, 1) := by decide +kernel
theorem dL_law_422 : decode cL_law 422 = .ok (.iadd, 1) := by decide +kernel
theorem dL_law_423 : decode cL_law 423 = .ok (.iaload, 1) := by decide +kernel
theorem dL_law_424 : decode cL_law 424 = .ok (.aload_n 0, 1) := by decide +kernel
theorem dL_law_425 : decode cL_law 425 = .ok (.iload_n 3, 1) := by decide +kernel
theorem dL_law_426 : decode cL_law 426 = .ok (.iconst 2, 1) := by decide +kernel
theorem dL_law_427 : decode cL_law 427 = .ok (.iadd, 1) := by decide +kernel
theorem dL_law_428 : decode cL_law 428 = .ok (.iaload, 1) := by decide +kernel
theorem dL_law_429 : decode cL_law 429 = .ok (.invokevirtual 68, 3) := by decide +kernel
theorem dL_law_432 : decode cL_law 432 = .ok (.if_icmp .eq 496, 3) := by decide +kernel
theorem dL_law_435 : decode cL_law 435 = .ok (.iconst 0, 1) := by decide +kernel
theorem dL_law_436 : decode cL_law 436 = .ok (.ireturn, 1) := by decide +kernel
theorem dL_law_437 : decode cL_law 437 = .ok (.aload_n 1, 1) := by decide +kernel
theorem dL_law_438 : decode cL_law 438 = .ok (.invokevirtual 69, 3) := by decide +kernel
theorem dL_law_441 : decode cL_law 441 = .ok (.aload_n 2, 1) := by decide +kernel
theorem dL_law_442 : decode cL_law 442 = .ok (.invokevirtual 72, 3) := by decide +kernel
theorem dL_law_445 : decode cL_law 445 = .ok (.if_icmp .eq 483, 3) := by decide +kernel
theorem dL_law_448 : decode cL_law 448 = .ok (.iconst 0, 1) := by decide +kernel
theorem dL_law_449 : decode cL_law 449 = .ok (.ireturn, 1) := by decide +kernel
theorem dL_law_450 : decode cL_law 450 = .ok (.aload_n 1, 1) := by decide +kernel
theorem dL_law_451 : decode cL_law 451 = .ok (.invokevirtual 73, 3) := by decide +kernel
theorem dL_law_454 : decode cL_law 454 = .ok (.aload_n 2, 1) := by decide +kernel
theorem dL_law_455 : decode cL_law 455 = .ok (.invokevirtual 76, 3) := by decide +kernel
theorem dL_law_458 : decode cL_law 458 = .ok (.if_icmp .eq 470, 3) := by decide +kernel
theorem dL_law_461 : decode cL_law 461 = .ok (.iconst 0, 1) := by decide +kernel
theorem dL_law_462 : decode cL_law 462 = .ok (.ireturn, 1) := by decide +kernel
theorem dL_law_463 : decode cL_law 463 = .ok (.aload_n 1, 1) := by decide +kernel
theorem dL_law_464 : decode cL_law 464 = .ok (.aload_n 0, 1) := by decide +kernel
theorem dL_law_465 : decode cL_law 465 = .ok (.iload_n 3, 1) := by decide +kernel
theorem dL_law_466 : decode cL_law 466 = .ok (.iconst 1, 1) := by decide +kernel
theorem dL_law_467 : decode cL_law 467 = .ok (.iadd, 1) := by decide +kernel
theorem dL_law_468 : decode cL_law 468 = .ok (.iaload, 1) := by decide +kernel
theorem dL_law_469 : decode cL_law 469 = .ok (.invokevirtual 77, 3) := by decide +kernel
theorem dL_law_472 : decode cL_law 472 = .ok (.aload_n 2, 1) := by decide +kernel
theorem dL_law_473 : decode cL_law 473 = .ok (.aload_n 0, 1) := by decide +kernel
theorem dL_law_474 : decode cL_law 474 = .ok (.iload_n 3, 1) := by decide +kernel
theorem dL_law_475 : decode cL_law 475 = .ok (.iconst 1, 1) := by decide +kernel
theorem dL_law_476 : decode cL_law 476 = .ok (.iadd, 1) := by decide +kernel
theorem dL_law_477 : decode cL_law 477 = .ok (.iaload, 1) := by decide +kernel
theorem dL_law_478 : decode cL_law 478 = .ok (.invokevirtual 80, 3) := by decide +kernel
theorem dL_law_481 : decode cL_law 481 = .ok (.if_icmp .eq 447, 3) := by decide +kernel
theorem dL_law_484 : decode cL_law 484 = .ok (.iconst 0, 1) := by decide +kernel
theorem dL_law_485 : decode cL_law 485 = .ok (.ireturn, 1) := by decide +kernel
theorem dL_law_486 : decode cL_law 486 = .ok (.aload_n 1, 1) := by decide +kernel
theorem dL_law_487 : decode cL_law 487 = .ok (.aload_n 0, 1) := by decide +kernel
theorem dL_law_488 : decode cL_law 488 = .ok (.iload_n 3, 1) := by decide +kernel
theorem dL_law_489 : decode cL_law 489 = .ok (.iconst 1, 1) := by decide +kernel
theorem dL_law_490 : decode cL_law 490 = .ok (.iadd, 1) := by decide +kernel
theorem dL_law_491 : decode cL_law 491 = .ok (.iaload, 1) := by decide +kernel
theorem dL_law_492 : decode cL_law 492 = .ok (.invokevirtual 81, 3) := by decide +kernel
theorem dL_law_495 : decode cL_law 495 = .ok (.aload_n 2, 1) := by decide +kernel
theorem dL_law_496 : decode cL_law 496 = .ok (.aload_n 0, 1) := by decide +kernel
theorem dL_law_497 : decode cL_law 497 = .ok (.iload_n 3, 1) := by decide +kernel
theorem dL_law_498 : decode cL_law 498 = .ok (.iconst 1, 1) := by decide +kernel
theorem dL_law_499 : decode cL_law 499 = .ok (.iadd, 1) := by decide +kernel
theorem dL_law_500 : decode cL_law 500 = .ok (.iaload, 1) := by decide +kernel
theorem dL_law_501 : decode cL_law 501 = .ok (.invokevirtual 84, 3) := by decide +kernel
theorem dL_law_504 : decode cL_law 504 = .ok (.if_icmp .eq 424, 3) := by decide +kernel
theorem dL_law_507 : decode cL_law 507 = .ok (.iconst 0, 1) := by decide +kernel
theorem dL_law_508 : decode cL_law 508 = .ok (.ireturn, 1) := by decide +kernel
theorem dL_law_509 : decode cL_law 509 = .ok (.aload_n 1, 1) := by decide +kernel
theorem dL_law_510 : decode cL_law 510 = .ok (.aload_n 0, 1) := by decide +kernel
theorem dL_law_511 : decode cL_law 511 = .ok (.iload_n 3, 1) := by decide +kernel
theorem dL_law_512 : decode cL_law 512 = .ok (.iconst 1, 1) := by decide +kernel
theorem dL_law_513 : decode cL_law 513 = .ok (.iadd, 1) := by decide +kernel
theorem dL_law_514 : decode cL_law 514 = .ok (.iaload, 1) := by decide +kernel
theorem dL_law_515 : decode cL_law 515 = .ok (.aload_n 0, 1) := by decide +kernel
theorem dL_law_516 : decode cL_law 516 = .ok (.iload_n 3, 1) := by decide +kernel
theorem dL_law_517 : decode cL_law 517 = .ok (.iconst 2, 1) := by decide +kernel
theorem dL_law_518 : decode cL_law 518 = .ok (.iadd, 1) := by decide +kernel
theorem dL_law_519 : decode cL_law 519 = .ok (.iaload, 1) := by decide +kernel
theorem dL_law_520 : decode cL_law 520 = .ok (.invokevirtual 85, 3) := by decide +kernel
theorem dL_law_523 : decode cL_law 523 = .ok (.aload_n 2, 1) := by decide +kernel
theorem dL_law_524 : decode cL_law 524 = .ok (.aload_n 0, 1) := by decide +kernel
theorem dL_law_525 : decode cL_law 525 = .ok (.iload_n 3, 1) := by decide +kernel
theorem dL_law_526 : decode cL_law 526 = .ok (.iconst 1, 1) := by decide +kernel
theorem dL_law_527 : decode cL_law 527 = .ok (.iadd, 1) := by decide +kernel
theorem dL_law_528 : decode cL_law 528 = .ok (.iaload, 1) := by decide +kernel
theorem dL_law_529 : decode cL_law 529 = .ok (.aload_n 0, 1) := by decide +kernel
theorem dL_law_530 : decode cL_law 530 = .ok (.iload_n 3, 1) := by decide +kernel
theorem dL_law_531 : decode cL_law 531 = .ok (.iconst 2, 1) := by decide +kernel
theorem dL_law_532 : decode cL_law 532 = .ok (.iadd, 1) := by decide +kernel
theorem dL_law_533 : decode cL_law 533 = .ok (.iaload, 1) := by decide +kernel
theorem dL_law_534 : decode cL_law 534 = .ok (.invokevirtual 88, 3) := by decide +kernel
theorem dL_law_537 : decode cL_law 537 = .ok (.if_icmp .eq 391, 3) := by decide +kernel
theorem dL_law_540 : decode cL_law 540 = .ok (.iconst 0, 1) := by decide +kernel
theorem dL_law_541 : decode cL_law 541 = .ok (.ireturn, 1) := by decide +kernel
theorem dL_law_542 : decode cL_law 542 = .ok (.aload_n 1, 1) := by decide +kernel
theorem dL_law_543 : decode cL_law 543 = .ok (.aload_n 0, 1) := by decide +kernel
theorem dL_law_544 : decode cL_law 544 = .ok (.iload_n 3, 1) := by decide +kernel
theorem dL_law_545 : decode cL_law 545 = .ok (.iconst 1, 1) := by decide +kernel
theorem dL_law_546 : decode cL_law 546 = .ok (.iadd, 1) := by decide +kernel
theorem dL_law_547 : decode cL_law 547 = .ok (.iaload, 1) := by decide +kernel
theorem dL_law_548 : decode cL_law 548 = .ok (.aload_n 0, 1) := by decide +kernel
theorem dL_law_549 : decode cL_law 549 = .ok (.iload_n 3, 1) := by decide +kernel
theorem dL_law_550 : decode cL_law 550 = .ok (.iconst 2, 1) := by decide +kernel
theorem dL_law_551 : decode cL_law 551 = .ok (.iadd, 1) := by decide +kernel
theorem dL_law_552 : decode cL_law 552 = .ok (.iaload, 1) := by decide +kernel
theorem dL_law_553 : decode cL_law 553 = .ok (.invokevirtual 89, 3) := by decide +kernel
theorem dL_law_556 : decode cL_law 556 = .ok (.aload_n 2, 1) := by decide +kernel
theorem dL_law_557 : decode cL_law 557 = .ok (.aload_n 0, 1) := by decide +kernel
theorem dL_law_558 : decode cL_law 558 = .ok (.iload_n 3, 1) := by decide +kernel
theorem dL_law_559 : decode cL_law 559 = .ok (.iconst 1, 1) := by decide +kernel
theorem dL_law_560 : decode cL_law 560 = .ok (.iadd, 1) := by decide +kernel
theorem dL_law_561 : decode cL_law 561 = .ok (.iaload, 1) := by decide +kernel
theorem dL_law_562 : decode cL_law 562 = .ok (.aload_n 0, 1) := by decide +kernel
theorem dL_law_563 : decode cL_law 563 = .ok (.iload_n 3, 1) := by decide +kernel
theorem dL_law_564 : decode cL_law 564 = .ok (.iconst 2, 1) := by decide +kernel
theorem dL_law_565 : decode cL_law 565 = .ok (.iadd, 1) := by decide +kernel
theorem dL_law_566 : decode cL_law 566 = .ok (.iaload, 1) := by decide +kernel
theorem dL_law_567 : decode cL_law 567 = .ok (.invokevirtual 92, 3) := by decide +kernel
theorem dL_law_570 : decode cL_law 570 = .ok (.if_icmp .eq 358, 3) := by decide +kernel
theorem dL_law_573 : decode cL_law 573 = .ok (.iconst 0, 1) := by decide +kernel
theorem dL_law_574 : decode cL_law 574 = .ok (.ireturn, 1) := by decide +kernel
theorem dL_law_575 : decode cL_law 575 = .ok (.aload_n 1, 1) := by decide +kernel
theorem dL_law_576 : decode cL_law 576 = .ok (.aload_n 0, 1) := by decide +kernel
theorem dL_law_577 : decode cL_law 577 = .ok (.iload_n 3, 1) := by decide +kernel
theorem dL_law_578 : decode cL_law 578 = .ok (.iconst 1, 1) := by decide +kernel
theorem dL_law_579 : decode cL_law 579 = .ok (.iadd, 1) := by decide +kernel
theorem dL_law_580 : decode cL_law 580 = .ok (.iaload, 1) := by decide +kernel
theorem dL_law_581 : decode cL_law 581 = .ok (.invokevirtual 93, 3) := by decide +kernel
theorem dL_law_584 : decode cL_law 584 = .ok (.aload_n 2, 1) := by decide +kernel
theorem dL_law_585 : decode cL_law 585 = .ok (.aload_n 0, 1) := by decide +kernel
theorem dL_law_586 : decode cL_law 586 = .ok (.iload_n 3, 1) := by decide +kernel
theorem dL_law_587 : decode cL_law 587 = .ok (.iconst 1, 1) := by decide +kernel
theorem dL_law_588 : decode cL_law 588 = .ok (.iadd, 1) := by decide +kernel
theorem dL_law_589 : decode cL_law 589 = .ok (.iaload, 1) := by decide +kernel
theorem dL_law_590 : decode cL_law 590 = .ok (.invokevirtual 96, 3) := by decide +kernel
theorem dL_law_593 : decode cL_law 593 = .ok (.if_icmp .eq 335, 3) := by decide +kernel
theorem dL_law_596 : decode cL_law 596 = .ok (.iconst 0, 1) := by decide +kernel
theorem dL_law_597 : decode cL_law 597 = .ok (.ireturn, 1) := by decide +kernel
theorem dL_law_598 : decode cL_law 598 = .ok (.aload_n 1, 1) := by decide +kernel
theorem dL_law_599 : decode cL_law 599 = .ok (.aload_n 0, 1) := by decide +kernel
theorem dL_law_600 : decode cL_law 600 = .ok (.iload_n 3, 1) := by decide +kernel
theorem dL_law_601 : decode cL_law 601 = .ok (.iconst 1, 1) := by decide +kernel
theorem dL_law_602 : decode cL_law 602 = .ok (.iadd, 1) := by decide +kernel
theorem dL_law_603 : decode cL_law 603 = .ok (.iaload, 1) := by decide +kernel
theorem dL_law_604 : decode cL_law 604 = .ok (.invokevirtual 97, 3) := by decide +kernel
theorem dL_law_607 : decode cL_law 607 = .ok (.aload_n 2, 1) := by decide +kernel
theorem dL_law_608 : decode cL_law 608 = .ok (.aload_n 0, 1) := by decide +kernel
theorem dL_law_609 : decode cL_law 609 = .ok (.iload_n 3, 1) := by decide +kernel
theorem dL_law_610 : decode cL_law 610 = .ok (.iconst 1, 1) := by decide +kernel
theorem dL_law_611 : decode cL_law 611 = .ok (.iadd, 1) := by decide +kernel
theorem dL_law_612 : decode cL_law 612 = .ok (.iaload, 1) := by decide +kernel
theorem dL_law_613 : decode cL_law 613 = .ok (.invokevirtual 100, 3) := by decide +kernel
theorem dL_law_616 : decode cL_law 616 = .ok (.if_icmp .eq 312, 3) := by decide +kernel
theorem dL_law_619 : decode cL_law 619 = .ok (.iconst 0, 1) := by decide +kernel
theorem dL_law_620 : decode cL_law 620 = .ok (.ireturn, 1) := by decide +kernel
theorem dL_law_621 : decode cL_law 621 = .ok (.aload_n 1, 1) := by decide +kernel
theorem dL_law_622 : decode cL_law 622 = .ok (.invokevirtual 101, 3) := by decide +kernel
theorem dL_law_625 : decode cL_law 625 = .ok (.aload_n 2, 1) := by decide +kernel
theorem dL_law_626 : decode cL_law 626 = .ok (.invokevirtual 104, 3) := by decide +kernel
theorem dL_law_629 : decode cL_law 629 = .ok (.if_icmp .eq 299, 3) := by decide +kernel
theorem dL_law_632 : decode cL_law 632 = .ok (.iconst 0, 1) := by decide +kernel
theorem dL_law_633 : decode cL_law 633 = .ok (.ireturn, 1) := by decide +kernel
theorem dL_law_634 : decode cL_law 634 = .ok (.aload_n 1, 1) := by decide +kernel
theorem dL_law_635 : decode cL_law 635 = .ok (.invokevirtual 105, 3) := by decide +kernel
theorem dL_law_638 : decode cL_law 638 = .ok (.aload_n 2, 1) := by decide +kernel
theorem dL_law_639 : decode cL_law 639 = .ok (.invokevirtual 108, 3) := by decide +kernel
theorem dL_law_642 : decode cL_law 642 = .ok (.if_icmp .eq 286, 3) := by decide +kernel
theorem dL_law_645 : decode cL_law 645 = .ok (.iconst 0, 1) := by decide +kernel
theorem dL_law_646 : decode cL_law 646 = .ok (.ireturn, 1) := by decide +kernel
theorem dL_law_647 : decode cL_law 647 = .ok (.aload_n 1, 1) := by decide +kernel
theorem dL_law_648 : decode cL_law 648 = .ok (.aload_n 0, 1) := by decide +kernel
theorem dL_law_649 : decode cL_law 649 = .ok (.iload_n 3, 1) := by decide +kernel
theorem dL_law_650 : decode cL_law 650 = .ok (.iconst 1, 1) := by decide +kernel
theorem dL_law_651 : decode cL_law 651 = .ok (.iadd, 1) := by decide +kernel
theorem dL_law_652 : decode cL_law 652 = .ok (.iaload, 1) := by decide +kernel
theorem dL_law_653 : decode cL_law 653 = .ok (.aload_n 0, 1) := by decide +kernel
theorem dL_law_654 : decode cL_law 654 = .ok (.iload_n 3, 1) := by decide +kernel
theorem dL_law_655 : decode cL_law 655 = .ok (.iconst 2, 1) := by decide +kernel
theorem dL_law_656 : decode cL_law 656 = .ok (.iadd, 1) := by decide +kernel
theorem dL_law_657 : decode cL_law 657 = .ok (.iaload, 1) := by decide +kernel
theorem dL_law_658 : decode cL_law 658 = .ok (.aload_n 0, 1) := by decide +kernel
theorem dL_law_659 : decode cL_law 659 = .ok (.iload_n 3, 1) := by decide +kernel
theorem dL_law_660 : decode cL_law 660 = .ok (.iconst 3, 1) := by decide +kernel
theorem dL_law_661 : decode cL_law 661 = .ok (.iadd, 1) := by decide +kernel
theorem dL_law_662 : decode cL_law 662 = .ok (.iaload, 1) := by decide +kernel
theorem dL_law_663 : decode cL_law 663 = .ok (.aload_n 0, 1) := by decide +kernel
theorem dL_law_664 : decode cL_law 664 = .ok (.iload_n 3, 1) := by decide +kernel
theorem dL_law_665 : decode cL_law 665 = .ok (.iconst 4, 1) := by decide +kernel
theorem dL_law_666 : decode cL_law 666 = .ok (.iadd, 1) := by decide +kernel
theorem dL_law_667 : decode cL_law 667 = .ok (.iaload, 1) := by decide +kernel
theorem dL_law_668 : decode cL_law 668 = .ok (.invokevirtual 109, 3) := by decide +kernel
theorem dL_law_671 : decode cL_law 671 = .ok (.aload_n 2, 1) := by decide +kernel
theorem dL_law_672 : decode cL_law 672 = .ok (.aload_n 0, 1) := by decide +kernel
theorem dL_law_673 : decode cL_law 673 = .ok (.iload_n 3, 1) := by decide +kernel
theorem dL_law_674 : decode cL_law 674 = .ok (.iconst 1, 1) := by decide +kernel
theorem dL_law_675 : decode cL_law 675 = .ok (.iadd, 1) := by decide +kernel
theorem dL_law_676 : decode cL_law 676 = .ok (.iaload, 1) := by decide +kernel
theorem dL_law_677 : decode cL_law 677 = .ok (.aload_n 0, 1) := by decide +kernel
theorem dL_law_678 : decode cL_law 678 = .ok (.iload_n 3, 1) := by decide +kernel
theorem dL_law_679 : decode cL_law 679 = .ok (.iconst 2, 1) := by decide +kernel
theorem dL_law_680 : decode cL_law 680 = .ok (.iadd, 1) := by decide +kernel
theorem dL_law_681 : decode cL_law 681 = .ok (.iaload, 1) := by decide +kernel
theorem dL_law_682 : decode cL_law 682 = .ok (.aload_n 0, 1) := by decide +kernel
theorem dL_law_683 : decode cL_law 683 = .ok (.iload_n 3, 1) := by decide +kernel
theorem dL_law_684 : decode cL_law 684 = .ok (.iconst 3, 1) := by decide +kernel
theorem dL_law_685 : decode cL_law 685 = .ok (.iadd, 1) := by decide +kernel
theorem dL_law_686 : decode cL_law 686 = .ok (.iaload, 1) := by decide +kernel
theorem dL_law_687 : decode cL_law 687 = .ok (.aload_n 0, 1) := by decide +kernel
theorem dL_law_688 : decode cL_law 688 = .ok (.iload_n 3, 1) := by decide +kernel
theorem dL_law_689 : decode cL_law 689 = .ok (.iconst 4, 1) := by decide +kernel
theorem dL_law_690 : decode cL_law 690 = .ok (.iadd, 1) := by decide +kernel
theorem dL_law_691 : decode cL_law 691 = .ok (.iaload, 1) := by decide +kernel
theorem dL_law_692 : decode cL_law 692 = .ok (.invokevirtual 112, 3) := by decide +kernel
theorem dL_law_695 : decode cL_law 695 = .ok (.if_icmp .eq 233, 3) := by decide +kernel
theorem dL_law_698 : decode cL_law 698 = .ok (.iconst 0, 1) := by decide +kernel
theorem dL_law_699 : decode cL_law 699 = .ok (.ireturn, 1) := by decide +kernel
theorem dL_law_700 : decode cL_law 700 = .ok (.aload_n 1, 1) := by decide +kernel
theorem dL_law_701 : decode cL_law 701 = .ok (.aload_n 0, 1) := by decide +kernel
theorem dL_law_702 : decode cL_law 702 = .ok (.iload_n 3, 1) := by decide +kernel
theorem dL_law_703 : decode cL_law 703 = .ok (.iconst 1, 1) := by decide +kernel
theorem dL_law_704 : decode cL_law 704 = .ok (.iadd, 1) := by decide +kernel
theorem dL_law_705 : decode cL_law 705 = .ok (.iaload, 1) := by decide +kernel
theorem dL_law_706 : decode cL_law 706 = .ok (.aload_n 0, 1) := by decide +kernel
theorem dL_law_707 : decode cL_law 707 = .ok (.iload_n 3, 1) := by decide +kernel
theorem dL_law_708 : decode cL_law 708 = .ok (.iconst 2, 1) := by decide +kernel
theorem dL_law_709 : decode cL_law 709 = .ok (.iadd, 1) := by decide +kernel
theorem dL_law_710 : decode cL_law 710 = .ok (.iaload, 1) := by decide +kernel
theorem dL_law_711 : decode cL_law 711 = .ok (.aload_n 0, 1) := by decide +kernel
theorem dL_law_712 : decode cL_law 712 = .ok (.iload_n 3, 1) := by decide +kernel
theorem dL_law_713 : decode cL_law 713 = .ok (.iconst 3, 1) := by decide +kernel
theorem dL_law_714 : decode cL_law 714 = .ok (.iadd, 1) := by decide +kernel
theorem dL_law_715 : decode cL_law 715 = .ok (.iaload, 1) := by decide +kernel
theorem dL_law_716 : decode cL_law 716 = .ok (.aload_n 0, 1) := by decide +kernel
theorem dL_law_717 : decode cL_law 717 = .ok (.iload_n 3, 1) := by decide +kernel
theorem dL_law_718 : decode cL_law 718 = .ok (.iconst 4, 1) := by decide +kernel
theorem dL_law_719 : decode cL_law 719 = .ok (.iadd, 1) := by decide +kernel
theorem dL_law_720 : decode cL_law 720 = .ok (.iaload, 1) := by decide +kernel
theorem dL_law_721 : decode cL_law 721 = .ok (.invokevirtual 113, 3) := by decide +kernel
theorem dL_law_724 : decode cL_law 724 = .ok (.aload_n 2, 1) := by decide +kernel
theorem dL_law_725 : decode cL_law 725 = .ok (.aload_n 0, 1) := by decide +kernel
theorem dL_law_726 : decode cL_law 726 = .ok (.iload_n 3, 1) := by decide +kernel
theorem dL_law_727 : decode cL_law 727 = .ok (.iconst 1, 1) := by decide +kernel
theorem dL_law_728 : decode cL_law 728 = .ok (.iadd, 1) := by decide +kernel
theorem dL_law_729 : decode cL_law 729 = .ok (.iaload, 1) := by decide +kernel
theorem dL_law_730 : decode cL_law 730 = .ok (.aload_n 0, 1) := by decide +kernel
theorem dL_law_731 : decode cL_law 731 = .ok (.iload_n 3, 1) := by decide +kernel
theorem dL_law_732 : decode cL_law 732 = .ok (.iconst 2, 1) := by decide +kernel
theorem dL_law_733 : decode cL_law 733 = .ok (.iadd, 1) := by decide +kernel
theorem dL_law_734 : decode cL_law 734 = .ok (.iaload, 1) := by decide +kernel
theorem dL_law_735 : decode cL_law 735 = .ok (.aload_n 0, 1) := by decide +kernel
theorem dL_law_736 : decode cL_law 736 = .ok (.iload_n 3, 1) := by decide +kernel
theorem dL_law_737 : decode cL_law 737 = .ok (.iconst 3, 1) := by decide +kernel
theorem dL_law_738 : decode cL_law 738 = .ok (.iadd, 1) := by decide +kernel
theorem dL_law_739 : decode cL_law 739 = .ok (.iaload, 1) := by decide +kernel
theorem dL_law_740 : decode cL_law 740 = .ok (.aload_n 0, 1) := by decide +kernel
theorem dL_law_741 : decode cL_law 741 = .ok (.iload_n 3, 1) := by decide +kernel
theorem dL_law_742 : decode cL_law 742 = .ok (.iconst 4, 1) := by decide +kernel
theorem dL_law_743 : decode cL_law 743 = .ok (.iadd, 1) := by decide +kernel
theorem dL_law_744 : decode cL_law 744 = .ok (.iaload, 1) := by decide +kernel
theorem dL_law_745 : decode cL_law 745 = .ok (.invokevirtual 116, 3) := by decide +kernel
theorem dL_law_748 : decode cL_law 748 = .ok (.if_icmp .eq 180, 3) := by decide +kernel
theorem dL_law_751 : decode cL_law 751 = .ok (.iconst 0, 1) := by decide +kernel
theorem dL_law_752 : decode cL_law 752 = .ok (.ireturn, 1) := by decide +kernel
theorem dL_law_753 : decode cL_law 753 = .ok (.aload_n 1, 1) := by decide +kernel
theorem dL_law_754 : decode cL_law 754 = .ok (.aload_n 0, 1) := by decide +kernel
theorem dL_law_755 : decode cL_law 755 = .ok (.iload_n 3, 1) := by decide +kernel
theorem dL_law_756 : decode cL_law 756 = .ok (.iconst 1, 1) := by decide +kernel
theorem dL_law_757 : decode cL_law 757 = .ok (.iadd, 1) := by decide +kernel
theorem dL_law_758 : decode cL_law 758 = .ok (.iaload, 1) := by decide +kernel
theorem dL_law_759 : decode cL_law 759 = .ok (.aload_n 0, 1) := by decide +kernel
theorem dL_law_760 : decode cL_law 760 = .ok (.iload_n 3, 1) := by decide +kernel
theorem dL_law_761 : decode cL_law 761 = .ok (.iconst 2, 1) := by decide +kernel
theorem dL_law_762 : decode cL_law 762 = .ok (.iadd, 1) := by decide +kernel
theorem dL_law_763 : decode cL_law 763 = .ok (.iaload, 1) := by decide +kernel
theorem dL_law_764 : decode cL_law 764 = .ok (.aload_n 0, 1) := by decide +kernel
theorem dL_law_765 : decode cL_law 765 = .ok (.iload_n 3, 1) := by decide +kernel
theorem dL_law_766 : decode cL_law 766 = .ok (.iconst 3, 1) := by decide +kernel
theorem dL_law_767 : decode cL_law 767 = .ok (.iadd, 1) := by decide +kernel
theorem dL_law_768 : decode cL_law 768 = .ok (.iaload, 1) := by decide +kernel
theorem dL_law_769 : decode cL_law 769 = .ok (.aload_n 0, 1) := by decide +kernel
theorem dL_law_770 : decode cL_law 770 = .ok (.iload_n 3, 1) := by decide +kernel
theorem dL_law_771 : decode cL_law 771 = .ok (.iconst 4, 1) := by decide +kernel
theorem dL_law_772 : decode cL_law 772 = .ok (.iadd, 1) := by decide +kernel
theorem dL_law_773 : decode cL_law 773 = .ok (.iaload, 1) := by decide +kernel
theorem dL_law_774 : decode cL_law 774 = .ok (.invokevirtual 117, 3) := by decide +kernel
theorem dL_law_777 : decode cL_law 777 = .ok (.aload_n 2, 1) := by decide +kernel
theorem dL_law_778 : decode cL_law 778 = .ok (.aload_n 0, 1) := by decide +kernel
theorem dL_law_779 : decode cL_law 779 = .ok (.iload_n 3, 1) := by decide +kernel
theorem dL_law_780 : decode cL_law 780 = .ok (.iconst 1, 1) := by decide +kernel
theorem dL_law_781 : decode cL_law 781 = .ok (.iadd, 1) := by decide +kernel
theorem dL_law_782 : decode cL_law 782 = .ok (.iaload, 1) := by decide +kernel
theorem dL_law_783 : decode cL_law 783 = .ok (.aload_n 0, 1) := by decide +kernel
theorem dL_law_784 : decode cL_law 784 = .ok (.iload_n 3, 1) := by decide +kernel
theorem dL_law_785 : decode cL_law 785 = .ok (.iconst 2, 1) := by decide +kernel
theorem dL_law_786 : decode cL_law 786 = .ok (.iadd, 1) := by decide +kernel
theorem dL_law_787 : decode cL_law 787 = .ok (.iaload, 1) := by decide +kernel
theorem dL_law_788 : decode cL_law 788 = .ok (.aload_n 0, 1) := by decide +kernel
theorem dL_law_789 : decode cL_law 789 = .ok (.iload_n 3, 1) := by decide +kernel
theorem dL_law_790 : decode cL_law 790 = .ok (.iconst 3, 1) := by decide +kernel
theorem dL_law_791 : decode cL_law 791 = .ok (.iadd, 1) := by decide +kernel
theorem dL_law_792 : decode cL_law 792 = .ok (.iaload, 1) := by decide +kernel
theorem dL_law_793 : decode cL_law 793 = .ok (.aload_n 0, 1) := by decide +kernel
theorem dL_law_794 : decode cL_law 794 = .ok (.iload_n 3, 1) := by decide +kernel
theorem dL_law_795 : decode cL_law 795 = .ok (.iconst 4, 1) := by decide +kernel
theorem dL_law_796 : decode cL_law 796 = .ok (.iadd, 1) := by decide +kernel
theorem dL_law_797 : decode cL_law 797 = .ok (.iaload, 1) := by decide +kernel
theorem dL_law_798 : decode cL_law 798 = .ok (.invokevirtual 120, 3) := by decide +kernel
theorem dL_law_801 : decode cL_law 801 = .ok (.if_icmp .eq 127, 3) := by decide +kernel
theorem dL_law_804 : decode cL_law 804 = .ok (.iconst 0, 1) := by decide +kernel
theorem dL_law_805 : decode cL_law 805 = .ok (.ireturn, 1) := by decide +kernel
theorem dL_law_806 : decode cL_law 806 = .ok (.aload_n 1, 1) := by decide +kernel
theorem dL_law_807 : decode cL_law 807 = .ok (.aload_n 0, 1) := by decide +kernel
theorem dL_law_808 : decode cL_law 808 = .ok (.iload_n 3, 1) := by decide +kernel
theorem dL_law_809 : decode cL_law 809 = .ok (.iconst 1, 1) := by decide +kernel
theorem dL_law_810 : decode cL_law 810 = .ok (.iadd, 1) := by decide +kernel
theorem dL_law_811 : decode cL_law 811 = .ok (.iaload, 1) := by decide +kernel
theorem dL_law_812 : decode cL_law 812 = .ok (.aload_n 0, 1) := by decide +kernel
theorem dL_law_813 : decode cL_law 813 = .ok (.iload_n 3, 1) := by decide +kernel
theorem dL_law_814 : decode cL_law 814 = .ok (.iconst 2, 1) := by decide +kernel
theorem dL_law_815 : decode cL_law 815 = .ok (.iadd, 1) := by decide +kernel
theorem dL_law_816 : decode cL_law 816 = .ok (.iaload, 1) := by decide +kernel
theorem dL_law_817 : decode cL_law 817 = .ok (.invokevirtual 121, 3) := by decide +kernel
theorem dL_law_820 : decode cL_law 820 = .ok (.aload_n 2, 1) := by decide +kernel
theorem dL_law_821 : decode cL_law 821 = .ok (.aload_n 0, 1) := by decide +kernel
theorem dL_law_822 : decode cL_law 822 = .ok (.iload_n 3, 1) := by decide +kernel
theorem dL_law_823 : decode cL_law 823 = .ok (.iconst 1, 1) := by decide +kernel
theorem dL_law_824 : decode cL_law 824 = .ok (.iadd, 1) := by decide +kernel
theorem dL_law_825 : decode cL_law 825 = .ok (.iaload, 1) := by decide +kernel
theorem dL_law_826 : decode cL_law 826 = .ok (.aload_n 0, 1) := by decide +kernel
theorem dL_law_827 : decode cL_law 827 = .ok (.iload_n 3, 1) := by decide +kernel
theorem dL_law_828 : decode cL_law 828 = .ok (.iconst 2, 1) := by decide +kernel
theorem dL_law_829 : decode cL_law 829 = .ok (.iadd, 1) := by decide +kernel
theorem dL_law_830 : decode cL_law 830 = .ok (.iaload, 1) := by decide +kernel
theorem dL_law_831 : decode cL_law 831 = .ok (.invokevirtual 124, 3) := by decide +kernel
theorem dL_law_834 : decode cL_law 834 = .ok (.if_icmp .eq 94, 3) := by decide +kernel
theorem dL_law_837 : decode cL_law 837 = .ok (.iconst 0, 1) := by decide +kernel
theorem dL_law_838 : decode cL_law 838 = .ok (.ireturn, 1) := by decide +kernel
theorem dL_law_839 : decode cL_law 839 = .ok (.aload_n 1, 1) := by decide +kernel
theorem dL_law_840 : decode cL_law 840 = .ok (.aload_n 0, 1) := by decide +kernel
theorem dL_law_841 : decode cL_law 841 = .ok (.iload_n 3, 1) := by decide +kernel
theorem dL_law_842 : decode cL_law 842 = .ok (.iconst 1, 1) := by decide +kernel
theorem dL_law_843 : decode cL_law 843 = .ok (.iadd, 1) := by decide +kernel
theorem dL_law_844 : decode cL_law 844 = .ok (.iaload, 1) := by decide +kernel
theorem dL_law_845 : decode cL_law 845 = .ok (.invokevirtual 125, 3) := by decide +kernel
theorem dL_law_848 : decode cL_law 848 = .ok (.aload_n 2, 1) := by decide +kernel
theorem dL_law_849 : decode cL_law 849 = .ok (.aload_n 0, 1) := by decide +kernel
theorem dL_law_850 : decode cL_law 850 = .ok (.iload_n 3, 1) := by decide +kernel
theorem dL_law_851 : decode cL_law 851 = .ok (.iconst 1, 1) := by decide +kernel
theorem dL_law_852 : decode cL_law 852 = .ok (.iadd, 1) := by decide +kernel
theorem dL_law_853 : decode cL_law 853 = .ok (.iaload, 1) := by decide +kernel
theorem dL_law_854 : decode cL_law 854 = .ok (.invokevirtual 128, 3) := by decide +kernel
theorem dL_law_857 : decode cL_law 857 = .ok (.if_icmp .eq 71, 3) := by decide +kernel
theorem dL_law_860 : decode cL_law 860 = .ok (.iconst 0, 1) := by decide +kernel
theorem dL_law_861 : decode cL_law 861 = .ok (.ireturn, 1) := by decide +kernel
theorem dL_law_862 : decode cL_law 862 = .ok (.aload_n 1, 1) := by decide +kernel
theorem dL_law_863 : decode cL_law 863 = .ok (.aload_n 0, 1) := by decide +kernel
theorem dL_law_864 : decode cL_law 864 = .ok (.iload_n 3, 1) := by decide +kernel
theorem dL_law_865 : decode cL_law 865 = .ok (.iconst 1, 1) := by decide +kernel
theorem dL_law_866 : decode cL_law 866 = .ok (.iadd, 1) := by decide +kernel
theorem dL_law_867 : decode cL_law 867 = .ok (.iaload, 1) := by decide +kernel
theorem dL_law_868 : decode cL_law 868 = .ok (.invokevirtual 129, 3) := by decide +kernel
theorem dL_law_871 : decode cL_law 871 = .ok (.aload_n 2, 1) := by decide +kernel
theorem dL_law_872 : decode cL_law 872 = .ok (.aload_n 0, 1) := by decide +kernel
theorem dL_law_873 : decode cL_law 873 = .ok (.iload_n 3, 1) := by decide +kernel
theorem dL_law_874 : decode cL_law 874 = .ok (.iconst 1, 1) := by decide +kernel
theorem dL_law_875 : decode cL_law 875 = .ok (.iadd, 1) := by decide +kernel
theorem dL_law_876 : decode cL_law 876 = .ok (.iaload, 1) := by decide +kernel
theorem dL_law_877 : decode cL_law 877 = .ok (.invokevirtual 132, 3) := by decide +kernel
theorem dL_law_880 : decode cL_law 880 = .ok (.if_icmp .eq 48, 3) := by decide +kernel
theorem dL_law_883 : decode cL_law 883 = .ok (.iconst 0, 1) := by decide +kernel
theorem dL_law_884 : decode cL_law 884 = .ok (.ireturn, 1) := by decide +kernel
theorem dL_law_885 : decode cL_law 885 = .ok (.aload_n 1, 1) := by decide +kernel
theorem dL_law_886 : decode cL_law 886 = .ok (.invokevirtual 133, 3) := by decide +kernel
theorem dL_law_889 : decode cL_law 889 = .ok (.f2d, 1) := by decide +kernel
theorem dL_law_890 : decode cL_law 890 = .ok (.dstore 4, 2) := by decide +kernel
theorem dL_law_892 : decode cL_law 892 = .ok (.aload_n 2, 1) := by decide +kernel
theorem dL_law_893 : decode cL_law 893 = .ok (.invokevirtual 137, 3) := by decide +kernel
theorem dL_law_896 : decode cL_law 896 = .ok (.f2d, 1) := by decide +kernel
theorem dL_law_897 : decode cL_law 897 = .ok (.dstore 6, 2) := by decide +kernel
theorem dL_law_899 : decode cL_law 899 = .ok (.dload 4, 2) := by decide +kernel
theorem dL_law_901 : decode cL_law 901 = .ok (.dload 6, 2) := by decide +kernel
theorem dL_law_903 : decode cL_law 903 = .ok (.dcmp .l, 1) := by decide +kernel
theorem dL_law_904 : decode cL_law 904 = .ok (.ifCond .eq 21, 3) := by decide +kernel
theorem dL_law_907 : decode cL_law 907 = .ok (.dload 4, 2) := by decide +kernel
theorem dL_law_909 : decode cL_law 909 = .ok (.dload 4, 2) := by decide +kernel
theorem dL_law_911 : decode cL_law 911 = .ok (.dcmp .l, 1) := by decide +kernel
theorem dL_law_912 : decode cL_law 912 = .ok (.ifCond .eq 11, 3) := by decide +kernel
theorem dL_law_915 : decode cL_law 915 = .ok (.dload 6, 2) := by decide +kernel
theorem dL_law_917 : decode cL_law 917 = .ok (.dload 6, 2) := by decide +kernel
theorem dL_law_919 : decode cL_law 919 = .ok (.dcmp .l, 1) := by decide +kernel
theorem dL_law_920 : decode cL_law 920 = .ok (.ifCond .ne 5, 3) := by decide +kernel
theorem dL_law_923 : decode cL_law 923 = .ok (.iconst 0, 1) := by decide +kernel
theorem dL_law_924 : decode cL_law 924 = .ok (.ireturn, 1) := by decide +kernel
theorem dL_law_925 : decode cL_law 925 = .ok (.goto 3, 3) := by decide +kernel
theorem dL_law_928 : decode cL_law 928 = .ok (.iinc 3 5, 3) := by decide +kernel
theorem dL_law_931 : decode cL_law 931 = .ok (.goto (-913), 3) := by decide +kernel
theorem dL_law_934 : decode cL_law 934 = .ok (.iconst 1, 1) := by decide +kernel
theorem dL_law_935 : decode cL_law 935 = .ok (.ireturn, 1) := by decide +kernel
