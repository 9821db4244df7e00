theorem dX0_init_0 : decode cX0_init 0 = .ok (.aload_n 0, 1) := by decide +kernel
theorem dX0_init_1 : decode cX0_init 1 = .ok (.invokespecial 3, 3) := by decide +kernel
theorem dX0_init_4 : decode cX0_init 4 = .ok (.aload_n 0, 1) := by decide +kernel
theorem dX0_init_5 : decode cX0_init 5 = .ok (.bipush 24, 2) := by decide +kernel
theorem dX0_init_7 : decode cX0_init 7 = .ok (.newarray .int, 2) := by decide +kernel
theorem dX0_init_9 : decode cX0_init 9 = .ok (.putfield 9, 3) := by decide +kernel
theorem dX0_init_12 : decode cX0_init 12 = .ok (.aload_n 0, 1) := by decide +kernel
theorem dX0_init_13 : decode cX0_init 13 = .ok (.iconst 0, 1) := by decide +kernel
theorem dX0_init_14 : decode cX0_init 14 = .ok (.putfield 15, 3) := by decide +kernel
theorem dX0_init_17 : decode cX0_init 17 = .ok (.aload_n 0, 1) := by decide +kernel
theorem dX0_init_18 : decode cX0_init 18 = .ok (.bipush 6, 2) := by decide +kernel
theorem dX0_init_20 : decode cX0_init 20 = .ok (.newarray .int, 2) := by decide +kernel
theorem dX0_init_22 : decode cX0_init 22 = .ok (.putfield 19, 3) := by decide +kernel
theorem dX0_init_25 : decode cX0_init 25 = .ok (.aload_n 0, 1) := by decide +kernel
theorem dX0_init_26 : decode cX0_init 26 = .ok (.iconst 0, 1) := by decide +kernel
theorem dX0_init_27 : decode cX0_init 27 = .ok (.putfield 22, 3) := by decide +kernel
theorem dX0_init_30 : decode cX0_init 30 = .ok (.aload_n 0, 1) := by decide +kernel
theorem dX0_init_31 : decode cX0_init 31 = .ok (.lconst 0, 1) := by decide +kernel
theorem dX0_init_32 : decode cX0_init 32 = .ok (.putfield 25, 3) := by decide +kernel
theorem dX0_init_35 : decode cX0_init 35 = .ok (.aload_n 0, 1) := by decide +kernel
theorem dX0_init_36 : decode cX0_init 36 = .ok (.new 29, 3) := by decide +kernel
theorem dX0_init_39 : decode cX0_init 39 = .ok (.dup, 1) := by decide +kernel
theorem dX0_init_40 : decode cX0_init 40 = .ok (.invokespecial 31, 3) := by decide +kernel
theorem dX0_init_43 : decode cX0_init 43 = .ok (.putfield 32, 3) := by decide +kernel
theorem dX0_init_46 : decode cX0_init 46 = .ok (.aload_n 0, 1) := by decide +kernel
theorem dX0_init_47 : decode cX0_init 47 = .ok (.new 29, 3) := by decide +kernel
theorem dX0_init_50 : decode cX0_init 50 = .ok (.dup, 1) := by decide +kernel
theorem dX0_init_51 : decode cX0_init 51 = .ok (.invokespecial 31, 3) := by decide +kernel
theorem dX0_init_54 : decode cX0_init 54 = .ok (.putfield 36, 3) := by decide +kernel
theorem dX0_init_57 : decode cX0_init 57 = .ok (.aload_n 0, 1) := by decide +kernel
theorem dX0_init_58 : decode cX0_init 58 = .ok (.aload_n 1, 1) := by decide +kernel
theorem dX0_init_59 : decode cX0_init 59 = .ok (.putfield 39, 3) := by decide +kernel
theorem dX0_init_62 : decode cX0_init 62 = .ok (.return_, 1) := by decide +kernel
theorem dX0_insertOwn_0 : decode cX0_insertOwn 0 = .ok (.aload_n 0, 1) := by decide +kernel
theorem dX0_insertOwn_1 : decode cX0_insertOwn 1 = .ok (.lconst 0, 1) := by decide +kernel
theorem dX0_insertOwn_2 : decode cX0_insertOwn 2 = .ok (.putfield 25, 3) := by decide +kernel
theorem dX0_insertOwn_5 : decode cX0_insertOwn 5 = .ok (.aload_n 0, 1) := by decide +kernel
theorem dX0_insertOwn_6 : decode cX0_insertOwn 6 = .ok (.iload_n 1, 1) := by decide +kernel
theorem dX0_insertOwn_7 : decode cX0_insertOwn 7 = .ok (.invokevirtual 43, 3) := by decide +kernel
theorem dX0_insertOwn_10 : decode cX0_insertOwn 10 = .ok (.istore_n 2, 1) := by decide +kernel
theorem dX0_insertOwn_11 : decode cX0_insertOwn 11 = .ok (.aload_n 0, 1) := by decide +kernel
theorem dX0_insertOwn_12 : decode cX0_insertOwn 12 = .ok (.getfield 39, 3) := by decide +kernel
theorem dX0_insertOwn_15 : decode cX0_insertOwn 15 = .ok (.iload_n 2, 1) := by decide +kernel
theorem dX0_insertOwn_16 : decode cX0_insertOwn 16 = .ok (.aload_n 0, 1) := by decide +kernel
theorem dX0_insertOwn_17 : decode cX0_insertOwn 17 = .ok (.getfield 39, 3) := by decide +kernel
theorem dX0_insertOwn_20 : decode cX0_insertOwn 20 = .ok (.iload_n 2, 1) := by decide +kernel
theorem dX0_insertOwn_21 : decode cX0_insertOwn 21 = .ok (.invokevirtual 47, 3) := by decide +kernel
theorem dX0_insertOwn_24 : decode cX0_insertOwn 24 = .ok (.iload_n 1, 1) := by decide +kernel
theorem dX0_insertOwn_25 : decode cX0_insertOwn 25 = .ok (.invokevirtual 52, 3) := by decide +kernel
theorem dX0_insertOwn_28 : decode cX0_insertOwn 28 = .ok (.iconst 0, 1) := by decide +kernel
theorem dX0_insertOwn_29 : decode cX0_insertOwn 29 = .ok (.istore_n 3, 1) := by decide +kernel
theorem dX0_insertOwn_30 : decode cX0_insertOwn 30 = .ok (.aload_n 0, 1) := by decide +kernel
theorem dX0_insertOwn_31 : decode cX0_insertOwn 31 = .ok (.getfield 39, 3) := by decide +kernel
theorem dX0_insertOwn_34 : decode cX0_insertOwn 34 = .ok (.iload_n 2, 1) := by decide +kernel
theorem dX0_insertOwn_35 : decode cX0_insertOwn 35 = .ok (.invokevirtual 47, 3) := by decide +kernel
theorem dX0_insertOwn_38 : decode cX0_insertOwn 38 = .ok (.aload_n 0, 1) := by decide +kernel
theorem dX0_insertOwn_39 : decode cX0_insertOwn 39 = .ok (.getfield 39, 3) := by decide +kernel
theorem dX0_insertOwn_42 : decode cX0_insertOwn 42 = .ok (.getfield 56, 3) := by decide +kernel
theorem dX0_insertOwn_45 : decode cX0_insertOwn 45 = .ok (.if_icmp .le 37, 3) := by decide +kernel
theorem dX0_insertOwn_48 : decode cX0_insertOwn 48 = .ok (.iload_n 3, 1) := by decide +kernel
theorem dX0_insertOwn_49 : decode cX0_insertOwn 49 = .ok (.ldc 59, 2) := by decide +kernel
theorem dX0_insertOwn_51 : decode cX0_insertOwn 51 = .ok (.if_icmp .ge 31, 3) := by decide +kernel
theorem dX0_insertOwn_54 : decode cX0_insertOwn 54 = .ok (.aload_n 0, 1) := by decide +kernel
theorem dX0_insertOwn_55 : decode cX0_insertOwn 55 = .ok (.iload_n 2, 1) := by decide +kernel
theorem dX0_insertOwn_56 : decode cX0_insertOwn 56 = .ok (.invokevirtual 60, 3) := by decide +kernel
theorem dX0_insertOwn_59 : decode cX0_insertOwn 59 = .ok (.ifCond .eq 11, 3) := by decide +kernel
theorem dX0_insertOwn_62 : decode cX0_insertOwn 62 = .ok (.aload_n 0, 1) := by decide +kernel
theorem dX0_insertOwn_63 : decode cX0_insertOwn 63 = .ok (.iload_n 2, 1) := by decide +kernel
theorem dX0_insertOwn_64 : decode cX0_insertOwn 64 = .ok (.invokevirtual 64, 3) := by decide +kernel
theorem dX0_insertOwn_67 : decode cX0_insertOwn 67 = .ok (.goto 8, 3) := by decide +kernel
theorem dX0_insertOwn_70 : decode cX0_insertOwn 70 = .ok (.aload_n 0, 1) := by decide +kernel
theorem dX0_insertOwn_71 : decode cX0_insertOwn 71 = .ok (.iload_n 2, 1) := by decide +kernel
theorem dX0_insertOwn_72 : decode cX0_insertOwn 72 = .ok (.invokevirtual 67, 3) := by decide +kernel
theorem dX0_insertOwn_75 : decode cX0_insertOwn 75 = .ok (.istore_n 2, 1) := by decide +kernel
theorem dX0_insertOwn_76 : decode cX0_insertOwn 76 = .ok (.iinc 3 1, 3) := by decide +kernel
theorem dX0_insertOwn_79 : decode cX0_insertOwn 79 = .ok (.goto (-49), 3) := by decide +kernel
theorem dX0_insertOwn_82 : decode cX0_insertOwn 82 = .ok (.return_, 1) := by decide +kernel
theorem dX0_targetFor_0 : decode cX0_targetFor 0 = .ok (.aload_n 0, 1) := by decide +kernel
theorem dX0_targetFor_1 : decode cX0_targetFor 1 = .ok (.getfield 39, 3) := by decide +kernel
theorem dX0_targetFor_4 : decode cX0_targetFor 4 = .ok (.iload_n 1, 1) := by decide +kernel
theorem dX0_targetFor_5 : decode cX0_targetFor 5 = .ok (.invokevirtual 70, 3) := by decide +kernel
theorem dX0_targetFor_8 : decode cX0_targetFor 8 = .ok (.iconst 1, 1) := by decide +kernel
theorem dX0_targetFor_9 : decode cX0_targetFor 9 = .ok (.iadd, 1) := by decide +kernel
theorem dX0_targetFor_10 : decode cX0_targetFor 10 = .ok (.istore_n 2, 1) := by decide +kernel
theorem dX0_targetFor_11 : decode cX0_targetFor 11 = .ok (.aload_n 0, 1) := by decide +kernel
theorem dX0_targetFor_12 : decode cX0_targetFor 12 = .ok (.getfield 39, 3) := by decide +kernel
theorem dX0_targetFor_15 : decode cX0_targetFor 15 = .ok (.getfield 73, 3) := by decide +kernel
theorem dX0_targetFor_18 : decode cX0_targetFor 18 = .ok (.istore_n 3, 1) := by decide +kernel
theorem dX0_targetFor_19 : decode cX0_targetFor 19 = .ok (.iconst 0, 1) := by decide +kernel
theorem dX0_targetFor_20 : decode cX0_targetFor 20 = .ok (.istore 4, 2) := by decide +kernel
theorem dX0_targetFor_22 : decode cX0_targetFor 22 = .ok (.aload_n 0, 1) := by decide +kernel
theorem dX0_targetFor_23 : decode cX0_targetFor 23 = .ok (.getfield 39, 3) := by decide +kernel
theorem dX0_targetFor_26 : decode cX0_targetFor 26 = .ok (.iload_n 3, 1) := by decide +kernel
theorem dX0_targetFor_27 : decode cX0_targetFor 27 = .ok (.invokevirtual 70, 3) := by decide +kernel
theorem dX0_targetFor_30 : decode cX0_targetFor 30 = .ok (.iload_n 2, 1) := by decide +kernel
theorem dX0_targetFor_31 : decode cX0_targetFor 31 = .ok (.if_icmp .le 23, 3) := by decide +kernel
theorem dX0_targetFor_34 : decode cX0_targetFor 34 = .ok (.iload 4, 2) := by decide +kernel
theorem dX0_targetFor_36 : decode cX0_targetFor 36 = .ok (.ldc 59, 2) := by decide +kernel
theorem dX0_targetFor_38 : decode cX0_targetFor 38 = .ok (.if_icmp .ge 16, 3) := by decide +kernel
theorem dX0_targetFor_41 : decode cX0_targetFor 41 = .ok (.aload_n 0, 1) := by decide +kernel
theorem dX0_targetFor_42 : decode cX0_targetFor 42 = .ok (.iload_n 3, 1) := by decide +kernel
theorem dX0_targetFor_43 : decode cX0_targetFor 43 = .ok (.iload_n 1, 1) := by decide +kernel
theorem dX0_targetFor_44 : decode cX0_targetFor 44 = .ok (.invokevirtual 76, 3) := by decide +kernel
theorem dX0_targetFor_47 : decode cX0_targetFor 47 = .ok (.istore_n 3, 1) := by decide +kernel
theorem dX0_targetFor_48 : decode cX0_targetFor 48 = .ok (.iinc 4 1, 3) := by decide +kernel
theorem dX0_targetFor_51 : decode cX0_targetFor 51 = .ok (.goto (-29), 3) := by decide +kernel
theorem dX0_targetFor_54 : decode cX0_targetFor 54 = .ok (.iload_n 3, 1) := by decide +kernel
theorem dX0_targetFor_55 : decode cX0_targetFor 55 = .ok (.ireturn, 1) := by decide +kernel
theorem dX0_bestEntry_0 : decode cX0_bestEntry 0 = .ok (.iconst (-1), 1) := by decide +kernel
theorem dX0_bestEntry_1 : decode cX0_bestEntry 1 = .ok (.istore_n 3, 1) := by decide +kernel
theorem dX0_bestEntry_2 : decode cX0_bestEntry 2 = .ok (.iconst 0, 1) := by decide +kernel
theorem dX0_bestEntry_3 : decode cX0_bestEntry 3 = .ok (.istore 4, 2) := by decide +kernel
theorem dX0_bestEntry_5 : decode cX0_bestEntry 5 = .ok (.iconst 0, 1) := by decide +kernel
theorem dX0_bestEntry_6 : decode cX0_bestEntry 6 = .ok (.istore 5, 2) := by decide +kernel
theorem dX0_bestEntry_8 : decode cX0_bestEntry 8 = .ok (.aload_n 0, 1) := by decide +kernel
theorem dX0_bestEntry_9 : decode cX0_bestEntry 9 = .ok (.getfield 39, 3) := by decide +kernel
theorem dX0_bestEntry_12 : decode cX0_bestEntry 12 = .ok (.iload_n 1, 1) := by decide +kernel
theorem dX0_bestEntry_13 : decode cX0_bestEntry 13 = .ok (.invokevirtual 47, 3) := by decide +kernel
theorem dX0_bestEntry_16 : decode cX0_bestEntry 16 = .ok (.istore 6, 2) := by decide +kernel
theorem dX0_bestEntry_18 : decode cX0_bestEntry 18 = .ok (.iconst 0, 1) := by decide +kernel
theorem dX0_bestEntry_19 : decode cX0_bestEntry 19 = .ok (.istore 7, 2) := by decide +kernel
theorem dX0_bestEntry_21 : decode cX0_bestEntry 21 = .ok (.iload 7, 2) := by decide +kernel
theorem dX0_bestEntry_23 : decode cX0_bestEntry 23 = .ok (.iload 6, 2) := by decide +kernel
theorem dX0_bestEntry_25 : decode cX0_bestEntry 25 = .ok (.if_icmp .ge 84, 3) := by decide +kernel
theorem dX0_bestEntry_28 : decode cX0_bestEntry 28 = .ok (.aload_n 0, 1) := by decide +kernel
theorem dX0_bestEntry_29 : decode cX0_bestEntry 29 = .ok (.getfield 39, 3) := by decide +kernel
theorem dX0_bestEntry_32 : decode cX0_bestEntry 32 = .ok (.iload_n 1, 1) := by decide +kernel
theorem dX0_bestEntry_33 : decode cX0_bestEntry 33 = .ok (.iload 7, 2) := by decide +kernel
theorem dX0_bestEntry_35 : decode cX0_bestEntry 35 = .ok (.invokevirtual 80, 3) := by decide +kernel
theorem dX0_bestEntry_38 : decode cX0_bestEntry 38 = .ok (.istore 8, 2) := by decide +kernel
theorem dX0_bestEntry_40 : decode cX0_bestEntry 40 = .ok (.aload_n 0, 1) := by decide +kernel
theorem dX0_bestEntry_41 : decode cX0_bestEntry 41 = .ok (.getfield 39, 3) := by decide +kernel
theorem dX0_bestEntry_44 : decode cX0_bestEntry 44 = .ok (.iload 8, 2) := by decide +kernel
theorem dX0_bestEntry_46 : decode cX0_bestEntry 46 = .ok (.invokevirtual 83, 3) := by decide +kernel
theorem dX0_bestEntry_49 : decode cX0_bestEntry 49 = .ok (.istore 9, 2) := by decide +kernel
theorem dX0_bestEntry_51 : decode cX0_bestEntry 51 = .ok (.aload_n 0, 1) := by decide +kernel
theorem dX0_bestEntry_52 : decode cX0_bestEntry 52 = .ok (.getfield 39, 3) := by decide +kernel
theorem dX0_bestEntry_55 : decode cX0_bestEntry 55 = .ok (.iload 8, 2) := by decide +kernel
theorem dX0_bestEntry_57 : decode cX0_bestEntry 57 = .ok (.iload_n 2, 1) := by decide +kernel
theorem dX0_bestEntry_58 : decode cX0_bestEntry 58 = .ok (.invokevirtual 86, 3) := by decide +kernel
theorem dX0_bestEntry_61 : decode cX0_bestEntry 61 = .ok (.iload 9, 2) := by decide +kernel
theorem dX0_bestEntry_63 : decode cX0_bestEntry 63 = .ok (.isub, 1) := by decide +kernel
theorem dX0_bestEntry_64 : decode cX0_bestEntry 64 = .ok (.istore 10, 2) := by decide +kernel
theorem dX0_bestEntry_66 : decode cX0_bestEntry 66 = .ok (.iload_n 3, 1) := by decide +kernel
theorem dX0_bestEntry_67 : decode cX0_bestEntry 67 = .ok (.iconst (-1), 1) := by decide +kernel
theorem dX0_bestEntry_68 : decode cX0_bestEntry 68 = .ok (.if_icmp .eq 24, 3) := by decide +kernel
theorem dX0_bestEntry_71 : decode cX0_bestEntry 71 = .ok (.iload 10, 2) := by decide +kernel
theorem dX0_bestEntry_73 : decode cX0_bestEntry 73 = .ok (.iload 4, 2) := by decide +kernel
theorem dX0_bestEntry_75 : decode cX0_bestEntry 75 = .ok (.if_icmp .lt 17, 3) := by decide +kernel
theorem dX0_bestEntry_78 : decode cX0_bestEntry 78 = .ok (.iload 10, 2) := by decide +kernel
theorem dX0_bestEntry_80 : decode cX0_bestEntry 80 = .ok (.iload 4, 2) := by decide +kernel
theorem dX0_bestEntry_82 : decode cX0_bestEntry 82 = .ok (.if_icmp .ne 21, 3) := by decide +kernel
theorem dX0_bestEntry_85 : decode cX0_bestEntry 85 = .ok (.iload 9, 2) := by decide +kernel
theorem dX0_bestEntry_87 : decode cX0_bestEntry 87 = .ok (.iload 5, 2) := by decide +kernel
theorem dX0_bestEntry_89 : decode cX0_bestEntry 89 = .ok (.if_icmp .ge 14, 3) := by decide +kernel
theorem dX0_bestEntry_92 : decode cX0_bestEntry 92 = .ok (.iload 8, 2) := by decide +kernel
theorem dX0_bestEntry_94 : decode cX0_bestEntry 94 = .ok (.istore_n 3, 1) := by decide +kernel
theorem dX0_bestEntry_95 : decode cX0_bestEntry 95 = .ok (.iload 10, 2) := by decide +kernel
theorem dX0_bestEntry_97 : decode cX0_bestEntry 97 = .ok (.istore 4, 2) := by decide +kernel
theorem dX0_bestEntry_99 : decode cX0_bestEntry 99 = .ok (.iload 9, 2) := by decide +kernel
theorem dX0_bestEntry_101 : decode cX0_bestEntry 101 = .ok (.istore 5, 2) := by decide +kernel
theorem dX0_bestEntry_103 : decode cX0_bestEntry 103 = .ok (.iinc 7 1, 3) := by decide +kernel
theorem dX0_bestEntry_106 : decode cX0_bestEntry 106 = .ok (.goto (-85), 3) := by decide +kernel
theorem dX0_bestEntry_109 : decode cX0_bestEntry 109 = .ok (.iload_n 3, 1) := by decide +kernel
theorem dX0_bestEntry_110 : decode cX0_bestEntry 110 = .ok (.ireturn, 1) := by decide +kernel
theorem dX0_mayReinsert_0 : decode cX0_mayReinsert 0 = .ok (.lconst 1, 1) := by decide +kernel
theorem dX0_mayReinsert_1 : decode cX0_mayReinsert 1 = .ok (.aload_n 0, 1) := by decide +kernel
theorem dX0_mayReinsert_2 : decode cX0_mayReinsert 2 = .ok (.getfield 39, 3) := by decide +kernel
theorem dX0_mayReinsert_5 : decode cX0_mayReinsert 5 = .ok (.iload_n 1, 1) := by decide +kernel
theorem dX0_mayReinsert_6 : decode cX0_mayReinsert 6 = .ok (.invokevirtual 70, 3) := by decide +kernel
theorem dX0_mayReinsert_9 : decode cX0_mayReinsert 9 = .ok (.lshl, 1) := by decide +kernel
theorem dX0_mayReinsert_10 : decode cX0_mayReinsert 10 = .ok (.lstore_n 2, 1) := by decide +kernel
theorem dX0_mayReinsert_11 : decode cX0_mayReinsert 11 = .ok (.aload_n 0, 1) := by decide +kernel
theorem dX0_mayReinsert_12 : decode cX0_mayReinsert 12 = .ok (.getfield 39, 3) := by decide +kernel
theorem dX0_mayReinsert_15 : decode cX0_mayReinsert 15 = .ok (.getfield 89, 3) := by decide +kernel
theorem dX0_mayReinsert_18 : decode cX0_mayReinsert 18 = .ok (.iconst 1, 1) := by decide +kernel
theorem dX0_mayReinsert_19 : decode cX0_mayReinsert 19 = .ok (.if_icmp .ne 29, 3) := by decide +kernel
theorem dX0_mayReinsert_22 : decode cX0_mayReinsert 22 = .ok (.iload_n 1, 1) := by decide +kernel
theorem dX0_mayReinsert_23 : decode cX0_mayReinsert 23 = .ok (.aload_n 0, 1) := by decide +kernel
theorem dX0_mayReinsert_24 : decode cX0_mayReinsert 24 = .ok (.getfield 39, 3) := by decide +kernel
theorem dX0_mayReinsert_27 : decode cX0_mayReinsert 27 = .ok (.getfield 73, 3) := by decide +kernel
theorem dX0_mayReinsert_30 : decode cX0_mayReinsert 30 = .ok (.if_icmp .eq 18, 3) := by decide +kernel
theorem dX0_mayReinsert_33 : decode cX0_mayReinsert 33 = .ok (.aload_n 0, 1) := by decide +kernel
theorem dX0_mayReinsert_34 : decode cX0_mayReinsert 34 = .ok (.getfield 25, 3) := by decide +kernel
theorem dX0_mayReinsert_37 : decode cX0_mayReinsert 37 = .ok (.lload_n 2, 1) := by decide +kernel
theorem dX0_mayReinsert_38 : decode cX0_mayReinsert 38 = .ok (.land, 1) := by decide +kernel
theorem dX0_mayReinsert_39 : decode cX0_mayReinsert 39 = .ok (.lconst 0, 1) := by decide +kernel
theorem dX0_mayReinsert_40 : decode cX0_mayReinsert 40 = .ok (.lcmp, 1) := by decide +kernel
theorem dX0_mayReinsert_41 : decode cX0_mayReinsert 41 = .ok (.ifCond .ne 7, 3) := by decide +kernel
theorem dX0_mayReinsert_44 : decode cX0_mayReinsert 44 = .ok (.iconst 1, 1) := by decide +kernel
theorem dX0_mayReinsert_45 : decode cX0_mayReinsert 45 = .ok (.goto 4, 3) := by decide +kernel
theorem dX0_mayReinsert_48 : decode cX0_mayReinsert 48 = .ok (.iconst 0, 1) := by decide +kernel
theorem dX0_mayReinsert_49 : decode cX0_mayReinsert 49 = .ok (.ireturn, 1) := by decide +kernel
theorem dX0_reinsertFarthest_0 : decode cX0_reinsertFarthest 0 = .ok (.aload_n 0, 1) := by decide +kernel
theorem dX0_reinsertFarthest_1 : decode cX0_reinsertFarthest 1 = .ok (.dup, 1) := by decide +kernel
theorem dX0_reinsertFarthest_2 : decode cX0_reinsertFarthest 2 = .ok (.getfield 25, 3) := by decide +kernel
theorem dX0_reinsertFarthest_5 : decode cX0_reinsertFarthest 5 = .ok (.lconst 1, 1) := by decide +kernel
theorem dX0_reinsertFarthest_6 : decode cX0_reinsertFarthest 6 = .ok (.aload_n 0, 1) := by decide +kernel
theorem dX0_reinsertFarthest_7 : decode cX0_reinsertFarthest 7 = .ok (.getfield 39, 3) := by decide +kernel
theorem dX0_reinsertFarthest_10 : decode cX0_reinsertFarthest 10 = .ok (.iload_n 1, 1) := by decide +kernel
theorem dX0_reinsertFarthest_11 : decode cX0_reinsertFarthest 11 = .ok (.invokevirtual 70, 3) := by decide +kernel
theorem dX0_reinsertFarthest_14 : decode cX0_reinsertFarthest 14 = .ok (.lshl, 1) := by decide +kernel
theorem dX0_reinsertFarthest_15 : decode cX0_reinsertFarthest 15 = .ok (.lor, 1) := by decide +kernel
theorem dX0_reinsertFarthest_16 : decode cX0_reinsertFarthest 16 = .ok (.putfield 25, 3) := by decide +kernel
theorem dX0_reinsertFarthest_19 : decode cX0_reinsertFarthest 19 = .ok (.aload_n 0, 1) := by decide +kernel
theorem dX0_reinsertFarthest_20 : decode cX0_reinsertFarthest 20 = .ok (.getfield 39, 3) := by decide +kernel
theorem dX0_reinsertFarthest_23 : decode cX0_reinsertFarthest 23 = .ok (.dup, 1) := by decide +kernel
theorem dX0_reinsertFarthest_24 : decode cX0_reinsertFarthest 24 = .ok (.getfield 92, 3) := by decide +kernel
theorem dX0_reinsertFarthest_27 : decode cX0_reinsertFarthest 27 = .ok (.iconst 1, 1) := by decide +kernel
theorem dX0_reinsertFarthest_28 : decode cX0_reinsertFarthest 28 = .ok (.iadd, 1) := by decide +kernel
theorem dX0_reinsertFarthest_29 : decode cX0_reinsertFarthest 29 = .ok (.putfield 92, 3) := by decide +kernel
theorem dX0_reinsertFarthest_32 : decode cX0_reinsertFarthest 32 = .ok (.aload_n 0, 1) := by decide +kernel
theorem dX0_reinsertFarthest_33 : decode cX0_reinsertFarthest 33 = .ok (.iload_n 1, 1) := by decide +kernel
theorem dX0_reinsertFarthest_34 : decode cX0_reinsertFarthest 34 = .ok (.invokevirtual 95, 3) := by decide +kernel
theorem dX0_reinsertFarthest_37 : decode cX0_reinsertFarthest 37 = .ok (.istore_n 2, 1) := by decide +kernel
theorem dX0_reinsertFarthest_38 : decode cX0_reinsertFarthest 38 = .ok (.aload_n 0, 1) := by decide +kernel
theorem dX0_reinsertFarthest_39 : decode cX0_reinsertFarthest 39 = .ok (.getfield 39, 3) := by decide +kernel
theorem dX0_reinsertFarthest_42 : decode cX0_reinsertFarthest 42 = .ok (.iload_n 2, 1) := by decide +kernel
theorem dX0_reinsertFarthest_43 : decode cX0_reinsertFarthest 43 = .ok (.invokevirtual 98, 3) := by decide +kernel
theorem dX0_reinsertFarthest_46 : decode cX0_reinsertFarthest 46 = .ok (.aload_n 0, 1) := by decide +kernel
theorem dX0_reinsertFarthest_47 : decode cX0_reinsertFarthest 47 = .ok (.iload_n 2, 1) := by decide +kernel
theorem dX0_reinsertFarthest_48 : decode cX0_reinsertFarthest 48 = .ok (.invokevirtual 43, 3) := by decide +kernel
theorem dX0_reinsertFarthest_51 : decode cX0_reinsertFarthest 51 = .ok (.istore_n 3, 1) := by decide +kernel
theorem dX0_reinsertFarthest_52 : decode cX0_reinsertFarthest 52 = .ok (.aload_n 0, 1) := by decide +kernel
theorem dX0_reinsertFarthest_53 : decode cX0_reinsertFarthest 53 = .ok (.getfield 39, 3) := by decide +kernel
theorem dX0_reinsertFarthest_56 : decode cX0_reinsertFarthest 56 = .ok (.iload_n 3, 1) := by decide +kernel
theorem dX0_reinsertFarthest_57 : decode cX0_reinsertFarthest 57 = .ok (.aload_n 0, 1) := by decide +kernel
theorem dX0_reinsertFarthest_58 : decode cX0_reinsertFarthest 58 = .ok (.getfield 39, 3) := by decide +kernel
theorem dX0_reinsertFarthest_61 : decode cX0_reinsertFarthest 61 = .ok (.iload_n 3, 1) := by decide +kernel
theorem dX0_reinsertFarthest_62 : decode cX0_reinsertFarthest 62 = .ok (.invokevirtual 47, 3) := by decide +kernel
theorem dX0_reinsertFarthest_65 : decode cX0_reinsertFarthest 65 = .ok (.iload_n 2, 1) := by decide +kernel
theorem dX0_reinsertFarthest_66 : decode cX0_reinsertFarthest 66 = .ok (.invokevirtual 52, 3) := by decide +kernel
theorem dX0_reinsertFarthest_69 : decode cX0_reinsertFarthest 69 = .ok (.iload_n 3, 1) := by decide +kernel
theorem dX0_reinsertFarthest_70 : decode cX0_reinsertFarthest 70 = .ok (.ireturn, 1) := by decide +kernel
theorem dX0_farthestEntry_0 : decode cX0_farthestEntry 0 = .ok (.iconst (-1), 1) := by decide +kernel
theorem dX0_farthestEntry_1 : decode cX0_farthestEntry 1 = .ok (.istore_n 2, 1) := by decide +kernel
theorem dX0_farthestEntry_2 : decode cX0_farthestEntry 2 = .ok (.iconst 0, 1) := by decide +kernel
theorem dX0_farthestEntry_3 : decode cX0_farthestEntry 3 = .ok (.istore_n 3, 1) := by decide +kernel
theorem dX0_farthestEntry_4 : decode cX0_farthestEntry 4 = .ok (.aload_n 0, 1) := by decide +kernel
theorem dX0_farthestEntry_5 : decode cX0_farthestEntry 5 = .ok (.getfield 39, 3) := by decide +kernel
theorem dX0_farthestEntry_8 : decode cX0_farthestEntry 8 = .ok (.iload_n 1, 1) := by decide +kernel
theorem dX0_farthestEntry_9 : decode cX0_farthestEntry 9 = .ok (.invokevirtual 47, 3) := by decide +kernel
theorem dX0_farthestEntry_12 : decode cX0_farthestEntry 12 = .ok (.istore 4, 2) := by decide +kernel
theorem dX0_farthestEntry_14 : decode cX0_farthestEntry 14 = .ok (.iconst 0, 1) := by decide +kernel
theorem dX0_farthestEntry_15 : decode cX0_farthestEntry 15 = .ok (.istore 5, 2) := by decide +kernel
theorem dX0_farthestEntry_17 : decode cX0_farthestEntry 17 = .ok (.iload 5, 2) := by decide +kernel
theorem dX0_farthestEntry_19 : decode cX0_farthestEntry 19 = .ok (.iload 4, 2) := by decide +kernel
theorem dX0_farthestEntry_21 : decode cX0_farthestEntry 21 = .ok (.if_icmp .ge 45, 3) := by decide +kernel
theorem dX0_farthestEntry_24 : decode cX0_farthestEntry 24 = .ok (.aload_n 0, 1) := by decide +kernel
theorem dX0_farthestEntry_25 : decode cX0_farthestEntry 25 = .ok (.getfield 39, 3) := by decide +kernel
theorem dX0_farthestEntry_28 : decode cX0_farthestEntry 28 = .ok (.iload_n 1, 1) := by decide +kernel
theorem dX0_farthestEntry_29 : decode cX0_farthestEntry 29 = .ok (.iload 5, 2) := by decide +kernel
theorem dX0_farthestEntry_31 : decode cX0_farthestEntry 31 = .ok (.invokevirtual 80, 3) := by decide +kernel
theorem dX0_farthestEntry_34 : decode cX0_farthestEntry 34 = .ok (.istore 6, 2) := by decide +kernel
theorem dX0_farthestEntry_36 : decode cX0_farthestEntry 36 = .ok (.aload_n 0, 1) := by decide +kernel
theorem dX0_farthestEntry_37 : decode cX0_farthestEntry 37 = .ok (.getfield 39, 3) := by decide +kernel
theorem dX0_farthestEntry_40 : decode cX0_farthestEntry 40 = .ok (.iload 6, 2) := by decide +kernel
theorem dX0_farthestEntry_42 : decode cX0_farthestEntry 42 = .ok (.iload_n 1, 1) := by decide +kernel
theorem dX0_farthestEntry_43 : decode cX0_farthestEntry 43 = .ok (.invokevirtual 102, 3) := by decide +kernel
theorem dX0_farthestEntry_46 : decode cX0_farthestEntry 46 = .ok (.istore 7, 2) := by decide +kernel
theorem dX0_farthestEntry_48 : decode cX0_farthestEntry 48 = .ok (.iload 7, 2) := by decide +kernel
theorem dX0_farthestEntry_50 : decode cX0_farthestEntry 50 = .ok (.iload_n 3, 1) := by decide +kernel
theorem dX0_farthestEntry_51 : decode cX0_farthestEntry 51 = .ok (.if_icmp .lt 9, 3) := by decide +kernel
theorem dX0_farthestEntry_54 : decode cX0_farthestEntry 54 = .ok (.iload 6, 2) := by decide +kernel
theorem dX0_farthestEntry_56 : decode cX0_farthestEntry 56 = .ok (.istore_n 2, 1) := by decide +kernel
theorem dX0_farthestEntry_57 : decode cX0_farthestEntry 57 = .ok (.iload 7, 2) := by decide +kernel
theorem dX0_farthestEntry_59 : decode cX0_farthestEntry 59 = .ok (.istore_n 3, 1) := by decide +kernel
theorem dX0_farthestEntry_60 : decode cX0_farthestEntry 60 = .ok (.iinc 5 1, 3) := by decide +kernel
theorem dX0_farthestEntry_63 : decode cX0_farthestEntry 63 = .ok (.goto (-46), 3) := by decide +kernel
theorem dX0_farthestEntry_66 : decode cX0_farthestEntry 66 = .ok (.iload_n 2, 1) := by decide +kernel
theorem dX0_farthestEntry_67 : decode cX0_farthestEntry 67 = .ok (.ireturn, 1) := by decide +kernel
theorem dX0_splitNode_0 : decode cX0_splitNode 0 = .ok (.iload_n 1, 1) := by decide +kernel
theorem dX0_splitNode_1 : decode cX0_splitNode 1 = .ok (.aload_n 0, 1) := by decide +kernel
theorem dX0_splitNode_2 : decode cX0_splitNode 2 = .ok (.getfield 39, 3) := by decide +kernel
theorem dX0_splitNode_5 : decode cX0_splitNode 5 = .ok (.getfield 73, 3) := by decide +kernel
theorem dX0_splitNode_8 : decode cX0_splitNode 8 = .ok (.if_icmp .ne 13, 3) := by decide +kernel
theorem dX0_splitNode_11 : decode cX0_splitNode 11 = .ok (.aload_n 0, 1) := by decide +kernel
theorem dX0_splitNode_12 : decode cX0_splitNode 12 = .ok (.getfield 39, 3) := by decide +kernel
theorem dX0_splitNode_15 : decode cX0_splitNode 15 = .ok (.invokevirtual 105, 3) := by decide +kernel
theorem dX0_splitNode_18 : decode cX0_splitNode 18 = .ok (.goto 11, 3) := by decide +kernel
theorem dX0_splitNode_21 : decode cX0_splitNode 21 = .ok (.aload_n 0, 1) := by decide +kernel
theorem dX0_splitNode_22 : decode cX0_splitNode 22 = .ok (.getfield 39, 3) := by decide +kernel
theorem dX0_splitNode_25 : decode cX0_splitNode 25 = .ok (.iload_n 1, 1) := by decide +kernel
theorem dX0_splitNode_26 : decode cX0_splitNode 26 = .ok (.invokevirtual 109, 3) := by decide +kernel
theorem dX0_splitNode_29 : decode cX0_splitNode 29 = .ok (.istore_n 2, 1) := by decide +kernel
theorem dX0_splitNode_30 : decode cX0_splitNode 30 = .ok (.aload_n 0, 1) := by decide +kernel
theorem dX0_splitNode_31 : decode cX0_splitNode 31 = .ok (.getfield 39, 3) := by decide +kernel
theorem dX0_splitNode_34 : decode cX0_splitNode 34 = .ok (.aload_n 0, 1) := by decide +kernel
theorem dX0_splitNode_35 : decode cX0_splitNode 35 = .ok (.getfield 39, 3) := by decide +kernel
theorem dX0_splitNode_38 : decode cX0_splitNode 38 = .ok (.iload_n 1, 1) := by decide +kernel
theorem dX0_splitNode_39 : decode cX0_splitNode 39 = .ok (.invokevirtual 70, 3) := by decide +kernel
theorem dX0_splitNode_42 : decode cX0_splitNode 42 = .ok (.invokevirtual 112, 3) := by decide +kernel
theorem dX0_splitNode_45 : decode cX0_splitNode 45 = .ok (.istore_n 3, 1) := by decide +kernel
theorem dX0_splitNode_46 : decode cX0_splitNode 46 = .ok (.iload_n 2, 1) := by decide +kernel
theorem dX0_splitNode_47 : decode cX0_splitNode 47 = .ok (.iconst (-1), 1) := by decide +kernel
theorem dX0_splitNode_48 : decode cX0_splitNode 48 = .ok (.if_icmp .eq 8, 3) := by decide +kernel
theorem dX0_splitNode_51 : decode cX0_splitNode 51 = .ok (.iload_n 3, 1) := by decide +kernel
theorem dX0_splitNode_52 : decode cX0_splitNode 52 = .ok (.iconst (-1), 1) := by decide +kernel
theorem dX0_splitNode_53 : decode cX0_splitNode 53 = .ok (.if_icmp .ne 5, 3) := by decide +kernel
theorem dX0_splitNode_56 : decode cX0_splitNode 56 = .ok (.iconst (-1), 1) := by decide +kernel
theorem dX0_splitNode_57 : decode cX0_splitNode 57 = .ok (.ireturn, 1) := by decide +kernel
theorem dX0_splitNode_58 : decode cX0_splitNode 58 = .ok (.aload_n 0, 1) := by decide +kernel
theorem dX0_splitNode_59 : decode cX0_splitNode 59 = .ok (.getfield 39, 3) := by decide +kernel
theorem dX0_splitNode_62 : decode cX0_splitNode 62 = .ok (.dup, 1) := by decide +kernel
theorem dX0_splitNode_63 : decode cX0_splitNode 63 = .ok (.getfield 115, 3) := by decide +kernel
theorem dX0_splitNode_66 : decode cX0_splitNode 66 = .ok (.iconst 1, 1) := by decide +kernel
theorem dX0_splitNode_67 : decode cX0_splitNode 67 = .ok (.iadd, 1) := by decide +kernel
theorem dX0_splitNode_68 : decode cX0_splitNode 68 = .ok (.putfield 115, 3) := by decide +kernel
theorem dX0_splitNode_71 : decode cX0_splitNode 71 = .ok (.aload_n 0, 1) := by decide +kernel
theorem dX0_splitNode_72 : decode cX0_splitNode 72 = .ok (.iload_n 1, 1) := by decide +kernel
theorem dX0_splitNode_73 : decode cX0_splitNode 73 = .ok (.invokevirtual 118, 3) := by decide +kernel
theorem dX0_splitNode_76 : decode cX0_splitNode 76 = .ok (.aload_n 0, 1) := by decide +kernel
theorem dX0_splitNode_77 : decode cX0_splitNode 77 = .ok (.invokevirtual 121, 3) := by decide +kernel
theorem dX0_splitNode_80 : decode cX0_splitNode 80 = .ok (.istore 4, 2) := by decide +kernel
theorem dX0_splitNode_82 : decode cX0_splitNode 82 = .ok (.aload_n 0, 1) := by decide +kernel
theorem dX0_splitNode_83 : decode cX0_splitNode 83 = .ok (.getfield 39, 3) := by decide +kernel
theorem dX0_splitNode_86 : decode cX0_splitNode 86 = .ok (.iload_n 1, 1) := by decide +kernel
theorem dX0_splitNode_87 : decode cX0_splitNode 87 = .ok (.invokevirtual 124, 3) := by decide +kernel
theorem dX0_splitNode_90 : decode cX0_splitNode 90 = .ok (.aload_n 0, 1) := by decide +kernel
theorem dX0_splitNode_91 : decode cX0_splitNode 91 = .ok (.iload_n 3, 1) := by decide +kernel
theorem dX0_splitNode_92 : decode cX0_splitNode 92 = .ok (.iload 4, 2) := by decide +kernel
theorem dX0_splitNode_94 : decode cX0_splitNode 94 = .ok (.bipush 6, 2) := by decide +kernel
theorem dX0_splitNode_96 : decode cX0_splitNode 96 = .ok (.irem, 1) := by decide +kernel
theorem dX0_splitNode_97 : decode cX0_splitNode 97 = .ok (.invokevirtual 127, 3) := by decide +kernel
theorem dX0_splitNode_100 : decode cX0_splitNode 100 = .ok (.aload_n 0, 1) := by decide +kernel
theorem dX0_splitNode_101 : decode cX0_splitNode 101 = .ok (.iload_n 1, 1) := by decide +kernel
theorem dX0_splitNode_102 : decode cX0_splitNode 102 = .ok (.iload 4, 2) := by decide +kernel
theorem dX0_splitNode_104 : decode cX0_splitNode 104 = .ok (.bipush 6, 2) := by decide +kernel
theorem dX0_splitNode_106 : decode cX0_splitNode 106 = .ok (.idiv, 1) := by decide +kernel
theorem dX0_splitNode_107 : decode cX0_splitNode 107 = .ok (.invokevirtual 127, 3) := by decide +kernel
theorem dX0_splitNode_110 : decode cX0_splitNode 110 = .ok (.iconst 0, 1) := by decide +kernel
theorem dX0_splitNode_111 : decode cX0_splitNode 111 = .ok (.istore 5, 2) := by decide +kernel
theorem dX0_splitNode_113 : decode cX0_splitNode 113 = .ok (.aload_n 0, 1) := by decide +kernel
theorem dX0_splitNode_114 : decode cX0_splitNode 114 = .ok (.getfield 22, 3) := by decide +kernel
theorem dX0_splitNode_117 : decode cX0_splitNode 117 = .ok (.ifCond .le 107, 3) := by decide +kernel
theorem dX0_splitNode_120 : decode cX0_splitNode 120 = .ok (.iload 5, 2) := by decide +kernel
theorem dX0_splitNode_122 : decode cX0_splitNode 122 = .ok (.bipush 6, 2) := by decide +kernel
theorem dX0_splitNode_124 : decode cX0_splitNode 124 = .ok (.if_icmp .ge 100, 3) := by decide +kernel
theorem dX0_splitNode_127 : decode cX0_splitNode 127 = .ok (.aload_n 0, 1) := by decide +kernel
theorem dX0_splitNode_128 : decode cX0_splitNode 128 = .ok (.getfield 39, 3) := by decide +kernel
theorem dX0_splitNode_131 : decode cX0_splitNode 131 = .ok (.iload_n 1, 1) := by decide +kernel
theorem dX0_splitNode_132 : decode cX0_splitNode 132 = .ok (.invokevirtual 47, 3) := by decide +kernel
theorem dX0_splitNode_135 : decode cX0_splitNode 135 = .ok (.aload_n 0, 1) := by decide +kernel
theorem dX0_splitNode_136 : decode cX0_splitNode 136 = .ok (.getfield 22, 3) := by decide +kernel
theorem dX0_splitNode_139 : decode cX0_splitNode 139 = .ok (.iadd, 1) := by decide +kernel
theorem dX0_splitNode_140 : decode cX0_splitNode 140 = .ok (.aload_n 0, 1) := by decide +kernel
theorem dX0_splitNode_141 : decode cX0_splitNode 141 = .ok (.getfield 39, 3) := by decide +kernel
theorem dX0_splitNode_144 : decode cX0_splitNode 144 = .ok (.invokevirtual 131, 3) := by decide +kernel
theorem dX0_splitNode_147 : decode cX0_splitNode 147 = .ok (.if_icmp .gt 11, 3) := by decide +kernel
theorem dX0_splitNode_150 : decode cX0_splitNode 150 = .ok (.aload_n 0, 1) := by decide +kernel
theorem dX0_splitNode_151 : decode cX0_splitNode 151 = .ok (.iload_n 1, 1) := by decide +kernel
theorem dX0_splitNode_152 : decode cX0_splitNode 152 = .ok (.invokevirtual 134, 3) := by decide +kernel
theorem dX0_splitNode_155 : decode cX0_splitNode 155 = .ok (.goto 63, 3) := by decide +kernel
theorem dX0_splitNode_158 : decode cX0_splitNode 158 = .ok (.aload_n 0, 1) := by decide +kernel
theorem dX0_splitNode_159 : decode cX0_splitNode 159 = .ok (.getfield 39, 3) := by decide +kernel
theorem dX0_splitNode_162 : decode cX0_splitNode 162 = .ok (.iload_n 3, 1) := by decide +kernel
theorem dX0_splitNode_163 : decode cX0_splitNode 163 = .ok (.invokevirtual 47, 3) := by decide +kernel
theorem dX0_splitNode_166 : decode cX0_splitNode 166 = .ok (.aload_n 0, 1) := by decide +kernel
theorem dX0_splitNode_167 : decode cX0_splitNode 167 = .ok (.getfield 22, 3) := by decide +kernel
theorem dX0_splitNode_170 : decode cX0_splitNode 170 = .ok (.iadd, 1) := by decide +kernel
theorem dX0_splitNode_171 : decode cX0_splitNode 171 = .ok (.aload_n 0, 1) := by decide +kernel
theorem dX0_splitNode_172 : decode cX0_splitNode 172 = .ok (.getfield 39, 3) := by decide +kernel
theorem dX0_splitNode_175 : decode cX0_splitNode 175 = .ok (.invokevirtual 131, 3) := by decide +kernel
theorem dX0_splitNode_178 : decode cX0_splitNode 178 = .ok (.if_icmp .gt 11, 3) := by decide +kernel
theorem dX0_splitNode_181 : decode cX0_splitNode 181 = .ok (.aload_n 0, 1) := by decide +kernel
theorem dX0_splitNode_182 : decode cX0_splitNode 182 = .ok (.iload_n 3, 1) := by decide +kernel
theorem dX0_splitNode_183 : decode cX0_splitNode 183 = .ok (.invokevirtual 134, 3) := by decide +kernel
theorem dX0_splitNode_186 : decode cX0_splitNode 186 = .ok (.goto 32, 3) := by decide +kernel
theorem dX0_splitNode_189 : decode cX0_splitNode 189 = .ok (.aload_n 0, 1) := by decide +kernel
theorem dX0_splitNode_190 : decode cX0_splitNode 190 = .ok (.iload_n 1, 1) := by decide +kernel
theorem dX0_splitNode_191 : decode cX0_splitNode 191 = .ok (.iload_n 3, 1) := by decide +kernel
theorem dX0_splitNode_192 : decode cX0_splitNode 192 = .ok (.invokevirtual 137, 3) := by decide +kernel
theorem dX0_splitNode_195 : decode cX0_splitNode 195 = .ok (.istore 6, 2) := by decide +kernel
theorem dX0_splitNode_197 : decode cX0_splitNode 197 = .ok (.aload_n 0, 1) := by decide +kernel
theorem dX0_splitNode_198 : decode cX0_splitNode 198 = .ok (.aload_n 0, 1) := by decide +kernel
theorem dX0_splitNode_199 : decode cX0_splitNode 199 = .ok (.iload_n 1, 1) := by decide +kernel
theorem dX0_splitNode_200 : decode cX0_splitNode 200 = .ok (.iload_n 3, 1) := by decide +kernel
theorem dX0_splitNode_201 : decode cX0_splitNode 201 = .ok (.aload_n 0, 1) := by decide +kernel
theorem dX0_splitNode_202 : decode cX0_splitNode 202 = .ok (.getfield 19, 3) := by decide +kernel
theorem dX0_splitNode_205 : decode cX0_splitNode 205 = .ok (.iload 6, 2) := by decide +kernel
theorem dX0_splitNode_207 : decode cX0_splitNode 207 = .ok (.invokestatic 140, 3) := by decide +kernel
theorem dX0_splitNode_210 : decode cX0_splitNode 210 = .ok (.invokevirtual 144, 3) := by decide +kernel
theorem dX0_splitNode_213 : decode cX0_splitNode 213 = .ok (.iload 6, 2) := by decide +kernel
theorem dX0_splitNode_215 : decode cX0_splitNode 215 = .ok (.invokevirtual 127, 3) := by decide +kernel
theorem dX0_splitNode_218 : decode cX0_splitNode 218 = .ok (.iinc 5 1, 3) := by decide +kernel
theorem dX0_splitNode_221 : decode cX0_splitNode 221 = .ok (.goto (-108), 3) := by decide +kernel
theorem dX0_splitNode_224 : decode cX0_splitNode 224 = .ok (.aload_n 0, 1) := by decide +kernel
theorem dX0_splitNode_225 : decode cX0_splitNode 225 = .ok (.getfield 39, 3) := by decide +kernel
theorem dX0_splitNode_228 : decode cX0_splitNode 228 = .ok (.iload_n 2, 1) := by decide +kernel
theorem dX0_splitNode_229 : decode cX0_splitNode 229 = .ok (.iload_n 1, 1) := by decide +kernel
theorem dX0_splitNode_230 : decode cX0_splitNode 230 = .ok (.iload_n 3, 1) := by decide +kernel
theorem dX0_splitNode_231 : decode cX0_splitNode 231 = .ok (.invokevirtual 148, 3) := by decide +kernel
theorem dX0_splitNode_234 : decode cX0_splitNode 234 = .ok (.iload_n 2, 1) := by decide +kernel
theorem dX0_splitNode_235 : decode cX0_splitNode 235 = .ok (.ireturn, 1) := by decide +kernel
theorem dX0_fillPool_0 : decode cX0_fillPool 0 = .ok (.aload_n 0, 1) := by decide +kernel
theorem dX0_fillPool_1 : decode cX0_fillPool 1 = .ok (.aload_n 0, 1) := by decide +kernel
theorem dX0_fillPool_2 : decode cX0_fillPool 2 = .ok (.getfield 39, 3) := by decide +kernel
theorem dX0_fillPool_5 : decode cX0_fillPool 5 = .ok (.iload_n 1, 1) := by decide +kernel
theorem dX0_fillPool_6 : decode cX0_fillPool 6 = .ok (.invokevirtual 47, 3) := by decide +kernel
theorem dX0_fillPool_9 : decode cX0_fillPool 9 = .ok (.putfield 22, 3) := by decide +kernel
theorem dX0_fillPool_12 : decode cX0_fillPool 12 = .ok (.iconst 0, 1) := by decide +kernel
theorem dX0_fillPool_13 : decode cX0_fillPool 13 = .ok (.istore_n 2, 1) := by decide +kernel
theorem dX0_fillPool_14 : decode cX0_fillPool 14 = .ok (.iload_n 2, 1) := by decide +kernel
theorem dX0_fillPool_15 : decode cX0_fillPool 15 = .ok (.aload_n 0, 1) := by decide +kernel
theorem dX0_fillPool_16 : decode cX0_fillPool 16 = .ok (.getfield 22, 3) := by decide +kernel
theorem dX0_fillPool_19 : decode cX0_fillPool 19 = .ok (.if_icmp .ge 26, 3) := by decide +kernel
theorem dX0_fillPool_22 : decode cX0_fillPool 22 = .ok (.aload_n 0, 1) := by decide +kernel
theorem dX0_fillPool_23 : decode cX0_fillPool 23 = .ok (.getfield 19, 3) := by decide +kernel
theorem dX0_fillPool_26 : decode cX0_fillPool 26 = .ok (.iload_n 2, 1) := by decide +kernel
theorem dX0_fillPool_27 : decode cX0_fillPool 27 = .ok (.aload_n 0, 1) := by decide +kernel
theorem dX0_fillPool_28 : decode cX0_fillPool 28 = .ok (.getfield 39, 3) := by decide +kernel
theorem dX0_fillPool_31 : decode cX0_fillPool 31 = .ok (.iload_n 1, 1) := by decide +kernel
theorem dX0_fillPool_32 : decode cX0_fillPool 32 = .ok (.iload_n 2, 1) := by decide +kernel
theorem dX0_fillPool_33 : decode cX0_fillPool 33 = .ok (.invokevirtual 80, 3) := by decide +kernel
theorem dX0_fillPool_36 : decode cX0_fillPool 36 = .ok (.invokestatic 151, 3) := by decide +kernel
theorem dX0_fillPool_39 : decode cX0_fillPool 39 = .ok (.iinc 2 1, 3) := by decide +kernel
theorem dX0_fillPool_42 : decode cX0_fillPool 42 = .ok (.goto (-28), 3) := by decide +kernel
theorem dX0_fillPool_45 : decode cX0_fillPool 45 = .ok (.return_, 1) := by decide +kernel
theorem dX0_findSeeds_0 : decode cX0_findSeeds 0 = .ok (.iconst (-1), 1) := by decide +kernel
theorem dX0_findSeeds_1 : decode cX0_findSeeds 1 = .ok (.istore_n 1, 1) := by decide +kernel
theorem dX0_findSeeds_2 : decode cX0_findSeeds 2 = .ok (.iconst 0, 1) := by decide +kernel
theorem dX0_findSeeds_3 : decode cX0_findSeeds 3 = .ok (.istore_n 2, 1) := by decide +kernel
theorem dX0_findSeeds_4 : decode cX0_findSeeds 4 = .ok (.iconst 0, 1) := by decide +kernel
theorem dX0_findSeeds_5 : decode cX0_findSeeds 5 = .ok (.istore_n 3, 1) := by decide +kernel
theorem dX0_findSeeds_6 : decode cX0_findSeeds 6 = .ok (.iload_n 3, 1) := by decide +kernel
theorem dX0_findSeeds_7 : decode cX0_findSeeds 7 = .ok (.aload_n 0, 1) := by decide +kernel
theorem dX0_findSeeds_8 : decode cX0_findSeeds 8 = .ok (.getfield 22, 3) := by decide +kernel
theorem dX0_findSeeds_11 : decode cX0_findSeeds 11 = .ok (.if_icmp .ge 105, 3) := by decide +kernel
theorem dX0_findSeeds_14 : decode cX0_findSeeds 14 = .ok (.iload_n 3, 1) := by decide +kernel
theorem dX0_findSeeds_15 : decode cX0_findSeeds 15 = .ok (.iconst 1, 1) := by decide +kernel
theorem dX0_findSeeds_16 : decode cX0_findSeeds 16 = .ok (.iadd, 1) := by decide +kernel
theorem dX0_findSeeds_17 : decode cX0_findSeeds 17 = .ok (.istore 4, 2) := by decide +kernel
theorem dX0_findSeeds_19 : decode cX0_findSeeds 19 = .ok (.iload 4, 2) := by decide +kernel
theorem dX0_findSeeds_21 : decode cX0_findSeeds 21 = .ok (.aload_n 0, 1) := by decide +kernel
theorem dX0_findSeeds_22 : decode cX0_findSeeds 22 = .ok (.getfield 22, 3) := by decide +kernel
theorem dX0_findSeeds_25 : decode cX0_findSeeds 25 = .ok (.if_icmp .ge 85, 3) := by decide +kernel
theorem dX0_findSeeds_28 : decode cX0_findSeeds 28 = .ok (.aload_n 0, 1) := by decide +kernel
theorem dX0_findSeeds_29 : decode cX0_findSeeds 29 = .ok (.getfield 19, 3) := by decide +kernel
theorem dX0_findSeeds_32 : decode cX0_findSeeds 32 = .ok (.iload_n 3, 1) := by decide +kernel
theorem dX0_findSeeds_33 : decode cX0_findSeeds 33 = .ok (.invokestatic 140, 3) := by decide +kernel
theorem dX0_findSeeds_36 : decode cX0_findSeeds 36 = .ok (.istore 5, 2) := by decide +kernel
theorem dX0_findSeeds_38 : decode cX0_findSeeds 38 = .ok (.aload_n 0, 1) := by decide +kernel
theorem dX0_findSeeds_39 : decode cX0_findSeeds 39 = .ok (.getfield 19, 3) := by decide +kernel
theorem dX0_findSeeds_42 : decode cX0_findSeeds 42 = .ok (.iload 4, 2) := by decide +kernel
theorem dX0_findSeeds_44 : decode cX0_findSeeds 44 = .ok (.invokestatic 140, 3) := by decide +kernel
theorem dX0_findSeeds_47 : decode cX0_findSeeds 47 = .ok (.istore 6, 2) := by decide +kernel
theorem dX0_findSeeds_49 : decode cX0_findSeeds 49 = .ok (.aload_n 0, 1) := by decide +kernel
theorem dX0_findSeeds_50 : decode cX0_findSeeds 50 = .ok (.getfield 39, 3) := by decide +kernel
theorem dX0_findSeeds_53 : decode cX0_findSeeds 53 = .ok (.iload 5, 2) := by decide +kernel
theorem dX0_findSeeds_55 : decode cX0_findSeeds 55 = .ok (.iload 6, 2) := by decide +kernel
theorem dX0_findSeeds_57 : decode cX0_findSeeds 57 = .ok (.invokevirtual 86, 3) := by decide +kernel
theorem dX0_findSeeds_60 : decode cX0_findSeeds 60 = .ok (.aload_n 0, 1) := by decide +kernel
theorem dX0_findSeeds_61 : decode cX0_findSeeds 61 = .ok (.getfield 39, 3) := by decide +kernel
theorem dX0_findSeeds_64 : decode cX0_findSeeds 64 = .ok (.iload 5, 2) := by decide +kernel
theorem dX0_findSeeds_66 : decode cX0_findSeeds 66 = .ok (.invokevirtual 83, 3) := by decide +kernel
theorem dX0_findSeeds_69 : decode cX0_findSeeds 69 = .ok (.isub, 1) := by decide +kernel
theorem dX0_findSeeds_70 : decode cX0_findSeeds 70 = .ok (.aload_n 0, 1) := by decide +kernel
theorem dX0_findSeeds_71 : decode cX0_findSeeds 71 = .ok (.getfield 39, 3) := by decide +kernel
theorem dX0_findSeeds_74 : decode cX0_findSeeds 74 = .ok (.iload 6, 2) := by decide +kernel
theorem dX0_findSeeds_76 : decode cX0_findSeeds 76 = .ok (.invokevirtual 83, 3) := by decide +kernel
theorem dX0_findSeeds_79 : decode cX0_findSeeds 79 = .ok (.isub, 1) := by decide +kernel
theorem dX0_findSeeds_80 : decode cX0_findSeeds 80 = .ok (.istore 7, 2) := by decide +kernel
theorem dX0_findSeeds_82 : decode cX0_findSeeds 82 = .ok (.iload_n 1, 1) := by decide +kernel
theorem dX0_findSeeds_83 : decode cX0_findSeeds 83 = .ok (.iconst (-1), 1) := by decide +kernel
theorem dX0_findSeeds_84 : decode cX0_findSeeds 84 = .ok (.if_icmp .eq 9, 3) := by decide +kernel
theorem dX0_findSeeds_87 : decode cX0_findSeeds 87 = .ok (.iload 7, 2) := by decide +kernel
theorem dX0_findSeeds_89 : decode cX0_findSeeds 89 = .ok (.iload_n 2, 1) := by decide +kernel
theorem dX0_findSeeds_90 : decode cX0_findSeeds 90 = .ok (.if_icmp .le 14, 3) := by decide +kernel
theorem dX0_findSeeds_93 : decode cX0_findSeeds 93 = .ok (.iload_n 3, 1) := by decide +kernel
theorem dX0_findSeeds_94 : decode cX0_findSeeds 94 = .ok (.bipush 6, 2) := by decide +kernel
theorem dX0_findSeeds_96 : decode cX0_findSeeds 96 = .ok (.imul, 1) := by decide +kernel
theorem dX0_findSeeds_97 : decode cX0_findSeeds 97 = .ok (.iload 4, 2) := by decide +kernel
theorem dX0_findSeeds_99 : decode cX0_findSeeds 99 = .ok (.iadd, 1) := by decide +kernel
theorem dX0_findSeeds_100 : decode cX0_findSeeds 100 = .ok (.istore_n 1, 1) := by decide +kernel
theorem dX0_findSeeds_101 : decode cX0_findSeeds 101 = .ok (.iload 7, 2) := by decide +kernel
theorem dX0_findSeeds_103 : decode cX0_findSeeds 103 = .ok (.istore_n 2, 1) := by decide +kernel
theorem dX0_findSeeds_104 : decode cX0_findSeeds 104 = .ok (.iinc 4 1, 3) := by decide +kernel
theorem dX0_findSeeds_107 : decode cX0_findSeeds 107 = .ok (.goto (-88), 3) := by decide +kernel
theorem dX0_findSeeds_110 : decode cX0_findSeeds 110 = .ok (.iinc 3 1, 3) := by decide +kernel
theorem dX0_findSeeds_113 : decode cX0_findSeeds 113 = .ok (.goto (-107), 3) := by decide +kernel
theorem dX0_findSeeds_116 : decode cX0_findSeeds 116 = .ok (.iload_n 1, 1) := by decide +kernel
theorem dX0_findSeeds_117 : decode cX0_findSeeds 117 = .ok (.ireturn, 1) := by decide +kernel
theorem dX0_mostDecided_0 : decode cX0_mostDecided 0 = .ok (.iconst (-1), 1) := by decide +kernel
theorem dX0_mostDecided_1 : decode cX0_mostDecided 1 = .ok (.istore_n 3, 1) := by decide +kernel
theorem dX0_mostDecided_2 : decode cX0_mostDecided 2 = .ok (.iconst 0, 1) := by decide +kernel
theorem dX0_mostDecided_3 : decode cX0_mostDecided 3 = .ok (.istore 4, 2) := by decide +kernel
theorem dX0_mostDecided_5 : decode cX0_mostDecided 5 = .ok (.iconst 0, 1) := by decide +kernel
theorem dX0_mostDecided_6 : decode cX0_mostDecided 6 = .ok (.istore 5, 2) := by decide +kernel
theorem dX0_mostDecided_8 : decode cX0_mostDecided 8 = .ok (.iload 5, 2) := by decide +kernel
theorem dX0_mostDecided_10 : decode cX0_mostDecided 10 = .ok (.aload_n 0, 1) := by decide +kernel
theorem dX0_mostDecided_11 : decode cX0_mostDecided 11 = .ok (.getfield 22, 3) := by decide +kernel
theorem dX0_mostDecided_14 : decode cX0_mostDecided 14 = .ok (.if_icmp .ge 65, 3) := by decide +kernel
theorem dX0_mostDecided_17 : decode cX0_mostDecided 17 = .ok (.aload_n 0, 1) := by decide +kernel
theorem dX0_mostDecided_18 : decode cX0_mostDecided 18 = .ok (.getfield 19, 3) := by decide +kernel
theorem dX0_mostDecided_21 : decode cX0_mostDecided 21 = .ok (.iload 5, 2) := by decide +kernel
theorem dX0_mostDecided_23 : decode cX0_mostDecided 23 = .ok (.invokestatic 140, 3) := by decide +kernel
theorem dX0_mostDecided_26 : decode cX0_mostDecided 26 = .ok (.istore 6, 2) := by decide +kernel
theorem dX0_mostDecided_28 : decode cX0_mostDecided 28 = .ok (.aload_n 0, 1) := by decide +kernel
theorem dX0_mostDecided_29 : decode cX0_mostDecided 29 = .ok (.getfield 39, 3) := by decide +kernel
theorem dX0_mostDecided_32 : decode cX0_mostDecided 32 = .ok (.iload_n 1, 1) := by decide +kernel
theorem dX0_mostDecided_33 : decode cX0_mostDecided 33 = .ok (.iload 6, 2) := by decide +kernel
theorem dX0_mostDecided_35 : decode cX0_mostDecided 35 = .ok (.invokevirtual 155, 3) := by decide +kernel
theorem dX0_mostDecided_38 : decode cX0_mostDecided 38 = .ok (.aload_n 0, 1) := by decide +kernel
theorem dX0_mostDecided_39 : decode cX0_mostDecided 39 = .ok (.getfield 39, 3) := by decide +kernel
theorem dX0_mostDecided_42 : decode cX0_mostDecided 42 = .ok (.iload_n 2, 1) := by decide +kernel
theorem dX0_mostDecided_43 : decode cX0_mostDecided 43 = .ok (.iload 6, 2) := by decide +kernel
theorem dX0_mostDecided_45 : decode cX0_mostDecided 45 = .ok (.invokevirtual 155, 3) := by decide +kernel
theorem dX0_mostDecided_48 : decode cX0_mostDecided 48 = .ok (.isub, 1) := by decide +kernel
theorem dX0_mostDecided_49 : decode cX0_mostDecided 49 = .ok (.invokestatic 158, 3) := by decide +kernel
theorem dX0_mostDecided_52 : decode cX0_mostDecided 52 = .ok (.istore 7, 2) := by decide +kernel
theorem dX0_mostDecided_54 : decode cX0_mostDecided 54 = .ok (.iload_n 3, 1) := by decide +kernel
theorem dX0_mostDecided_55 : decode cX0_mostDecided 55 = .ok (.iconst (-1), 1) := by decide +kernel
theorem dX0_mostDecided_56 : decode cX0_mostDecided 56 = .ok (.if_icmp .eq 10, 3) := by decide +kernel
theorem dX0_mostDecided_59 : decode cX0_mostDecided 59 = .ok (.iload 7, 2) := by decide +kernel
theorem dX0_mostDecided_61 : decode cX0_mostDecided 61 = .ok (.iload 4, 2) := by decide +kernel
theorem dX0_mostDecided_63 : decode cX0_mostDecided 63 = .ok (.if_icmp .le 10, 3) := by decide +kernel
theorem dX0_mostDecided_66 : decode cX0_mostDecided 66 = .ok (.iload 5, 2) := by decide +kernel
theorem dX0_mostDecided_68 : decode cX0_mostDecided 68 = .ok (.istore_n 3, 1) := by decide +kernel
theorem dX0_mostDecided_69 : decode cX0_mostDecided 69 = .ok (.iload 7, 2) := by decide +kernel
theorem dX0_mostDecided_71 : decode cX0_mostDecided 71 = .ok (.istore 4, 2) := by decide +kernel
theorem dX0_mostDecided_73 : decode cX0_mostDecided 73 = .ok (.iinc 5 1, 3) := by decide +kernel
theorem dX0_mostDecided_76 : decode cX0_mostDecided 76 = .ok (.goto (-68), 3) := by decide +kernel
theorem dX0_mostDecided_79 : decode cX0_mostDecided 79 = .ok (.iload_n 3, 1) := by decide +kernel
theorem dX0_mostDecided_80 : decode cX0_mostDecided 80 = .ok (.ireturn, 1) := by decide +kernel
theorem dX0_betterGroup_0 : decode cX0_betterGroup 0 = .ok (.aload_n 0, 1) := by decide +kernel
theorem dX0_betterGroup_1 : decode cX0_betterGroup 1 = .ok (.getfield 39, 3) := by decide +kernel
theorem dX0_betterGroup_4 : decode cX0_betterGroup 4 = .ok (.iload_n 1, 1) := by decide +kernel
theorem dX0_betterGroup_5 : decode cX0_betterGroup 5 = .ok (.iload_n 3, 1) := by decide +kernel
theorem dX0_betterGroup_6 : decode cX0_betterGroup 6 = .ok (.invokevirtual 155, 3) := by decide +kernel
theorem dX0_betterGroup_9 : decode cX0_betterGroup 9 = .ok (.aload_n 0, 1) := by decide +kernel
theorem dX0_betterGroup_10 : decode cX0_betterGroup 10 = .ok (.getfield 39, 3) := by decide +kernel
theorem dX0_betterGroup_13 : decode cX0_betterGroup 13 = .ok (.iload_n 2, 1) := by decide +kernel
theorem dX0_betterGroup_14 : decode cX0_betterGroup 14 = .ok (.iload_n 3, 1) := by decide +kernel
theorem dX0_betterGroup_15 : decode cX0_betterGroup 15 = .ok (.invokevirtual 155, 3) := by decide +kernel
theorem dX0_betterGroup_18 : decode cX0_betterGroup 18 = .ok (.isub, 1) := by decide +kernel
theorem dX0_betterGroup_19 : decode cX0_betterGroup 19 = .ok (.istore 4, 2) := by decide +kernel
theorem dX0_betterGroup_21 : decode cX0_betterGroup 21 = .ok (.iload 4, 2) := by decide +kernel
theorem dX0_betterGroup_23 : decode cX0_betterGroup 23 = .ok (.ifCond .ne 22, 3) := by decide +kernel
theorem dX0_betterGroup_26 : decode cX0_betterGroup 26 = .ok (.aload_n 0, 1) := by decide +kernel
theorem dX0_betterGroup_27 : decode cX0_betterGroup 27 = .ok (.getfield 39, 3) := by decide +kernel
theorem dX0_betterGroup_30 : decode cX0_betterGroup 30 = .ok (.iload_n 1, 1) := by decide +kernel
theorem dX0_betterGroup_31 : decode cX0_betterGroup 31 = .ok (.invokevirtual 83, 3) := by decide +kernel
theorem dX0_betterGroup_34 : decode cX0_betterGroup 34 = .ok (.aload_n 0, 1) := by decide +kernel
theorem dX0_betterGroup_35 : decode cX0_betterGroup 35 = .ok (.getfield 39, 3) := by decide +kernel
theorem dX0_betterGroup_38 : decode cX0_betterGroup 38 = .ok (.iload_n 2, 1) := by decide +kernel
theorem dX0_betterGroup_39 : decode cX0_betterGroup 39 = .ok (.invokevirtual 83, 3) := by decide +kernel
theorem dX0_betterGroup_42 : decode cX0_betterGroup 42 = .ok (.isub, 1) := by decide +kernel
theorem dX0_betterGroup_43 : decode cX0_betterGroup 43 = .ok (.istore 4, 2) := by decide +kernel
theorem dX0_betterGroup_45 : decode cX0_betterGroup 45 = .ok (.iload 4, 2) := by decide +kernel
theorem dX0_betterGroup_47 : decode cX0_betterGroup 47 = .ok (.ifCond .ne 22, 3) := by decide +kernel
theorem dX0_betterGroup_50 : decode cX0_betterGroup 50 = .ok (.aload_n 0, 1) := by decide +kernel
theorem dX0_betterGroup_51 : decode cX0_betterGroup 51 = .ok (.getfield 39, 3) := by decide +kernel
theorem dX0_betterGroup_54 : decode cX0_betterGroup 54 = .ok (.iload_n 1, 1) := by decide +kernel
theorem dX0_betterGroup_55 : decode cX0_betterGroup 55 = .ok (.invokevirtual 47, 3) := by decide +kernel
theorem dX0_betterGroup_58 : decode cX0_betterGroup 58 = .ok (.aload_n 0, 1) := by decide +kernel
theorem dX0_betterGroup_59 : decode cX0_betterGroup 59 = .ok (.getfield 39, 3) := by decide +kernel
theorem dX0_betterGroup_62 : decode cX0_betterGroup 62 = .ok (.iload_n 2, 1) := by decide +kernel
theorem dX0_betterGroup_63 : decode cX0_betterGroup 63 = .ok (.invokevirtual 47, 3) := by decide +kernel
theorem dX0_betterGroup_66 : decode cX0_betterGroup 66 = .ok (.isub, 1) := by decide +kernel
theorem dX0_betterGroup_67 : decode cX0_betterGroup 67 = .ok (.istore 4, 2) := by decide +kernel
theorem dX0_betterGroup_69 : decode cX0_betterGroup 69 = .ok (.iload 4, 2) := by decide +kernel
theorem dX0_betterGroup_71 : decode cX0_betterGroup 71 = .ok (.ifCond .gt 7, 3) := by decide +kernel
theorem dX0_betterGroup_74 : decode cX0_betterGroup 74 = .ok (.iload_n 1, 1) := by decide +kernel
theorem dX0_betterGroup_75 : decode cX0_betterGroup 75 = .ok (.goto 4, 3) := by decide +kernel
theorem dX0_betterGroup_78 : decode cX0_betterGroup 78 = .ok (.iload_n 2, 1) := by decide +kernel
theorem dX0_betterGroup_79 : decode cX0_betterGroup 79 = .ok (.ireturn, 1) := by decide +kernel
theorem dX0_giveTo_0 : decode cX0_giveTo 0 = .ok (.aload_n 0, 1) := by decide +kernel
theorem dX0_giveTo_1 : decode cX0_giveTo 1 = .ok (.getfield 39, 3) := by decide +kernel
theorem dX0_giveTo_4 : decode cX0_giveTo 4 = .ok (.iload_n 1, 1) := by decide +kernel
theorem dX0_giveTo_5 : decode cX0_giveTo 5 = .ok (.aload_n 0, 1) := by decide +kernel
theorem dX0_giveTo_6 : decode cX0_giveTo 6 = .ok (.getfield 39, 3) := by decide +kernel
theorem dX0_giveTo_9 : decode cX0_giveTo 9 = .ok (.iload_n 1, 1) := by decide +kernel
theorem dX0_giveTo_10 : decode cX0_giveTo 10 = .ok (.invokevirtual 47, 3) := by decide +kernel
theorem dX0_giveTo_13 : decode cX0_giveTo 13 = .ok (.aload_n 0, 1) := by decide +kernel
theorem dX0_giveTo_14 : decode cX0_giveTo 14 = .ok (.getfield 19, 3) := by decide +kernel
theorem dX0_giveTo_17 : decode cX0_giveTo 17 = .ok (.iload_n 2, 1) := by decide +kernel
theorem dX0_giveTo_18 : decode cX0_giveTo 18 = .ok (.invokestatic 140, 3) := by decide +kernel
theorem dX0_giveTo_21 : decode cX0_giveTo 21 = .ok (.invokevirtual 52, 3) := by decide +kernel
theorem dX0_giveTo_24 : decode cX0_giveTo 24 = .ok (.aload_n 0, 1) := by decide +kernel
theorem dX0_giveTo_25 : decode cX0_giveTo 25 = .ok (.dup, 1) := by decide +kernel
theorem dX0_giveTo_26 : decode cX0_giveTo 26 = .ok (.getfield 22, 3) := by decide +kernel
theorem dX0_giveTo_29 : decode cX0_giveTo 29 = .ok (.iconst 1, 1) := by decide +kernel
theorem dX0_giveTo_30 : decode cX0_giveTo 30 = .ok (.isub, 1) := by decide +kernel
theorem dX0_giveTo_31 : decode cX0_giveTo 31 = .ok (.putfield 22, 3) := by decide +kernel
theorem dX0_giveTo_34 : decode cX0_giveTo 34 = .ok (.iload_n 2, 1) := by decide +kernel
theorem dX0_giveTo_35 : decode cX0_giveTo 35 = .ok (.iconst 0, 1) := by decide +kernel
theorem dX0_giveTo_36 : decode cX0_giveTo 36 = .ok (.invokestatic 163, 3) := by decide +kernel
theorem dX0_giveTo_39 : decode cX0_giveTo 39 = .ok (.istore_n 3, 1) := by decide +kernel
theorem dX0_giveTo_40 : decode cX0_giveTo 40 = .ok (.iload_n 3, 1) := by decide +kernel
theorem dX0_giveTo_41 : decode cX0_giveTo 41 = .ok (.aload_n 0, 1) := by decide +kernel
theorem dX0_giveTo_42 : decode cX0_giveTo 42 = .ok (.getfield 22, 3) := by decide +kernel
theorem dX0_giveTo_45 : decode cX0_giveTo 45 = .ok (.if_icmp .ge 27, 3) := by decide +kernel
theorem dX0_giveTo_48 : decode cX0_giveTo 48 = .ok (.aload_n 0, 1) := by decide +kernel
theorem dX0_giveTo_49 : decode cX0_giveTo 49 = .ok (.getfield 19, 3) := by decide +kernel
theorem dX0_giveTo_52 : decode cX0_giveTo 52 = .ok (.iload_n 3, 1) := by decide +kernel
theorem dX0_giveTo_53 : decode cX0_giveTo 53 = .ok (.aload_n 0, 1) := by decide +kernel
theorem dX0_giveTo_54 : decode cX0_giveTo 54 = .ok (.getfield 19, 3) := by decide +kernel
theorem dX0_giveTo_57 : decode cX0_giveTo 57 = .ok (.iload_n 3, 1) := by decide +kernel
theorem dX0_giveTo_58 : decode cX0_giveTo 58 = .ok (.iconst 1, 1) := by decide +kernel
theorem dX0_giveTo_59 : decode cX0_giveTo 59 = .ok (.iadd, 1) := by decide +kernel
theorem dX0_giveTo_60 : decode cX0_giveTo 60 = .ok (.invokestatic 140, 3) := by decide +kernel
theorem dX0_giveTo_63 : decode cX0_giveTo 63 = .ok (.invokestatic 151, 3) := by decide +kernel
theorem dX0_giveTo_66 : decode cX0_giveTo 66 = .ok (.iinc 3 1, 3) := by decide +kernel
theorem dX0_giveTo_69 : decode cX0_giveTo 69 = .ok (.goto (-29), 3) := by decide +kernel
theorem dX0_giveTo_72 : decode cX0_giveTo 72 = .ok (.return_, 1) := by decide +kernel
theorem dX0_giveAllTo_0 : decode cX0_giveAllTo 0 = .ok (.iconst 0, 1) := by decide +kernel
theorem dX0_giveAllTo_1 : decode cX0_giveAllTo 1 = .ok (.istore_n 2, 1) := by decide +kernel
theorem dX0_giveAllTo_2 : decode cX0_giveAllTo 2 = .ok (.iload_n 2, 1) := by decide +kernel
theorem dX0_giveAllTo_3 : decode cX0_giveAllTo 3 = .ok (.aload_n 0, 1) := by decide +kernel
theorem dX0_giveAllTo_4 : decode cX0_giveAllTo 4 = .ok (.getfield 22, 3) := by decide +kernel
theorem dX0_giveAllTo_7 : decode cX0_giveAllTo 7 = .ok (.if_icmp .ge 33, 3) := by decide +kernel
theorem dX0_giveAllTo_10 : decode cX0_giveAllTo 10 = .ok (.aload_n 0, 1) := by decide +kernel
theorem dX0_giveAllTo_11 : decode cX0_giveAllTo 11 = .ok (.getfield 39, 3) := by decide +kernel
theorem dX0_giveAllTo_14 : decode cX0_giveAllTo 14 = .ok (.iload_n 1, 1) := by decide +kernel
theorem dX0_giveAllTo_15 : decode cX0_giveAllTo 15 = .ok (.aload_n 0, 1) := by decide +kernel
theorem dX0_giveAllTo_16 : decode cX0_giveAllTo 16 = .ok (.getfield 39, 3) := by decide +kernel
theorem dX0_giveAllTo_19 : decode cX0_giveAllTo 19 = .ok (.iload_n 1, 1) := by decide +kernel
theorem dX0_giveAllTo_20 : decode cX0_giveAllTo 20 = .ok (.invokevirtual 47, 3) := by decide +kernel
theorem dX0_giveAllTo_23 : decode cX0_giveAllTo 23 = .ok (.aload_n 0, 1) := by decide +kernel
theorem dX0_giveAllTo_24 : decode cX0_giveAllTo 24 = .ok (.getfield 19, 3) := by decide +kernel
theorem dX0_giveAllTo_27 : decode cX0_giveAllTo 27 = .ok (.iload_n 2, 1) := by decide +kernel
theorem dX0_giveAllTo_28 : decode cX0_giveAllTo 28 = .ok (.invokestatic 140, 3) := by decide +kernel
theorem dX0_giveAllTo_31 : decode cX0_giveAllTo 31 = .ok (.invokevirtual 52, 3) := by decide +kernel
theorem dX0_giveAllTo_34 : decode cX0_giveAllTo 34 = .ok (.iinc 2 1, 3) := by decide +kernel
theorem dX0_giveAllTo_37 : decode cX0_giveAllTo 37 = .ok (.goto (-35), 3) := by decide +kernel
theorem dX0_giveAllTo_40 : decode cX0_giveAllTo 40 = .ok (.aload_n 0, 1) := by decide +kernel
theorem dX0_giveAllTo_41 : decode cX0_giveAllTo 41 = .ok (.iconst 0, 1) := by decide +kernel
theorem dX0_giveAllTo_42 : decode cX0_giveAllTo 42 = .ok (.putfield 22, 3) := by decide +kernel
theorem dX0_giveAllTo_45 : decode cX0_giveAllTo 45 = .ok (.return_, 1) := by decide +kernel
theorem dX0_takeOutBox_0 : decode cX0_takeOutBox 0 = .ok (.aload_n 0, 1) := by decide +kernel
theorem dX0_takeOutBox_1 : decode cX0_takeOutBox 1 = .ok (.getfield 39, 3) := by decide +kernel
theorem dX0_takeOutBox_4 : decode cX0_takeOutBox 4 = .ok (.iload_n 1, 1) := by decide +kernel
theorem dX0_takeOutBox_5 : decode cX0_takeOutBox 5 = .ok (.invokevirtual 109, 3) := by decide +kernel
theorem dX0_takeOutBox_8 : decode cX0_takeOutBox 8 = .ok (.istore_n 2, 1) := by decide +kernel
theorem dX0_takeOutBox_9 : decode cX0_takeOutBox 9 = .ok (.aload_n 0, 1) := by decide +kernel
theorem dX0_takeOutBox_10 : decode cX0_takeOutBox 10 = .ok (.getfield 39, 3) := by decide +kernel
theorem dX0_takeOutBox_13 : decode cX0_takeOutBox 13 = .ok (.iload_n 1, 1) := by decide +kernel
theorem dX0_takeOutBox_14 : decode cX0_takeOutBox 14 = .ok (.invokevirtual 98, 3) := by decide +kernel
theorem dX0_takeOutBox_17 : decode cX0_takeOutBox 17 = .ok (.aload_n 0, 1) := by decide +kernel
theorem dX0_takeOutBox_18 : decode cX0_takeOutBox 18 = .ok (.getfield 39, 3) := by decide +kernel
theorem dX0_takeOutBox_21 : decode cX0_takeOutBox 21 = .ok (.iload_n 1, 1) := by decide +kernel
theorem dX0_takeOutBox_22 : decode cX0_takeOutBox 22 = .ok (.invokevirtual 166, 3) := by decide +kernel
theorem dX0_takeOutBox_25 : decode cX0_takeOutBox 25 = .ok (.aload_n 0, 1) := by decide +kernel
theorem dX0_takeOutBox_26 : decode cX0_takeOutBox 26 = .ok (.iconst 0, 1) := by decide +kernel
theorem dX0_takeOutBox_27 : decode cX0_takeOutBox 27 = .ok (.putfield 15, 3) := by decide +kernel
theorem dX0_takeOutBox_30 : decode cX0_takeOutBox 30 = .ok (.iconst 0, 1) := by decide +kernel
theorem dX0_takeOutBox_31 : decode cX0_takeOutBox 31 = .ok (.istore_n 3, 1) := by decide +kernel
theorem dX0_takeOutBox_32 : decode cX0_takeOutBox 32 = .ok (.aload_n 0, 1) := by decide +kernel
theorem dX0_takeOutBox_33 : decode cX0_takeOutBox 33 = .ok (.getfield 39, 3) := by decide +kernel
theorem dX0_takeOutBox_36 : decode cX0_takeOutBox 36 = .ok (.iload_n 2, 1) := by decide +kernel
theorem dX0_takeOutBox_37 : decode cX0_takeOutBox 37 = .ok (.invokevirtual 169, 3) := by decide +kernel
theorem dX0_takeOutBox_40 : decode cX0_takeOutBox 40 = .ok (.ifCond .eq 62, 3) := by decide +kernel
theorem dX0_takeOutBox_43 : decode cX0_takeOutBox 43 = .ok (.iload_n 2, 1) := by decide +kernel
theorem dX0_takeOutBox_44 : decode cX0_takeOutBox 44 = .ok (.aload_n 0, 1) := by decide +kernel
theorem dX0_takeOutBox_45 : decode cX0_takeOutBox 45 = .ok (.getfield 39, 3) := by decide +kernel
theorem dX0_takeOutBox_48 : decode cX0_takeOutBox 48 = .ok (.getfield 73, 3) := by decide +kernel
theorem dX0_takeOutBox_51 : decode cX0_takeOutBox 51 = .ok (.if_icmp .eq 51, 3) := by decide +kernel
theorem dX0_takeOutBox_54 : decode cX0_takeOutBox 54 = .ok (.iload_n 3, 1) := by decide +kernel
theorem dX0_takeOutBox_55 : decode cX0_takeOutBox 55 = .ok (.ldc 59, 2) := by decide +kernel
theorem dX0_takeOutBox_57 : decode cX0_takeOutBox 57 = .ok (.if_icmp .ge 45, 3) := by decide +kernel
theorem dX0_takeOutBox_60 : decode cX0_takeOutBox 60 = .ok (.aload_n 0, 1) := by decide +kernel
theorem dX0_takeOutBox_61 : decode cX0_takeOutBox 61 = .ok (.getfield 39, 3) := by decide +kernel
theorem dX0_takeOutBox_64 : decode cX0_takeOutBox 64 = .ok (.iload_n 2, 1) := by decide +kernel
theorem dX0_takeOutBox_65 : decode cX0_takeOutBox 65 = .ok (.invokevirtual 109, 3) := by decide +kernel
theorem dX0_takeOutBox_68 : decode cX0_takeOutBox 68 = .ok (.istore 4, 2) := by decide +kernel
theorem dX0_takeOutBox_70 : decode cX0_takeOutBox 70 = .ok (.aload_n 0, 1) := by decide +kernel
theorem dX0_takeOutBox_71 : decode cX0_takeOutBox 71 = .ok (.getfield 39, 3) := by decide +kernel
theorem dX0_takeOutBox_74 : decode cX0_takeOutBox 74 = .ok (.iload_n 2, 1) := by decide +kernel
theorem dX0_takeOutBox_75 : decode cX0_takeOutBox 75 = .ok (.invokevirtual 47, 3) := by decide +kernel
theorem dX0_takeOutBox_78 : decode cX0_takeOutBox 78 = .ok (.aload_n 0, 1) := by decide +kernel
theorem dX0_takeOutBox_79 : decode cX0_takeOutBox 79 = .ok (.getfield 39, 3) := by decide +kernel
theorem dX0_takeOutBox_82 : decode cX0_takeOutBox 82 = .ok (.invokevirtual 131, 3) := by decide +kernel
theorem dX0_takeOutBox_85 : decode cX0_takeOutBox 85 = .ok (.if_icmp .ge 8, 3) := by decide +kernel
theorem dX0_takeOutBox_88 : decode cX0_takeOutBox 88 = .ok (.aload_n 0, 1) := by decide +kernel
theorem dX0_takeOutBox_89 : decode cX0_takeOutBox 89 = .ok (.iload_n 2, 1) := by decide +kernel
theorem dX0_takeOutBox_90 : decode cX0_takeOutBox 90 = .ok (.invokevirtual 172, 3) := by decide +kernel
theorem dX0_takeOutBox_93 : decode cX0_takeOutBox 93 = .ok (.iload 4, 2) := by decide +kernel
theorem dX0_takeOutBox_95 : decode cX0_takeOutBox 95 = .ok (.istore_n 2, 1) := by decide +kernel
theorem dX0_takeOutBox_96 : decode cX0_takeOutBox 96 = .ok (.iinc 3 1, 3) := by decide +kernel
theorem dX0_takeOutBox_99 : decode cX0_takeOutBox 99 = .ok (.goto (-67), 3) := by decide +kernel
theorem dX0_takeOutBox_102 : decode cX0_takeOutBox 102 = .ok (.aload_n 0, 1) := by decide +kernel
theorem dX0_takeOutBox_103 : decode cX0_takeOutBox 103 = .ok (.getfield 39, 3) := by decide +kernel
theorem dX0_takeOutBox_106 : decode cX0_takeOutBox 106 = .ok (.invokevirtual 175, 3) := by decide +kernel
theorem dX0_takeOutBox_109 : decode cX0_takeOutBox 109 = .ok (.return_, 1) := by decide +kernel
theorem dX0_keepEntriesOf_0 : decode cX0_keepEntriesOf 0 = .ok (.aload_n 0, 1) := by decide +kernel
theorem dX0_keepEntriesOf_1 : decode cX0_keepEntriesOf 1 = .ok (.getfield 39, 3) := by decide +kernel
theorem dX0_keepEntriesOf_4 : decode cX0_keepEntriesOf 4 = .ok (.iload_n 1, 1) := by decide +kernel
theorem dX0_keepEntriesOf_5 : decode cX0_keepEntriesOf 5 = .ok (.invokevirtual 98, 3) := by decide +kernel
theorem dX0_keepEntriesOf_8 : decode cX0_keepEntriesOf 8 = .ok (.aload_n 0, 1) := by decide +kernel
theorem dX0_keepEntriesOf_9 : decode cX0_keepEntriesOf 9 = .ok (.getfield 39, 3) := by decide +kernel
theorem dX0_keepEntriesOf_12 : decode cX0_keepEntriesOf 12 = .ok (.iload_n 1, 1) := by decide +kernel
theorem dX0_keepEntriesOf_13 : decode cX0_keepEntriesOf 13 = .ok (.invokevirtual 47, 3) := by decide +kernel
theorem dX0_keepEntriesOf_16 : decode cX0_keepEntriesOf 16 = .ok (.istore_n 2, 1) := by decide +kernel
theorem dX0_keepEntriesOf_17 : decode cX0_keepEntriesOf 17 = .ok (.iconst 0, 1) := by decide +kernel
theorem dX0_keepEntriesOf_18 : decode cX0_keepEntriesOf 18 = .ok (.istore_n 3, 1) := by decide +kernel
theorem dX0_keepEntriesOf_19 : decode cX0_keepEntriesOf 19 = .ok (.iload_n 3, 1) := by decide +kernel
theorem dX0_keepEntriesOf_20 : decode cX0_keepEntriesOf 20 = .ok (.iload_n 2, 1) := by decide +kernel
theorem dX0_keepEntriesOf_21 : decode cX0_keepEntriesOf 21 = .ok (.if_icmp .ge 52, 3) := by decide +kernel
theorem dX0_keepEntriesOf_24 : decode cX0_keepEntriesOf 24 = .ok (.aload_n 0, 1) := by decide +kernel
theorem dX0_keepEntriesOf_25 : decode cX0_keepEntriesOf 25 = .ok (.getfield 39, 3) := by decide +kernel
theorem dX0_keepEntriesOf_28 : decode cX0_keepEntriesOf 28 = .ok (.iload_n 1, 1) := by decide +kernel
theorem dX0_keepEntriesOf_29 : decode cX0_keepEntriesOf 29 = .ok (.iload_n 3, 1) := by decide +kernel
theorem dX0_keepEntriesOf_30 : decode cX0_keepEntriesOf 30 = .ok (.invokevirtual 80, 3) := by decide +kernel
theorem dX0_keepEntriesOf_33 : decode cX0_keepEntriesOf 33 = .ok (.istore 4, 2) := by decide +kernel
theorem dX0_keepEntriesOf_35 : decode cX0_keepEntriesOf 35 = .ok (.aload_n 0, 1) := by decide +kernel
theorem dX0_keepEntriesOf_36 : decode cX0_keepEntriesOf 36 = .ok (.getfield 39, 3) := by decide +kernel
theorem dX0_keepEntriesOf_39 : decode cX0_keepEntriesOf 39 = .ok (.iload 4, 2) := by decide +kernel
theorem dX0_keepEntriesOf_41 : decode cX0_keepEntriesOf 41 = .ok (.invokevirtual 178, 3) := by decide +kernel
theorem dX0_keepEntriesOf_44 : decode cX0_keepEntriesOf 44 = .ok (.aload_n 0, 1) := by decide +kernel
theorem dX0_keepEntriesOf_45 : decode cX0_keepEntriesOf 45 = .ok (.getfield 9, 3) := by decide +kernel
theorem dX0_keepEntriesOf_48 : decode cX0_keepEntriesOf 48 = .ok (.aload_n 0, 1) := by decide +kernel
theorem dX0_keepEntriesOf_49 : decode cX0_keepEntriesOf 49 = .ok (.getfield 15, 3) := by decide +kernel
theorem dX0_keepEntriesOf_52 : decode cX0_keepEntriesOf 52 = .ok (.iload 4, 2) := by decide +kernel
theorem dX0_keepEntriesOf_54 : decode cX0_keepEntriesOf 54 = .ok (.invokestatic 151, 3) := by decide +kernel
theorem dX0_keepEntriesOf_57 : decode cX0_keepEntriesOf 57 = .ok (.aload_n 0, 1) := by decide +kernel
theorem dX0_keepEntriesOf_58 : decode cX0_keepEntriesOf 58 = .ok (.dup, 1) := by decide +kernel
theorem dX0_keepEntriesOf_59 : decode cX0_keepEntriesOf 59 = .ok (.getfield 15, 3) := by decide +kernel
theorem dX0_keepEntriesOf_62 : decode cX0_keepEntriesOf 62 = .ok (.iconst 1, 1) := by decide +kernel
theorem dX0_keepEntriesOf_63 : decode cX0_keepEntriesOf 63 = .ok (.iadd, 1) := by decide +kernel
theorem dX0_keepEntriesOf_64 : decode cX0_keepEntriesOf 64 = .ok (.putfield 15, 3) := by decide +kernel
theorem dX0_keepEntriesOf_67 : decode cX0_keepEntriesOf 67 = .ok (.iinc 3 1, 3) := by decide +kernel
theorem dX0_keepEntriesOf_70 : decode cX0_keepEntriesOf 70 = .ok (.goto (-51), 3) := by decide +kernel
theorem dX0_keepEntriesOf_73 : decode cX0_keepEntriesOf 73 = .ok (.aload_n 0, 1) := by decide +kernel
theorem dX0_keepEntriesOf_74 : decode cX0_keepEntriesOf 74 = .ok (.getfield 39, 3) := by decide +kernel
theorem dX0_keepEntriesOf_77 : decode cX0_keepEntriesOf 77 = .ok (.iload_n 1, 1) := by decide +kernel
theorem dX0_keepEntriesOf_78 : decode cX0_keepEntriesOf 78 = .ok (.invokevirtual 166, 3) := by decide +kernel
theorem dX0_keepEntriesOf_81 : decode cX0_keepEntriesOf 81 = .ok (.return_, 1) := by decide +kernel
theorem dX0_putBackKept_0 : decode cX0_putBackKept 0 = .ok (.iconst 0, 1) := by decide +kernel
theorem dX0_putBackKept_1 : decode cX0_putBackKept 1 = .ok (.istore_n 1, 1) := by decide +kernel
theorem dX0_putBackKept_2 : decode cX0_putBackKept 2 = .ok (.iload_n 1, 1) := by decide +kernel
theorem dX0_putBackKept_3 : decode cX0_putBackKept 3 = .ok (.aload_n 0, 1) := by decide +kernel
theorem dX0_putBackKept_4 : decode cX0_putBackKept 4 = .ok (.getfield 15, 3) := by decide +kernel
theorem dX0_putBackKept_7 : decode cX0_putBackKept 7 = .ok (.if_icmp .ge 92, 3) := by decide +kernel
theorem dX0_putBackKept_10 : decode cX0_putBackKept 10 = .ok (.aload_n 0, 1) := by decide +kernel
theorem dX0_putBackKept_11 : decode cX0_putBackKept 11 = .ok (.getfield 9, 3) := by decide +kernel
theorem dX0_putBackKept_14 : decode cX0_putBackKept 14 = .ok (.iload_n 1, 1) := by decide +kernel
theorem dX0_putBackKept_15 : decode cX0_putBackKept 15 = .ok (.invokestatic 140, 3) := by decide +kernel
theorem dX0_putBackKept_18 : decode cX0_putBackKept 18 = .ok (.istore_n 2, 1) := by decide +kernel
theorem dX0_putBackKept_19 : decode cX0_putBackKept 19 = .ok (.aload_n 0, 1) := by decide +kernel
theorem dX0_putBackKept_20 : decode cX0_putBackKept 20 = .ok (.getfield 39, 3) := by decide +kernel
theorem dX0_putBackKept_23 : decode cX0_putBackKept 23 = .ok (.iload_n 2, 1) := by decide +kernel
theorem dX0_putBackKept_24 : decode cX0_putBackKept 24 = .ok (.invokevirtual 70, 3) := by decide +kernel
theorem dX0_putBackKept_27 : decode cX0_putBackKept 27 = .ok (.iconst 1, 1) := by decide +kernel
theorem dX0_putBackKept_28 : decode cX0_putBackKept 28 = .ok (.iadd, 1) := by decide +kernel
theorem dX0_putBackKept_29 : decode cX0_putBackKept 29 = .ok (.aload_n 0, 1) := by decide +kernel
theorem dX0_putBackKept_30 : decode cX0_putBackKept 30 = .ok (.getfield 39, 3) := by decide +kernel
theorem dX0_putBackKept_33 : decode cX0_putBackKept 33 = .ok (.aload_n 0, 1) := by decide +kernel
theorem dX0_putBackKept_34 : decode cX0_putBackKept 34 = .ok (.getfield 39, 3) := by decide +kernel
theorem dX0_putBackKept_37 : decode cX0_putBackKept 37 = .ok (.getfield 73, 3) := by decide +kernel
theorem dX0_putBackKept_40 : decode cX0_putBackKept 40 = .ok (.invokevirtual 70, 3) := by decide +kernel
theorem dX0_putBackKept_43 : decode cX0_putBackKept 43 = .ok (.if_icmp .gt 11, 3) := by decide +kernel
theorem dX0_putBackKept_46 : decode cX0_putBackKept 46 = .ok (.aload_n 0, 1) := by decide +kernel
theorem dX0_putBackKept_47 : decode cX0_putBackKept 47 = .ok (.iload_n 2, 1) := by decide +kernel
theorem dX0_putBackKept_48 : decode cX0_putBackKept 48 = .ok (.invokevirtual 181, 3) := by decide +kernel
theorem dX0_putBackKept_51 : decode cX0_putBackKept 51 = .ok (.goto 42, 3) := by decide +kernel
theorem dX0_putBackKept_54 : decode cX0_putBackKept 54 = .ok (.aload_n 0, 1) := by decide +kernel
theorem dX0_putBackKept_55 : decode cX0_putBackKept 55 = .ok (.iload_n 2, 1) := by decide +kernel
theorem dX0_putBackKept_56 : decode cX0_putBackKept 56 = .ok (.invokevirtual 184, 3) := by decide +kernel
theorem dX0_putBackKept_59 : decode cX0_putBackKept 59 = .ok (.iconst 0, 1) := by decide +kernel
theorem dX0_putBackKept_60 : decode cX0_putBackKept 60 = .ok (.istore_n 3, 1) := by decide +kernel
theorem dX0_putBackKept_61 : decode cX0_putBackKept 61 = .ok (.iload_n 3, 1) := by decide +kernel
theorem dX0_putBackKept_62 : decode cX0_putBackKept 62 = .ok (.aload_n 0, 1) := by decide +kernel
theorem dX0_putBackKept_63 : decode cX0_putBackKept 63 = .ok (.getfield 32, 3) := by decide +kernel
theorem dX0_putBackKept_66 : decode cX0_putBackKept 66 = .ok (.getfield 187, 3) := by decide +kernel
theorem dX0_putBackKept_69 : decode cX0_putBackKept 69 = .ok (.if_icmp .ge 24, 3) := by decide +kernel
theorem dX0_putBackKept_72 : decode cX0_putBackKept 72 = .ok (.aload_n 0, 1) := by decide +kernel
theorem dX0_putBackKept_73 : decode cX0_putBackKept 73 = .ok (.aload_n 0, 1) := by decide +kernel
theorem dX0_putBackKept_74 : decode cX0_putBackKept 74 = .ok (.getfield 32, 3) := by decide +kernel
theorem dX0_putBackKept_77 : decode cX0_putBackKept 77 = .ok (.getfield 190, 3) := by decide +kernel
theorem dX0_putBackKept_80 : decode cX0_putBackKept 80 = .ok (.iload_n 3, 1) := by decide +kernel
theorem dX0_putBackKept_81 : decode cX0_putBackKept 81 = .ok (.invokestatic 140, 3) := by decide +kernel
theorem dX0_putBackKept_84 : decode cX0_putBackKept 84 = .ok (.invokevirtual 181, 3) := by decide +kernel
theorem dX0_putBackKept_87 : decode cX0_putBackKept 87 = .ok (.iinc 3 1, 3) := by decide +kernel
theorem dX0_putBackKept_90 : decode cX0_putBackKept 90 = .ok (.goto (-29), 3) := by decide +kernel
theorem dX0_putBackKept_93 : decode cX0_putBackKept 93 = .ok (.iinc 1 1, 3) := by decide +kernel
theorem dX0_putBackKept_96 : decode cX0_putBackKept 96 = .ok (.goto (-94), 3) := by decide +kernel
theorem dX0_putBackKept_99 : decode cX0_putBackKept 99 = .ok (.return_, 1) := by decide +kernel
theorem dX0_dissolve_0 : decode cX0_dissolve 0 = .ok (.aload_n 0, 1) := by decide +kernel
theorem dX0_dissolve_1 : decode cX0_dissolve 1 = .ok (.getfield 32, 3) := by decide +kernel
theorem dX0_dissolve_4 : decode cX0_dissolve 4 = .ok (.aload_n 0, 1) := by decide +kernel
theorem dX0_dissolve_5 : decode cX0_dissolve 5 = .ok (.getfield 39, 3) := by decide +kernel
theorem dX0_dissolve_8 : decode cX0_dissolve 8 = .ok (.iload_n 1, 1) := by decide +kernel
theorem dX0_dissolve_9 : decode cX0_dissolve 9 = .ok (.iconst 0, 1) := by decide +kernel
theorem dX0_dissolve_10 : decode cX0_dissolve 10 = .ok (.invokevirtual 193, 3) := by decide +kernel
theorem dX0_dissolve_13 : decode cX0_dissolve 13 = .ok (.aload_n 0, 1) := by decide +kernel
theorem dX0_dissolve_14 : decode cX0_dissolve 14 = .ok (.getfield 36, 3) := by decide +kernel
theorem dX0_dissolve_17 : decode cX0_dissolve 17 = .ok (.aload_n 0, 1) := by decide +kernel
theorem dX0_dissolve_18 : decode cX0_dissolve 18 = .ok (.getfield 39, 3) := by decide +kernel
theorem dX0_dissolve_21 : decode cX0_dissolve 21 = .ok (.iload_n 1, 1) := by decide +kernel
theorem dX0_dissolve_22 : decode cX0_dissolve 22 = .ok (.iconst 1, 1) := by decide +kernel
theorem dX0_dissolve_23 : decode cX0_dissolve 23 = .ok (.invokevirtual 193, 3) := by decide +kernel
theorem dX0_dissolve_26 : decode cX0_dissolve 26 = .ok (.iconst 0, 1) := by decide +kernel
theorem dX0_dissolve_27 : decode cX0_dissolve 27 = .ok (.istore_n 2, 1) := by decide +kernel
theorem dX0_dissolve_28 : decode cX0_dissolve 28 = .ok (.iload_n 2, 1) := by decide +kernel
theorem dX0_dissolve_29 : decode cX0_dissolve 29 = .ok (.aload_n 0, 1) := by decide +kernel
theorem dX0_dissolve_30 : decode cX0_dissolve 30 = .ok (.getfield 32, 3) := by decide +kernel
theorem dX0_dissolve_33 : decode cX0_dissolve 33 = .ok (.getfield 187, 3) := by decide +kernel
theorem dX0_dissolve_36 : decode cX0_dissolve 36 = .ok (.if_icmp .ge 27, 3) := by decide +kernel
theorem dX0_dissolve_39 : decode cX0_dissolve 39 = .ok (.aload_n 0, 1) := by decide +kernel
theorem dX0_dissolve_40 : decode cX0_dissolve 40 = .ok (.getfield 39, 3) := by decide +kernel
theorem dX0_dissolve_43 : decode cX0_dissolve 43 = .ok (.aload_n 0, 1) := by decide +kernel
theorem dX0_dissolve_44 : decode cX0_dissolve 44 = .ok (.getfield 32, 3) := by decide +kernel
theorem dX0_dissolve_47 : decode cX0_dissolve 47 = .ok (.getfield 190, 3) := by decide +kernel
theorem dX0_dissolve_50 : decode cX0_dissolve 50 = .ok (.iload_n 2, 1) := by decide +kernel
theorem dX0_dissolve_51 : decode cX0_dissolve 51 = .ok (.invokestatic 140, 3) := by decide +kernel
theorem dX0_dissolve_54 : decode cX0_dissolve 54 = .ok (.invokevirtual 178, 3) := by decide +kernel
theorem dX0_dissolve_57 : decode cX0_dissolve 57 = .ok (.iinc 2 1, 3) := by decide +kernel
theorem dX0_dissolve_60 : decode cX0_dissolve 60 = .ok (.goto (-32), 3) := by decide +kernel
theorem dX0_dissolve_63 : decode cX0_dissolve 63 = .ok (.iconst 0, 1) := by decide +kernel
theorem dX0_dissolve_64 : decode cX0_dissolve 64 = .ok (.istore_n 2, 1) := by decide +kernel
theorem dX0_dissolve_65 : decode cX0_dissolve 65 = .ok (.iload_n 2, 1) := by decide +kernel
theorem dX0_dissolve_66 : decode cX0_dissolve 66 = .ok (.aload_n 0, 1) := by decide +kernel
theorem dX0_dissolve_67 : decode cX0_dissolve 67 = .ok (.getfield 36, 3) := by decide +kernel
theorem dX0_dissolve_70 : decode cX0_dissolve 70 = .ok (.getfield 187, 3) := by decide +kernel
theorem dX0_dissolve_73 : decode cX0_dissolve 73 = .ok (.if_icmp .ge 27, 3) := by decide +kernel
theorem dX0_dissolve_76 : decode cX0_dissolve 76 = .ok (.aload_n 0, 1) := by decide +kernel
theorem dX0_dissolve_77 : decode cX0_dissolve 77 = .ok (.getfield 39, 3) := by decide +kernel
theorem dX0_dissolve_80 : decode cX0_dissolve 80 = .ok (.aload_n 0, 1) := by decide +kernel
theorem dX0_dissolve_81 : decode cX0_dissolve 81 = .ok (.getfield 36, 3) := by decide +kernel
theorem dX0_dissolve_84 : decode cX0_dissolve 84 = .ok (.getfield 190, 3) := by decide +kernel
theorem dX0_dissolve_87 : decode cX0_dissolve 87 = .ok (.iload_n 2, 1) := by decide +kernel
theorem dX0_dissolve_88 : decode cX0_dissolve 88 = .ok (.invokestatic 140, 3) := by decide +kernel
theorem dX0_dissolve_91 : decode cX0_dissolve 91 = .ok (.invokevirtual 166, 3) := by decide +kernel
theorem dX0_dissolve_94 : decode cX0_dissolve 94 = .ok (.iinc 2 1, 3) := by decide +kernel
theorem dX0_dissolve_97 : decode cX0_dissolve 97 = .ok (.goto (-32), 3) := by decide +kernel
theorem dX0_dissolve_100 : decode cX0_dissolve 100 = .ok (.return_, 1) := by decide +kernel
theorem dX1_init_0 : decode cX1_init 0 = .ok (.aload_n 0, 1) := by decide +kernel
theorem dX1_init_1 : decode cX1_init 1 = .ok (.invokespecial 1, 3) := by decide +kernel
theorem dX1_init_4 : decode cX1_init 4 = .ok (.aload_n 0, 1) := by decide +kernel
theorem dX1_init_5 : decode cX1_init 5 = .ok (.iconst 4, 1) := by decide +kernel
theorem dX1_init_6 : decode cX1_init 6 = .ok (.anewarray 9, 3) := by decide +kernel
theorem dX1_init_9 : decode cX1_init 9 = .ok (.putfield 11, 3) := by decide +kernel
theorem dX1_init_12 : decode cX1_init 12 = .ok (.aload_n 0, 1) := by decide +kernel
theorem dX1_init_13 : decode cX1_init 13 = .ok (.iconst 0, 1) := by decide +kernel
theorem dX1_init_14 : decode cX1_init 14 = .ok (.putfield 15, 3) := by decide +kernel
theorem dX1_init_17 : decode cX1_init 17 = .ok (.iconst 0, 1) := by decide +kernel
theorem dX1_init_18 : decode cX1_init 18 = .ok (.istore_n 1, 1) := by decide +kernel
theorem dX1_init_19 : decode cX1_init 19 = .ok (.iload_n 1, 1) := by decide +kernel
theorem dX1_init_20 : decode cX1_init 20 = .ok (.aload_n 0, 1) := by decide +kernel
theorem dX1_init_21 : decode cX1_init 21 = .ok (.getfield 11, 3) := by decide +kernel
theorem dX1_init_24 : decode cX1_init 24 = .ok (.arraylength, 1) := by decide +kernel
theorem dX1_init_25 : decode cX1_init 25 = .ok (.if_icmp .ge 22, 3) := by decide +kernel
theorem dX1_init_28 : decode cX1_init 28 = .ok (.aload_n 0, 1) := by decide +kernel
theorem dX1_init_29 : decode cX1_init 29 = .ok (.getfield 11, 3) := by decide +kernel
theorem dX1_init_32 : decode cX1_init 32 = .ok (.iload_n 1, 1) := by decide +kernel
theorem dX1_init_33 : decode cX1_init 33 = .ok (.new 9, 3) := by decide +kernel
theorem dX1_init_36 : decode cX1_init 36 = .ok (.dup, 1) := by decide +kernel
theorem dX1_init_37 : decode cX1_init 37 = .ok (.invokespecial 19, 3) := by decide +kernel
theorem dX1_init_40 : decode cX1_init 40 = .ok (.aastore, 1) := by decide +kernel
theorem dX1_init_41 : decode cX1_init 41 = .ok (.iinc 1 1, 3) := by decide +kernel
theorem dX1_init_44 : decode cX1_init 44 = .ok (.goto (-25), 3) := by decide +kernel
theorem dX1_init_47 : decode cX1_init 47 = .ok (.return_, 1) := by decide +kernel
theorem dX1_record_0 : decode cX1_record 0 = .ok (.aload_n 0, 1) := by decide +kernel
theorem dX1_record_1 : decode cX1_record 1 = .ok (.getfield 15, 3) := by decide +kernel
theorem dX1_record_4 : decode cX1_record 4 = .ok (.iconst 4, 1) := by decide +kernel
theorem dX1_record_5 : decode cX1_record 5 = .ok (.if_icmp .lt 7, 3) := by decide +kernel
theorem dX1_record_8 : decode cX1_record 8 = .ok (.aload_n 0, 1) := by decide +kernel
theorem dX1_record_9 : decode cX1_record 9 = .ok (.invokevirtual 20, 3) := by decide +kernel
theorem dX1_record_12 : decode cX1_record 12 = .ok (.aload_n 0, 1) := by decide +kernel
theorem dX1_record_13 : decode cX1_record 13 = .ok (.getfield 15, 3) := by decide +kernel
theorem dX1_record_16 : decode cX1_record 16 = .ok (.ifCond .lt 27, 3) := by decide +kernel
theorem dX1_record_19 : decode cX1_record 19 = .ok (.aload_n 0, 1) := by decide +kernel
theorem dX1_record_20 : decode cX1_record 20 = .ok (.getfield 15, 3) := by decide +kernel
theorem dX1_record_23 : decode cX1_record 23 = .ok (.aload_n 0, 1) := by decide +kernel
theorem dX1_record_24 : decode cX1_record 24 = .ok (.getfield 11, 3) := by decide +kernel
theorem dX1_record_27 : decode cX1_record 27 = .ok (.arraylength, 1) := by decide +kernel
theorem dX1_record_28 : decode cX1_record 28 = .ok (.if_icmp .ge 15, 3) := by decide +kernel
theorem dX1_record_31 : decode cX1_record 31 = .ok (.aload_n 0, 1) := by decide +kernel
theorem dX1_record_32 : decode cX1_record 32 = .ok (.getfield 11, 3) := by decide +kernel
theorem dX1_record_35 : decode cX1_record 35 = .ok (.aload_n 0, 1) := by decide +kernel
theorem dX1_record_36 : decode cX1_record 36 = .ok (.getfield 15, 3) := by decide +kernel
theorem dX1_record_39 : decode cX1_record 39 = .ok (.aaload, 1) := by decide +kernel
theorem dX1_record_40 : decode cX1_record 40 = .ok (.goto 4, 3) := by decide +kernel
theorem dX1_record_43 : decode cX1_record 43 = .ok (.aconst_null, 1) := by decide +kernel
theorem dX1_record_44 : decode cX1_record 44 = .ok (.astore_n 2, 1) := by decide +kernel
theorem dX1_record_45 : decode cX1_record 45 = .ok (.aload_n 2, 1) := by decide +kernel
theorem dX1_record_46 : decode cX1_record 46 = .ok (.ifnull 18, 3) := by decide +kernel
theorem dX1_record_49 : decode cX1_record 49 = .ok (.aload_n 2, 1) := by decide +kernel
theorem dX1_record_50 : decode cX1_record 50 = .ok (.aload_n 1, 1) := by decide +kernel
theorem dX1_record_51 : decode cX1_record 51 = .ok (.invokevirtual 23, 3) := by decide +kernel
theorem dX1_record_54 : decode cX1_record 54 = .ok (.aload_n 0, 1) := by decide +kernel
theorem dX1_record_55 : decode cX1_record 55 = .ok (.dup, 1) := by decide +kernel
theorem dX1_record_56 : decode cX1_record 56 = .ok (.getfield 15, 3) := by decide +kernel
theorem dX1_record_59 : decode cX1_record 59 = .ok (.iconst 1, 1) := by decide +kernel
theorem dX1_record_60 : decode cX1_record 60 = .ok (.iadd, 1) := by decide +kernel
theorem dX1_record_61 : decode cX1_record 61 = .ok (.putfield 15, 3) := by decide +kernel
theorem dX1_record_64 : decode cX1_record 64 = .ok (.return_, 1) := by decide +kernel
theorem dX1_dropOldest_0 : decode cX1_dropOldest 0 = .ok (.iconst 1, 1) := by decide +kernel
theorem dX1_dropOldest_1 : decode cX1_dropOldest 1 = .ok (.istore_n 1, 1) := by decide +kernel
theorem dX1_dropOldest_2 : decode cX1_dropOldest 2 = .ok (.iload_n 1, 1) := by decide +kernel
theorem dX1_dropOldest_3 : decode cX1_dropOldest 3 = .ok (.aload_n 0, 1) := by decide +kernel
theorem dX1_dropOldest_4 : decode cX1_dropOldest 4 = .ok (.getfield 11, 3) := by decide +kernel
theorem dX1_dropOldest_7 : decode cX1_dropOldest 7 = .ok (.arraylength, 1) := by decide +kernel
theorem dX1_dropOldest_8 : decode cX1_dropOldest 8 = .ok (.if_icmp .ge 39, 3) := by decide +kernel
theorem dX1_dropOldest_11 : decode cX1_dropOldest 11 = .ok (.aload_n 0, 1) := by decide +kernel
theorem dX1_dropOldest_12 : decode cX1_dropOldest 12 = .ok (.getfield 11, 3) := by decide +kernel
theorem dX1_dropOldest_15 : decode cX1_dropOldest 15 = .ok (.iload_n 1, 1) := by decide +kernel
theorem dX1_dropOldest_16 : decode cX1_dropOldest 16 = .ok (.iconst 1, 1) := by decide +kernel
theorem dX1_dropOldest_17 : decode cX1_dropOldest 17 = .ok (.isub, 1) := by decide +kernel
theorem dX1_dropOldest_18 : decode cX1_dropOldest 18 = .ok (.aaload, 1) := by decide +kernel
theorem dX1_dropOldest_19 : decode cX1_dropOldest 19 = .ok (.astore_n 2, 1) := by decide +kernel
theorem dX1_dropOldest_20 : decode cX1_dropOldest 20 = .ok (.aload_n 0, 1) := by decide +kernel
theorem dX1_dropOldest_21 : decode cX1_dropOldest 21 = .ok (.getfield 11, 3) := by decide +kernel
theorem dX1_dropOldest_24 : decode cX1_dropOldest 24 = .ok (.iload_n 1, 1) := by decide +kernel
theorem dX1_dropOldest_25 : decode cX1_dropOldest 25 = .ok (.iconst 1, 1) := by decide +kernel
theorem dX1_dropOldest_26 : decode cX1_dropOldest 26 = .ok (.isub, 1) := by decide +kernel
theorem dX1_dropOldest_27 : decode cX1_dropOldest 27 = .ok (.aload_n 0, 1) := by decide +kernel
theorem dX1_dropOldest_28 : decode cX1_dropOldest 28 = .ok (.getfield 11, 3) := by decide +kernel
theorem dX1_dropOldest_31 : decode cX1_dropOldest 31 = .ok (.iload_n 1, 1) := by decide +kernel
theorem dX1_dropOldest_32 : decode cX1_dropOldest 32 = .ok (.aaload, 1) := by decide +kernel
theorem dX1_dropOldest_33 : decode cX1_dropOldest 33 = .ok (.aastore, 1) := by decide +kernel
theorem dX1_dropOldest_34 : decode cX1_dropOldest 34 = .ok (.aload_n 0, 1) := by decide +kernel
theorem dX1_dropOldest_35 : decode cX1_dropOldest 35 = .ok (.getfield 11, 3) := by decide +kernel
theorem dX1_dropOldest_38 : decode cX1_dropOldest 38 = .ok (.iload_n 1, 1) := by decide +kernel
theorem dX1_dropOldest_39 : decode cX1_dropOldest 39 = .ok (.aload_n 2, 1) := by decide +kernel
theorem dX1_dropOldest_40 : decode cX1_dropOldest 40 = .ok (.aastore, 1) := by decide +kernel
theorem dX1_dropOldest_41 : decode cX1_dropOldest 41 = .ok (.iinc 1 1, 3) := by decide +kernel
theorem dX1_dropOldest_44 : decode cX1_dropOldest 44 = .ok (.goto (-42), 3) := by decide +kernel
theorem dX1_dropOldest_47 : decode cX1_dropOldest 47 = .ok (.aload_n 0, 1) := by decide +kernel
theorem dX1_dropOldest_48 : decode cX1_dropOldest 48 = .ok (.iconst 3, 1) := by decide +kernel
theorem dX1_dropOldest_49 : decode cX1_dropOldest 49 = .ok (.putfield 15, 3) := by decide +kernel
theorem dX1_dropOldest_52 : decode cX1_dropOldest 52 = .ok (.return_, 1) := by decide +kernel
theorem dX2_init_0 : decode cX2_init 0 = .ok (.aload_n 0, 1) := by decide +kernel
theorem dX2_init_1 : decode cX2_init 1 = .ok (.invokespecial 3, 3) := by decide +kernel
theorem dX2_init_4 : decode cX2_init 4 = .ok (.aload_n 0, 1) := by decide +kernel
theorem dX2_init_5 : decode cX2_init 5 = .ok (.bipush 24, 2) := by decide +kernel
theorem dX2_init_7 : decode cX2_init 7 = .ok (.newarray .int, 2) := by decide +kernel
theorem dX2_init_9 : decode cX2_init 9 = .ok (.putfield 9, 3) := by decide +kernel
theorem dX2_init_12 : decode cX2_init 12 = .ok (.aload_n 0, 1) := by decide +kernel
theorem dX2_init_13 : decode cX2_init 13 = .ok (.aload_n 1, 1) := by decide +kernel
theorem dX2_init_14 : decode cX2_init 14 = .ok (.putfield 15, 3) := by decide +kernel
theorem dX2_init_17 : decode cX2_init 17 = .ok (.return_, 1) := by decide +kernel
theorem dX2_rebuild_0 : decode cX2_rebuild 0 = .ok (.aload_n 0, 1) := by decide +kernel
theorem dX2_rebuild_1 : decode cX2_rebuild 1 = .ok (.invokevirtual 19, 3) := by decide +kernel
theorem dX2_rebuild_4 : decode cX2_rebuild 4 = .ok (.istore_n 1, 1) := by decide +kernel
theorem dX2_rebuild_5 : decode cX2_rebuild 5 = .ok (.aload_n 0, 1) := by decide +kernel
theorem dX2_rebuild_6 : decode cX2_rebuild 6 = .ok (.getfield 15, 3) := by decide +kernel
theorem dX2_rebuild_9 : decode cX2_rebuild 9 = .ok (.invokevirtual 23, 3) := by decide +kernel
theorem dX2_rebuild_12 : decode cX2_rebuild 12 = .ok (.iload_n 1, 1) := by decide +kernel
theorem dX2_rebuild_13 : decode cX2_rebuild 13 = .ok (.ifCond .ne 19, 3) := by decide +kernel
theorem dX2_rebuild_16 : decode cX2_rebuild 16 = .ok (.aload_n 0, 1) := by decide +kernel
theorem dX2_rebuild_17 : decode cX2_rebuild 17 = .ok (.getfield 15, 3) := by decide +kernel
theorem dX2_rebuild_20 : decode cX2_rebuild 20 = .ok (.aload_n 0, 1) := by decide +kernel
theorem dX2_rebuild_21 : decode cX2_rebuild 21 = .ok (.getfield 15, 3) := by decide +kernel
theorem dX2_rebuild_24 : decode cX2_rebuild 24 = .ok (.iconst 0, 1) := by decide +kernel
theorem dX2_rebuild_25 : decode cX2_rebuild 25 = .ok (.invokevirtual 28, 3) := by decide +kernel
theorem dX2_rebuild_28 : decode cX2_rebuild 28 = .ok (.putfield 32, 3) := by decide +kernel
theorem dX2_rebuild_31 : decode cX2_rebuild 31 = .ok (.return_, 1) := by decide +kernel
theorem dX2_rebuild_32 : decode cX2_rebuild 32 = .ok (.iload_n 1, 1) := by decide +kernel
theorem dX2_rebuild_33 : decode cX2_rebuild 33 = .ok (.aload_n 0, 1) := by decide +kernel
theorem dX2_rebuild_34 : decode cX2_rebuild 34 = .ok (.getfield 15, 3) := by decide +kernel
theorem dX2_rebuild_37 : decode cX2_rebuild 37 = .ok (.getfield 36, 3) := by decide +kernel
theorem dX2_rebuild_40 : decode cX2_rebuild 40 = .ok (.iadd, 1) := by decide +kernel
theorem dX2_rebuild_41 : decode cX2_rebuild 41 = .ok (.iconst 1, 1) := by decide +kernel
theorem dX2_rebuild_42 : decode cX2_rebuild 42 = .ok (.isub, 1) := by decide +kernel
theorem dX2_rebuild_43 : decode cX2_rebuild 43 = .ok (.aload_n 0, 1) := by decide +kernel
theorem dX2_rebuild_44 : decode cX2_rebuild 44 = .ok (.getfield 15, 3) := by decide +kernel
theorem dX2_rebuild_47 : decode cX2_rebuild 47 = .ok (.getfield 36, 3) := by decide +kernel
theorem dX2_rebuild_50 : decode cX2_rebuild 50 = .ok (.iconst 1, 1) := by decide +kernel
theorem dX2_rebuild_51 : decode cX2_rebuild 51 = .ok (.invokestatic 39, 3) := by decide +kernel
theorem dX2_rebuild_54 : decode cX2_rebuild 54 = .ok (.idiv, 1) := by decide +kernel
theorem dX2_rebuild_55 : decode cX2_rebuild 55 = .ok (.invokestatic 45, 3) := by decide +kernel
theorem dX2_rebuild_58 : decode cX2_rebuild 58 = .ok (.aload_n 0, 1) := by decide +kernel
theorem dX2_rebuild_59 : decode cX2_rebuild 59 = .ok (.getfield 15, 3) := by decide +kernel
theorem dX2_rebuild_62 : decode cX2_rebuild 62 = .ok (.getfield 36, 3) := by decide +kernel
theorem dX2_rebuild_65 : decode cX2_rebuild 65 = .ok (.imul, 1) := by decide +kernel
theorem dX2_rebuild_66 : decode cX2_rebuild 66 = .ok (.istore_n 2, 1) := by decide +kernel
theorem dX2_rebuild_67 : decode cX2_rebuild 67 = .ok (.aload_n 0, 1) := by decide +kernel
theorem dX2_rebuild_68 : decode cX2_rebuild 68 = .ok (.iconst 0, 1) := by decide +kernel
theorem dX2_rebuild_69 : decode cX2_rebuild 69 = .ok (.iload_n 1, 1) := by decide +kernel
theorem dX2_rebuild_70 : decode cX2_rebuild 70 = .ok (.iconst 0, 1) := by decide +kernel
theorem dX2_rebuild_71 : decode cX2_rebuild 71 = .ok (.invokevirtual 48, 3) := by decide +kernel
theorem dX2_rebuild_74 : decode cX2_rebuild 74 = .ok (.iconst 0, 1) := by decide +kernel
theorem dX2_rebuild_75 : decode cX2_rebuild 75 = .ok (.istore_n 3, 1) := by decide +kernel
theorem dX2_rebuild_76 : decode cX2_rebuild 76 = .ok (.iload_n 3, 1) := by decide +kernel
theorem dX2_rebuild_77 : decode cX2_rebuild 77 = .ok (.iload_n 1, 1) := by decide +kernel
theorem dX2_rebuild_78 : decode cX2_rebuild 78 = .ok (.if_icmp .ge 27, 3) := by decide +kernel
theorem dX2_rebuild_81 : decode cX2_rebuild 81 = .ok (.iload_n 2, 1) := by decide +kernel
theorem dX2_rebuild_82 : decode cX2_rebuild 82 = .ok (.ifCond .le 23, 3) := by decide +kernel
theorem dX2_rebuild_85 : decode cX2_rebuild 85 = .ok (.aload_n 0, 1) := by decide +kernel
theorem dX2_rebuild_86 : decode cX2_rebuild 86 = .ok (.iload_n 3, 1) := by decide +kernel
theorem dX2_rebuild_87 : decode cX2_rebuild 87 = .ok (.iload_n 3, 1) := by decide +kernel
theorem dX2_rebuild_88 : decode cX2_rebuild 88 = .ok (.iload_n 2, 1) := by decide +kernel
theorem dX2_rebuild_89 : decode cX2_rebuild 89 = .ok (.iadd, 1) := by decide +kernel
theorem dX2_rebuild_90 : decode cX2_rebuild 90 = .ok (.iload_n 1, 1) := by decide +kernel
theorem dX2_rebuild_91 : decode cX2_rebuild 91 = .ok (.invokestatic 52, 3) := by decide +kernel
theorem dX2_rebuild_94 : decode cX2_rebuild 94 = .ok (.iconst 1, 1) := by decide +kernel
theorem dX2_rebuild_95 : decode cX2_rebuild 95 = .ok (.invokevirtual 48, 3) := by decide +kernel
theorem dX2_rebuild_98 : decode cX2_rebuild 98 = .ok (.iload_n 3, 1) := by decide +kernel
theorem dX2_rebuild_99 : decode cX2_rebuild 99 = .ok (.iload_n 2, 1) := by decide +kernel
theorem dX2_rebuild_100 : decode cX2_rebuild 100 = .ok (.iadd, 1) := by decide +kernel
theorem dX2_rebuild_101 : decode cX2_rebuild 101 = .ok (.istore_n 3, 1) := by decide +kernel
theorem dX2_rebuild_102 : decode cX2_rebuild 102 = .ok (.goto (-26), 3) := by decide +kernel
theorem dX2_rebuild_105 : decode cX2_rebuild 105 = .ok (.iconst 0, 1) := by decide +kernel
theorem dX2_rebuild_106 : decode cX2_rebuild 106 = .ok (.istore_n 3, 1) := by decide +kernel
theorem dX2_rebuild_107 : decode cX2_rebuild 107 = .ok (.iload_n 3, 1) := by decide +kernel
theorem dX2_rebuild_108 : decode cX2_rebuild 108 = .ok (.bipush 24, 2) := by decide +kernel
theorem dX2_rebuild_110 : decode cX2_rebuild 110 = .ok (.if_icmp .ge 25, 3) := by decide +kernel
theorem dX2_rebuild_113 : decode cX2_rebuild 113 = .ok (.iload_n 3, 1) := by decide +kernel
theorem dX2_rebuild_114 : decode cX2_rebuild 114 = .ok (.ifCond .eq 8, 3) := by decide +kernel
theorem dX2_rebuild_117 : decode cX2_rebuild 117 = .ok (.iload_n 1, 1) := by decide +kernel
theorem dX2_rebuild_118 : decode cX2_rebuild 118 = .ok (.iconst 1, 1) := by decide +kernel
theorem dX2_rebuild_119 : decode cX2_rebuild 119 = .ok (.if_icmp .le 16, 3) := by decide +kernel
theorem dX2_rebuild_122 : decode cX2_rebuild 122 = .ok (.aload_n 0, 1) := by decide +kernel
theorem dX2_rebuild_123 : decode cX2_rebuild 123 = .ok (.iload_n 1, 1) := by decide +kernel
theorem dX2_rebuild_124 : decode cX2_rebuild 124 = .ok (.iload_n 3, 1) := by decide +kernel
theorem dX2_rebuild_125 : decode cX2_rebuild 125 = .ok (.invokevirtual 55, 3) := by decide +kernel
theorem dX2_rebuild_128 : decode cX2_rebuild 128 = .ok (.istore_n 1, 1) := by decide +kernel
theorem dX2_rebuild_129 : decode cX2_rebuild 129 = .ok (.iinc 3 1, 3) := by decide +kernel
theorem dX2_rebuild_132 : decode cX2_rebuild 132 = .ok (.goto (-25), 3) := by decide +kernel
theorem dX2_rebuild_135 : decode cX2_rebuild 135 = .ok (.aload_n 0, 1) := by decide +kernel
theorem dX2_rebuild_136 : decode cX2_rebuild 136 = .ok (.getfield 15, 3) := by decide +kernel
theorem dX2_rebuild_139 : decode cX2_rebuild 139 = .ok (.aload_n 0, 1) := by decide +kernel
theorem dX2_rebuild_140 : decode cX2_rebuild 140 = .ok (.getfield 9, 3) := by decide +kernel
theorem dX2_rebuild_143 : decode cX2_rebuild 143 = .ok (.iconst 0, 1) := by decide +kernel
theorem dX2_rebuild_144 : decode cX2_rebuild 144 = .ok (.invokestatic 58, 3) := by decide +kernel
theorem dX2_rebuild_147 : decode cX2_rebuild 147 = .ok (.putfield 32, 3) := by decide +kernel
theorem dX2_rebuild_150 : decode cX2_rebuild 150 = .ok (.return_, 1) := by decide +kernel
theorem dX2_listBoxes_0 : decode cX2_listBoxes 0 = .ok (.iconst 0, 1) := by decide +kernel
theorem dX2_listBoxes_1 : decode cX2_listBoxes 1 = .ok (.istore_n 1, 1) := by decide +kernel
theorem dX2_listBoxes_2 : decode cX2_listBoxes 2 = .ok (.iconst 0, 1) := by decide +kernel
theorem dX2_listBoxes_3 : decode cX2_listBoxes 3 = .ok (.istore_n 2, 1) := by decide +kernel
theorem dX2_listBoxes_4 : decode cX2_listBoxes 4 = .ok (.iload_n 2, 1) := by decide +kernel
theorem dX2_listBoxes_5 : decode cX2_listBoxes 5 = .ok (.bipush 24, 2) := by decide +kernel
theorem dX2_listBoxes_7 : decode cX2_listBoxes 7 = .ok (.if_icmp .ge 32, 3) := by decide +kernel
theorem dX2_listBoxes_10 : decode cX2_listBoxes 10 = .ok (.aload_n 0, 1) := by decide +kernel
theorem dX2_listBoxes_11 : decode cX2_listBoxes 11 = .ok (.getfield 15, 3) := by decide +kernel
theorem dX2_listBoxes_14 : decode cX2_listBoxes 14 = .ok (.iload_n 2, 1) := by decide +kernel
theorem dX2_listBoxes_15 : decode cX2_listBoxes 15 = .ok (.invokevirtual 62, 3) := by decide +kernel
theorem dX2_listBoxes_18 : decode cX2_listBoxes 18 = .ok (.ifCond .eq 15, 3) := by decide +kernel
theorem dX2_listBoxes_21 : decode cX2_listBoxes 21 = .ok (.aload_n 0, 1) := by decide +kernel
theorem dX2_listBoxes_22 : decode cX2_listBoxes 22 = .ok (.getfield 9, 3) := by decide +kernel
theorem dX2_listBoxes_25 : decode cX2_listBoxes 25 = .ok (.iload_n 1, 1) := by decide +kernel
theorem dX2_listBoxes_26 : decode cX2_listBoxes 26 = .ok (.iload_n 2, 1) := by decide +kernel
theorem dX2_listBoxes_27 : decode cX2_listBoxes 27 = .ok (.invokestatic 66, 3) := by decide +kernel
theorem dX2_listBoxes_30 : decode cX2_listBoxes 30 = .ok (.iinc 1 1, 3) := by decide +kernel
theorem dX2_listBoxes_33 : decode cX2_listBoxes 33 = .ok (.iinc 2 1, 3) := by decide +kernel
theorem dX2_listBoxes_36 : decode cX2_listBoxes 36 = .ok (.goto (-32), 3) := by decide +kernel
theorem dX2_listBoxes_39 : decode cX2_listBoxes 39 = .ok (.iload_n 1, 1) := by decide +kernel
theorem dX2_listBoxes_40 : decode cX2_listBoxes 40 = .ok (.ireturn, 1) := by decide +kernel
theorem dX2_leastRoot_0 : decode cX2_leastRoot 0 = .ok (.iconst 1, 1) := by decide +kernel
theorem dX2_leastRoot_1 : decode cX2_leastRoot 1 = .ok (.istore_n 1, 1) := by decide +kernel
theorem dX2_leastRoot_2 : decode cX2_leastRoot 2 = .ok (.iload_n 1, 1) := by decide +kernel
theorem dX2_leastRoot_3 : decode cX2_leastRoot 3 = .ok (.iload_n 1, 1) := by decide +kernel
theorem dX2_leastRoot_4 : decode cX2_leastRoot 4 = .ok (.imul, 1) := by decide +kernel
theorem dX2_leastRoot_5 : decode cX2_leastRoot 5 = .ok (.iload_n 0, 1) := by decide +kernel
theorem dX2_leastRoot_6 : decode cX2_leastRoot 6 = .ok (.if_icmp .ge 15, 3) := by decide +kernel
theorem dX2_leastRoot_9 : decode cX2_leastRoot 9 = .ok (.iload_n 1, 1) := by decide +kernel
theorem dX2_leastRoot_10 : decode cX2_leastRoot 10 = .ok (.bipush 24, 2) := by decide +kernel
theorem dX2_leastRoot_12 : decode cX2_leastRoot 12 = .ok (.if_icmp .ge 9, 3) := by decide +kernel
theorem dX2_leastRoot_15 : decode cX2_leastRoot 15 = .ok (.iinc 1 1, 3) := by decide +kernel
theorem dX2_leastRoot_18 : decode cX2_leastRoot 18 = .ok (.goto (-16), 3) := by decide +kernel
theorem dX2_leastRoot_21 : decode cX2_leastRoot 21 = .ok (.iload_n 1, 1) := by decide +kernel
theorem dX2_leastRoot_22 : decode cX2_leastRoot 22 = .ok (.ireturn, 1) := by decide +kernel
theorem dX2_sortPart_0 : decode cX2_sortPart 0 = .ok (.iload_n 1, 1) := by decide +kernel
theorem dX2_sortPart_1 : decode cX2_sortPart 1 = .ok (.iconst 1, 1) := by decide +kernel
theorem dX2_sortPart_2 : decode cX2_sortPart 2 = .ok (.iadd, 1) := by decide +kernel
theorem dX2_sortPart_3 : decode cX2_sortPart 3 = .ok (.istore 4, 2) := by decide +kernel
theorem dX2_sortPart_5 : decode cX2_sortPart 5 = .ok (.iload 4, 2) := by decide +kernel
theorem dX2_sortPart_7 : decode cX2_sortPart 7 = .ok (.iload_n 2, 1) := by decide +kernel
theorem dX2_sortPart_8 : decode cX2_sortPart 8 = .ok (.if_icmp .ge 88, 3) := by decide +kernel
theorem dX2_sortPart_11 : decode cX2_sortPart 11 = .ok (.aload_n 0, 1) := by decide +kernel
theorem dX2_sortPart_12 : decode cX2_sortPart 12 = .ok (.getfield 9, 3) := by decide +kernel
theorem dX2_sortPart_15 : decode cX2_sortPart 15 = .ok (.iload 4, 2) := by decide +kernel
theorem dX2_sortPart_17 : decode cX2_sortPart 17 = .ok (.invokestatic 58, 3) := by decide +kernel
theorem dX2_sortPart_20 : decode cX2_sortPart 20 = .ok (.istore 5, 2) := by decide +kernel
theorem dX2_sortPart_22 : decode cX2_sortPart 22 = .ok (.iload 4, 2) := by decide +kernel
theorem dX2_sortPart_24 : decode cX2_sortPart 24 = .ok (.istore 6, 2) := by decide +kernel
theorem dX2_sortPart_26 : decode cX2_sortPart 26 = .ok (.iload 6, 2) := by decide +kernel
theorem dX2_sortPart_28 : decode cX2_sortPart 28 = .ok (.iload_n 1, 1) := by decide +kernel
theorem dX2_sortPart_29 : decode cX2_sortPart 29 = .ok (.if_icmp .le 50, 3) := by decide +kernel
theorem dX2_sortPart_32 : decode cX2_sortPart 32 = .ok (.aload_n 0, 1) := by decide +kernel
theorem dX2_sortPart_33 : decode cX2_sortPart 33 = .ok (.iload 5, 2) := by decide +kernel
theorem dX2_sortPart_35 : decode cX2_sortPart 35 = .ok (.aload_n 0, 1) := by decide +kernel
theorem dX2_sortPart_36 : decode cX2_sortPart 36 = .ok (.getfield 9, 3) := by decide +kernel
theorem dX2_sortPart_39 : decode cX2_sortPart 39 = .ok (.iload 6, 2) := by decide +kernel
theorem dX2_sortPart_41 : decode cX2_sortPart 41 = .ok (.iconst 1, 1) := by decide +kernel
theorem dX2_sortPart_42 : decode cX2_sortPart 42 = .ok (.isub, 1) := by decide +kernel
theorem dX2_sortPart_43 : decode cX2_sortPart 43 = .ok (.invokestatic 58, 3) := by decide +kernel
theorem dX2_sortPart_46 : decode cX2_sortPart 46 = .ok (.iload_n 3, 1) := by decide +kernel
theorem dX2_sortPart_47 : decode cX2_sortPart 47 = .ok (.invokevirtual 70, 3) := by decide +kernel
theorem dX2_sortPart_50 : decode cX2_sortPart 50 = .ok (.ifCond .eq 29, 3) := by decide +kernel
theorem dX2_sortPart_53 : decode cX2_sortPart 53 = .ok (.aload_n 0, 1) := by decide +kernel
theorem dX2_sortPart_54 : decode cX2_sortPart 54 = .ok (.getfield 9, 3) := by decide +kernel
theorem dX2_sortPart_57 : decode cX2_sortPart 57 = .ok (.iload 6, 2) := by decide +kernel
theorem dX2_sortPart_59 : decode cX2_sortPart 59 = .ok (.aload_n 0, 1) := by decide +kernel
theorem dX2_sortPart_60 : decode cX2_sortPart 60 = .ok (.getfield 9, 3) := by decide +kernel
theorem dX2_sortPart_63 : decode cX2_sortPart 63 = .ok (.iload 6, 2) := by decide +kernel
theorem dX2_sortPart_65 : decode cX2_sortPart 65 = .ok (.iconst 1, 1) := by decide +kernel
theorem dX2_sortPart_66 : decode cX2_sortPart 66 = .ok (.isub, 1) := by decide +kernel
theorem dX2_sortPart_67 : decode cX2_sortPart 67 = .ok (.invokestatic 58, 3) := by decide +kernel
theorem dX2_sortPart_70 : decode cX2_sortPart 70 = .ok (.invokestatic 66, 3) := by decide +kernel
theorem dX2_sortPart_73 : decode cX2_sortPart 73 = .ok (.iinc 6 (-1), 3) := by decide +kernel
theorem dX2_sortPart_76 : decode cX2_sortPart 76 = .ok (.goto (-50), 3) := by decide +kernel
theorem dX2_sortPart_79 : decode cX2_sortPart 79 = .ok (.aload_n 0, 1) := by decide +kernel
theorem dX2_sortPart_80 : decode cX2_sortPart 80 = .ok (.getfield 9, 3) := by decide +kernel
theorem dX2_sortPart_83 : decode cX2_sortPart 83 = .ok (.iload 6, 2) := by decide +kernel
theorem dX2_sortPart_85 : decode cX2_sortPart 85 = .ok (.iload 5, 2) := by decide +kernel
theorem dX2_sortPart_87 : decode cX2_sortPart 87 = .ok (.invokestatic 66, 3) := by decide +kernel
theorem dX2_sortPart_90 : decode cX2_sortPart 90 = .ok (.iinc 4 1, 3) := by decide +kernel
theorem dX2_sortPart_93 : decode cX2_sortPart 93 = .ok (.goto (-88), 3) := by decide +kernel
theorem dX2_sortPart_96 : decode cX2_sortPart 96 = .ok (.return_, 1) := by decide +kernel
theorem dX2_comesAhead_0 : decode cX2_comesAhead 0 = .ok (.aload_n 0, 1) := by decide +kernel
theorem dX2_comesAhead_1 : decode cX2_comesAhead 1 = .ok (.getfield 15, 3) := by decide +kernel
theorem dX2_comesAhead_4 : decode cX2_comesAhead 4 = .ok (.iload_n 1, 1) := by decide +kernel
theorem dX2_comesAhead_5 : decode cX2_comesAhead 5 = .ok (.iload_n 3, 1) := by decide +kernel
theorem dX2_comesAhead_6 : decode cX2_comesAhead 6 = .ok (.invokevirtual 74, 3) := by decide +kernel
theorem dX2_comesAhead_9 : decode cX2_comesAhead 9 = .ok (.aload_n 0, 1) := by decide +kernel
theorem dX2_comesAhead_10 : decode cX2_comesAhead 10 = .ok (.getfield 15, 3) := by decide +kernel
theorem dX2_comesAhead_13 : decode cX2_comesAhead 13 = .ok (.iload_n 2, 1) := by decide +kernel
theorem dX2_comesAhead_14 : decode cX2_comesAhead 14 = .ok (.iload_n 3, 1) := by decide +kernel
theorem dX2_comesAhead_15 : decode cX2_comesAhead 15 = .ok (.invokevirtual 74, 3) := by decide +kernel
theorem dX2_comesAhead_18 : decode cX2_comesAhead 18 = .ok (.isub, 1) := by decide +kernel
theorem dX2_comesAhead_19 : decode cX2_comesAhead 19 = .ok (.istore 4, 2) := by decide +kernel
theorem dX2_comesAhead_21 : decode cX2_comesAhead 21 = .ok (.iload 4, 2) := by decide +kernel
theorem dX2_comesAhead_23 : decode cX2_comesAhead 23 = .ok (.ifCond .lt 13, 3) := by decide +kernel
theorem dX2_comesAhead_26 : decode cX2_comesAhead 26 = .ok (.iload 4, 2) := by decide +kernel
theorem dX2_comesAhead_28 : decode cX2_comesAhead 28 = .ok (.ifCond .ne 12, 3) := by decide +kernel
theorem dX2_comesAhead_31 : decode cX2_comesAhead 31 = .ok (.iload_n 1, 1) := by decide +kernel
theorem dX2_comesAhead_32 : decode cX2_comesAhead 32 = .ok (.iload_n 2, 1) := by decide +kernel
theorem dX2_comesAhead_33 : decode cX2_comesAhead 33 = .ok (.if_icmp .ge 7, 3) := by decide +kernel
theorem dX2_comesAhead_36 : decode cX2_comesAhead 36 = .ok (.iconst 1, 1) := by decide +kernel
theorem dX2_comesAhead_37 : decode cX2_comesAhead 37 = .ok (.goto 4, 3) := by decide +kernel
theorem dX2_comesAhead_40 : decode cX2_comesAhead 40 = .ok (.iconst 0, 1) := by decide +kernel
theorem dX2_comesAhead_41 : decode cX2_comesAhead 41 = .ok (.ireturn, 1) := by decide +kernel
theorem dX2_groupRow_0 : decode cX2_groupRow 0 = .ok (.iconst 0, 1) := by decide +kernel
theorem dX2_groupRow_1 : decode cX2_groupRow 1 = .ok (.istore_n 3, 1) := by decide +kernel
theorem dX2_groupRow_2 : decode cX2_groupRow 2 = .ok (.iconst (-1), 1) := by decide +kernel
theorem dX2_groupRow_3 : decode cX2_groupRow 3 = .ok (.istore 4, 2) := by decide +kernel
theorem dX2_groupRow_5 : decode cX2_groupRow 5 = .ok (.iconst 0, 1) := by decide +kernel
theorem dX2_groupRow_6 : decode cX2_groupRow 6 = .ok (.istore 5, 2) := by decide +kernel
theorem dX2_groupRow_8 : decode cX2_groupRow 8 = .ok (.iload 5, 2) := by decide +kernel
theorem dX2_groupRow_10 : decode cX2_groupRow 10 = .ok (.iload_n 1, 1) := by decide +kernel
theorem dX2_groupRow_11 : decode cX2_groupRow 11 = .ok (.if_icmp .ge 88, 3) := by decide +kernel
theorem dX2_groupRow_14 : decode cX2_groupRow 14 = .ok (.aload_n 0, 1) := by decide +kernel
theorem dX2_groupRow_15 : decode cX2_groupRow 15 = .ok (.getfield 9, 3) := by decide +kernel
theorem dX2_groupRow_18 : decode cX2_groupRow 18 = .ok (.iload 5, 2) := by decide +kernel
theorem dX2_groupRow_20 : decode cX2_groupRow 20 = .ok (.invokestatic 58, 3) := by decide +kernel
theorem dX2_groupRow_23 : decode cX2_groupRow 23 = .ok (.istore 6, 2) := by decide +kernel
theorem dX2_groupRow_25 : decode cX2_groupRow 25 = .ok (.iload 4, 2) := by decide +kernel
theorem dX2_groupRow_27 : decode cX2_groupRow 27 = .ok (.iconst (-1), 1) := by decide +kernel
theorem dX2_groupRow_28 : decode cX2_groupRow 28 = .ok (.if_icmp .eq 22, 3) := by decide +kernel
theorem dX2_groupRow_31 : decode cX2_groupRow 31 = .ok (.aload_n 0, 1) := by decide +kernel
theorem dX2_groupRow_32 : decode cX2_groupRow 32 = .ok (.getfield 15, 3) := by decide +kernel
theorem dX2_groupRow_35 : decode cX2_groupRow 35 = .ok (.iload 4, 2) := by decide +kernel
theorem dX2_groupRow_37 : decode cX2_groupRow 37 = .ok (.invokevirtual 77, 3) := by decide +kernel
theorem dX2_groupRow_40 : decode cX2_groupRow 40 = .ok (.aload_n 0, 1) := by decide +kernel
theorem dX2_groupRow_41 : decode cX2_groupRow 41 = .ok (.getfield 15, 3) := by decide +kernel
theorem dX2_groupRow_44 : decode cX2_groupRow 44 = .ok (.getfield 36, 3) := by decide +kernel
theorem dX2_groupRow_47 : decode cX2_groupRow 47 = .ok (.if_icmp .lt 26, 3) := by decide +kernel
theorem dX2_groupRow_50 : decode cX2_groupRow 50 = .ok (.aload_n 0, 1) := by decide +kernel
theorem dX2_groupRow_51 : decode cX2_groupRow 51 = .ok (.getfield 15, 3) := by decide +kernel
theorem dX2_groupRow_54 : decode cX2_groupRow 54 = .ok (.iload_n 2, 1) := by decide +kernel
theorem dX2_groupRow_55 : decode cX2_groupRow 55 = .ok (.invokevirtual 28, 3) := by decide +kernel
theorem dX2_groupRow_58 : decode cX2_groupRow 58 = .ok (.istore 4, 2) := by decide +kernel
theorem dX2_groupRow_60 : decode cX2_groupRow 60 = .ok (.aload_n 0, 1) := by decide +kernel
theorem dX2_groupRow_61 : decode cX2_groupRow 61 = .ok (.getfield 9, 3) := by decide +kernel
theorem dX2_groupRow_64 : decode cX2_groupRow 64 = .ok (.iload_n 3, 1) := by decide +kernel
theorem dX2_groupRow_65 : decode cX2_groupRow 65 = .ok (.iload 4, 2) := by decide +kernel
theorem dX2_groupRow_67 : decode cX2_groupRow 67 = .ok (.invokestatic 66, 3) := by decide +kernel
theorem dX2_groupRow_70 : decode cX2_groupRow 70 = .ok (.iinc 3 1, 3) := by decide +kernel
theorem dX2_groupRow_73 : decode cX2_groupRow 73 = .ok (.aload_n 0, 1) := by decide +kernel
theorem dX2_groupRow_74 : decode cX2_groupRow 74 = .ok (.getfield 15, 3) := by decide +kernel
theorem dX2_groupRow_77 : decode cX2_groupRow 77 = .ok (.iload 4, 2) := by decide +kernel
theorem dX2_groupRow_79 : decode cX2_groupRow 79 = .ok (.aload_n 0, 1) := by decide +kernel
theorem dX2_groupRow_80 : decode cX2_groupRow 80 = .ok (.getfield 15, 3) := by decide +kernel
theorem dX2_groupRow_83 : decode cX2_groupRow 83 = .ok (.iload 4, 2) := by decide +kernel
theorem dX2_groupRow_85 : decode cX2_groupRow 85 = .ok (.invokevirtual 77, 3) := by decide +kernel
theorem dX2_groupRow_88 : decode cX2_groupRow 88 = .ok (.iload 6, 2) := by decide +kernel
theorem dX2_groupRow_90 : decode cX2_groupRow 90 = .ok (.invokevirtual 80, 3) := by decide +kernel
theorem dX2_groupRow_93 : decode cX2_groupRow 93 = .ok (.iinc 5 1, 3) := by decide +kernel
theorem dX2_groupRow_96 : decode cX2_groupRow 96 = .ok (.goto (-88), 3) := by decide +kernel
theorem dX2_groupRow_99 : decode cX2_groupRow 99 = .ok (.iload_n 3, 1) := by decide +kernel
theorem dX2_groupRow_100 : decode cX2_groupRow 100 = .ok (.ireturn, 1) := by decide +kernel
theorem dX3_init_0 : decode cX3_init 0 = .ok (.aload_n 0, 1) := by decide +kernel
theorem dX3_init_1 : decode cX3_init 1 = .ok (.invokespecial 3, 3) := by decide +kernel
theorem dX3_init_4 : decode cX3_init 4 = .ok (.aload_n 0, 1) := by decide +kernel
theorem dX3_init_5 : decode cX3_init 5 = .ok (.bipush 80, 2) := by decide +kernel
theorem dX3_init_7 : decode cX3_init 7 = .ok (.newarray .int, 2) := by decide +kernel
theorem dX3_init_9 : decode cX3_init 9 = .ok (.putfield 11, 3) := by decide +kernel
theorem dX3_init_12 : decode cX3_init 12 = .ok (.aload_n 0, 1) := by decide +kernel
theorem dX3_init_13 : decode cX3_init 13 = .ok (.iconst 0, 1) := by decide +kernel
theorem dX3_init_14 : decode cX3_init 14 = .ok (.putfield 15, 3) := by decide +kernel
theorem dX3_init_17 : decode cX3_init 17 = .ok (.aload_n 0, 1) := by decide +kernel
theorem dX3_init_18 : decode cX3_init 18 = .ok (.bipush 80, 2) := by decide +kernel
theorem dX3_init_20 : decode cX3_init 20 = .ok (.newarray .int, 2) := by decide +kernel
theorem dX3_init_22 : decode cX3_init 22 = .ok (.putfield 19, 3) := by decide +kernel
theorem dX3_init_25 : decode cX3_init 25 = .ok (.aload_n 0, 1) := by decide +kernel
theorem dX3_init_26 : decode cX3_init 26 = .ok (.iconst 0, 1) := by decide +kernel
theorem dX3_init_27 : decode cX3_init 27 = .ok (.putfield 22, 3) := by decide +kernel
theorem dX3_init_30 : decode cX3_init 30 = .ok (.aload_n 0, 1) := by decide +kernel
theorem dX3_init_31 : decode cX3_init 31 = .ok (.iconst 0, 1) := by decide +kernel
theorem dX3_init_32 : decode cX3_init 32 = .ok (.putfield 25, 3) := by decide +kernel
theorem dX3_init_35 : decode cX3_init 35 = .ok (.aload_n 0, 1) := by decide +kernel
theorem dX3_init_36 : decode cX3_init 36 = .ok (.iconst 0, 1) := by decide +kernel
theorem dX3_init_37 : decode cX3_init 37 = .ok (.putfield 28, 3) := by decide +kernel
theorem dX3_init_40 : decode cX3_init 40 = .ok (.aload_n 0, 1) := by decide +kernel
theorem dX3_init_41 : decode cX3_init 41 = .ok (.iconst 0, 1) := by decide +kernel
theorem dX3_init_42 : decode cX3_init 42 = .ok (.putfield 31, 3) := by decide +kernel
theorem dX3_init_45 : decode cX3_init 45 = .ok (.return_, 1) := by decide +kernel
theorem dX3_isFull_0 : decode cX3_isFull 0 = .ok (.aload_n 0, 1) := by decide +kernel
theorem dX3_isFull_1 : decode cX3_isFull 1 = .ok (.getfield 15, 3) := by decide +kernel
theorem dX3_isFull_4 : decode cX3_isFull 4 = .ok (.bipush 80, 2) := by decide +kernel
theorem dX3_isFull_6 : decode cX3_isFull 6 = .ok (.if_icmp .lt 7, 3) := by decide +kernel
theorem dX3_isFull_9 : decode cX3_isFull 9 = .ok (.iconst 1, 1) := by decide +kernel
theorem dX3_isFull_10 : decode cX3_isFull 10 = .ok (.goto 4, 3) := by decide +kernel
theorem dX3_isFull_13 : decode cX3_isFull 13 = .ok (.iconst 0, 1) := by decide +kernel
theorem dX3_isFull_14 : decode cX3_isFull 14 = .ok (.ireturn, 1) := by decide +kernel
theorem dX3_addLast_0 : decode cX3_addLast 0 = .ok (.aload_n 0, 1) := by decide +kernel
theorem dX3_addLast_1 : decode cX3_addLast 1 = .ok (.getfield 11, 3) := by decide +kernel
theorem dX3_addLast_4 : decode cX3_addLast 4 = .ok (.aload_n 0, 1) := by decide +kernel
theorem dX3_addLast_5 : decode cX3_addLast 5 = .ok (.getfield 15, 3) := by decide +kernel
theorem dX3_addLast_8 : decode cX3_addLast 8 = .ok (.iload_n 1, 1) := by decide +kernel
theorem dX3_addLast_9 : decode cX3_addLast 9 = .ok (.invokestatic 34, 3) := by decide +kernel
theorem dX3_addLast_12 : decode cX3_addLast 12 = .ok (.aload_n 0, 1) := by decide +kernel
theorem dX3_addLast_13 : decode cX3_addLast 13 = .ok (.dup, 1) := by decide +kernel
theorem dX3_addLast_14 : decode cX3_addLast 14 = .ok (.getfield 15, 3) := by decide +kernel
theorem dX3_addLast_17 : decode cX3_addLast 17 = .ok (.iconst 1, 1) := by decide +kernel
theorem dX3_addLast_18 : decode cX3_addLast 18 = .ok (.iadd, 1) := by decide +kernel
theorem dX3_addLast_19 : decode cX3_addLast 19 = .ok (.putfield 15, 3) := by decide +kernel
theorem dX3_addLast_22 : decode cX3_addLast 22 = .ok (.aload_n 0, 1) := by decide +kernel
theorem dX3_addLast_23 : decode cX3_addLast 23 = .ok (.getfield 15, 3) := by decide +kernel
theorem dX3_addLast_26 : decode cX3_addLast 26 = .ok (.ireturn, 1) := by decide +kernel
theorem dX3_makeEmpty_0 : decode cX3_makeEmpty 0 = .ok (.aload_n 0, 1) := by decide +kernel
theorem dX3_makeEmpty_1 : decode cX3_makeEmpty 1 = .ok (.getfield 15, 3) := by decide +kernel
theorem dX3_makeEmpty_4 : decode cX3_makeEmpty 4 = .ok (.istore_n 1, 1) := by decide +kernel
theorem dX3_makeEmpty_5 : decode cX3_makeEmpty 5 = .ok (.aload_n 0, 1) := by decide +kernel
theorem dX3_makeEmpty_6 : decode cX3_makeEmpty 6 = .ok (.iconst 0, 1) := by decide +kernel
theorem dX3_makeEmpty_7 : decode cX3_makeEmpty 7 = .ok (.putfield 15, 3) := by decide +kernel
theorem dX3_makeEmpty_10 : decode cX3_makeEmpty 10 = .ok (.iload_n 1, 1) := by decide +kernel
theorem dX3_makeEmpty_11 : decode cX3_makeEmpty 11 = .ok (.ireturn, 1) := by decide +kernel
theorem dX3_partOf_0 : decode cX3_partOf 0 = .ok (.aload_n 0, 1) := by decide +kernel
theorem dX3_partOf_1 : decode cX3_partOf 1 = .ok (.getfield 19, 3) := by decide +kernel
theorem dX3_partOf_4 : decode cX3_partOf 4 = .ok (.iload_n 1, 1) := by decide +kernel
theorem dX3_partOf_5 : decode cX3_partOf 5 = .ok (.iconst 4, 1) := by decide +kernel
theorem dX3_partOf_6 : decode cX3_partOf 6 = .ok (.imul, 1) := by decide +kernel
theorem dX3_partOf_7 : decode cX3_partOf 7 = .ok (.iload_n 2, 1) := by decide +kernel
theorem dX3_partOf_8 : decode cX3_partOf 8 = .ok (.iadd, 1) := by decide +kernel
theorem dX3_partOf_9 : decode cX3_partOf 9 = .ok (.invokestatic 38, 3) := by decide +kernel
theorem dX3_partOf_12 : decode cX3_partOf 12 = .ok (.ireturn, 1) := by decide +kernel
theorem dX3_findFault_0 : decode cX3_findFault 0 = .ok (.aload_n 0, 1) := by decide +kernel
theorem dX3_findFault_1 : decode cX3_findFault 1 = .ok (.iconst 0, 1) := by decide +kernel
theorem dX3_findFault_2 : decode cX3_findFault 2 = .ok (.putfield 22, 3) := by decide +kernel
theorem dX3_findFault_5 : decode cX3_findFault 5 = .ok (.aload_n 0, 1) := by decide +kernel
theorem dX3_findFault_6 : decode cX3_findFault 6 = .ok (.iconst 0, 1) := by decide +kernel
theorem dX3_findFault_7 : decode cX3_findFault 7 = .ok (.putfield 25, 3) := by decide +kernel
theorem dX3_findFault_10 : decode cX3_findFault 10 = .ok (.aload_n 0, 1) := by decide +kernel
theorem dX3_findFault_11 : decode cX3_findFault 11 = .ok (.iconst 0, 1) := by decide +kernel
theorem dX3_findFault_12 : decode cX3_findFault 12 = .ok (.putfield 28, 3) := by decide +kernel
theorem dX3_findFault_15 : decode cX3_findFault 15 = .ok (.aload_n 0, 1) := by decide +kernel
theorem dX3_findFault_16 : decode cX3_findFault 16 = .ok (.iconst 0, 1) := by decide +kernel
theorem dX3_findFault_17 : decode cX3_findFault 17 = .ok (.putfield 31, 3) := by decide +kernel
theorem dX3_findFault_20 : decode cX3_findFault 20 = .ok (.iconst 0, 1) := by decide +kernel
theorem dX3_findFault_21 : decode cX3_findFault 21 = .ok (.istore_n 1, 1) := by decide +kernel
theorem dX3_findFault_22 : decode cX3_findFault 22 = .ok (.iload_n 1, 1) := by decide +kernel
theorem dX3_findFault_23 : decode cX3_findFault 23 = .ok (.aload_n 0, 1) := by decide +kernel
theorem dX3_findFault_24 : decode cX3_findFault 24 = .ok (.getfield 15, 3) := by decide +kernel
theorem dX3_findFault_27 : decode cX3_findFault 27 = .ok (.if_icmp .ge 53, 3) := by decide +kernel
theorem dX3_findFault_30 : decode cX3_findFault 30 = .ok (.aload_n 0, 1) := by decide +kernel
theorem dX3_findFault_31 : decode cX3_findFault 31 = .ok (.getfield 11, 3) := by decide +kernel
theorem dX3_findFault_34 : decode cX3_findFault 34 = .ok (.iload_n 1, 1) := by decide +kernel
theorem dX3_findFault_35 : decode cX3_findFault 35 = .ok (.invokestatic 38, 3) := by decide +kernel
theorem dX3_findFault_38 : decode cX3_findFault 38 = .ok (.istore_n 2, 1) := by decide +kernel
theorem dX3_findFault_39 : decode cX3_findFault 39 = .ok (.iload_n 2, 1) := by decide +kernel
theorem dX3_findFault_40 : decode cX3_findFault 40 = .ok (.bipush 48, 2) := by decide +kernel
theorem dX3_findFault_42 : decode cX3_findFault 42 = .ok (.if_icmp .lt 20, 3) := by decide +kernel
theorem dX3_findFault_45 : decode cX3_findFault 45 = .ok (.iload_n 2, 1) := by decide +kernel
theorem dX3_findFault_46 : decode cX3_findFault 46 = .ok (.bipush 57, 2) := by decide +kernel
theorem dX3_findFault_48 : decode cX3_findFault 48 = .ok (.if_icmp .gt 14, 3) := by decide +kernel
theorem dX3_findFault_51 : decode cX3_findFault 51 = .ok (.aload_n 0, 1) := by decide +kernel
theorem dX3_findFault_52 : decode cX3_findFault 52 = .ok (.iload_n 2, 1) := by decide +kernel
theorem dX3_findFault_53 : decode cX3_findFault 53 = .ok (.bipush 48, 2) := by decide +kernel
theorem dX3_findFault_55 : decode cX3_findFault 55 = .ok (.isub, 1) := by decide +kernel
theorem dX3_findFault_56 : decode cX3_findFault 56 = .ok (.invokevirtual 42, 3) := by decide +kernel
theorem dX3_findFault_59 : decode cX3_findFault 59 = .ok (.goto 8, 3) := by decide +kernel
theorem dX3_findFault_62 : decode cX3_findFault 62 = .ok (.aload_n 0, 1) := by decide +kernel
theorem dX3_findFault_63 : decode cX3_findFault 63 = .ok (.iload_n 2, 1) := by decide +kernel
theorem dX3_findFault_64 : decode cX3_findFault 64 = .ok (.invokevirtual 46, 3) := by decide +kernel
theorem dX3_findFault_67 : decode cX3_findFault 67 = .ok (.istore_n 3, 1) := by decide +kernel
theorem dX3_findFault_68 : decode cX3_findFault 68 = .ok (.iload_n 3, 1) := by decide +kernel
theorem dX3_findFault_69 : decode cX3_findFault 69 = .ok (.ifCond .ne 5, 3) := by decide +kernel
theorem dX3_findFault_72 : decode cX3_findFault 72 = .ok (.iload_n 1, 1) := by decide +kernel
theorem dX3_findFault_73 : decode cX3_findFault 73 = .ok (.ireturn, 1) := by decide +kernel
theorem dX3_findFault_74 : decode cX3_findFault 74 = .ok (.iinc 1 1, 3) := by decide +kernel
theorem dX3_findFault_77 : decode cX3_findFault 77 = .ok (.goto (-55), 3) := by decide +kernel
theorem dX3_findFault_80 : decode cX3_findFault 80 = .ok (.aload_n 0, 1) := by decide +kernel
theorem dX3_findFault_81 : decode cX3_findFault 81 = .ok (.getfield 25, 3) := by decide +kernel
theorem dX3_findFault_84 : decode cX3_findFault 84 = .ok (.iconst 3, 1) := by decide +kernel
theorem dX3_findFault_85 : decode cX3_findFault 85 = .ok (.if_icmp .ne 16, 3) := by decide +kernel
theorem dX3_findFault_88 : decode cX3_findFault 88 = .ok (.aload_n 0, 1) := by decide +kernel
theorem dX3_findFault_89 : decode cX3_findFault 89 = .ok (.bipush 59, 2) := by decide +kernel
theorem dX3_findFault_91 : decode cX3_findFault 91 = .ok (.invokevirtual 46, 3) := by decide +kernel
theorem dX3_findFault_94 : decode cX3_findFault 94 = .ok (.ifCond .eq 7, 3) := by decide +kernel
theorem dX3_findFault_97 : decode cX3_findFault 97 = .ok (.iconst 1, 1) := by decide +kernel
theorem dX3_findFault_98 : decode cX3_findFault 98 = .ok (.goto 4, 3) := by decide +kernel
theorem dX3_findFault_101 : decode cX3_findFault 101 = .ok (.iconst 0, 1) := by decide +kernel
theorem dX3_findFault_102 : decode cX3_findFault 102 = .ok (.istore_n 1, 1) := by decide +kernel
theorem dX3_findFault_103 : decode cX3_findFault 103 = .ok (.iload_n 1, 1) := by decide +kernel
theorem dX3_findFault_104 : decode cX3_findFault 104 = .ok (.ifCond .eq 8, 3) := by decide +kernel
theorem dX3_findFault_107 : decode cX3_findFault 107 = .ok (.bipush (-5), 2) := by decide +kernel
theorem dX3_findFault_109 : decode cX3_findFault 109 = .ok (.goto 7, 3) := by decide +kernel
theorem dX3_findFault_112 : decode cX3_findFault 112 = .ok (.aload_n 0, 1) := by decide +kernel
theorem dX3_findFault_113 : decode cX3_findFault 113 = .ok (.getfield 15, 3) := by decide +kernel
theorem dX3_findFault_116 : decode cX3_findFault 116 = .ok (.ireturn, 1) := by decide +kernel
theorem dX3_takeDigit_0 : decode cX3_takeDigit 0 = .ok (.aload_n 0, 1) := by decide +kernel
theorem dX3_takeDigit_1 : decode cX3_takeDigit 1 = .ok (.getfield 28, 3) := by decide +kernel
theorem dX3_takeDigit_4 : decode cX3_takeDigit 4 = .ok (.iconst 2, 1) := by decide +kernel
theorem dX3_takeDigit_5 : decode cX3_takeDigit 5 = .ok (.if_icmp .eq 18, 3) := by decide +kernel
theorem dX3_takeDigit_8 : decode cX3_takeDigit 8 = .ok (.aload_n 0, 1) := by decide +kernel
theorem dX3_takeDigit_9 : decode cX3_takeDigit 9 = .ok (.getfield 28, 3) := by decide +kernel
theorem dX3_takeDigit_12 : decode cX3_takeDigit 12 = .ok (.iconst 1, 1) := by decide +kernel
theorem dX3_takeDigit_13 : decode cX3_takeDigit 13 = .ok (.if_icmp .ne 12, 3) := by decide +kernel
theorem dX3_takeDigit_16 : decode cX3_takeDigit 16 = .ok (.aload_n 0, 1) := by decide +kernel
theorem dX3_takeDigit_17 : decode cX3_takeDigit 17 = .ok (.getfield 31, 3) := by decide +kernel
theorem dX3_takeDigit_20 : decode cX3_takeDigit 20 = .ok (.ifCond .ne 5, 3) := by decide +kernel
theorem dX3_takeDigit_23 : decode cX3_takeDigit 23 = .ok (.iconst 0, 1) := by decide +kernel
theorem dX3_takeDigit_24 : decode cX3_takeDigit 24 = .ok (.ireturn, 1) := by decide +kernel
theorem dX3_takeDigit_25 : decode cX3_takeDigit 25 = .ok (.aload_n 0, 1) := by decide +kernel
theorem dX3_takeDigit_26 : decode cX3_takeDigit 26 = .ok (.getfield 31, 3) := by decide +kernel
theorem dX3_takeDigit_29 : decode cX3_takeDigit 29 = .ok (.bipush 10, 2) := by decide +kernel
theorem dX3_takeDigit_31 : decode cX3_takeDigit 31 = .ok (.imul, 1) := by decide +kernel
theorem dX3_takeDigit_32 : decode cX3_takeDigit 32 = .ok (.iload_n 1, 1) := by decide +kernel
theorem dX3_takeDigit_33 : decode cX3_takeDigit 33 = .ok (.iadd, 1) := by decide +kernel
theorem dX3_takeDigit_34 : decode cX3_takeDigit 34 = .ok (.istore_n 2, 1) := by decide +kernel
theorem dX3_takeDigit_35 : decode cX3_takeDigit 35 = .ok (.aload_n 0, 1) := by decide +kernel
theorem dX3_takeDigit_36 : decode cX3_takeDigit 36 = .ok (.getfield 28, 3) := by decide +kernel
theorem dX3_takeDigit_39 : decode cX3_takeDigit 39 = .ok (.ifCond .ne 17, 3) := by decide +kernel
theorem dX3_takeDigit_42 : decode cX3_takeDigit 42 = .ok (.iload_n 1, 1) := by decide +kernel
theorem dX3_takeDigit_43 : decode cX3_takeDigit 43 = .ok (.ifCond .le 13, 3) := by decide +kernel
theorem dX3_takeDigit_46 : decode cX3_takeDigit 46 = .ok (.iload_n 2, 1) := by decide +kernel
theorem dX3_takeDigit_47 : decode cX3_takeDigit 47 = .ok (.bipush 10, 2) := by decide +kernel
theorem dX3_takeDigit_49 : decode cX3_takeDigit 49 = .ok (.imul, 1) := by decide +kernel
theorem dX3_takeDigit_50 : decode cX3_takeDigit 50 = .ok (.bipush 9, 2) := by decide +kernel
theorem dX3_takeDigit_52 : decode cX3_takeDigit 52 = .ok (.iadd, 1) := by decide +kernel
theorem dX3_takeDigit_53 : decode cX3_takeDigit 53 = .ok (.goto 4, 3) := by decide +kernel
theorem dX3_takeDigit_56 : decode cX3_takeDigit 56 = .ok (.iload_n 2, 1) := by decide +kernel
theorem dX3_takeDigit_57 : decode cX3_takeDigit 57 = .ok (.istore_n 3, 1) := by decide +kernel
theorem dX3_takeDigit_58 : decode cX3_takeDigit 58 = .ok (.iload_n 3, 1) := by decide +kernel
theorem dX3_takeDigit_59 : decode cX3_takeDigit 59 = .ok (.aload_n 0, 1) := by decide +kernel
theorem dX3_takeDigit_60 : decode cX3_takeDigit 60 = .ok (.invokevirtual 49, 3) := by decide +kernel
theorem dX3_takeDigit_63 : decode cX3_takeDigit 63 = .ok (.if_icmp .ge 5, 3) := by decide +kernel
theorem dX3_takeDigit_66 : decode cX3_takeDigit 66 = .ok (.iconst 0, 1) := by decide +kernel
theorem dX3_takeDigit_67 : decode cX3_takeDigit 67 = .ok (.ireturn, 1) := by decide +kernel
theorem dX3_takeDigit_68 : decode cX3_takeDigit 68 = .ok (.aload_n 0, 1) := by decide +kernel
theorem dX3_takeDigit_69 : decode cX3_takeDigit 69 = .ok (.iload_n 2, 1) := by decide +kernel
theorem dX3_takeDigit_70 : decode cX3_takeDigit 70 = .ok (.putfield 31, 3) := by decide +kernel
theorem dX3_takeDigit_73 : decode cX3_takeDigit 73 = .ok (.aload_n 0, 1) := by decide +kernel
theorem dX3_takeDigit_74 : decode cX3_takeDigit 74 = .ok (.dup, 1) := by decide +kernel
theorem dX3_takeDigit_75 : decode cX3_takeDigit 75 = .ok (.getfield 28, 3) := by decide +kernel
theorem dX3_takeDigit_78 : decode cX3_takeDigit 78 = .ok (.iconst 1, 1) := by decide +kernel
theorem dX3_takeDigit_79 : decode cX3_takeDigit 79 = .ok (.iadd, 1) := by decide +kernel
theorem dX3_takeDigit_80 : decode cX3_takeDigit 80 = .ok (.putfield 28, 3) := by decide +kernel
theorem dX3_takeDigit_83 : decode cX3_takeDigit 83 = .ok (.iconst 1, 1) := by decide +kernel
theorem dX3_takeDigit_84 : decode cX3_takeDigit 84 = .ok (.ireturn, 1) := by decide +kernel
theorem dX3_takeSign_0 : decode cX3_takeSign 0 = .ok (.aload_n 0, 1) := by decide +kernel
theorem dX3_takeSign_1 : decode cX3_takeSign 1 = .ok (.getfield 25, 3) := by decide +kernel
theorem dX3_takeSign_4 : decode cX3_takeSign 4 = .ok (.iconst 3, 1) := by decide +kernel
theorem dX3_takeSign_5 : decode cX3_takeSign 5 = .ok (.if_icmp .ne 8, 3) := by decide +kernel
theorem dX3_takeSign_8 : decode cX3_takeSign 8 = .ok (.bipush 59, 2) := by decide +kernel
theorem dX3_takeSign_10 : decode cX3_takeSign 10 = .ok (.goto 5, 3) := by decide +kernel
theorem dX3_takeSign_13 : decode cX3_takeSign 13 = .ok (.bipush 44, 2) := by decide +kernel
theorem dX3_takeSign_15 : decode cX3_takeSign 15 = .ok (.istore_n 2, 1) := by decide +kernel
theorem dX3_takeSign_16 : decode cX3_takeSign 16 = .ok (.iload_n 1, 1) := by decide +kernel
theorem dX3_takeSign_17 : decode cX3_takeSign 17 = .ok (.iload_n 2, 1) := by decide +kernel
theorem dX3_takeSign_18 : decode cX3_takeSign 18 = .ok (.if_icmp .ne 21, 3) := by decide +kernel
theorem dX3_takeSign_21 : decode cX3_takeSign 21 = .ok (.aload_n 0, 1) := by decide +kernel
theorem dX3_takeSign_22 : decode cX3_takeSign 22 = .ok (.getfield 28, 3) := by decide +kernel
theorem dX3_takeSign_25 : decode cX3_takeSign 25 = .ok (.ifCond .eq 14, 3) := by decide +kernel
theorem dX3_takeSign_28 : decode cX3_takeSign 28 = .ok (.aload_n 0, 1) := by decide +kernel
theorem dX3_takeSign_29 : decode cX3_takeSign 29 = .ok (.getfield 31, 3) := by decide +kernel
theorem dX3_takeSign_32 : decode cX3_takeSign 32 = .ok (.aload_n 0, 1) := by decide +kernel
theorem dX3_takeSign_33 : decode cX3_takeSign 33 = .ok (.invokevirtual 49, 3) := by decide +kernel
theorem dX3_takeSign_36 : decode cX3_takeSign 36 = .ok (.if_icmp .ge 5, 3) := by decide +kernel
theorem dX3_takeSign_39 : decode cX3_takeSign 39 = .ok (.iconst 0, 1) := by decide +kernel
theorem dX3_takeSign_40 : decode cX3_takeSign 40 = .ok (.ireturn, 1) := by decide +kernel
theorem dX3_takeSign_41 : decode cX3_takeSign 41 = .ok (.aload_n 0, 1) := by decide +kernel
theorem dX3_takeSign_42 : decode cX3_takeSign 42 = .ok (.getfield 19, 3) := by decide +kernel
theorem dX3_takeSign_45 : decode cX3_takeSign 45 = .ok (.aload_n 0, 1) := by decide +kernel
theorem dX3_takeSign_46 : decode cX3_takeSign 46 = .ok (.getfield 22, 3) := by decide +kernel
theorem dX3_takeSign_49 : decode cX3_takeSign 49 = .ok (.iconst 4, 1) := by decide +kernel
theorem dX3_takeSign_50 : decode cX3_takeSign 50 = .ok (.imul, 1) := by decide +kernel
theorem dX3_takeSign_51 : decode cX3_takeSign 51 = .ok (.aload_n 0, 1) := by decide +kernel
theorem dX3_takeSign_52 : decode cX3_takeSign 52 = .ok (.getfield 25, 3) := by decide +kernel
theorem dX3_takeSign_55 : decode cX3_takeSign 55 = .ok (.iadd, 1) := by decide +kernel
theorem dX3_takeSign_56 : decode cX3_takeSign 56 = .ok (.aload_n 0, 1) := by decide +kernel
theorem dX3_takeSign_57 : decode cX3_takeSign 57 = .ok (.getfield 31, 3) := by decide +kernel
theorem dX3_takeSign_60 : decode cX3_takeSign 60 = .ok (.invokestatic 34, 3) := by decide +kernel
theorem dX3_takeSign_63 : decode cX3_takeSign 63 = .ok (.aload_n 0, 1) := by decide +kernel
theorem dX3_takeSign_64 : decode cX3_takeSign 64 = .ok (.dup, 1) := by decide +kernel
theorem dX3_takeSign_65 : decode cX3_takeSign 65 = .ok (.getfield 25, 3) := by decide +kernel
theorem dX3_takeSign_68 : decode cX3_takeSign 68 = .ok (.iconst 1, 1) := by decide +kernel
theorem dX3_takeSign_69 : decode cX3_takeSign 69 = .ok (.iadd, 1) := by decide +kernel
theorem dX3_takeSign_70 : decode cX3_takeSign 70 = .ok (.putfield 25, 3) := by decide +kernel
theorem dX3_takeSign_73 : decode cX3_takeSign 73 = .ok (.aload_n 0, 1) := by decide +kernel
theorem dX3_takeSign_74 : decode cX3_takeSign 74 = .ok (.getfield 25, 3) := by decide +kernel
theorem dX3_takeSign_77 : decode cX3_takeSign 77 = .ok (.iconst 4, 1) := by decide +kernel
theorem dX3_takeSign_78 : decode cX3_takeSign 78 = .ok (.if_icmp .ne 18, 3) := by decide +kernel
theorem dX3_takeSign_81 : decode cX3_takeSign 81 = .ok (.aload_n 0, 1) := by decide +kernel
theorem dX3_takeSign_82 : decode cX3_takeSign 82 = .ok (.iconst 0, 1) := by decide +kernel
theorem dX3_takeSign_83 : decode cX3_takeSign 83 = .ok (.putfield 25, 3) := by decide +kernel
theorem dX3_takeSign_86 : decode cX3_takeSign 86 = .ok (.aload_n 0, 1) := by decide +kernel
theorem dX3_takeSign_87 : decode cX3_takeSign 87 = .ok (.dup, 1) := by decide +kernel
theorem dX3_takeSign_88 : decode cX3_takeSign 88 = .ok (.getfield 22, 3) := by decide +kernel
theorem dX3_takeSign_91 : decode cX3_takeSign 91 = .ok (.iconst 1, 1) := by decide +kernel
theorem dX3_takeSign_92 : decode cX3_takeSign 92 = .ok (.iadd, 1) := by decide +kernel
theorem dX3_takeSign_93 : decode cX3_takeSign 93 = .ok (.putfield 22, 3) := by decide +kernel
theorem dX3_takeSign_96 : decode cX3_takeSign 96 = .ok (.aload_n 0, 1) := by decide +kernel
theorem dX3_takeSign_97 : decode cX3_takeSign 97 = .ok (.iconst 0, 1) := by decide +kernel
theorem dX3_takeSign_98 : decode cX3_takeSign 98 = .ok (.putfield 28, 3) := by decide +kernel
theorem dX3_takeSign_101 : decode cX3_takeSign 101 = .ok (.aload_n 0, 1) := by decide +kernel
theorem dX3_takeSign_102 : decode cX3_takeSign 102 = .ok (.iconst 0, 1) := by decide +kernel
theorem dX3_takeSign_103 : decode cX3_takeSign 103 = .ok (.putfield 31, 3) := by decide +kernel
theorem dX3_takeSign_106 : decode cX3_takeSign 106 = .ok (.iconst 1, 1) := by decide +kernel
theorem dX3_takeSign_107 : decode cX3_takeSign 107 = .ok (.ireturn, 1) := by decide +kernel
theorem dX3_leastNumber_0 : decode cX3_leastNumber 0 = .ok (.aload_n 0, 1) := by decide +kernel
theorem dX3_leastNumber_1 : decode cX3_leastNumber 1 = .ok (.getfield 25, 3) := by decide +kernel
theorem dX3_leastNumber_4 : decode cX3_leastNumber 4 = .ok (.iconst 2, 1) := by decide +kernel
theorem dX3_leastNumber_5 : decode cX3_leastNumber 5 = .ok (.if_icmp .ge 7, 3) := by decide +kernel
theorem dX3_leastNumber_8 : decode cX3_leastNumber 8 = .ok (.iconst 0, 1) := by decide +kernel
theorem dX3_leastNumber_9 : decode cX3_leastNumber 9 = .ok (.goto 23, 3) := by decide +kernel
theorem dX3_leastNumber_12 : decode cX3_leastNumber 12 = .ok (.aload_n 0, 1) := by decide +kernel
theorem dX3_leastNumber_13 : decode cX3_leastNumber 13 = .ok (.getfield 19, 3) := by decide +kernel
theorem dX3_leastNumber_16 : decode cX3_leastNumber 16 = .ok (.aload_n 0, 1) := by decide +kernel
theorem dX3_leastNumber_17 : decode cX3_leastNumber 17 = .ok (.getfield 22, 3) := by decide +kernel
theorem dX3_leastNumber_20 : decode cX3_leastNumber 20 = .ok (.iconst 4, 1) := by decide +kernel
theorem dX3_leastNumber_21 : decode cX3_leastNumber 21 = .ok (.imul, 1) := by decide +kernel
theorem dX3_leastNumber_22 : decode cX3_leastNumber 22 = .ok (.aload_n 0, 1) := by decide +kernel
theorem dX3_leastNumber_23 : decode cX3_leastNumber 23 = .ok (.getfield 25, 3) := by decide +kernel
theorem dX3_leastNumber_26 : decode cX3_leastNumber 26 = .ok (.iadd, 1) := by decide +kernel
theorem dX3_leastNumber_27 : decode cX3_leastNumber 27 = .ok (.iconst 2, 1) := by decide +kernel
theorem dX3_leastNumber_28 : decode cX3_leastNumber 28 = .ok (.isub, 1) := by decide +kernel
theorem dX3_leastNumber_29 : decode cX3_leastNumber 29 = .ok (.invokestatic 38, 3) := by decide +kernel
theorem dX3_leastNumber_32 : decode cX3_leastNumber 32 = .ok (.ireturn, 1) := by decide +kernel
theorem dX4_init_0 : decode cX4_init 0 = .ok (.aload_n 0, 1) := by decide +kernel
theorem dX4_init_1 : decode cX4_init 1 = .ok (.invokespecial 3, 3) := by decide +kernel
theorem dX4_init_4 : decode cX4_init 4 = .ok (.aload_n 0, 1) := by decide +kernel
theorem dX4_init_5 : decode cX4_init 5 = .ok (.sipush 157, 3) := by decide +kernel
theorem dX4_init_8 : decode cX4_init 8 = .ok (.newarray .int, 2) := by decide +kernel
theorem dX4_init_10 : decode cX4_init 10 = .ok (.putfield 9, 3) := by decide +kernel
theorem dX4_init_13 : decode cX4_init 13 = .ok (.aload_n 0, 1) := by decide +kernel
theorem dX4_init_14 : decode cX4_init 14 = .ok (.sipush 157, 3) := by decide +kernel
theorem dX4_init_17 : decode cX4_init 17 = .ok (.newarray .int, 2) := by decide +kernel
theorem dX4_init_19 : decode cX4_init 19 = .ok (.putfield 15, 3) := by decide +kernel
theorem dX4_init_22 : decode cX4_init 22 = .ok (.aload_n 0, 1) := by decide +kernel
theorem dX4_init_23 : decode cX4_init 23 = .ok (.sipush 157, 3) := by decide +kernel
theorem dX4_init_26 : decode cX4_init 26 = .ok (.newarray .int, 2) := by decide +kernel
theorem dX4_init_28 : decode cX4_init 28 = .ok (.putfield 18, 3) := by decide +kernel
theorem dX4_init_31 : decode cX4_init 31 = .ok (.aload_n 0, 1) := by decide +kernel
theorem dX4_init_32 : decode cX4_init 32 = .ok (.sipush 628, 3) := by decide +kernel
theorem dX4_init_35 : decode cX4_init 35 = .ok (.newarray .int, 2) := by decide +kernel
theorem dX4_init_37 : decode cX4_init 37 = .ok (.putfield 21, 3) := by decide +kernel
theorem dX4_init_40 : decode cX4_init 40 = .ok (.aload_n 0, 1) := by decide +kernel
theorem dX4_init_41 : decode cX4_init 41 = .ok (.sipush 942, 3) := by decide +kernel
theorem dX4_init_44 : decode cX4_init 44 = .ok (.newarray .int, 2) := by decide +kernel
theorem dX4_init_46 : decode cX4_init 46 = .ok (.putfield 24, 3) := by decide +kernel
theorem dX4_init_49 : decode cX4_init 49 = .ok (.aload_n 0, 1) := by decide +kernel
theorem dX4_init_50 : decode cX4_init 50 = .ok (.bipush 24, 2) := by decide +kernel
theorem dX4_init_52 : decode cX4_init 52 = .ok (.putfield 27, 3) := by decide +kernel
theorem dX4_init_55 : decode cX4_init 55 = .ok (.aload_n 0, 1) := by decide +kernel
theorem dX4_init_56 : decode cX4_init 56 = .ok (.iconst 4, 1) := by decide +kernel
theorem dX4_init_57 : decode cX4_init 57 = .ok (.putfield 31, 3) := by decide +kernel
theorem dX4_init_60 : decode cX4_init 60 = .ok (.aload_n 0, 1) := by decide +kernel
theorem dX4_init_61 : decode cX4_init 61 = .ok (.iconst 1, 1) := by decide +kernel
theorem dX4_init_62 : decode cX4_init 62 = .ok (.putfield 34, 3) := by decide +kernel
theorem dX4_init_65 : decode cX4_init 65 = .ok (.aload_n 0, 1) := by decide +kernel
theorem dX4_init_66 : decode cX4_init 66 = .ok (.iconst 0, 1) := by decide +kernel
theorem dX4_init_67 : decode cX4_init 67 = .ok (.putfield 37, 3) := by decide +kernel
theorem dX4_init_70 : decode cX4_init 70 = .ok (.aload_n 0, 1) := by decide +kernel
theorem dX4_init_71 : decode cX4_init 71 = .ok (.iconst 0, 1) := by decide +kernel
theorem dX4_init_72 : decode cX4_init 72 = .ok (.putfield 40, 3) := by decide +kernel
theorem dX4_init_75 : decode cX4_init 75 = .ok (.aload_n 0, 1) := by decide +kernel
theorem dX4_init_76 : decode cX4_init 76 = .ok (.getfield 9, 3) := by decide +kernel
theorem dX4_init_79 : decode cX4_init 79 = .ok (.bipush (-2), 2) := by decide +kernel
theorem dX4_init_81 : decode cX4_init 81 = .ok (.invokestatic 43, 3) := by decide +kernel
theorem dX4_init_84 : decode cX4_init 84 = .ok (.aload_n 0, 1) := by decide +kernel
theorem dX4_init_85 : decode cX4_init 85 = .ok (.getfield 9, 3) := by decide +kernel
theorem dX4_init_88 : decode cX4_init 88 = .ok (.aload_n 0, 1) := by decide +kernel
theorem dX4_init_89 : decode cX4_init 89 = .ok (.getfield 27, 3) := by decide +kernel
theorem dX4_init_92 : decode cX4_init 92 = .ok (.iconst 0, 1) := by decide +kernel
theorem dX4_init_93 : decode cX4_init 93 = .ok (.invokestatic 49, 3) := by decide +kernel
theorem dX4_init_96 : decode cX4_init 96 = .ok (.aload_n 0, 1) := by decide +kernel
theorem dX4_init_97 : decode cX4_init 97 = .ok (.getfield 15, 3) := by decide +kernel
theorem dX4_init_100 : decode cX4_init 100 = .ok (.aload_n 0, 1) := by decide +kernel
theorem dX4_init_101 : decode cX4_init 101 = .ok (.getfield 27, 3) := by decide +kernel
theorem dX4_init_104 : decode cX4_init 104 = .ok (.iconst (-1), 1) := by decide +kernel
theorem dX4_init_105 : decode cX4_init 105 = .ok (.invokestatic 49, 3) := by decide +kernel
theorem dX4_init_108 : decode cX4_init 108 = .ok (.return_, 1) := by decide +kernel
theorem dX4_copyFrom_0 : decode cX4_copyFrom 0 = .ok (.aload_n 1, 1) := by decide +kernel
theorem dX4_copyFrom_1 : decode cX4_copyFrom 1 = .ok (.getfield 9, 3) := by decide +kernel
theorem dX4_copyFrom_4 : decode cX4_copyFrom 4 = .ok (.aload_n 0, 1) := by decide +kernel
theorem dX4_copyFrom_5 : decode cX4_copyFrom 5 = .ok (.getfield 9, 3) := by decide +kernel
theorem dX4_copyFrom_8 : decode cX4_copyFrom 8 = .ok (.invokestatic 53, 3) := by decide +kernel
theorem dX4_copyFrom_11 : decode cX4_copyFrom 11 = .ok (.aload_n 1, 1) := by decide +kernel
theorem dX4_copyFrom_12 : decode cX4_copyFrom 12 = .ok (.getfield 15, 3) := by decide +kernel
theorem dX4_copyFrom_15 : decode cX4_copyFrom 15 = .ok (.aload_n 0, 1) := by decide +kernel
theorem dX4_copyFrom_16 : decode cX4_copyFrom 16 = .ok (.getfield 15, 3) := by decide +kernel
theorem dX4_copyFrom_19 : decode cX4_copyFrom 19 = .ok (.invokestatic 53, 3) := by decide +kernel
theorem dX4_copyFrom_22 : decode cX4_copyFrom 22 = .ok (.aload_n 1, 1) := by decide +kernel
theorem dX4_copyFrom_23 : decode cX4_copyFrom 23 = .ok (.getfield 18, 3) := by decide +kernel
theorem dX4_copyFrom_26 : decode cX4_copyFrom 26 = .ok (.aload_n 0, 1) := by decide +kernel
theorem dX4_copyFrom_27 : decode cX4_copyFrom 27 = .ok (.getfield 18, 3) := by decide +kernel
theorem dX4_copyFrom_30 : decode cX4_copyFrom 30 = .ok (.invokestatic 53, 3) := by decide +kernel
theorem dX4_copyFrom_33 : decode cX4_copyFrom 33 = .ok (.aload_n 1, 1) := by decide +kernel
theorem dX4_copyFrom_34 : decode cX4_copyFrom 34 = .ok (.getfield 21, 3) := by decide +kernel
theorem dX4_copyFrom_37 : decode cX4_copyFrom 37 = .ok (.aload_n 0, 1) := by decide +kernel
theorem dX4_copyFrom_38 : decode cX4_copyFrom 38 = .ok (.getfield 21, 3) := by decide +kernel
theorem dX4_copyFrom_41 : decode cX4_copyFrom 41 = .ok (.invokestatic 53, 3) := by decide +kernel
theorem dX4_copyFrom_44 : decode cX4_copyFrom 44 = .ok (.aload_n 1, 1) := by decide +kernel
theorem dX4_copyFrom_45 : decode cX4_copyFrom 45 = .ok (.getfield 24, 3) := by decide +kernel
theorem dX4_copyFrom_48 : decode cX4_copyFrom 48 = .ok (.aload_n 0, 1) := by decide +kernel
theorem dX4_copyFrom_49 : decode cX4_copyFrom 49 = .ok (.getfield 24, 3) := by decide +kernel
theorem dX4_copyFrom_52 : decode cX4_copyFrom 52 = .ok (.invokestatic 53, 3) := by decide +kernel
theorem dX4_copyFrom_55 : decode cX4_copyFrom 55 = .ok (.aload_n 0, 1) := by decide +kernel
theorem dX4_copyFrom_56 : decode cX4_copyFrom 56 = .ok (.aload_n 1, 1) := by decide +kernel
theorem dX4_copyFrom_57 : decode cX4_copyFrom 57 = .ok (.getfield 27, 3) := by decide +kernel
theorem dX4_copyFrom_60 : decode cX4_copyFrom 60 = .ok (.putfield 27, 3) := by decide +kernel
theorem dX4_copyFrom_63 : decode cX4_copyFrom 63 = .ok (.aload_n 0, 1) := by decide +kernel
theorem dX4_copyFrom_64 : decode cX4_copyFrom 64 = .ok (.aload_n 1, 1) := by decide +kernel
theorem dX4_copyFrom_65 : decode cX4_copyFrom 65 = .ok (.getfield 31, 3) := by decide +kernel
theorem dX4_copyFrom_68 : decode cX4_copyFrom 68 = .ok (.putfield 31, 3) := by decide +kernel
theorem dX4_copyFrom_71 : decode cX4_copyFrom 71 = .ok (.aload_n 0, 1) := by decide +kernel
theorem dX4_copyFrom_72 : decode cX4_copyFrom 72 = .ok (.aload_n 1, 1) := by decide +kernel
theorem dX4_copyFrom_73 : decode cX4_copyFrom 73 = .ok (.getfield 34, 3) := by decide +kernel
theorem dX4_copyFrom_76 : decode cX4_copyFrom 76 = .ok (.putfield 34, 3) := by decide +kernel
theorem dX4_copyFrom_79 : decode cX4_copyFrom 79 = .ok (.aload_n 0, 1) := by decide +kernel
theorem dX4_copyFrom_80 : decode cX4_copyFrom 80 = .ok (.aload_n 1, 1) := by decide +kernel
theorem dX4_copyFrom_81 : decode cX4_copyFrom 81 = .ok (.getfield 37, 3) := by decide +kernel
theorem dX4_copyFrom_84 : decode cX4_copyFrom 84 = .ok (.putfield 37, 3) := by decide +kernel
theorem dX4_copyFrom_87 : decode cX4_copyFrom 87 = .ok (.aload_n 0, 1) := by decide +kernel
theorem dX4_copyFrom_88 : decode cX4_copyFrom 88 = .ok (.aload_n 1, 1) := by decide +kernel
theorem dX4_copyFrom_89 : decode cX4_copyFrom 89 = .ok (.getfield 40, 3) := by decide +kernel
theorem dX4_copyFrom_92 : decode cX4_copyFrom 92 = .ok (.putfield 40, 3) := by decide +kernel
theorem dX4_copyFrom_95 : decode cX4_copyFrom 95 = .ok (.return_, 1) := by decide +kernel
theorem dX4_copyRow_0 : decode cX4_copyRow 0 = .ok (.aload_n 0, 1) := by decide +kernel
theorem dX4_copyRow_1 : decode cX4_copyRow 1 = .ok (.iconst 0, 1) := by decide +kernel
theorem dX4_copyRow_2 : decode cX4_copyRow 2 = .ok (.aload_n 1, 1) := by decide +kernel
theorem dX4_copyRow_3 : decode cX4_copyRow 3 = .ok (.iconst 0, 1) := by decide +kernel
theorem dX4_copyRow_4 : decode cX4_copyRow 4 = .ok (.aload_n 0, 1) := by decide +kernel
theorem dX4_copyRow_5 : decode cX4_copyRow 5 = .ok (.arraylength, 1) := by decide +kernel
theorem dX4_copyRow_6 : decode cX4_copyRow 6 = .ok (.aload_n 1, 1) := by decide +kernel
theorem dX4_copyRow_7 : decode cX4_copyRow 7 = .ok (.arraylength, 1) := by decide +kernel
theorem dX4_copyRow_8 : decode cX4_copyRow 8 = .ok (.invokestatic 57, 3) := by decide +kernel
theorem dX4_copyRow_11 : decode cX4_copyRow 11 = .ok (.invokestatic 63, 3) := by decide +kernel
theorem dX4_copyRow_14 : decode cX4_copyRow 14 = .ok (.return_, 1) := by decide +kernel
theorem dX4_levelOf_0 : decode cX4_levelOf 0 = .ok (.iload_n 1, 1) := by decide +kernel
theorem dX4_levelOf_1 : decode cX4_levelOf 1 = .ok (.ifCond .lt 21, 3) := by decide +kernel
theorem dX4_levelOf_4 : decode cX4_levelOf 4 = .ok (.iload_n 1, 1) := by decide +kernel
theorem dX4_levelOf_5 : decode cX4_levelOf 5 = .ok (.aload_n 0, 1) := by decide +kernel
theorem dX4_levelOf_6 : decode cX4_levelOf 6 = .ok (.getfield 9, 3) := by decide +kernel
theorem dX4_levelOf_9 : decode cX4_levelOf 9 = .ok (.arraylength, 1) := by decide +kernel
theorem dX4_levelOf_10 : decode cX4_levelOf 10 = .ok (.if_icmp .ge 12, 3) := by decide +kernel
theorem dX4_levelOf_13 : decode cX4_levelOf 13 = .ok (.aload_n 0, 1) := by decide +kernel
theorem dX4_levelOf_14 : decode cX4_levelOf 14 = .ok (.getfield 9, 3) := by decide +kernel
theorem dX4_levelOf_17 : decode cX4_levelOf 17 = .ok (.iload_n 1, 1) := by decide +kernel
theorem dX4_levelOf_18 : decode cX4_levelOf 18 = .ok (.iaload, 1) := by decide +kernel
theorem dX4_levelOf_19 : decode cX4_levelOf 19 = .ok (.goto 5, 3) := by decide +kernel
theorem dX4_levelOf_22 : decode cX4_levelOf 22 = .ok (.bipush (-2), 2) := by decide +kernel
theorem dX4_levelOf_24 : decode cX4_levelOf 24 = .ok (.ireturn, 1) := by decide +kernel
theorem dX4_holderOf_0 : decode cX4_holderOf 0 = .ok (.aload_n 0, 1) := by decide +kernel
theorem dX4_holderOf_1 : decode cX4_holderOf 1 = .ok (.getfield 15, 3) := by decide +kernel
theorem dX4_holderOf_4 : decode cX4_holderOf 4 = .ok (.iload_n 1, 1) := by decide +kernel
theorem dX4_holderOf_5 : decode cX4_holderOf 5 = .ok (.invokestatic 69, 3) := by decide +kernel
theorem dX4_holderOf_8 : decode cX4_holderOf 8 = .ok (.ireturn, 1) := by decide +kernel
theorem dX4_sizeOf_0 : decode cX4_sizeOf 0 = .ok (.iload_n 1, 1) := by decide +kernel
theorem dX4_sizeOf_1 : decode cX4_sizeOf 1 = .ok (.ifCond .lt 21, 3) := by decide +kernel
theorem dX4_sizeOf_4 : decode cX4_sizeOf 4 = .ok (.iload_n 1, 1) := by decide +kernel
theorem dX4_sizeOf_5 : decode cX4_sizeOf 5 = .ok (.aload_n 0, 1) := by decide +kernel
theorem dX4_sizeOf_6 : decode cX4_sizeOf 6 = .ok (.getfield 18, 3) := by decide +kernel
theorem dX4_sizeOf_9 : decode cX4_sizeOf 9 = .ok (.arraylength, 1) := by decide +kernel
theorem dX4_sizeOf_10 : decode cX4_sizeOf 10 = .ok (.if_icmp .ge 12, 3) := by decide +kernel
theorem dX4_sizeOf_13 : decode cX4_sizeOf 13 = .ok (.aload_n 0, 1) := by decide +kernel
theorem dX4_sizeOf_14 : decode cX4_sizeOf 14 = .ok (.getfield 18, 3) := by decide +kernel
theorem dX4_sizeOf_17 : decode cX4_sizeOf 17 = .ok (.iload_n 1, 1) := by decide +kernel
theorem dX4_sizeOf_18 : decode cX4_sizeOf 18 = .ok (.iaload, 1) := by decide +kernel
theorem dX4_sizeOf_19 : decode cX4_sizeOf 19 = .ok (.goto 4, 3) := by decide +kernel
theorem dX4_sizeOf_22 : decode cX4_sizeOf 22 = .ok (.iconst 0, 1) := by decide +kernel
theorem dX4_sizeOf_23 : decode cX4_sizeOf 23 = .ok (.ireturn, 1) := by decide +kernel
theorem dX4_entryAt_0 : decode cX4_entryAt 0 = .ok (.iload_n 2, 1) := by decide +kernel
theorem dX4_entryAt_1 : decode cX4_entryAt 1 = .ok (.ifCond .lt 28, 3) := by decide +kernel
theorem dX4_entryAt_4 : decode cX4_entryAt 4 = .ok (.iload_n 2, 1) := by decide +kernel
theorem dX4_entryAt_5 : decode cX4_entryAt 5 = .ok (.aload_n 0, 1) := by decide +kernel
theorem dX4_entryAt_6 : decode cX4_entryAt 6 = .ok (.iload_n 1, 1) := by decide +kernel
theorem dX4_entryAt_7 : decode cX4_entryAt 7 = .ok (.invokevirtual 73, 3) := by decide +kernel
theorem dX4_entryAt_10 : decode cX4_entryAt 10 = .ok (.if_icmp .ge 19, 3) := by decide +kernel
theorem dX4_entryAt_13 : decode cX4_entryAt 13 = .ok (.aload_n 0, 1) := by decide +kernel
theorem dX4_entryAt_14 : decode cX4_entryAt 14 = .ok (.getfield 24, 3) := by decide +kernel
theorem dX4_entryAt_17 : decode cX4_entryAt 17 = .ok (.iload_n 1, 1) := by decide +kernel
theorem dX4_entryAt_18 : decode cX4_entryAt 18 = .ok (.bipush 6, 2) := by decide +kernel
theorem dX4_entryAt_20 : decode cX4_entryAt 20 = .ok (.imul, 1) := by decide +kernel
theorem dX4_entryAt_21 : decode cX4_entryAt 21 = .ok (.iload_n 2, 1) := by decide +kernel
theorem dX4_entryAt_22 : decode cX4_entryAt 22 = .ok (.iadd, 1) := by decide +kernel
theorem dX4_entryAt_23 : decode cX4_entryAt 23 = .ok (.invokestatic 69, 3) := by decide +kernel
theorem dX4_entryAt_26 : decode cX4_entryAt 26 = .ok (.goto 4, 3) := by decide +kernel
theorem dX4_entryAt_29 : decode cX4_entryAt 29 = .ok (.iconst (-1), 1) := by decide +kernel
theorem dX4_entryAt_30 : decode cX4_entryAt 30 = .ok (.ireturn, 1) := by decide +kernel
theorem dX4_corner_0 : decode cX4_corner 0 = .ok (.iload_n 1, 1) := by decide +kernel
theorem dX4_corner_1 : decode cX4_corner 1 = .ok (.iconst 4, 1) := by decide +kernel
theorem dX4_corner_2 : decode cX4_corner 2 = .ok (.imul, 1) := by decide +kernel
theorem dX4_corner_3 : decode cX4_corner 3 = .ok (.iload_n 2, 1) := by decide +kernel
theorem dX4_corner_4 : decode cX4_corner 4 = .ok (.iadd, 1) := by decide +kernel
theorem dX4_corner_5 : decode cX4_corner 5 = .ok (.istore_n 3, 1) := by decide +kernel
theorem dX4_corner_6 : decode cX4_corner 6 = .ok (.iload_n 3, 1) := by decide +kernel
theorem dX4_corner_7 : decode cX4_corner 7 = .ok (.ifCond .lt 21, 3) := by decide +kernel
theorem dX4_corner_10 : decode cX4_corner 10 = .ok (.iload_n 3, 1) := by decide +kernel
theorem dX4_corner_11 : decode cX4_corner 11 = .ok (.aload_n 0, 1) := by decide +kernel
theorem dX4_corner_12 : decode cX4_corner 12 = .ok (.getfield 21, 3) := by decide +kernel
theorem dX4_corner_15 : decode cX4_corner 15 = .ok (.arraylength, 1) := by decide +kernel
theorem dX4_corner_16 : decode cX4_corner 16 = .ok (.if_icmp .ge 12, 3) := by decide +kernel
theorem dX4_corner_19 : decode cX4_corner 19 = .ok (.aload_n 0, 1) := by decide +kernel
theorem dX4_corner_20 : decode cX4_corner 20 = .ok (.getfield 21, 3) := by decide +kernel
theorem dX4_corner_23 : decode cX4_corner 23 = .ok (.iload_n 3, 1) := by decide +kernel
theorem dX4_corner_24 : decode cX4_corner 24 = .ok (.iaload, 1) := by decide +kernel
theorem dX4_corner_25 : decode cX4_corner 25 = .ok (.goto 4, 3) := by decide +kernel
theorem dX4_corner_28 : decode cX4_corner 28 = .ok (.iconst (-1), 1) := by decide +kernel
theorem dX4_corner_29 : decode cX4_corner 29 = .ok (.ireturn, 1) := by decide +kernel
theorem dX4_least_0 : decode cX4_least 0 = .ok (.aload_n 0, 1) := by decide +kernel
theorem dX4_least_1 : decode cX4_least 1 = .ok (.getfield 31, 3) := by decide +kernel
theorem dX4_least_4 : decode cX4_least 4 = .ok (.iconst 2, 1) := by decide +kernel
theorem dX4_least_5 : decode cX4_least 5 = .ok (.idiv, 1) := by decide +kernel
theorem dX4_least_6 : decode cX4_least 6 = .ok (.ireturn, 1) := by decide +kernel
theorem dX4_isNode_0 : decode cX4_isNode 0 = .ok (.iload_n 1, 1) := by decide +kernel
theorem dX4_isNode_1 : decode cX4_isNode 1 = .ok (.bipush 24, 2) := by decide +kernel
theorem dX4_isNode_3 : decode cX4_isNode 3 = .ok (.if_icmp .lt 25, 3) := by decide +kernel
theorem dX4_isNode_6 : decode cX4_isNode 6 = .ok (.iload_n 1, 1) := by decide +kernel
theorem dX4_isNode_7 : decode cX4_isNode 7 = .ok (.aload_n 0, 1) := by decide +kernel
theorem dX4_isNode_8 : decode cX4_isNode 8 = .ok (.getfield 9, 3) := by decide +kernel
theorem dX4_isNode_11 : decode cX4_isNode 11 = .ok (.arraylength, 1) := by decide +kernel
theorem dX4_isNode_12 : decode cX4_isNode 12 = .ok (.if_icmp .ge 16, 3) := by decide +kernel
theorem dX4_isNode_15 : decode cX4_isNode 15 = .ok (.aload_n 0, 1) := by decide +kernel
theorem dX4_isNode_16 : decode cX4_isNode 16 = .ok (.getfield 9, 3) := by decide +kernel
theorem dX4_isNode_19 : decode cX4_isNode 19 = .ok (.iload_n 1, 1) := by decide +kernel
theorem dX4_isNode_20 : decode cX4_isNode 20 = .ok (.iaload, 1) := by decide +kernel
theorem dX4_isNode_21 : decode cX4_isNode 21 = .ok (.ifCond .lt 7, 3) := by decide +kernel
theorem dX4_isNode_24 : decode cX4_isNode 24 = .ok (.iconst 1, 1) := by decide +kernel
theorem dX4_isNode_25 : decode cX4_isNode 25 = .ok (.goto 4, 3) := by decide +kernel
theorem dX4_isNode_28 : decode cX4_isNode 28 = .ok (.iconst 0, 1) := by decide +kernel
theorem dX4_isNode_29 : decode cX4_isNode 29 = .ok (.ireturn, 1) := by decide +kernel
theorem dX4_hasBox_0 : decode cX4_hasBox 0 = .ok (.iload_n 1, 1) := by decide +kernel
theorem dX4_hasBox_1 : decode cX4_hasBox 1 = .ok (.ifCond .lt 22, 3) := by decide +kernel
theorem dX4_hasBox_4 : decode cX4_hasBox 4 = .ok (.iload_n 1, 1) := by decide +kernel
theorem dX4_hasBox_5 : decode cX4_hasBox 5 = .ok (.bipush 24, 2) := by decide +kernel
theorem dX4_hasBox_7 : decode cX4_hasBox 7 = .ok (.if_icmp .ge 16, 3) := by decide +kernel
theorem dX4_hasBox_10 : decode cX4_hasBox 10 = .ok (.aload_n 0, 1) := by decide +kernel
theorem dX4_hasBox_11 : decode cX4_hasBox 11 = .ok (.iload_n 1, 1) := by decide +kernel
theorem dX4_hasBox_12 : decode cX4_hasBox 12 = .ok (.invokevirtual 77, 3) := by decide +kernel
theorem dX4_hasBox_15 : decode cX4_hasBox 15 = .ok (.iconst (-1), 1) := by decide +kernel
theorem dX4_hasBox_16 : decode cX4_hasBox 16 = .ok (.if_icmp .ne 7, 3) := by decide +kernel
theorem dX4_hasBox_19 : decode cX4_hasBox 19 = .ok (.iconst 1, 1) := by decide +kernel
theorem dX4_hasBox_20 : decode cX4_hasBox 20 = .ok (.goto 4, 3) := by decide +kernel
theorem dX4_hasBox_23 : decode cX4_hasBox 23 = .ok (.iconst 0, 1) := by decide +kernel
theorem dX4_hasBox_24 : decode cX4_hasBox 24 = .ok (.ireturn, 1) := by decide +kernel
theorem dX4_countBoxes_0 : decode cX4_countBoxes 0 = .ok (.iconst 0, 1) := by decide +kernel
theorem dX4_countBoxes_1 : decode cX4_countBoxes 1 = .ok (.istore_n 1, 1) := by decide +kernel
theorem dX4_countBoxes_2 : decode cX4_countBoxes 2 = .ok (.iconst 0, 1) := by decide +kernel
theorem dX4_countBoxes_3 : decode cX4_countBoxes 3 = .ok (.istore_n 2, 1) := by decide +kernel
theorem dX4_countBoxes_4 : decode cX4_countBoxes 4 = .ok (.iload_n 2, 1) := by decide +kernel
theorem dX4_countBoxes_5 : decode cX4_countBoxes 5 = .ok (.bipush 24, 2) := by decide +kernel
theorem dX4_countBoxes_7 : decode cX4_countBoxes 7 = .ok (.if_icmp .ge 20, 3) := by decide +kernel
theorem dX4_countBoxes_10 : decode cX4_countBoxes 10 = .ok (.aload_n 0, 1) := by decide +kernel
theorem dX4_countBoxes_11 : decode cX4_countBoxes 11 = .ok (.iload_n 2, 1) := by decide +kernel
theorem dX4_countBoxes_12 : decode cX4_countBoxes 12 = .ok (.invokevirtual 80, 3) := by decide +kernel
theorem dX4_countBoxes_15 : decode cX4_countBoxes 15 = .ok (.ifCond .eq 6, 3) := by decide +kernel
theorem dX4_countBoxes_18 : decode cX4_countBoxes 18 = .ok (.iinc 1 1, 3) := by decide +kernel
theorem dX4_countBoxes_21 : decode cX4_countBoxes 21 = .ok (.iinc 2 1, 3) := by decide +kernel
theorem dX4_countBoxes_24 : decode cX4_countBoxes 24 = .ok (.goto (-20), 3) := by decide +kernel
theorem dX4_countBoxes_27 : decode cX4_countBoxes 27 = .ok (.iload_n 1, 1) := by decide +kernel
theorem dX4_countBoxes_28 : decode cX4_countBoxes 28 = .ok (.ireturn, 1) := by decide +kernel
theorem dX4_newBox_0 : decode cX4_newBox 0 = .ok (.aload_n 0, 1) := by decide +kernel
theorem dX4_newBox_1 : decode cX4_newBox 1 = .ok (.iconst 0, 1) := by decide +kernel
theorem dX4_newBox_2 : decode cX4_newBox 2 = .ok (.bipush 24, 2) := by decide +kernel
theorem dX4_newBox_4 : decode cX4_newBox 4 = .ok (.invokevirtual 84, 3) := by decide +kernel
theorem dX4_newBox_7 : decode cX4_newBox 7 = .ok (.istore 5, 2) := by decide +kernel
theorem dX4_newBox_9 : decode cX4_newBox 9 = .ok (.iload 5, 2) := by decide +kernel
theorem dX4_newBox_11 : decode cX4_newBox 11 = .ok (.iconst (-1), 1) := by decide +kernel
theorem dX4_newBox_12 : decode cX4_newBox 12 = .ok (.if_icmp .eq 21, 3) := by decide +kernel
theorem dX4_newBox_15 : decode cX4_newBox 15 = .ok (.aload_n 0, 1) := by decide +kernel
theorem dX4_newBox_16 : decode cX4_newBox 16 = .ok (.iload 5, 2) := by decide +kernel
theorem dX4_newBox_18 : decode cX4_newBox 18 = .ok (.iconst (-1), 1) := by decide +kernel
theorem dX4_newBox_19 : decode cX4_newBox 19 = .ok (.invokevirtual 87, 3) := by decide +kernel
theorem dX4_newBox_22 : decode cX4_newBox 22 = .ok (.aload_n 0, 1) := by decide +kernel
theorem dX4_newBox_23 : decode cX4_newBox 23 = .ok (.iload 5, 2) := by decide +kernel
theorem dX4_newBox_25 : decode cX4_newBox 25 = .ok (.iload_n 1, 1) := by decide +kernel
theorem dX4_newBox_26 : decode cX4_newBox 26 = .ok (.iload_n 2, 1) := by decide +kernel
theorem dX4_newBox_27 : decode cX4_newBox 27 = .ok (.iload_n 3, 1) := by decide +kernel
theorem dX4_newBox_28 : decode cX4_newBox 28 = .ok (.iload 4, 2) := by decide +kernel
theorem dX4_newBox_30 : decode cX4_newBox 30 = .ok (.invokevirtual 91, 3) := by decide +kernel
theorem dX4_newBox_33 : decode cX4_newBox 33 = .ok (.iload 5, 2) := by decide +kernel
theorem dX4_newBox_35 : decode cX4_newBox 35 = .ok (.ireturn, 1) := by decide +kernel
theorem dX4_newNode_0 : decode cX4_newNode 0 = .ok (.aload_n 0, 1) := by decide +kernel
theorem dX4_newNode_1 : decode cX4_newNode 1 = .ok (.bipush 24, 2) := by decide +kernel
theorem dX4_newNode_3 : decode cX4_newNode 3 = .ok (.sipush 157, 3) := by decide +kernel
theorem dX4_newNode_6 : decode cX4_newNode 6 = .ok (.invokevirtual 84, 3) := by decide +kernel
theorem dX4_newNode_9 : decode cX4_newNode 9 = .ok (.istore_n 2, 1) := by decide +kernel
theorem dX4_newNode_10 : decode cX4_newNode 10 = .ok (.iload_n 2, 1) := by decide +kernel
theorem dX4_newNode_11 : decode cX4_newNode 11 = .ok (.iconst (-1), 1) := by decide +kernel
theorem dX4_newNode_12 : decode cX4_newNode 12 = .ok (.if_icmp .eq 9, 3) := by decide +kernel
theorem dX4_newNode_15 : decode cX4_newNode 15 = .ok (.aload_n 0, 1) := by decide +kernel
theorem dX4_newNode_16 : decode cX4_newNode 16 = .ok (.iload_n 2, 1) := by decide +kernel
theorem dX4_newNode_17 : decode cX4_newNode 17 = .ok (.iload_n 1, 1) := by decide +kernel
theorem dX4_newNode_18 : decode cX4_newNode 18 = .ok (.invokevirtual 87, 3) := by decide +kernel
theorem dX4_newNode_21 : decode cX4_newNode 21 = .ok (.iload_n 2, 1) := by decide +kernel
theorem dX4_newNode_22 : decode cX4_newNode 22 = .ok (.ireturn, 1) := by decide +kernel
theorem dX4_firstFree_0 : decode cX4_firstFree 0 = .ok (.iload_n 1, 1) := by decide +kernel
theorem dX4_firstFree_1 : decode cX4_firstFree 1 = .ok (.istore_n 3, 1) := by decide +kernel
theorem dX4_firstFree_2 : decode cX4_firstFree 2 = .ok (.iload_n 3, 1) := by decide +kernel
theorem dX4_firstFree_3 : decode cX4_firstFree 3 = .ok (.iload_n 2, 1) := by decide +kernel
theorem dX4_firstFree_4 : decode cX4_firstFree 4 = .ok (.if_icmp .ge 21, 3) := by decide +kernel
theorem dX4_firstFree_7 : decode cX4_firstFree 7 = .ok (.aload_n 0, 1) := by decide +kernel
theorem dX4_firstFree_8 : decode cX4_firstFree 8 = .ok (.iload_n 3, 1) := by decide +kernel
theorem dX4_firstFree_9 : decode cX4_firstFree 9 = .ok (.invokevirtual 77, 3) := by decide +kernel
theorem dX4_firstFree_12 : decode cX4_firstFree 12 = .ok (.bipush (-2), 2) := by decide +kernel
theorem dX4_firstFree_14 : decode cX4_firstFree 14 = .ok (.if_icmp .ne 5, 3) := by decide +kernel
theorem dX4_firstFree_17 : decode cX4_firstFree 17 = .ok (.iload_n 3, 1) := by decide +kernel
theorem dX4_firstFree_18 : decode cX4_firstFree 18 = .ok (.ireturn, 1) := by decide +kernel
theorem dX4_firstFree_19 : decode cX4_firstFree 19 = .ok (.iinc 3 1, 3) := by decide +kernel
theorem dX4_firstFree_22 : decode cX4_firstFree 22 = .ok (.goto (-20), 3) := by decide +kernel
theorem dX4_firstFree_25 : decode cX4_firstFree 25 = .ok (.iconst (-1), 1) := by decide +kernel
theorem dX4_firstFree_26 : decode cX4_firstFree 26 = .ok (.ireturn, 1) := by decide +kernel
theorem dX4_take_0 : decode cX4_take 0 = .ok (.aload_n 0, 1) := by decide +kernel
theorem dX4_take_1 : decode cX4_take 1 = .ok (.getfield 9, 3) := by decide +kernel
theorem dX4_take_4 : decode cX4_take 4 = .ok (.iload_n 1, 1) := by decide +kernel
theorem dX4_take_5 : decode cX4_take 5 = .ok (.iload_n 2, 1) := by decide +kernel
theorem dX4_take_6 : decode cX4_take 6 = .ok (.invokestatic 49, 3) := by decide +kernel
theorem dX4_take_9 : decode cX4_take 9 = .ok (.aload_n 0, 1) := by decide +kernel
theorem dX4_take_10 : decode cX4_take 10 = .ok (.getfield 18, 3) := by decide +kernel
theorem dX4_take_13 : decode cX4_take 13 = .ok (.iload_n 1, 1) := by decide +kernel
theorem dX4_take_14 : decode cX4_take 14 = .ok (.iconst 0, 1) := by decide +kernel
theorem dX4_take_15 : decode cX4_take 15 = .ok (.invokestatic 49, 3) := by decide +kernel
theorem dX4_take_18 : decode cX4_take 18 = .ok (.aload_n 0, 1) := by decide +kernel
theorem dX4_take_19 : decode cX4_take 19 = .ok (.getfield 15, 3) := by decide +kernel
theorem dX4_take_22 : decode cX4_take 22 = .ok (.iload_n 1, 1) := by decide +kernel
theorem dX4_take_23 : decode cX4_take 23 = .ok (.iconst (-1), 1) := by decide +kernel
theorem dX4_take_24 : decode cX4_take 24 = .ok (.invokestatic 49, 3) := by decide +kernel
theorem dX4_take_27 : decode cX4_take 27 = .ok (.return_, 1) := by decide +kernel
theorem dX4_release_0 : decode cX4_release 0 = .ok (.aload_n 0, 1) := by decide +kernel
theorem dX4_release_1 : decode cX4_release 1 = .ok (.iload_n 1, 1) := by decide +kernel
theorem dX4_release_2 : decode cX4_release 2 = .ok (.bipush (-2), 2) := by decide +kernel
theorem dX4_release_4 : decode cX4_release 4 = .ok (.invokevirtual 87, 3) := by decide +kernel
theorem dX4_release_7 : decode cX4_release 7 = .ok (.return_, 1) := by decide +kernel
theorem dX4_setLoose_0 : decode cX4_setLoose 0 = .ok (.aload_n 0, 1) := by decide +kernel
theorem dX4_setLoose_1 : decode cX4_setLoose 1 = .ok (.getfield 15, 3) := by decide +kernel
theorem dX4_setLoose_4 : decode cX4_setLoose 4 = .ok (.iload_n 1, 1) := by decide +kernel
theorem dX4_setLoose_5 : decode cX4_setLoose 5 = .ok (.iconst (-1), 1) := by decide +kernel
theorem dX4_setLoose_6 : decode cX4_setLoose 6 = .ok (.invokestatic 49, 3) := by decide +kernel
theorem dX4_setLoose_9 : decode cX4_setLoose 9 = .ok (.return_, 1) := by decide +kernel
theorem dX4_makeListEmpty_0 : decode cX4_makeListEmpty 0 = .ok (.aload_n 0, 1) := by decide +kernel
theorem dX4_makeListEmpty_1 : decode cX4_makeListEmpty 1 = .ok (.getfield 18, 3) := by decide +kernel
theorem dX4_makeListEmpty_4 : decode cX4_makeListEmpty 4 = .ok (.iload_n 1, 1) := by decide +kernel
theorem dX4_makeListEmpty_5 : decode cX4_makeListEmpty 5 = .ok (.iconst 0, 1) := by decide +kernel
theorem dX4_makeListEmpty_6 : decode cX4_makeListEmpty 6 = .ok (.invokestatic 49, 3) := by decide +kernel
theorem dX4_makeListEmpty_9 : decode cX4_makeListEmpty 9 = .ok (.return_, 1) := by decide +kernel
theorem dX4_releaseNodes_0 : decode cX4_releaseNodes 0 = .ok (.bipush 24, 2) := by decide +kernel
theorem dX4_releaseNodes_2 : decode cX4_releaseNodes 2 = .ok (.istore_n 1, 1) := by decide +kernel
theorem dX4_releaseNodes_3 : decode cX4_releaseNodes 3 = .ok (.iload_n 1, 1) := by decide +kernel
theorem dX4_releaseNodes_4 : decode cX4_releaseNodes 4 = .ok (.sipush 157, 3) := by decide +kernel
theorem dX4_releaseNodes_7 : decode cX4_releaseNodes 7 = .ok (.if_icmp .ge 14, 3) := by decide +kernel
theorem dX4_releaseNodes_10 : decode cX4_releaseNodes 10 = .ok (.aload_n 0, 1) := by decide +kernel
theorem dX4_releaseNodes_11 : decode cX4_releaseNodes 11 = .ok (.iload_n 1, 1) := by decide +kernel
theorem dX4_releaseNodes_12 : decode cX4_releaseNodes 12 = .ok (.invokevirtual 95, 3) := by decide +kernel
theorem dX4_releaseNodes_15 : decode cX4_releaseNodes 15 = .ok (.iinc 1 1, 3) := by decide +kernel
theorem dX4_releaseNodes_18 : decode cX4_releaseNodes 18 = .ok (.goto (-15), 3) := by decide +kernel
theorem dX4_releaseNodes_21 : decode cX4_releaseNodes 21 = .ok (.return_, 1) := by decide +kernel
theorem dX4_addBehind_0 : decode cX4_addBehind 0 = .ok (.aload_n 0, 1) := by decide +kernel
theorem dX4_addBehind_1 : decode cX4_addBehind 1 = .ok (.iload_n 1, 1) := by decide +kernel
theorem dX4_addBehind_2 : decode cX4_addBehind 2 = .ok (.aload_n 0, 1) := by decide +kernel
theorem dX4_addBehind_3 : decode cX4_addBehind 3 = .ok (.iload_n 1, 1) := by decide +kernel
theorem dX4_addBehind_4 : decode cX4_addBehind 4 = .ok (.iload_n 2, 1) := by decide +kernel
theorem dX4_addBehind_5 : decode cX4_addBehind 5 = .ok (.invokevirtual 99, 3) := by decide +kernel
theorem dX4_addBehind_8 : decode cX4_addBehind 8 = .ok (.iconst 1, 1) := by decide +kernel
theorem dX4_addBehind_9 : decode cX4_addBehind 9 = .ok (.iadd, 1) := by decide +kernel
theorem dX4_addBehind_10 : decode cX4_addBehind 10 = .ok (.iload_n 3, 1) := by decide +kernel
theorem dX4_addBehind_11 : decode cX4_addBehind 11 = .ok (.invokevirtual 102, 3) := by decide +kernel
theorem dX4_addBehind_14 : decode cX4_addBehind 14 = .ok (.return_, 1) := by decide +kernel
theorem dX4_addAt_0 : decode cX4_addAt 0 = .ok (.aload_n 0, 1) := by decide +kernel
theorem dX4_addAt_1 : decode cX4_addAt 1 = .ok (.iload_n 1, 1) := by decide +kernel
theorem dX4_addAt_2 : decode cX4_addAt 2 = .ok (.invokevirtual 73, 3) := by decide +kernel
theorem dX4_addAt_5 : decode cX4_addAt 5 = .ok (.istore 4, 2) := by decide +kernel
theorem dX4_addAt_7 : decode cX4_addAt 7 = .ok (.iload 4, 2) := by decide +kernel
theorem dX4_addAt_9 : decode cX4_addAt 9 = .ok (.bipush 6, 2) := by decide +kernel
theorem dX4_addAt_11 : decode cX4_addAt 11 = .ok (.if_icmp .ge 13, 3) := by decide +kernel
theorem dX4_addAt_14 : decode cX4_addAt 14 = .ok (.iload_n 2, 1) := by decide +kernel
theorem dX4_addAt_15 : decode cX4_addAt 15 = .ok (.ifCond .lt 9, 3) := by decide +kernel
theorem dX4_addAt_18 : decode cX4_addAt 18 = .ok (.iload_n 2, 1) := by decide +kernel
theorem dX4_addAt_19 : decode cX4_addAt 19 = .ok (.iload 4, 2) := by decide +kernel
theorem dX4_addAt_21 : decode cX4_addAt 21 = .ok (.if_icmp .le 4, 3) := by decide +kernel
theorem dX4_addAt_24 : decode cX4_addAt 24 = .ok (.return_, 1) := by decide +kernel
theorem dX4_addAt_25 : decode cX4_addAt 25 = .ok (.iload_n 1, 1) := by decide +kernel
theorem dX4_addAt_26 : decode cX4_addAt 26 = .ok (.bipush 6, 2) := by decide +kernel
theorem dX4_addAt_28 : decode cX4_addAt 28 = .ok (.imul, 1) := by decide +kernel
theorem dX4_addAt_29 : decode cX4_addAt 29 = .ok (.istore 5, 2) := by decide +kernel
theorem dX4_addAt_31 : decode cX4_addAt 31 = .ok (.iload 4, 2) := by decide +kernel
theorem dX4_addAt_33 : decode cX4_addAt 33 = .ok (.istore 6, 2) := by decide +kernel
theorem dX4_addAt_35 : decode cX4_addAt 35 = .ok (.iload 6, 2) := by decide +kernel
theorem dX4_addAt_37 : decode cX4_addAt 37 = .ok (.iload_n 2, 1) := by decide +kernel
theorem dX4_addAt_38 : decode cX4_addAt 38 = .ok (.if_icmp .le 35, 3) := by decide +kernel
theorem dX4_addAt_41 : decode cX4_addAt 41 = .ok (.aload_n 0, 1) := by decide +kernel
theorem dX4_addAt_42 : decode cX4_addAt 42 = .ok (.getfield 24, 3) := by decide +kernel
theorem dX4_addAt_45 : decode cX4_addAt 45 = .ok (.iload 5, 2) := by decide +kernel
theorem dX4_addAt_47 : decode cX4_addAt 47 = .ok (.iload 6, 2) := by decide +kernel
theorem dX4_addAt_49 : decode cX4_addAt 49 = .ok (.iadd, 1) := by decide +kernel
theorem dX4_addAt_50 : decode cX4_addAt 50 = .ok (.aload_n 0, 1) := by decide +kernel
theorem dX4_addAt_51 : decode cX4_addAt 51 = .ok (.getfield 24, 3) := by decide +kernel
theorem dX4_addAt_54 : decode cX4_addAt 54 = .ok (.iload 5, 2) := by decide +kernel
theorem dX4_addAt_56 : decode cX4_addAt 56 = .ok (.iload 6, 2) := by decide +kernel
theorem dX4_addAt_58 : decode cX4_addAt 58 = .ok (.iadd, 1) := by decide +kernel
theorem dX4_addAt_59 : decode cX4_addAt 59 = .ok (.iconst 1, 1) := by decide +kernel
theorem dX4_addAt_60 : decode cX4_addAt 60 = .ok (.isub, 1) := by decide +kernel
theorem dX4_addAt_61 : decode cX4_addAt 61 = .ok (.invokestatic 69, 3) := by decide +kernel
theorem dX4_addAt_64 : decode cX4_addAt 64 = .ok (.invokestatic 49, 3) := by decide +kernel
theorem dX4_addAt_67 : decode cX4_addAt 67 = .ok (.iinc 6 (-1), 3) := by decide +kernel
theorem dX4_addAt_70 : decode cX4_addAt 70 = .ok (.goto (-35), 3) := by decide +kernel
theorem dX4_addAt_73 : decode cX4_addAt 73 = .ok (.aload_n 0, 1) := by decide +kernel
theorem dX4_addAt_74 : decode cX4_addAt 74 = .ok (.getfield 24, 3) := by decide +kernel
theorem dX4_addAt_77 : decode cX4_addAt 77 = .ok (.iload 5, 2) := by decide +kernel
theorem dX4_addAt_79 : decode cX4_addAt 79 = .ok (.iload_n 2, 1) := by decide +kernel
theorem dX4_addAt_80 : decode cX4_addAt 80 = .ok (.iadd, 1) := by decide +kernel
theorem dX4_addAt_81 : decode cX4_addAt 81 = .ok (.iload_n 3, 1) := by decide +kernel
theorem dX4_addAt_82 : decode cX4_addAt 82 = .ok (.invokestatic 49, 3) := by decide +kernel
theorem dX4_addAt_85 : decode cX4_addAt 85 = .ok (.aload_n 0, 1) := by decide +kernel
theorem dX4_addAt_86 : decode cX4_addAt 86 = .ok (.getfield 18, 3) := by decide +kernel
theorem dX4_addAt_89 : decode cX4_addAt 89 = .ok (.iload_n 1, 1) := by decide +kernel
theorem dX4_addAt_90 : decode cX4_addAt 90 = .ok (.iload 4, 2) := by decide +kernel
theorem dX4_addAt_92 : decode cX4_addAt 92 = .ok (.iconst 1, 1) := by decide +kernel
theorem dX4_addAt_93 : decode cX4_addAt 93 = .ok (.iadd, 1) := by decide +kernel
theorem dX4_addAt_94 : decode cX4_addAt 94 = .ok (.invokestatic 49, 3) := by decide +kernel
theorem dX4_addAt_97 : decode cX4_addAt 97 = .ok (.aload_n 0, 1) := by decide +kernel
theorem dX4_addAt_98 : decode cX4_addAt 98 = .ok (.getfield 15, 3) := by decide +kernel
theorem dX4_addAt_101 : decode cX4_addAt 101 = .ok (.iload_n 3, 1) := by decide +kernel
theorem dX4_addAt_102 : decode cX4_addAt 102 = .ok (.iload_n 1, 1) := by decide +kernel
theorem dX4_addAt_103 : decode cX4_addAt 103 = .ok (.invokestatic 49, 3) := by decide +kernel
theorem dX4_addAt_106 : decode cX4_addAt 106 = .ok (.aload_n 0, 1) := by decide +kernel
theorem dX4_addAt_107 : decode cX4_addAt 107 = .ok (.iload_n 1, 1) := by decide +kernel
theorem dX4_addAt_108 : decode cX4_addAt 108 = .ok (.invokevirtual 106, 3) := by decide +kernel
theorem dX4_addAt_111 : decode cX4_addAt 111 = .ok (.return_, 1) := by decide +kernel
theorem dX4_placeOf_0 : decode cX4_placeOf 0 = .ok (.aload_n 0, 1) := by decide +kernel
theorem dX4_placeOf_1 : decode cX4_placeOf 1 = .ok (.iload_n 1, 1) := by decide +kernel
theorem dX4_placeOf_2 : decode cX4_placeOf 2 = .ok (.invokevirtual 73, 3) := by decide +kernel
theorem dX4_placeOf_5 : decode cX4_placeOf 5 = .ok (.istore_n 3, 1) := by decide +kernel
theorem dX4_placeOf_6 : decode cX4_placeOf 6 = .ok (.iconst 0, 1) := by decide +kernel
theorem dX4_placeOf_7 : decode cX4_placeOf 7 = .ok (.istore 4, 2) := by decide +kernel
