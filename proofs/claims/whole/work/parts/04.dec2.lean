theorem dX5_init_0 : decode cX5_init 0 = .ok (.aload_n 0, 1) := by decide +kernel
theorem dX5_init_1 : decode cX5_init 1 = .ok (.invokespecial 1, 3) := by decide +kernel
theorem dX5_init_4 : decode cX5_init 4 = .ok (.aload_n 0, 1) := by decide +kernel
theorem dX5_init_5 : decode cX5_init 5 = .ok (.sipush 378, 3) := by decide +kernel
theorem dX5_init_8 : decode cX5_init 8 = .ok (.newarray .int, 2) := by decide +kernel
theorem dX5_init_10 : decode cX5_init 10 = .ok (.putfield 7, 3) := by decide +kernel
theorem dX5_init_13 : decode cX5_init 13 = .ok (.aload_n 0, 1) := by decide +kernel
theorem dX5_init_14 : decode cX5_init 14 = .ok (.sipush 1512, 3) := by decide +kernel
theorem dX5_init_17 : decode cX5_init 17 = .ok (.newarray .int, 2) := by decide +kernel
theorem dX5_init_19 : decode cX5_init 19 = .ok (.putfield 13, 3) := by decide +kernel
theorem dX5_init_22 : decode cX5_init 22 = .ok (.aload_n 0, 1) := by decide +kernel
theorem dX5_init_23 : decode cX5_init 23 = .ok (.sipush 378, 3) := by decide +kernel
theorem dX5_init_26 : decode cX5_init 26 = .ok (.newarray .int, 2) := by decide +kernel
theorem dX5_init_28 : decode cX5_init 28 = .ok (.putfield 16, 3) := by decide +kernel
theorem dX5_init_31 : decode cX5_init 31 = .ok (.aload_n 0, 1) := by decide +kernel
theorem dX5_init_32 : decode cX5_init 32 = .ok (.bipush 100, 2) := by decide +kernel
theorem dX5_init_34 : decode cX5_init 34 = .ok (.newarray .int, 2) := by decide +kernel
theorem dX5_init_36 : decode cX5_init 36 = .ok (.putfield 19, 3) := by decide +kernel
theorem dX5_init_39 : decode cX5_init 39 = .ok (.aload_n 0, 1) := by decide +kernel
theorem dX5_init_40 : decode cX5_init 40 = .ok (.bipush 10, 2) := by decide +kernel
theorem dX5_init_42 : decode cX5_init 42 = .ok (.newarray .int, 2) := by decide +kernel
theorem dX5_init_44 : decode cX5_init 44 = .ok (.putfield 22, 3) := by decide +kernel
theorem dX5_init_47 : decode cX5_init 47 = .ok (.aload_n 0, 1) := by decide +kernel
theorem dX5_init_48 : decode cX5_init 48 = .ok (.bipush 100, 2) := by decide +kernel
theorem dX5_init_50 : decode cX5_init 50 = .ok (.newarray .int, 2) := by decide +kernel
theorem dX5_init_52 : decode cX5_init 52 = .ok (.putfield 25, 3) := by decide +kernel
theorem dX5_init_55 : decode cX5_init 55 = .ok (.aload_n 0, 1) := by decide +kernel
theorem dX5_init_56 : decode cX5_init 56 = .ok (.ldc 28, 2) := by decide +kernel
theorem dX5_init_58 : decode cX5_init 58 = .ok (.newarray .int, 2) := by decide +kernel
theorem dX5_init_60 : decode cX5_init 60 = .ok (.putfield 29, 3) := by decide +kernel
theorem dX5_init_63 : decode cX5_init 63 = .ok (.aload_n 0, 1) := by decide +kernel
theorem dX5_init_64 : decode cX5_init 64 = .ok (.sipush 200, 3) := by decide +kernel
theorem dX5_init_67 : decode cX5_init 67 = .ok (.newarray .int, 2) := by decide +kernel
theorem dX5_init_69 : decode cX5_init 69 = .ok (.putfield 32, 3) := by decide +kernel
theorem dX5_init_72 : decode cX5_init 72 = .ok (.aload_n 0, 1) := by decide +kernel
theorem dX5_init_73 : decode cX5_init 73 = .ok (.getfield 7, 3) := by decide +kernel
theorem dX5_init_76 : decode cX5_init 76 = .ok (.iconst 0, 1) := by decide +kernel
theorem dX5_init_77 : decode cX5_init 77 = .ok (.bipush 40, 2) := by decide +kernel
theorem dX5_init_79 : decode cX5_init 79 = .ok (.iastore, 1) := by decide +kernel
theorem dX5_init_80 : decode cX5_init 80 = .ok (.aload_n 0, 1) := by decide +kernel
theorem dX5_init_81 : decode cX5_init 81 = .ok (.getfield 7, 3) := by decide +kernel
theorem dX5_init_84 : decode cX5_init 84 = .ok (.iconst 2, 1) := by decide +kernel
theorem dX5_init_85 : decode cX5_init 85 = .ok (.iconst 4, 1) := by decide +kernel
theorem dX5_init_86 : decode cX5_init 86 = .ok (.iastore, 1) := by decide +kernel
theorem dX5_init_87 : decode cX5_init 87 = .ok (.iconst 0, 1) := by decide +kernel
theorem dX5_init_88 : decode cX5_init 88 = .ok (.istore_n 1, 1) := by decide +kernel
theorem dX5_init_89 : decode cX5_init 89 = .ok (.iload_n 1, 1) := by decide +kernel
theorem dX5_init_90 : decode cX5_init 90 = .ok (.bipush 100, 2) := by decide +kernel
theorem dX5_init_92 : decode cX5_init 92 = .ok (.if_icmp .ge 19, 3) := by decide +kernel
theorem dX5_init_95 : decode cX5_init 95 = .ok (.aload_n 0, 1) := by decide +kernel
theorem dX5_init_96 : decode cX5_init 96 = .ok (.getfield 7, 3) := by decide +kernel
theorem dX5_init_99 : decode cX5_init 99 = .ok (.bipush 58, 2) := by decide +kernel
theorem dX5_init_101 : decode cX5_init 101 = .ok (.iload_n 1, 1) := by decide +kernel
theorem dX5_init_102 : decode cX5_init 102 = .ok (.iadd, 1) := by decide +kernel
theorem dX5_init_103 : decode cX5_init 103 = .ok (.iconst (-1), 1) := by decide +kernel
theorem dX5_init_104 : decode cX5_init 104 = .ok (.iastore, 1) := by decide +kernel
theorem dX5_init_105 : decode cX5_init 105 = .ok (.iinc 1 1, 3) := by decide +kernel
theorem dX5_init_108 : decode cX5_init 108 = .ok (.goto (-19), 3) := by decide +kernel
theorem dX5_init_111 : decode cX5_init 111 = .ok (.return_, 1) := by decide +kernel
theorem dX5_thrown_0 : decode cX5_thrown 0 = .ok (.aload_n 0, 1) := by decide +kernel
theorem dX5_thrown_1 : decode cX5_thrown 1 = .ok (.getfield 35, 3) := by decide +kernel
theorem dX5_thrown_4 : decode cX5_thrown 4 = .ok (.ireturn, 1) := by decide +kernel
theorem dX5_refused_0 : decode cX5_refused 0 = .ok (.aload_n 0, 1) := by decide +kernel
theorem dX5_refused_1 : decode cX5_refused 1 = .ok (.iload_n 1, 1) := by decide +kernel
theorem dX5_refused_2 : decode cX5_refused 2 = .ok (.putfield 35, 3) := by decide +kernel
theorem dX5_refused_5 : decode cX5_refused 5 = .ok (.iload_n 1, 1) := by decide +kernel
theorem dX5_refused_6 : decode cX5_refused 6 = .ok (.ifCond .le 7, 3) := by decide +kernel
theorem dX5_refused_9 : decode cX5_refused 9 = .ok (.iconst 1, 1) := by decide +kernel
theorem dX5_refused_10 : decode cX5_refused 10 = .ok (.goto 4, 3) := by decide +kernel
theorem dX5_refused_13 : decode cX5_refused 13 = .ok (.iconst 0, 1) := by decide +kernel
theorem dX5_refused_14 : decode cX5_refused 14 = .ok (.ireturn, 1) := by decide +kernel
theorem dX5_within_0 : decode cX5_within 0 = .ok (.iload_n 0, 1) := by decide +kernel
theorem dX5_within_1 : decode cX5_within 1 = .ok (.iload_n 1, 1) := by decide +kernel
theorem dX5_within_2 : decode cX5_within 2 = .ok (.if_icmp .lt 12, 3) := by decide +kernel
theorem dX5_within_5 : decode cX5_within 5 = .ok (.iload_n 0, 1) := by decide +kernel
theorem dX5_within_6 : decode cX5_within 6 = .ok (.iload_n 2, 1) := by decide +kernel
theorem dX5_within_7 : decode cX5_within 7 = .ok (.if_icmp .gt 7, 3) := by decide +kernel
theorem dX5_within_10 : decode cX5_within 10 = .ok (.iconst 1, 1) := by decide +kernel
theorem dX5_within_11 : decode cX5_within 11 = .ok (.goto 4, 3) := by decide +kernel
theorem dX5_within_14 : decode cX5_within 14 = .ok (.iconst 0, 1) := by decide +kernel
theorem dX5_within_15 : decode cX5_within 15 = .ok (.ireturn, 1) := by decide +kernel
theorem dX5_need_0 : decode cX5_need 0 = .ok (.iload_n 1, 1) := by decide +kernel
theorem dX5_need_1 : decode cX5_need 1 = .ok (.ifCond .eq 7, 3) := by decide +kernel
theorem dX5_need_4 : decode cX5_need 4 = .ok (.iconst 0, 1) := by decide +kernel
theorem dX5_need_5 : decode cX5_need 5 = .ok (.goto 4, 3) := by decide +kernel
theorem dX5_need_8 : decode cX5_need 8 = .ok (.iconst 1, 1) := by decide +kernel
theorem dX5_need_9 : decode cX5_need 9 = .ok (.ireturn, 1) := by decide +kernel
theorem dX5_isClock_0 : decode cX5_isClock 0 = .ok (.iload_n 1, 1) := by decide +kernel
theorem dX5_isClock_1 : decode cX5_isClock 1 = .ok (.iconst 0, 1) := by decide +kernel
theorem dX5_isClock_2 : decode cX5_isClock 2 = .ok (.aload_n 0, 1) := by decide +kernel
theorem dX5_isClock_3 : decode cX5_isClock 3 = .ok (.getfield 7, 3) := by decide +kernel
theorem dX5_isClock_6 : decode cX5_isClock 6 = .ok (.iconst 5, 1) := by decide +kernel
theorem dX5_isClock_7 : decode cX5_isClock 7 = .ok (.iaload, 1) := by decide +kernel
theorem dX5_isClock_8 : decode cX5_isClock 8 = .ok (.iconst 1, 1) := by decide +kernel
theorem dX5_isClock_9 : decode cX5_isClock 9 = .ok (.isub, 1) := by decide +kernel
theorem dX5_isClock_10 : decode cX5_isClock 10 = .ok (.invokestatic 39, 3) := by decide +kernel
theorem dX5_isClock_13 : decode cX5_isClock 13 = .ok (.ireturn, 1) := by decide +kernel
theorem dX5_saves_0 : decode cX5_saves 0 = .ok (.aload_n 0, 1) := by decide +kernel
theorem dX5_saves_1 : decode cX5_saves 1 = .ok (.getfield 43, 3) := by decide +kernel
theorem dX5_saves_4 : decode cX5_saves 4 = .ok (.iconst 4, 1) := by decide +kernel
theorem dX5_saves_5 : decode cX5_saves 5 = .ok (.if_icmp .ne 44, 3) := by decide +kernel
theorem dX5_saves_8 : decode cX5_saves 8 = .ok (.iconst 0, 1) := by decide +kernel
theorem dX5_saves_9 : decode cX5_saves 9 = .ok (.istore_n 1, 1) := by decide +kernel
theorem dX5_saves_10 : decode cX5_saves 10 = .ok (.iload_n 1, 1) := by decide +kernel
theorem dX5_saves_11 : decode cX5_saves 11 = .ok (.sipush 1134, 3) := by decide +kernel
theorem dX5_saves_14 : decode cX5_saves 14 = .ok (.if_icmp .ge 25, 3) := by decide +kernel
theorem dX5_saves_17 : decode cX5_saves 17 = .ok (.aload_n 0, 1) := by decide +kernel
theorem dX5_saves_18 : decode cX5_saves 18 = .ok (.getfield 13, 3) := by decide +kernel
theorem dX5_saves_21 : decode cX5_saves 21 = .ok (.iload_n 1, 1) := by decide +kernel
theorem dX5_saves_22 : decode cX5_saves 22 = .ok (.aload_n 0, 1) := by decide +kernel
theorem dX5_saves_23 : decode cX5_saves 23 = .ok (.getfield 13, 3) := by decide +kernel
theorem dX5_saves_26 : decode cX5_saves 26 = .ok (.iload_n 1, 1) := by decide +kernel
theorem dX5_saves_27 : decode cX5_saves 27 = .ok (.sipush 378, 3) := by decide +kernel
theorem dX5_saves_30 : decode cX5_saves 30 = .ok (.iadd, 1) := by decide +kernel
theorem dX5_saves_31 : decode cX5_saves 31 = .ok (.iaload, 1) := by decide +kernel
theorem dX5_saves_32 : decode cX5_saves 32 = .ok (.iastore, 1) := by decide +kernel
theorem dX5_saves_33 : decode cX5_saves 33 = .ok (.iinc 1 1, 3) := by decide +kernel
theorem dX5_saves_36 : decode cX5_saves 36 = .ok (.goto (-26), 3) := by decide +kernel
theorem dX5_saves_39 : decode cX5_saves 39 = .ok (.aload_n 0, 1) := by decide +kernel
theorem dX5_saves_40 : decode cX5_saves 40 = .ok (.dup, 1) := by decide +kernel
theorem dX5_saves_41 : decode cX5_saves 41 = .ok (.getfield 43, 3) := by decide +kernel
theorem dX5_saves_44 : decode cX5_saves 44 = .ok (.iconst 1, 1) := by decide +kernel
theorem dX5_saves_45 : decode cX5_saves 45 = .ok (.isub, 1) := by decide +kernel
theorem dX5_saves_46 : decode cX5_saves 46 = .ok (.putfield 43, 3) := by decide +kernel
theorem dX5_saves_49 : decode cX5_saves 49 = .ok (.iconst 0, 1) := by decide +kernel
theorem dX5_saves_50 : decode cX5_saves 50 = .ok (.istore_n 1, 1) := by decide +kernel
theorem dX5_saves_51 : decode cX5_saves 51 = .ok (.iload_n 1, 1) := by decide +kernel
theorem dX5_saves_52 : decode cX5_saves 52 = .ok (.sipush 378, 3) := by decide +kernel
theorem dX5_saves_55 : decode cX5_saves 55 = .ok (.if_icmp .ge 30, 3) := by decide +kernel
theorem dX5_saves_58 : decode cX5_saves 58 = .ok (.aload_n 0, 1) := by decide +kernel
theorem dX5_saves_59 : decode cX5_saves 59 = .ok (.getfield 13, 3) := by decide +kernel
theorem dX5_saves_62 : decode cX5_saves 62 = .ok (.sipush 378, 3) := by decide +kernel
theorem dX5_saves_65 : decode cX5_saves 65 = .ok (.aload_n 0, 1) := by decide +kernel
theorem dX5_saves_66 : decode cX5_saves 66 = .ok (.getfield 43, 3) := by decide +kernel
theorem dX5_saves_69 : decode cX5_saves 69 = .ok (.imul, 1) := by decide +kernel
theorem dX5_saves_70 : decode cX5_saves 70 = .ok (.iload_n 1, 1) := by decide +kernel
theorem dX5_saves_71 : decode cX5_saves 71 = .ok (.iadd, 1) := by decide +kernel
theorem dX5_saves_72 : decode cX5_saves 72 = .ok (.aload_n 0, 1) := by decide +kernel
theorem dX5_saves_73 : decode cX5_saves 73 = .ok (.getfield 7, 3) := by decide +kernel
theorem dX5_saves_76 : decode cX5_saves 76 = .ok (.iload_n 1, 1) := by decide +kernel
theorem dX5_saves_77 : decode cX5_saves 77 = .ok (.iaload, 1) := by decide +kernel
theorem dX5_saves_78 : decode cX5_saves 78 = .ok (.iastore, 1) := by decide +kernel
theorem dX5_saves_79 : decode cX5_saves 79 = .ok (.iinc 1 1, 3) := by decide +kernel
theorem dX5_saves_82 : decode cX5_saves 82 = .ok (.goto (-31), 3) := by decide +kernel
theorem dX5_saves_85 : decode cX5_saves 85 = .ok (.aload_n 0, 1) := by decide +kernel
theorem dX5_saves_86 : decode cX5_saves 86 = .ok (.dup, 1) := by decide +kernel
theorem dX5_saves_87 : decode cX5_saves 87 = .ok (.getfield 43, 3) := by decide +kernel
theorem dX5_saves_90 : decode cX5_saves 90 = .ok (.iconst 1, 1) := by decide +kernel
theorem dX5_saves_91 : decode cX5_saves 91 = .ok (.iadd, 1) := by decide +kernel
theorem dX5_saves_92 : decode cX5_saves 92 = .ok (.putfield 43, 3) := by decide +kernel
theorem dX5_saves_95 : decode cX5_saves 95 = .ok (.return_, 1) := by decide +kernel
theorem dX5_undo_0 : decode cX5_undo 0 = .ok (.aload_n 0, 1) := by decide +kernel
theorem dX5_undo_1 : decode cX5_undo 1 = .ok (.aload_n 0, 1) := by decide +kernel
theorem dX5_undo_2 : decode cX5_undo 2 = .ok (.getfield 43, 3) := by decide +kernel
theorem dX5_undo_5 : decode cX5_undo 5 = .ok (.ifCond .ne 7, 3) := by decide +kernel
theorem dX5_undo_8 : decode cX5_undo 8 = .ok (.iconst 1, 1) := by decide +kernel
theorem dX5_undo_9 : decode cX5_undo 9 = .ok (.goto 4, 3) := by decide +kernel
theorem dX5_undo_12 : decode cX5_undo 12 = .ok (.iconst 0, 1) := by decide +kernel
theorem dX5_undo_13 : decode cX5_undo 13 = .ok (.invokevirtual 46, 3) := by decide +kernel
theorem dX5_undo_16 : decode cX5_undo 16 = .ok (.ifCond .eq 5, 3) := by decide +kernel
theorem dX5_undo_19 : decode cX5_undo 19 = .ok (.iconst 0, 1) := by decide +kernel
theorem dX5_undo_20 : decode cX5_undo 20 = .ok (.ireturn, 1) := by decide +kernel
theorem dX5_undo_21 : decode cX5_undo 21 = .ok (.aload_n 0, 1) := by decide +kernel
theorem dX5_undo_22 : decode cX5_undo 22 = .ok (.dup, 1) := by decide +kernel
theorem dX5_undo_23 : decode cX5_undo 23 = .ok (.getfield 43, 3) := by decide +kernel
theorem dX5_undo_26 : decode cX5_undo 26 = .ok (.iconst 1, 1) := by decide +kernel
theorem dX5_undo_27 : decode cX5_undo 27 = .ok (.isub, 1) := by decide +kernel
theorem dX5_undo_28 : decode cX5_undo 28 = .ok (.putfield 43, 3) := by decide +kernel
theorem dX5_undo_31 : decode cX5_undo 31 = .ok (.iconst 0, 1) := by decide +kernel
theorem dX5_undo_32 : decode cX5_undo 32 = .ok (.istore_n 1, 1) := by decide +kernel
theorem dX5_undo_33 : decode cX5_undo 33 = .ok (.iload_n 1, 1) := by decide +kernel
theorem dX5_undo_34 : decode cX5_undo 34 = .ok (.sipush 378, 3) := by decide +kernel
theorem dX5_undo_37 : decode cX5_undo 37 = .ok (.if_icmp .ge 30, 3) := by decide +kernel
theorem dX5_undo_40 : decode cX5_undo 40 = .ok (.aload_n 0, 1) := by decide +kernel
theorem dX5_undo_41 : decode cX5_undo 41 = .ok (.getfield 7, 3) := by decide +kernel
theorem dX5_undo_44 : decode cX5_undo 44 = .ok (.iload_n 1, 1) := by decide +kernel
theorem dX5_undo_45 : decode cX5_undo 45 = .ok (.aload_n 0, 1) := by decide +kernel
theorem dX5_undo_46 : decode cX5_undo 46 = .ok (.getfield 13, 3) := by decide +kernel
theorem dX5_undo_49 : decode cX5_undo 49 = .ok (.sipush 378, 3) := by decide +kernel
theorem dX5_undo_52 : decode cX5_undo 52 = .ok (.aload_n 0, 1) := by decide +kernel
theorem dX5_undo_53 : decode cX5_undo 53 = .ok (.getfield 43, 3) := by decide +kernel
theorem dX5_undo_56 : decode cX5_undo 56 = .ok (.imul, 1) := by decide +kernel
theorem dX5_undo_57 : decode cX5_undo 57 = .ok (.iload_n 1, 1) := by decide +kernel
theorem dX5_undo_58 : decode cX5_undo 58 = .ok (.iadd, 1) := by decide +kernel
theorem dX5_undo_59 : decode cX5_undo 59 = .ok (.iaload, 1) := by decide +kernel
theorem dX5_undo_60 : decode cX5_undo 60 = .ok (.iastore, 1) := by decide +kernel
theorem dX5_undo_61 : decode cX5_undo 61 = .ok (.iinc 1 1, 3) := by decide +kernel
theorem dX5_undo_64 : decode cX5_undo 64 = .ok (.goto (-31), 3) := by decide +kernel
theorem dX5_undo_67 : decode cX5_undo 67 = .ok (.aload_n 0, 1) := by decide +kernel
theorem dX5_undo_68 : decode cX5_undo 68 = .ok (.getfield 43, 3) := by decide +kernel
theorem dX5_undo_71 : decode cX5_undo 71 = .ok (.ireturn, 1) := by decide +kernel
theorem dX5_mayAdd_0 : decode cX5_mayAdd 0 = .ok (.iload_n 1, 1) := by decide +kernel
theorem dX5_mayAdd_1 : decode cX5_mayAdd 1 = .ok (.iconst 0, 1) := by decide +kernel
theorem dX5_mayAdd_2 : decode cX5_mayAdd 2 = .ok (.aload_n 0, 1) := by decide +kernel
theorem dX5_mayAdd_3 : decode cX5_mayAdd 3 = .ok (.getfield 7, 3) := by decide +kernel
theorem dX5_mayAdd_6 : decode cX5_mayAdd 6 = .ok (.iconst 0, 1) := by decide +kernel
theorem dX5_mayAdd_7 : decode cX5_mayAdd 7 = .ok (.iaload, 1) := by decide +kernel
theorem dX5_mayAdd_8 : decode cX5_mayAdd 8 = .ok (.iconst 1, 1) := by decide +kernel
theorem dX5_mayAdd_9 : decode cX5_mayAdd 9 = .ok (.isub, 1) := by decide +kernel
theorem dX5_mayAdd_10 : decode cX5_mayAdd 10 = .ok (.invokestatic 39, 3) := by decide +kernel
theorem dX5_mayAdd_13 : decode cX5_mayAdd 13 = .ok (.ifCond .ne 7, 3) := by decide +kernel
theorem dX5_mayAdd_16 : decode cX5_mayAdd 16 = .ok (.iconst 1, 1) := by decide +kernel
theorem dX5_mayAdd_17 : decode cX5_mayAdd 17 = .ok (.goto 19, 3) := by decide +kernel
theorem dX5_mayAdd_20 : decode cX5_mayAdd 20 = .ok (.aload_n 0, 1) := by decide +kernel
theorem dX5_mayAdd_21 : decode cX5_mayAdd 21 = .ok (.getfield 7, 3) := by decide +kernel
theorem dX5_mayAdd_24 : decode cX5_mayAdd 24 = .ok (.iconst 5, 1) := by decide +kernel
theorem dX5_mayAdd_25 : decode cX5_mayAdd 25 = .ok (.iaload, 1) := by decide +kernel
theorem dX5_mayAdd_26 : decode cX5_mayAdd 26 = .ok (.bipush 10, 2) := by decide +kernel
theorem dX5_mayAdd_28 : decode cX5_mayAdd 28 = .ok (.if_icmp .ne 7, 3) := by decide +kernel
theorem dX5_mayAdd_31 : decode cX5_mayAdd 31 = .ok (.iconst 2, 1) := by decide +kernel
theorem dX5_mayAdd_32 : decode cX5_mayAdd 32 = .ok (.goto 4, 3) := by decide +kernel
theorem dX5_mayAdd_35 : decode cX5_mayAdd 35 = .ok (.iconst 0, 1) := by decide +kernel
theorem dX5_mayAdd_36 : decode cX5_mayAdd 36 = .ok (.ireturn, 1) := by decide +kernel
theorem dX5_doAdd_0 : decode cX5_doAdd 0 = .ok (.aload_n 0, 1) := by decide +kernel
theorem dX5_doAdd_1 : decode cX5_doAdd 1 = .ok (.getfield 7, 3) := by decide +kernel
theorem dX5_doAdd_4 : decode cX5_doAdd 4 = .ok (.iconst 5, 1) := by decide +kernel
theorem dX5_doAdd_5 : decode cX5_doAdd 5 = .ok (.iaload, 1) := by decide +kernel
theorem dX5_doAdd_6 : decode cX5_doAdd 6 = .ok (.istore_n 2, 1) := by decide +kernel
theorem dX5_doAdd_7 : decode cX5_doAdd 7 = .ok (.aload_n 0, 1) := by decide +kernel
theorem dX5_doAdd_8 : decode cX5_doAdd 8 = .ok (.getfield 7, 3) := by decide +kernel
theorem dX5_doAdd_11 : decode cX5_doAdd 11 = .ok (.iconst 5, 1) := by decide +kernel
theorem dX5_doAdd_12 : decode cX5_doAdd 12 = .ok (.dup2, 1) := by decide +kernel
theorem dX5_doAdd_13 : decode cX5_doAdd 13 = .ok (.iaload, 1) := by decide +kernel
theorem dX5_doAdd_14 : decode cX5_doAdd 14 = .ok (.iconst 1, 1) := by decide +kernel
theorem dX5_doAdd_15 : decode cX5_doAdd 15 = .ok (.iadd, 1) := by decide +kernel
theorem dX5_doAdd_16 : decode cX5_doAdd 16 = .ok (.iastore, 1) := by decide +kernel
theorem dX5_doAdd_17 : decode cX5_doAdd 17 = .ok (.aload_n 0, 1) := by decide +kernel
theorem dX5_doAdd_18 : decode cX5_doAdd 18 = .ok (.getfield 7, 3) := by decide +kernel
theorem dX5_doAdd_21 : decode cX5_doAdd 21 = .ok (.bipush 8, 2) := by decide +kernel
theorem dX5_doAdd_23 : decode cX5_doAdd 23 = .ok (.iload_n 2, 1) := by decide +kernel
theorem dX5_doAdd_24 : decode cX5_doAdd 24 = .ok (.iadd, 1) := by decide +kernel
theorem dX5_doAdd_25 : decode cX5_doAdd 25 = .ok (.iload_n 1, 1) := by decide +kernel
theorem dX5_doAdd_26 : decode cX5_doAdd 26 = .ok (.iastore, 1) := by decide +kernel
theorem dX5_doAdd_27 : decode cX5_doAdd 27 = .ok (.aload_n 0, 1) := by decide +kernel
theorem dX5_doAdd_28 : decode cX5_doAdd 28 = .ok (.getfield 7, 3) := by decide +kernel
theorem dX5_doAdd_31 : decode cX5_doAdd 31 = .ok (.bipush 18, 2) := by decide +kernel
theorem dX5_doAdd_33 : decode cX5_doAdd 33 = .ok (.iload_n 2, 1) := by decide +kernel
theorem dX5_doAdd_34 : decode cX5_doAdd 34 = .ok (.iadd, 1) := by decide +kernel
theorem dX5_doAdd_35 : decode cX5_doAdd 35 = .ok (.iconst 0, 1) := by decide +kernel
theorem dX5_doAdd_36 : decode cX5_doAdd 36 = .ok (.iastore, 1) := by decide +kernel
theorem dX5_doAdd_37 : decode cX5_doAdd 37 = .ok (.aload_n 0, 1) := by decide +kernel
theorem dX5_doAdd_38 : decode cX5_doAdd 38 = .ok (.getfield 7, 3) := by decide +kernel
theorem dX5_doAdd_41 : decode cX5_doAdd 41 = .ok (.bipush 28, 2) := by decide +kernel
theorem dX5_doAdd_43 : decode cX5_doAdd 43 = .ok (.iload_n 2, 1) := by decide +kernel
theorem dX5_doAdd_44 : decode cX5_doAdd 44 = .ok (.iadd, 1) := by decide +kernel
theorem dX5_doAdd_45 : decode cX5_doAdd 45 = .ok (.iconst 0, 1) := by decide +kernel
theorem dX5_doAdd_46 : decode cX5_doAdd 46 = .ok (.iastore, 1) := by decide +kernel
theorem dX5_doAdd_47 : decode cX5_doAdd 47 = .ok (.iload_n 2, 1) := by decide +kernel
theorem dX5_doAdd_48 : decode cX5_doAdd 48 = .ok (.ireturn, 1) := by decide +kernel
theorem dX5_add_0 : decode cX5_add 0 = .ok (.aload_n 0, 1) := by decide +kernel
theorem dX5_add_1 : decode cX5_add 1 = .ok (.aload_n 0, 1) := by decide +kernel
theorem dX5_add_2 : decode cX5_add 2 = .ok (.iload_n 1, 1) := by decide +kernel
theorem dX5_add_3 : decode cX5_add 3 = .ok (.invokevirtual 50, 3) := by decide +kernel
theorem dX5_add_6 : decode cX5_add 6 = .ok (.invokevirtual 46, 3) := by decide +kernel
theorem dX5_add_9 : decode cX5_add 9 = .ok (.ifCond .eq 5, 3) := by decide +kernel
theorem dX5_add_12 : decode cX5_add 12 = .ok (.iconst 0, 1) := by decide +kernel
theorem dX5_add_13 : decode cX5_add 13 = .ok (.ireturn, 1) := by decide +kernel
theorem dX5_add_14 : decode cX5_add 14 = .ok (.aload_n 0, 1) := by decide +kernel
theorem dX5_add_15 : decode cX5_add 15 = .ok (.invokevirtual 54, 3) := by decide +kernel
theorem dX5_add_18 : decode cX5_add 18 = .ok (.aload_n 0, 1) := by decide +kernel
theorem dX5_add_19 : decode cX5_add 19 = .ok (.iload_n 1, 1) := by decide +kernel
theorem dX5_add_20 : decode cX5_add 20 = .ok (.invokevirtual 57, 3) := by decide +kernel
theorem dX5_add_23 : decode cX5_add 23 = .ok (.ireturn, 1) := by decide +kernel
theorem dX5_mayPhase_0 : decode cX5_mayPhase 0 = .ok (.aload_n 0, 1) := by decide +kernel
theorem dX5_mayPhase_1 : decode cX5_mayPhase 1 = .ok (.iload_n 1, 1) := by decide +kernel
theorem dX5_mayPhase_2 : decode cX5_mayPhase 2 = .ok (.invokevirtual 60, 3) := by decide +kernel
theorem dX5_mayPhase_5 : decode cX5_mayPhase 5 = .ok (.ifCond .ne 7, 3) := by decide +kernel
theorem dX5_mayPhase_8 : decode cX5_mayPhase 8 = .ok (.iconst 1, 1) := by decide +kernel
theorem dX5_mayPhase_9 : decode cX5_mayPhase 9 = .ok (.goto 24, 3) := by decide +kernel
theorem dX5_mayPhase_12 : decode cX5_mayPhase 12 = .ok (.iload_n 2, 1) := by decide +kernel
theorem dX5_mayPhase_13 : decode cX5_mayPhase 13 = .ok (.iconst 0, 1) := by decide +kernel
theorem dX5_mayPhase_14 : decode cX5_mayPhase 14 = .ok (.aload_n 0, 1) := by decide +kernel
theorem dX5_mayPhase_15 : decode cX5_mayPhase 15 = .ok (.getfield 7, 3) := by decide +kernel
theorem dX5_mayPhase_18 : decode cX5_mayPhase 18 = .ok (.iconst 0, 1) := by decide +kernel
theorem dX5_mayPhase_19 : decode cX5_mayPhase 19 = .ok (.iaload, 1) := by decide +kernel
theorem dX5_mayPhase_20 : decode cX5_mayPhase 20 = .ok (.iconst 1, 1) := by decide +kernel
theorem dX5_mayPhase_21 : decode cX5_mayPhase 21 = .ok (.isub, 1) := by decide +kernel
theorem dX5_mayPhase_22 : decode cX5_mayPhase 22 = .ok (.invokestatic 39, 3) := by decide +kernel
theorem dX5_mayPhase_25 : decode cX5_mayPhase 25 = .ok (.ifCond .ne 7, 3) := by decide +kernel
theorem dX5_mayPhase_28 : decode cX5_mayPhase 28 = .ok (.iconst 2, 1) := by decide +kernel
theorem dX5_mayPhase_29 : decode cX5_mayPhase 29 = .ok (.goto 4, 3) := by decide +kernel
theorem dX5_mayPhase_32 : decode cX5_mayPhase 32 = .ok (.iconst 0, 1) := by decide +kernel
theorem dX5_mayPhase_33 : decode cX5_mayPhase 33 = .ok (.ireturn, 1) := by decide +kernel
theorem dX5_setPhase_0 : decode cX5_setPhase 0 = .ok (.aload_n 0, 1) := by decide +kernel
theorem dX5_setPhase_1 : decode cX5_setPhase 1 = .ok (.aload_n 0, 1) := by decide +kernel
theorem dX5_setPhase_2 : decode cX5_setPhase 2 = .ok (.iload_n 1, 1) := by decide +kernel
theorem dX5_setPhase_3 : decode cX5_setPhase 3 = .ok (.iload_n 2, 1) := by decide +kernel
theorem dX5_setPhase_4 : decode cX5_setPhase 4 = .ok (.invokevirtual 63, 3) := by decide +kernel
theorem dX5_setPhase_7 : decode cX5_setPhase 7 = .ok (.invokevirtual 46, 3) := by decide +kernel
theorem dX5_setPhase_10 : decode cX5_setPhase 10 = .ok (.ifCond .eq 5, 3) := by decide +kernel
theorem dX5_setPhase_13 : decode cX5_setPhase 13 = .ok (.iconst 0, 1) := by decide +kernel
theorem dX5_setPhase_14 : decode cX5_setPhase 14 = .ok (.ireturn, 1) := by decide +kernel
theorem dX5_setPhase_15 : decode cX5_setPhase 15 = .ok (.aload_n 0, 1) := by decide +kernel
theorem dX5_setPhase_16 : decode cX5_setPhase 16 = .ok (.invokevirtual 54, 3) := by decide +kernel
theorem dX5_setPhase_19 : decode cX5_setPhase 19 = .ok (.aload_n 0, 1) := by decide +kernel
theorem dX5_setPhase_20 : decode cX5_setPhase 20 = .ok (.getfield 7, 3) := by decide +kernel
theorem dX5_setPhase_23 : decode cX5_setPhase 23 = .ok (.bipush 8, 2) := by decide +kernel
theorem dX5_setPhase_25 : decode cX5_setPhase 25 = .ok (.iload_n 1, 1) := by decide +kernel
theorem dX5_setPhase_26 : decode cX5_setPhase 26 = .ok (.iadd, 1) := by decide +kernel
theorem dX5_setPhase_27 : decode cX5_setPhase 27 = .ok (.iaload, 1) := by decide +kernel
theorem dX5_setPhase_28 : decode cX5_setPhase 28 = .ok (.istore_n 3, 1) := by decide +kernel
theorem dX5_setPhase_29 : decode cX5_setPhase 29 = .ok (.aload_n 0, 1) := by decide +kernel
theorem dX5_setPhase_30 : decode cX5_setPhase 30 = .ok (.getfield 7, 3) := by decide +kernel
theorem dX5_setPhase_33 : decode cX5_setPhase 33 = .ok (.bipush 8, 2) := by decide +kernel
theorem dX5_setPhase_35 : decode cX5_setPhase 35 = .ok (.iload_n 1, 1) := by decide +kernel
theorem dX5_setPhase_36 : decode cX5_setPhase 36 = .ok (.iadd, 1) := by decide +kernel
theorem dX5_setPhase_37 : decode cX5_setPhase 37 = .ok (.iload_n 2, 1) := by decide +kernel
theorem dX5_setPhase_38 : decode cX5_setPhase 38 = .ok (.iastore, 1) := by decide +kernel
theorem dX5_setPhase_39 : decode cX5_setPhase 39 = .ok (.iload_n 3, 1) := by decide +kernel
theorem dX5_setPhase_40 : decode cX5_setPhase 40 = .ok (.ireturn, 1) := by decide +kernel
theorem dX5_setDrift_0 : decode cX5_setDrift 0 = .ok (.aload_n 0, 1) := by decide +kernel
theorem dX5_setDrift_1 : decode cX5_setDrift 1 = .ok (.aload_n 0, 1) := by decide +kernel
theorem dX5_setDrift_2 : decode cX5_setDrift 2 = .ok (.iload_n 1, 1) := by decide +kernel
theorem dX5_setDrift_3 : decode cX5_setDrift 3 = .ok (.invokevirtual 60, 3) := by decide +kernel
theorem dX5_setDrift_6 : decode cX5_setDrift 6 = .ok (.ifCond .ne 7, 3) := by decide +kernel
theorem dX5_setDrift_9 : decode cX5_setDrift 9 = .ok (.iconst 1, 1) := by decide +kernel
theorem dX5_setDrift_10 : decode cX5_setDrift 10 = .ok (.goto 19, 3) := by decide +kernel
theorem dX5_setDrift_13 : decode cX5_setDrift 13 = .ok (.iload_n 2, 1) := by decide +kernel
theorem dX5_setDrift_14 : decode cX5_setDrift 14 = .ok (.bipush (-9), 2) := by decide +kernel
theorem dX5_setDrift_16 : decode cX5_setDrift 16 = .ok (.bipush 9, 2) := by decide +kernel
theorem dX5_setDrift_18 : decode cX5_setDrift 18 = .ok (.invokestatic 39, 3) := by decide +kernel
theorem dX5_setDrift_21 : decode cX5_setDrift 21 = .ok (.ifCond .ne 7, 3) := by decide +kernel
theorem dX5_setDrift_24 : decode cX5_setDrift 24 = .ok (.iconst 2, 1) := by decide +kernel
theorem dX5_setDrift_25 : decode cX5_setDrift 25 = .ok (.goto 4, 3) := by decide +kernel
theorem dX5_setDrift_28 : decode cX5_setDrift 28 = .ok (.iconst 0, 1) := by decide +kernel
theorem dX5_setDrift_29 : decode cX5_setDrift 29 = .ok (.invokevirtual 46, 3) := by decide +kernel
theorem dX5_setDrift_32 : decode cX5_setDrift 32 = .ok (.ifCond .eq 5, 3) := by decide +kernel
theorem dX5_setDrift_35 : decode cX5_setDrift 35 = .ok (.iconst 0, 1) := by decide +kernel
theorem dX5_setDrift_36 : decode cX5_setDrift 36 = .ok (.ireturn, 1) := by decide +kernel
theorem dX5_setDrift_37 : decode cX5_setDrift 37 = .ok (.aload_n 0, 1) := by decide +kernel
theorem dX5_setDrift_38 : decode cX5_setDrift 38 = .ok (.invokevirtual 54, 3) := by decide +kernel
theorem dX5_setDrift_41 : decode cX5_setDrift 41 = .ok (.aload_n 0, 1) := by decide +kernel
theorem dX5_setDrift_42 : decode cX5_setDrift 42 = .ok (.getfield 7, 3) := by decide +kernel
theorem dX5_setDrift_45 : decode cX5_setDrift 45 = .ok (.bipush 18, 2) := by decide +kernel
theorem dX5_setDrift_47 : decode cX5_setDrift 47 = .ok (.iload_n 1, 1) := by decide +kernel
theorem dX5_setDrift_48 : decode cX5_setDrift 48 = .ok (.iadd, 1) := by decide +kernel
theorem dX5_setDrift_49 : decode cX5_setDrift 49 = .ok (.iaload, 1) := by decide +kernel
theorem dX5_setDrift_50 : decode cX5_setDrift 50 = .ok (.istore_n 3, 1) := by decide +kernel
theorem dX5_setDrift_51 : decode cX5_setDrift 51 = .ok (.aload_n 0, 1) := by decide +kernel
theorem dX5_setDrift_52 : decode cX5_setDrift 52 = .ok (.getfield 7, 3) := by decide +kernel
theorem dX5_setDrift_55 : decode cX5_setDrift 55 = .ok (.bipush 18, 2) := by decide +kernel
theorem dX5_setDrift_57 : decode cX5_setDrift 57 = .ok (.iload_n 1, 1) := by decide +kernel
theorem dX5_setDrift_58 : decode cX5_setDrift 58 = .ok (.iadd, 1) := by decide +kernel
theorem dX5_setDrift_59 : decode cX5_setDrift 59 = .ok (.iload_n 2, 1) := by decide +kernel
theorem dX5_setDrift_60 : decode cX5_setDrift 60 = .ok (.iastore, 1) := by decide +kernel
theorem dX5_setDrift_61 : decode cX5_setDrift 61 = .ok (.iload_n 3, 1) := by decide +kernel
theorem dX5_setDrift_62 : decode cX5_setDrift 62 = .ok (.ireturn, 1) := by decide +kernel
theorem dX5_blinkers_0 : decode cX5_blinkers 0 = .ok (.iconst 0, 1) := by decide +kernel
theorem dX5_blinkers_1 : decode cX5_blinkers 1 = .ok (.istore_n 1, 1) := by decide +kernel
theorem dX5_blinkers_2 : decode cX5_blinkers 2 = .ok (.iconst 0, 1) := by decide +kernel
theorem dX5_blinkers_3 : decode cX5_blinkers 3 = .ok (.istore_n 2, 1) := by decide +kernel
theorem dX5_blinkers_4 : decode cX5_blinkers 4 = .ok (.iload_n 2, 1) := by decide +kernel
theorem dX5_blinkers_5 : decode cX5_blinkers 5 = .ok (.aload_n 0, 1) := by decide +kernel
theorem dX5_blinkers_6 : decode cX5_blinkers 6 = .ok (.getfield 7, 3) := by decide +kernel
theorem dX5_blinkers_9 : decode cX5_blinkers 9 = .ok (.iconst 5, 1) := by decide +kernel
theorem dX5_blinkers_10 : decode cX5_blinkers 10 = .ok (.iaload, 1) := by decide +kernel
theorem dX5_blinkers_11 : decode cX5_blinkers 11 = .ok (.if_icmp .ge 21, 3) := by decide +kernel
theorem dX5_blinkers_14 : decode cX5_blinkers 14 = .ok (.iload_n 1, 1) := by decide +kernel
theorem dX5_blinkers_15 : decode cX5_blinkers 15 = .ok (.aload_n 0, 1) := by decide +kernel
theorem dX5_blinkers_16 : decode cX5_blinkers 16 = .ok (.getfield 7, 3) := by decide +kernel
theorem dX5_blinkers_19 : decode cX5_blinkers 19 = .ok (.bipush 28, 2) := by decide +kernel
theorem dX5_blinkers_21 : decode cX5_blinkers 21 = .ok (.iload_n 2, 1) := by decide +kernel
theorem dX5_blinkers_22 : decode cX5_blinkers 22 = .ok (.iadd, 1) := by decide +kernel
theorem dX5_blinkers_23 : decode cX5_blinkers 23 = .ok (.iaload, 1) := by decide +kernel
theorem dX5_blinkers_24 : decode cX5_blinkers 24 = .ok (.iadd, 1) := by decide +kernel
theorem dX5_blinkers_25 : decode cX5_blinkers 25 = .ok (.istore_n 1, 1) := by decide +kernel
theorem dX5_blinkers_26 : decode cX5_blinkers 26 = .ok (.iinc 2 1, 3) := by decide +kernel
theorem dX5_blinkers_29 : decode cX5_blinkers 29 = .ok (.goto (-25), 3) := by decide +kernel
theorem dX5_blinkers_32 : decode cX5_blinkers 32 = .ok (.iload_n 1, 1) := by decide +kernel
theorem dX5_blinkers_33 : decode cX5_blinkers 33 = .ok (.ireturn, 1) := by decide +kernel
theorem dX5_mayBlink_0 : decode cX5_mayBlink 0 = .ok (.aload_n 0, 1) := by decide +kernel
theorem dX5_mayBlink_1 : decode cX5_mayBlink 1 = .ok (.iload_n 1, 1) := by decide +kernel
theorem dX5_mayBlink_2 : decode cX5_mayBlink 2 = .ok (.invokevirtual 60, 3) := by decide +kernel
theorem dX5_mayBlink_5 : decode cX5_mayBlink 5 = .ok (.ifCond .ne 7, 3) := by decide +kernel
theorem dX5_mayBlink_8 : decode cX5_mayBlink 8 = .ok (.iconst 1, 1) := by decide +kernel
theorem dX5_mayBlink_9 : decode cX5_mayBlink 9 = .ok (.goto 28, 3) := by decide +kernel
theorem dX5_mayBlink_12 : decode cX5_mayBlink 12 = .ok (.iload_n 2, 1) := by decide +kernel
theorem dX5_mayBlink_13 : decode cX5_mayBlink 13 = .ok (.iconst 1, 1) := by decide +kernel
theorem dX5_mayBlink_14 : decode cX5_mayBlink 14 = .ok (.bipush 99, 2) := by decide +kernel
theorem dX5_mayBlink_16 : decode cX5_mayBlink 16 = .ok (.invokestatic 39, 3) := by decide +kernel
theorem dX5_mayBlink_19 : decode cX5_mayBlink 19 = .ok (.ifCond .eq 13, 3) := by decide +kernel
theorem dX5_mayBlink_22 : decode cX5_mayBlink 22 = .ok (.iload_n 3, 1) := by decide +kernel
theorem dX5_mayBlink_23 : decode cX5_mayBlink 23 = .ok (.iconst 0, 1) := by decide +kernel
theorem dX5_mayBlink_24 : decode cX5_mayBlink 24 = .ok (.bipush 98, 2) := by decide +kernel
theorem dX5_mayBlink_26 : decode cX5_mayBlink 26 = .ok (.invokestatic 39, 3) := by decide +kernel
theorem dX5_mayBlink_29 : decode cX5_mayBlink 29 = .ok (.ifCond .ne 7, 3) := by decide +kernel
theorem dX5_mayBlink_32 : decode cX5_mayBlink 32 = .ok (.iconst 2, 1) := by decide +kernel
theorem dX5_mayBlink_33 : decode cX5_mayBlink 33 = .ok (.goto 4, 3) := by decide +kernel
theorem dX5_mayBlink_36 : decode cX5_mayBlink 36 = .ok (.iconst 0, 1) := by decide +kernel
theorem dX5_mayBlink_37 : decode cX5_mayBlink 37 = .ok (.ireturn, 1) := by decide +kernel
theorem dX5_doBlink_0 : decode cX5_doBlink 0 = .ok (.aload_n 0, 1) := by decide +kernel
theorem dX5_doBlink_1 : decode cX5_doBlink 1 = .ok (.getfield 7, 3) := by decide +kernel
theorem dX5_doBlink_4 : decode cX5_doBlink 4 = .ok (.bipush 28, 2) := by decide +kernel
theorem dX5_doBlink_6 : decode cX5_doBlink 6 = .ok (.iload_n 1, 1) := by decide +kernel
theorem dX5_doBlink_7 : decode cX5_doBlink 7 = .ok (.iadd, 1) := by decide +kernel
theorem dX5_doBlink_8 : decode cX5_doBlink 8 = .ok (.iconst 1, 1) := by decide +kernel
theorem dX5_doBlink_9 : decode cX5_doBlink 9 = .ok (.iastore, 1) := by decide +kernel
theorem dX5_doBlink_10 : decode cX5_doBlink 10 = .ok (.aload_n 0, 1) := by decide +kernel
theorem dX5_doBlink_11 : decode cX5_doBlink 11 = .ok (.getfield 7, 3) := by decide +kernel
theorem dX5_doBlink_14 : decode cX5_doBlink 14 = .ok (.bipush 38, 2) := by decide +kernel
theorem dX5_doBlink_16 : decode cX5_doBlink 16 = .ok (.iload_n 1, 1) := by decide +kernel
theorem dX5_doBlink_17 : decode cX5_doBlink 17 = .ok (.iadd, 1) := by decide +kernel
theorem dX5_doBlink_18 : decode cX5_doBlink 18 = .ok (.iload_n 2, 1) := by decide +kernel
theorem dX5_doBlink_19 : decode cX5_doBlink 19 = .ok (.iastore, 1) := by decide +kernel
theorem dX5_doBlink_20 : decode cX5_doBlink 20 = .ok (.aload_n 0, 1) := by decide +kernel
theorem dX5_doBlink_21 : decode cX5_doBlink 21 = .ok (.getfield 7, 3) := by decide +kernel
theorem dX5_doBlink_24 : decode cX5_doBlink 24 = .ok (.bipush 48, 2) := by decide +kernel
theorem dX5_doBlink_26 : decode cX5_doBlink 26 = .ok (.iload_n 1, 1) := by decide +kernel
theorem dX5_doBlink_27 : decode cX5_doBlink 27 = .ok (.iadd, 1) := by decide +kernel
theorem dX5_doBlink_28 : decode cX5_doBlink 28 = .ok (.iload_n 3, 1) := by decide +kernel
theorem dX5_doBlink_29 : decode cX5_doBlink 29 = .ok (.iastore, 1) := by decide +kernel
theorem dX5_doBlink_30 : decode cX5_doBlink 30 = .ok (.aload_n 0, 1) := by decide +kernel
theorem dX5_doBlink_31 : decode cX5_doBlink 31 = .ok (.invokevirtual 67, 3) := by decide +kernel
theorem dX5_doBlink_34 : decode cX5_doBlink 34 = .ok (.ireturn, 1) := by decide +kernel
theorem dX5_blink_0 : decode cX5_blink 0 = .ok (.aload_n 0, 1) := by decide +kernel
theorem dX5_blink_1 : decode cX5_blink 1 = .ok (.aload_n 0, 1) := by decide +kernel
theorem dX5_blink_2 : decode cX5_blink 2 = .ok (.iload_n 1, 1) := by decide +kernel
theorem dX5_blink_3 : decode cX5_blink 3 = .ok (.iload_n 2, 1) := by decide +kernel
theorem dX5_blink_4 : decode cX5_blink 4 = .ok (.iload_n 3, 1) := by decide +kernel
theorem dX5_blink_5 : decode cX5_blink 5 = .ok (.invokevirtual 71, 3) := by decide +kernel
theorem dX5_blink_8 : decode cX5_blink 8 = .ok (.invokevirtual 46, 3) := by decide +kernel
theorem dX5_blink_11 : decode cX5_blink 11 = .ok (.ifCond .eq 5, 3) := by decide +kernel
theorem dX5_blink_14 : decode cX5_blink 14 = .ok (.iconst 0, 1) := by decide +kernel
theorem dX5_blink_15 : decode cX5_blink 15 = .ok (.ireturn, 1) := by decide +kernel
theorem dX5_blink_16 : decode cX5_blink 16 = .ok (.aload_n 0, 1) := by decide +kernel
theorem dX5_blink_17 : decode cX5_blink 17 = .ok (.invokevirtual 54, 3) := by decide +kernel
theorem dX5_blink_20 : decode cX5_blink 20 = .ok (.aload_n 0, 1) := by decide +kernel
theorem dX5_blink_21 : decode cX5_blink 21 = .ok (.iload_n 1, 1) := by decide +kernel
theorem dX5_blink_22 : decode cX5_blink 22 = .ok (.iload_n 2, 1) := by decide +kernel
theorem dX5_blink_23 : decode cX5_blink 23 = .ok (.iload_n 3, 1) := by decide +kernel
theorem dX5_blink_24 : decode cX5_blink 24 = .ok (.invokevirtual 75, 3) := by decide +kernel
theorem dX5_blink_27 : decode cX5_blink 27 = .ok (.ireturn, 1) := by decide +kernel
theorem dX5_mend_0 : decode cX5_mend 0 = .ok (.aload_n 0, 1) := by decide +kernel
theorem dX5_mend_1 : decode cX5_mend 1 = .ok (.iload_n 1, 1) := by decide +kernel
theorem dX5_mend_2 : decode cX5_mend 2 = .ok (.invokevirtual 60, 3) := by decide +kernel
theorem dX5_mend_5 : decode cX5_mend 5 = .ok (.istore_n 2, 1) := by decide +kernel
theorem dX5_mend_6 : decode cX5_mend 6 = .ok (.aload_n 0, 1) := by decide +kernel
theorem dX5_mend_7 : decode cX5_mend 7 = .ok (.iload_n 2, 1) := by decide +kernel
theorem dX5_mend_8 : decode cX5_mend 8 = .ok (.ifCond .ne 7, 3) := by decide +kernel
theorem dX5_mend_11 : decode cX5_mend 11 = .ok (.iconst 1, 1) := by decide +kernel
theorem dX5_mend_12 : decode cX5_mend 12 = .ok (.goto 20, 3) := by decide +kernel
theorem dX5_mend_15 : decode cX5_mend 15 = .ok (.aload_n 0, 1) := by decide +kernel
theorem dX5_mend_16 : decode cX5_mend 16 = .ok (.getfield 7, 3) := by decide +kernel
theorem dX5_mend_19 : decode cX5_mend 19 = .ok (.bipush 28, 2) := by decide +kernel
theorem dX5_mend_21 : decode cX5_mend 21 = .ok (.iload_n 1, 1) := by decide +kernel
theorem dX5_mend_22 : decode cX5_mend 22 = .ok (.iadd, 1) := by decide +kernel
theorem dX5_mend_23 : decode cX5_mend 23 = .ok (.iaload, 1) := by decide +kernel
theorem dX5_mend_24 : decode cX5_mend 24 = .ok (.ifCond .ne 7, 3) := by decide +kernel
theorem dX5_mend_27 : decode cX5_mend 27 = .ok (.iconst 2, 1) := by decide +kernel
theorem dX5_mend_28 : decode cX5_mend 28 = .ok (.goto 4, 3) := by decide +kernel
theorem dX5_mend_31 : decode cX5_mend 31 = .ok (.iconst 0, 1) := by decide +kernel
theorem dX5_mend_32 : decode cX5_mend 32 = .ok (.invokevirtual 46, 3) := by decide +kernel
theorem dX5_mend_35 : decode cX5_mend 35 = .ok (.ifCond .eq 5, 3) := by decide +kernel
theorem dX5_mend_38 : decode cX5_mend 38 = .ok (.iconst 0, 1) := by decide +kernel
theorem dX5_mend_39 : decode cX5_mend 39 = .ok (.ireturn, 1) := by decide +kernel
theorem dX5_mend_40 : decode cX5_mend 40 = .ok (.aload_n 0, 1) := by decide +kernel
theorem dX5_mend_41 : decode cX5_mend 41 = .ok (.invokevirtual 54, 3) := by decide +kernel
theorem dX5_mend_44 : decode cX5_mend 44 = .ok (.aload_n 0, 1) := by decide +kernel
theorem dX5_mend_45 : decode cX5_mend 45 = .ok (.getfield 7, 3) := by decide +kernel
theorem dX5_mend_48 : decode cX5_mend 48 = .ok (.bipush 28, 2) := by decide +kernel
theorem dX5_mend_50 : decode cX5_mend 50 = .ok (.iload_n 1, 1) := by decide +kernel
theorem dX5_mend_51 : decode cX5_mend 51 = .ok (.iadd, 1) := by decide +kernel
theorem dX5_mend_52 : decode cX5_mend 52 = .ok (.iconst 0, 1) := by decide +kernel
theorem dX5_mend_53 : decode cX5_mend 53 = .ok (.iastore, 1) := by decide +kernel
theorem dX5_mend_54 : decode cX5_mend 54 = .ok (.aload_n 0, 1) := by decide +kernel
theorem dX5_mend_55 : decode cX5_mend 55 = .ok (.invokevirtual 67, 3) := by decide +kernel
theorem dX5_mend_58 : decode cX5_mend 58 = .ok (.ireturn, 1) := by decide +kernel
theorem dX5_delay_0 : decode cX5_delay 0 = .ok (.aload_n 0, 1) := by decide +kernel
theorem dX5_delay_1 : decode cX5_delay 1 = .ok (.getfield 7, 3) := by decide +kernel
theorem dX5_delay_4 : decode cX5_delay 4 = .ok (.bipush 58, 2) := by decide +kernel
theorem dX5_delay_6 : decode cX5_delay 6 = .ok (.bipush 10, 2) := by decide +kernel
theorem dX5_delay_8 : decode cX5_delay 8 = .ok (.iload_n 1, 1) := by decide +kernel
theorem dX5_delay_9 : decode cX5_delay 9 = .ok (.imul, 1) := by decide +kernel
theorem dX5_delay_10 : decode cX5_delay 10 = .ok (.iadd, 1) := by decide +kernel
theorem dX5_delay_11 : decode cX5_delay 11 = .ok (.iload_n 2, 1) := by decide +kernel
theorem dX5_delay_12 : decode cX5_delay 12 = .ok (.iadd, 1) := by decide +kernel
theorem dX5_delay_13 : decode cX5_delay 13 = .ok (.iaload, 1) := by decide +kernel
theorem dX5_delay_14 : decode cX5_delay 14 = .ok (.ireturn, 1) := by decide +kernel
theorem dX5_lays_0 : decode cX5_lays 0 = .ok (.aload_n 0, 1) := by decide +kernel
theorem dX5_lays_1 : decode cX5_lays 1 = .ok (.iload_n 1, 1) := by decide +kernel
theorem dX5_lays_2 : decode cX5_lays 2 = .ok (.iload_n 2, 1) := by decide +kernel
theorem dX5_lays_3 : decode cX5_lays 3 = .ok (.invokevirtual 78, 3) := by decide +kernel
theorem dX5_lays_6 : decode cX5_lays 6 = .ok (.iload_n 3, 1) := by decide +kernel
theorem dX5_lays_7 : decode cX5_lays 7 = .ok (.if_icmp .eq 65, 3) := by decide +kernel
theorem dX5_lays_10 : decode cX5_lays 10 = .ok (.aload_n 0, 1) := by decide +kernel
theorem dX5_lays_11 : decode cX5_lays 11 = .ok (.getfield 7, 3) := by decide +kernel
theorem dX5_lays_14 : decode cX5_lays 14 = .ok (.bipush 58, 2) := by decide +kernel
theorem dX5_lays_16 : decode cX5_lays 16 = .ok (.bipush 10, 2) := by decide +kernel
theorem dX5_lays_18 : decode cX5_lays 18 = .ok (.iload_n 1, 1) := by decide +kernel
theorem dX5_lays_19 : decode cX5_lays 19 = .ok (.imul, 1) := by decide +kernel
theorem dX5_lays_20 : decode cX5_lays 20 = .ok (.iadd, 1) := by decide +kernel
theorem dX5_lays_21 : decode cX5_lays 21 = .ok (.iload_n 2, 1) := by decide +kernel
theorem dX5_lays_22 : decode cX5_lays 22 = .ok (.iadd, 1) := by decide +kernel
theorem dX5_lays_23 : decode cX5_lays 23 = .ok (.iload_n 3, 1) := by decide +kernel
theorem dX5_lays_24 : decode cX5_lays 24 = .ok (.iastore, 1) := by decide +kernel
theorem dX5_lays_25 : decode cX5_lays 25 = .ok (.aload_n 0, 1) := by decide +kernel
theorem dX5_lays_26 : decode cX5_lays 26 = .ok (.getfield 7, 3) := by decide +kernel
theorem dX5_lays_29 : decode cX5_lays 29 = .ok (.bipush 58, 2) := by decide +kernel
theorem dX5_lays_31 : decode cX5_lays 31 = .ok (.bipush 10, 2) := by decide +kernel
theorem dX5_lays_33 : decode cX5_lays 33 = .ok (.iload_n 2, 1) := by decide +kernel
theorem dX5_lays_34 : decode cX5_lays 34 = .ok (.imul, 1) := by decide +kernel
theorem dX5_lays_35 : decode cX5_lays 35 = .ok (.iadd, 1) := by decide +kernel
theorem dX5_lays_36 : decode cX5_lays 36 = .ok (.iload_n 1, 1) := by decide +kernel
theorem dX5_lays_37 : decode cX5_lays 37 = .ok (.iadd, 1) := by decide +kernel
theorem dX5_lays_38 : decode cX5_lays 38 = .ok (.iload_n 3, 1) := by decide +kernel
theorem dX5_lays_39 : decode cX5_lays 39 = .ok (.iastore, 1) := by decide +kernel
theorem dX5_lays_40 : decode cX5_lays 40 = .ok (.aload_n 0, 1) := by decide +kernel
theorem dX5_lays_41 : decode cX5_lays 41 = .ok (.getfield 7, 3) := by decide +kernel
theorem dX5_lays_44 : decode cX5_lays 44 = .ok (.sipush 158, 3) := by decide +kernel
theorem dX5_lays_47 : decode cX5_lays 47 = .ok (.bipush 10, 2) := by decide +kernel
theorem dX5_lays_49 : decode cX5_lays 49 = .ok (.iload_n 1, 1) := by decide +kernel
theorem dX5_lays_50 : decode cX5_lays 50 = .ok (.imul, 1) := by decide +kernel
theorem dX5_lays_51 : decode cX5_lays 51 = .ok (.iadd, 1) := by decide +kernel
theorem dX5_lays_52 : decode cX5_lays 52 = .ok (.iload_n 2, 1) := by decide +kernel
theorem dX5_lays_53 : decode cX5_lays 53 = .ok (.iadd, 1) := by decide +kernel
theorem dX5_lays_54 : decode cX5_lays 54 = .ok (.iconst 0, 1) := by decide +kernel
theorem dX5_lays_55 : decode cX5_lays 55 = .ok (.iastore, 1) := by decide +kernel
theorem dX5_lays_56 : decode cX5_lays 56 = .ok (.aload_n 0, 1) := by decide +kernel
theorem dX5_lays_57 : decode cX5_lays 57 = .ok (.getfield 7, 3) := by decide +kernel
theorem dX5_lays_60 : decode cX5_lays 60 = .ok (.sipush 158, 3) := by decide +kernel
theorem dX5_lays_63 : decode cX5_lays 63 = .ok (.bipush 10, 2) := by decide +kernel
theorem dX5_lays_65 : decode cX5_lays 65 = .ok (.iload_n 2, 1) := by decide +kernel
theorem dX5_lays_66 : decode cX5_lays 66 = .ok (.imul, 1) := by decide +kernel
theorem dX5_lays_67 : decode cX5_lays 67 = .ok (.iadd, 1) := by decide +kernel
theorem dX5_lays_68 : decode cX5_lays 68 = .ok (.iload_n 1, 1) := by decide +kernel
theorem dX5_lays_69 : decode cX5_lays 69 = .ok (.iadd, 1) := by decide +kernel
theorem dX5_lays_70 : decode cX5_lays 70 = .ok (.iconst 0, 1) := by decide +kernel
theorem dX5_lays_71 : decode cX5_lays 71 = .ok (.iastore, 1) := by decide +kernel
theorem dX5_lays_72 : decode cX5_lays 72 = .ok (.return_, 1) := by decide +kernel
theorem dX5_mayLink_0 : decode cX5_mayLink 0 = .ok (.aload_n 0, 1) := by decide +kernel
theorem dX5_mayLink_1 : decode cX5_mayLink 1 = .ok (.iload_n 1, 1) := by decide +kernel
theorem dX5_mayLink_2 : decode cX5_mayLink 2 = .ok (.invokevirtual 60, 3) := by decide +kernel
theorem dX5_mayLink_5 : decode cX5_mayLink 5 = .ok (.ifCond .eq 15, 3) := by decide +kernel
theorem dX5_mayLink_8 : decode cX5_mayLink 8 = .ok (.aload_n 0, 1) := by decide +kernel
theorem dX5_mayLink_9 : decode cX5_mayLink 9 = .ok (.iload_n 2, 1) := by decide +kernel
theorem dX5_mayLink_10 : decode cX5_mayLink 10 = .ok (.invokevirtual 60, 3) := by decide +kernel
theorem dX5_mayLink_13 : decode cX5_mayLink 13 = .ok (.ifCond .eq 7, 3) := by decide +kernel
theorem dX5_mayLink_16 : decode cX5_mayLink 16 = .ok (.iconst 1, 1) := by decide +kernel
theorem dX5_mayLink_17 : decode cX5_mayLink 17 = .ok (.goto 4, 3) := by decide +kernel
theorem dX5_mayLink_20 : decode cX5_mayLink 20 = .ok (.iconst 0, 1) := by decide +kernel
theorem dX5_mayLink_21 : decode cX5_mayLink 21 = .ok (.istore 4, 2) := by decide +kernel
theorem dX5_mayLink_23 : decode cX5_mayLink 23 = .ok (.iload 4, 2) := by decide +kernel
theorem dX5_mayLink_25 : decode cX5_mayLink 25 = .ok (.ifCond .ne 7, 3) := by decide +kernel
theorem dX5_mayLink_28 : decode cX5_mayLink 28 = .ok (.iconst 1, 1) := by decide +kernel
theorem dX5_mayLink_29 : decode cX5_mayLink 29 = .ok (.goto 23, 3) := by decide +kernel
theorem dX5_mayLink_32 : decode cX5_mayLink 32 = .ok (.iload_n 1, 1) := by decide +kernel
theorem dX5_mayLink_33 : decode cX5_mayLink 33 = .ok (.iload_n 2, 1) := by decide +kernel
theorem dX5_mayLink_34 : decode cX5_mayLink 34 = .ok (.if_icmp .eq 13, 3) := by decide +kernel
theorem dX5_mayLink_37 : decode cX5_mayLink 37 = .ok (.iload_n 3, 1) := by decide +kernel
theorem dX5_mayLink_38 : decode cX5_mayLink 38 = .ok (.iconst 0, 1) := by decide +kernel
theorem dX5_mayLink_39 : decode cX5_mayLink 39 = .ok (.bipush 9, 2) := by decide +kernel
theorem dX5_mayLink_41 : decode cX5_mayLink 41 = .ok (.invokestatic 39, 3) := by decide +kernel
theorem dX5_mayLink_44 : decode cX5_mayLink 44 = .ok (.ifCond .ne 7, 3) := by decide +kernel
theorem dX5_mayLink_47 : decode cX5_mayLink 47 = .ok (.iconst 2, 1) := by decide +kernel
theorem dX5_mayLink_48 : decode cX5_mayLink 48 = .ok (.goto 4, 3) := by decide +kernel
theorem dX5_mayLink_51 : decode cX5_mayLink 51 = .ok (.iconst 0, 1) := by decide +kernel
theorem dX5_mayLink_52 : decode cX5_mayLink 52 = .ok (.ireturn, 1) := by decide +kernel
theorem dX5_doLink_0 : decode cX5_doLink 0 = .ok (.aload_n 0, 1) := by decide +kernel
theorem dX5_doLink_1 : decode cX5_doLink 1 = .ok (.iload_n 1, 1) := by decide +kernel
theorem dX5_doLink_2 : decode cX5_doLink 2 = .ok (.iload_n 2, 1) := by decide +kernel
theorem dX5_doLink_3 : decode cX5_doLink 3 = .ok (.invokevirtual 78, 3) := by decide +kernel
theorem dX5_doLink_6 : decode cX5_doLink 6 = .ok (.istore 4, 2) := by decide +kernel
theorem dX5_doLink_8 : decode cX5_doLink 8 = .ok (.aload_n 0, 1) := by decide +kernel
theorem dX5_doLink_9 : decode cX5_doLink 9 = .ok (.iload_n 1, 1) := by decide +kernel
theorem dX5_doLink_10 : decode cX5_doLink 10 = .ok (.iload_n 2, 1) := by decide +kernel
theorem dX5_doLink_11 : decode cX5_doLink 11 = .ok (.iload_n 3, 1) := by decide +kernel
theorem dX5_doLink_12 : decode cX5_doLink 12 = .ok (.invokevirtual 81, 3) := by decide +kernel
theorem dX5_doLink_15 : decode cX5_doLink 15 = .ok (.iload 4, 2) := by decide +kernel
theorem dX5_doLink_17 : decode cX5_doLink 17 = .ok (.ireturn, 1) := by decide +kernel
theorem dX5_link_0 : decode cX5_link 0 = .ok (.aload_n 0, 1) := by decide +kernel
theorem dX5_link_1 : decode cX5_link 1 = .ok (.aload_n 0, 1) := by decide +kernel
theorem dX5_link_2 : decode cX5_link 2 = .ok (.iload_n 1, 1) := by decide +kernel
theorem dX5_link_3 : decode cX5_link 3 = .ok (.iload_n 2, 1) := by decide +kernel
theorem dX5_link_4 : decode cX5_link 4 = .ok (.iload_n 3, 1) := by decide +kernel
theorem dX5_link_5 : decode cX5_link 5 = .ok (.invokevirtual 85, 3) := by decide +kernel
theorem dX5_link_8 : decode cX5_link 8 = .ok (.invokevirtual 46, 3) := by decide +kernel
theorem dX5_link_11 : decode cX5_link 11 = .ok (.ifCond .eq 5, 3) := by decide +kernel
theorem dX5_link_14 : decode cX5_link 14 = .ok (.iconst 0, 1) := by decide +kernel
theorem dX5_link_15 : decode cX5_link 15 = .ok (.ireturn, 1) := by decide +kernel
theorem dX5_link_16 : decode cX5_link 16 = .ok (.aload_n 0, 1) := by decide +kernel
theorem dX5_link_17 : decode cX5_link 17 = .ok (.invokevirtual 54, 3) := by decide +kernel
theorem dX5_link_20 : decode cX5_link 20 = .ok (.aload_n 0, 1) := by decide +kernel
theorem dX5_link_21 : decode cX5_link 21 = .ok (.iload_n 1, 1) := by decide +kernel
theorem dX5_link_22 : decode cX5_link 22 = .ok (.iload_n 2, 1) := by decide +kernel
theorem dX5_link_23 : decode cX5_link 23 = .ok (.iload_n 3, 1) := by decide +kernel
theorem dX5_link_24 : decode cX5_link 24 = .ok (.invokevirtual 88, 3) := by decide +kernel
theorem dX5_link_27 : decode cX5_link 27 = .ok (.ireturn, 1) := by decide +kernel
theorem dX5_unlink_0 : decode cX5_unlink 0 = .ok (.aload_n 0, 1) := by decide +kernel
theorem dX5_unlink_1 : decode cX5_unlink 1 = .ok (.iload_n 1, 1) := by decide +kernel
theorem dX5_unlink_2 : decode cX5_unlink 2 = .ok (.invokevirtual 60, 3) := by decide +kernel
theorem dX5_unlink_5 : decode cX5_unlink 5 = .ok (.ifCond .eq 15, 3) := by decide +kernel
theorem dX5_unlink_8 : decode cX5_unlink 8 = .ok (.aload_n 0, 1) := by decide +kernel
theorem dX5_unlink_9 : decode cX5_unlink 9 = .ok (.iload_n 2, 1) := by decide +kernel
theorem dX5_unlink_10 : decode cX5_unlink 10 = .ok (.invokevirtual 60, 3) := by decide +kernel
theorem dX5_unlink_13 : decode cX5_unlink 13 = .ok (.ifCond .eq 7, 3) := by decide +kernel
theorem dX5_unlink_16 : decode cX5_unlink 16 = .ok (.iconst 1, 1) := by decide +kernel
theorem dX5_unlink_17 : decode cX5_unlink 17 = .ok (.goto 4, 3) := by decide +kernel
theorem dX5_unlink_20 : decode cX5_unlink 20 = .ok (.iconst 0, 1) := by decide +kernel
theorem dX5_unlink_21 : decode cX5_unlink 21 = .ok (.istore_n 3, 1) := by decide +kernel
theorem dX5_unlink_22 : decode cX5_unlink 22 = .ok (.aload_n 0, 1) := by decide +kernel
theorem dX5_unlink_23 : decode cX5_unlink 23 = .ok (.iload_n 3, 1) := by decide +kernel
theorem dX5_unlink_24 : decode cX5_unlink 24 = .ok (.ifCond .ne 7, 3) := by decide +kernel
theorem dX5_unlink_27 : decode cX5_unlink 27 = .ok (.iconst 1, 1) := by decide +kernel
theorem dX5_unlink_28 : decode cX5_unlink 28 = .ok (.goto 18, 3) := by decide +kernel
theorem dX5_unlink_31 : decode cX5_unlink 31 = .ok (.aload_n 0, 1) := by decide +kernel
theorem dX5_unlink_32 : decode cX5_unlink 32 = .ok (.iload_n 1, 1) := by decide +kernel
theorem dX5_unlink_33 : decode cX5_unlink 33 = .ok (.iload_n 2, 1) := by decide +kernel
theorem dX5_unlink_34 : decode cX5_unlink 34 = .ok (.invokevirtual 78, 3) := by decide +kernel
theorem dX5_unlink_37 : decode cX5_unlink 37 = .ok (.iconst (-1), 1) := by decide +kernel
theorem dX5_unlink_38 : decode cX5_unlink 38 = .ok (.if_icmp .ne 7, 3) := by decide +kernel
theorem dX5_unlink_41 : decode cX5_unlink 41 = .ok (.iconst 2, 1) := by decide +kernel
theorem dX5_unlink_42 : decode cX5_unlink 42 = .ok (.goto 4, 3) := by decide +kernel
theorem dX5_unlink_45 : decode cX5_unlink 45 = .ok (.iconst 0, 1) := by decide +kernel
theorem dX5_unlink_46 : decode cX5_unlink 46 = .ok (.invokevirtual 46, 3) := by decide +kernel
theorem dX5_unlink_49 : decode cX5_unlink 49 = .ok (.ifCond .eq 5, 3) := by decide +kernel
theorem dX5_unlink_52 : decode cX5_unlink 52 = .ok (.iconst 0, 1) := by decide +kernel
theorem dX5_unlink_53 : decode cX5_unlink 53 = .ok (.ireturn, 1) := by decide +kernel
theorem dX5_unlink_54 : decode cX5_unlink 54 = .ok (.aload_n 0, 1) := by decide +kernel
theorem dX5_unlink_55 : decode cX5_unlink 55 = .ok (.invokevirtual 54, 3) := by decide +kernel
theorem dX5_unlink_58 : decode cX5_unlink 58 = .ok (.aload_n 0, 1) := by decide +kernel
theorem dX5_unlink_59 : decode cX5_unlink 59 = .ok (.iload_n 1, 1) := by decide +kernel
theorem dX5_unlink_60 : decode cX5_unlink 60 = .ok (.iload_n 2, 1) := by decide +kernel
theorem dX5_unlink_61 : decode cX5_unlink 61 = .ok (.iconst (-1), 1) := by decide +kernel
theorem dX5_unlink_62 : decode cX5_unlink 62 = .ok (.invokevirtual 81, 3) := by decide +kernel
theorem dX5_unlink_65 : decode cX5_unlink 65 = .ok (.iconst 0, 1) := by decide +kernel
theorem dX5_unlink_66 : decode cX5_unlink 66 = .ok (.istore 4, 2) := by decide +kernel
theorem dX5_unlink_68 : decode cX5_unlink 68 = .ok (.iconst 0, 1) := by decide +kernel
theorem dX5_unlink_69 : decode cX5_unlink 69 = .ok (.istore 5, 2) := by decide +kernel
theorem dX5_unlink_71 : decode cX5_unlink 71 = .ok (.iload 5, 2) := by decide +kernel
theorem dX5_unlink_73 : decode cX5_unlink 73 = .ok (.aload_n 0, 1) := by decide +kernel
theorem dX5_unlink_74 : decode cX5_unlink 74 = .ok (.getfield 7, 3) := by decide +kernel
theorem dX5_unlink_77 : decode cX5_unlink 77 = .ok (.iconst 5, 1) := by decide +kernel
theorem dX5_unlink_78 : decode cX5_unlink 78 = .ok (.iaload, 1) := by decide +kernel
theorem dX5_unlink_79 : decode cX5_unlink 79 = .ok (.if_icmp .ge 20, 3) := by decide +kernel
theorem dX5_unlink_82 : decode cX5_unlink 82 = .ok (.iload 4, 2) := by decide +kernel
theorem dX5_unlink_84 : decode cX5_unlink 84 = .ok (.aload_n 0, 1) := by decide +kernel
theorem dX5_unlink_85 : decode cX5_unlink 85 = .ok (.iload 5, 2) := by decide +kernel
theorem dX5_unlink_87 : decode cX5_unlink 87 = .ok (.invokevirtual 91, 3) := by decide +kernel
theorem dX5_unlink_90 : decode cX5_unlink 90 = .ok (.iadd, 1) := by decide +kernel
theorem dX5_unlink_91 : decode cX5_unlink 91 = .ok (.istore 4, 2) := by decide +kernel
theorem dX5_unlink_93 : decode cX5_unlink 93 = .ok (.iinc 5 1, 3) := by decide +kernel
theorem dX5_unlink_96 : decode cX5_unlink 96 = .ok (.goto (-25), 3) := by decide +kernel
theorem dX5_unlink_99 : decode cX5_unlink 99 = .ok (.iload 4, 2) := by decide +kernel
theorem dX5_unlink_101 : decode cX5_unlink 101 = .ok (.iconst 2, 1) := by decide +kernel
theorem dX5_unlink_102 : decode cX5_unlink 102 = .ok (.idiv, 1) := by decide +kernel
theorem dX5_unlink_103 : decode cX5_unlink 103 = .ok (.ireturn, 1) := by decide +kernel
theorem dX5_setPeriod_0 : decode cX5_setPeriod 0 = .ok (.aload_n 0, 1) := by decide +kernel
theorem dX5_setPeriod_1 : decode cX5_setPeriod 1 = .ok (.aload_n 0, 1) := by decide +kernel
theorem dX5_setPeriod_2 : decode cX5_setPeriod 2 = .ok (.iload_n 1, 1) := by decide +kernel
theorem dX5_setPeriod_3 : decode cX5_setPeriod 3 = .ok (.bipush 10, 2) := by decide +kernel
theorem dX5_setPeriod_5 : decode cX5_setPeriod 5 = .ok (.bipush 100, 2) := by decide +kernel
theorem dX5_setPeriod_7 : decode cX5_setPeriod 7 = .ok (.invokestatic 39, 3) := by decide +kernel
theorem dX5_setPeriod_10 : decode cX5_setPeriod 10 = .ok (.invokevirtual 94, 3) := by decide +kernel
theorem dX5_setPeriod_13 : decode cX5_setPeriod 13 = .ok (.invokevirtual 46, 3) := by decide +kernel
theorem dX5_setPeriod_16 : decode cX5_setPeriod 16 = .ok (.ifCond .eq 5, 3) := by decide +kernel
theorem dX5_setPeriod_19 : decode cX5_setPeriod 19 = .ok (.iconst 0, 1) := by decide +kernel
theorem dX5_setPeriod_20 : decode cX5_setPeriod 20 = .ok (.ireturn, 1) := by decide +kernel
theorem dX5_setPeriod_21 : decode cX5_setPeriod 21 = .ok (.aload_n 0, 1) := by decide +kernel
theorem dX5_setPeriod_22 : decode cX5_setPeriod 22 = .ok (.invokevirtual 54, 3) := by decide +kernel
theorem dX5_setPeriod_25 : decode cX5_setPeriod 25 = .ok (.aload_n 0, 1) := by decide +kernel
theorem dX5_setPeriod_26 : decode cX5_setPeriod 26 = .ok (.getfield 7, 3) := by decide +kernel
theorem dX5_setPeriod_29 : decode cX5_setPeriod 29 = .ok (.iconst 0, 1) := by decide +kernel
theorem dX5_setPeriod_30 : decode cX5_setPeriod 30 = .ok (.iaload, 1) := by decide +kernel
theorem dX5_setPeriod_31 : decode cX5_setPeriod 31 = .ok (.istore_n 2, 1) := by decide +kernel
theorem dX5_setPeriod_32 : decode cX5_setPeriod 32 = .ok (.aload_n 0, 1) := by decide +kernel
theorem dX5_setPeriod_33 : decode cX5_setPeriod 33 = .ok (.getfield 7, 3) := by decide +kernel
theorem dX5_setPeriod_36 : decode cX5_setPeriod 36 = .ok (.iconst 0, 1) := by decide +kernel
theorem dX5_setPeriod_37 : decode cX5_setPeriod 37 = .ok (.iload_n 1, 1) := by decide +kernel
theorem dX5_setPeriod_38 : decode cX5_setPeriod 38 = .ok (.iastore, 1) := by decide +kernel
theorem dX5_setPeriod_39 : decode cX5_setPeriod 39 = .ok (.iconst 0, 1) := by decide +kernel
theorem dX5_setPeriod_40 : decode cX5_setPeriod 40 = .ok (.istore_n 3, 1) := by decide +kernel
theorem dX5_setPeriod_41 : decode cX5_setPeriod 41 = .ok (.iload_n 3, 1) := by decide +kernel
theorem dX5_setPeriod_42 : decode cX5_setPeriod 42 = .ok (.aload_n 0, 1) := by decide +kernel
theorem dX5_setPeriod_43 : decode cX5_setPeriod 43 = .ok (.getfield 7, 3) := by decide +kernel
theorem dX5_setPeriod_46 : decode cX5_setPeriod 46 = .ok (.iconst 5, 1) := by decide +kernel
theorem dX5_setPeriod_47 : decode cX5_setPeriod 47 = .ok (.iaload, 1) := by decide +kernel
theorem dX5_setPeriod_48 : decode cX5_setPeriod 48 = .ok (.if_icmp .ge 22, 3) := by decide +kernel
theorem dX5_setPeriod_51 : decode cX5_setPeriod 51 = .ok (.aload_n 0, 1) := by decide +kernel
theorem dX5_setPeriod_52 : decode cX5_setPeriod 52 = .ok (.getfield 7, 3) := by decide +kernel
theorem dX5_setPeriod_55 : decode cX5_setPeriod 55 = .ok (.bipush 8, 2) := by decide +kernel
theorem dX5_setPeriod_57 : decode cX5_setPeriod 57 = .ok (.iload_n 3, 1) := by decide +kernel
theorem dX5_setPeriod_58 : decode cX5_setPeriod 58 = .ok (.iadd, 1) := by decide +kernel
theorem dX5_setPeriod_59 : decode cX5_setPeriod 59 = .ok (.dup2, 1) := by decide +kernel
theorem dX5_setPeriod_60 : decode cX5_setPeriod 60 = .ok (.iaload, 1) := by decide +kernel
theorem dX5_setPeriod_61 : decode cX5_setPeriod 61 = .ok (.iload_n 1, 1) := by decide +kernel
theorem dX5_setPeriod_62 : decode cX5_setPeriod 62 = .ok (.irem, 1) := by decide +kernel
theorem dX5_setPeriod_63 : decode cX5_setPeriod 63 = .ok (.iastore, 1) := by decide +kernel
theorem dX5_setPeriod_64 : decode cX5_setPeriod 64 = .ok (.iinc 3 1, 3) := by decide +kernel
theorem dX5_setPeriod_67 : decode cX5_setPeriod 67 = .ok (.goto (-26), 3) := by decide +kernel
theorem dX5_setPeriod_70 : decode cX5_setPeriod 70 = .ok (.iload_n 2, 1) := by decide +kernel
theorem dX5_setPeriod_71 : decode cX5_setPeriod 71 = .ok (.ireturn, 1) := by decide +kernel
theorem dX5_setResponse_0 : decode cX5_setResponse 0 = .ok (.iload_n 1, 1) := by decide +kernel
theorem dX5_setResponse_1 : decode cX5_setResponse 1 = .ok (.ifCond .ne 13, 3) := by decide +kernel
theorem dX5_setResponse_4 : decode cX5_setResponse 4 = .ok (.iload_n 2, 1) := by decide +kernel
theorem dX5_setResponse_5 : decode cX5_setResponse 5 = .ok (.iconst 0, 1) := by decide +kernel
theorem dX5_setResponse_6 : decode cX5_setResponse 6 = .ok (.bipush 99, 2) := by decide +kernel
theorem dX5_setResponse_8 : decode cX5_setResponse 8 = .ok (.invokestatic 39, 3) := by decide +kernel
theorem dX5_setResponse_11 : decode cX5_setResponse 11 = .ok (.goto 37, 3) := by decide +kernel
theorem dX5_setResponse_14 : decode cX5_setResponse 14 = .ok (.iload_n 1, 1) := by decide +kernel
theorem dX5_setResponse_15 : decode cX5_setResponse 15 = .ok (.iconst 1, 1) := by decide +kernel
theorem dX5_setResponse_16 : decode cX5_setResponse 16 = .ok (.if_icmp .ne 13, 3) := by decide +kernel
theorem dX5_setResponse_19 : decode cX5_setResponse 19 = .ok (.iload_n 2, 1) := by decide +kernel
theorem dX5_setResponse_20 : decode cX5_setResponse 20 = .ok (.iconst 0, 1) := by decide +kernel
theorem dX5_setResponse_21 : decode cX5_setResponse 21 = .ok (.bipush 32, 2) := by decide +kernel
theorem dX5_setResponse_23 : decode cX5_setResponse 23 = .ok (.invokestatic 39, 3) := by decide +kernel
theorem dX5_setResponse_26 : decode cX5_setResponse 26 = .ok (.goto 22, 3) := by decide +kernel
theorem dX5_setResponse_29 : decode cX5_setResponse 29 = .ok (.iload_n 1, 1) := by decide +kernel
theorem dX5_setResponse_30 : decode cX5_setResponse 30 = .ok (.iconst 2, 1) := by decide +kernel
theorem dX5_setResponse_31 : decode cX5_setResponse 31 = .ok (.if_icmp .ne 16, 3) := by decide +kernel
theorem dX5_setResponse_34 : decode cX5_setResponse 34 = .ok (.iload_n 2, 1) := by decide +kernel
theorem dX5_setResponse_35 : decode cX5_setResponse 35 = .ok (.iconst 0, 1) := by decide +kernel
theorem dX5_setResponse_36 : decode cX5_setResponse 36 = .ok (.iconst 2, 1) := by decide +kernel
theorem dX5_setResponse_37 : decode cX5_setResponse 37 = .ok (.invokestatic 39, 3) := by decide +kernel
theorem dX5_setResponse_40 : decode cX5_setResponse 40 = .ok (.ifCond .eq 7, 3) := by decide +kernel
theorem dX5_setResponse_43 : decode cX5_setResponse 43 = .ok (.iconst 1, 1) := by decide +kernel
theorem dX5_setResponse_44 : decode cX5_setResponse 44 = .ok (.goto 4, 3) := by decide +kernel
theorem dX5_setResponse_47 : decode cX5_setResponse 47 = .ok (.iconst 0, 1) := by decide +kernel
theorem dX5_setResponse_48 : decode cX5_setResponse 48 = .ok (.istore_n 3, 1) := by decide +kernel
theorem dX5_setResponse_49 : decode cX5_setResponse 49 = .ok (.aload_n 0, 1) := by decide +kernel
theorem dX5_setResponse_50 : decode cX5_setResponse 50 = .ok (.aload_n 0, 1) := by decide +kernel
theorem dX5_setResponse_51 : decode cX5_setResponse 51 = .ok (.iload_n 3, 1) := by decide +kernel
theorem dX5_setResponse_52 : decode cX5_setResponse 52 = .ok (.invokevirtual 94, 3) := by decide +kernel
theorem dX5_setResponse_55 : decode cX5_setResponse 55 = .ok (.invokevirtual 46, 3) := by decide +kernel
theorem dX5_setResponse_58 : decode cX5_setResponse 58 = .ok (.ifCond .eq 5, 3) := by decide +kernel
theorem dX5_setResponse_61 : decode cX5_setResponse 61 = .ok (.iconst 0, 1) := by decide +kernel
theorem dX5_setResponse_62 : decode cX5_setResponse 62 = .ok (.ireturn, 1) := by decide +kernel
theorem dX5_setResponse_63 : decode cX5_setResponse 63 = .ok (.aload_n 0, 1) := by decide +kernel
theorem dX5_setResponse_64 : decode cX5_setResponse 64 = .ok (.invokevirtual 54, 3) := by decide +kernel
theorem dX5_setResponse_67 : decode cX5_setResponse 67 = .ok (.aload_n 0, 1) := by decide +kernel
theorem dX5_setResponse_68 : decode cX5_setResponse 68 = .ok (.getfield 7, 3) := by decide +kernel
theorem dX5_setResponse_71 : decode cX5_setResponse 71 = .ok (.iconst 1, 1) := by decide +kernel
theorem dX5_setResponse_72 : decode cX5_setResponse 72 = .ok (.iload_n 1, 1) := by decide +kernel
theorem dX5_setResponse_73 : decode cX5_setResponse 73 = .ok (.iadd, 1) := by decide +kernel
theorem dX5_setResponse_74 : decode cX5_setResponse 74 = .ok (.iaload, 1) := by decide +kernel
theorem dX5_setResponse_75 : decode cX5_setResponse 75 = .ok (.istore 4, 2) := by decide +kernel
theorem dX5_setResponse_77 : decode cX5_setResponse 77 = .ok (.aload_n 0, 1) := by decide +kernel
theorem dX5_setResponse_78 : decode cX5_setResponse 78 = .ok (.getfield 7, 3) := by decide +kernel
theorem dX5_setResponse_81 : decode cX5_setResponse 81 = .ok (.iconst 1, 1) := by decide +kernel
theorem dX5_setResponse_82 : decode cX5_setResponse 82 = .ok (.iload_n 1, 1) := by decide +kernel
theorem dX5_setResponse_83 : decode cX5_setResponse 83 = .ok (.iadd, 1) := by decide +kernel
theorem dX5_setResponse_84 : decode cX5_setResponse 84 = .ok (.iload_n 2, 1) := by decide +kernel
theorem dX5_setResponse_85 : decode cX5_setResponse 85 = .ok (.iastore, 1) := by decide +kernel
theorem dX5_setResponse_86 : decode cX5_setResponse 86 = .ok (.iload 4, 2) := by decide +kernel
theorem dX5_setResponse_88 : decode cX5_setResponse 88 = .ok (.ireturn, 1) := by decide +kernel
theorem dX5_clocks_0 : decode cX5_clocks 0 = .ok (.aload_n 0, 1) := by decide +kernel
theorem dX5_clocks_1 : decode cX5_clocks 1 = .ok (.iconst 0, 1) := by decide +kernel
theorem dX5_clocks_2 : decode cX5_clocks 2 = .ok (.putfield 35, 3) := by decide +kernel
theorem dX5_clocks_5 : decode cX5_clocks 5 = .ok (.aload_n 0, 1) := by decide +kernel
theorem dX5_clocks_6 : decode cX5_clocks 6 = .ok (.getfield 7, 3) := by decide +kernel
theorem dX5_clocks_9 : decode cX5_clocks 9 = .ok (.iconst 5, 1) := by decide +kernel
theorem dX5_clocks_10 : decode cX5_clocks 10 = .ok (.iaload, 1) := by decide +kernel
theorem dX5_clocks_11 : decode cX5_clocks 11 = .ok (.ireturn, 1) := by decide +kernel
theorem dX5_linksOf_0 : decode cX5_linksOf 0 = .ok (.iconst 0, 1) := by decide +kernel
theorem dX5_linksOf_1 : decode cX5_linksOf 1 = .ok (.istore_n 2, 1) := by decide +kernel
theorem dX5_linksOf_2 : decode cX5_linksOf 2 = .ok (.iconst 0, 1) := by decide +kernel
theorem dX5_linksOf_3 : decode cX5_linksOf 3 = .ok (.istore_n 3, 1) := by decide +kernel
theorem dX5_linksOf_4 : decode cX5_linksOf 4 = .ok (.iload_n 3, 1) := by decide +kernel
theorem dX5_linksOf_5 : decode cX5_linksOf 5 = .ok (.aload_n 0, 1) := by decide +kernel
theorem dX5_linksOf_6 : decode cX5_linksOf 6 = .ok (.getfield 7, 3) := by decide +kernel
theorem dX5_linksOf_9 : decode cX5_linksOf 9 = .ok (.iconst 5, 1) := by decide +kernel
theorem dX5_linksOf_10 : decode cX5_linksOf 10 = .ok (.iaload, 1) := by decide +kernel
theorem dX5_linksOf_11 : decode cX5_linksOf 11 = .ok (.if_icmp .ge 27, 3) := by decide +kernel
theorem dX5_linksOf_14 : decode cX5_linksOf 14 = .ok (.iload_n 2, 1) := by decide +kernel
theorem dX5_linksOf_15 : decode cX5_linksOf 15 = .ok (.aload_n 0, 1) := by decide +kernel
theorem dX5_linksOf_16 : decode cX5_linksOf 16 = .ok (.iload_n 1, 1) := by decide +kernel
theorem dX5_linksOf_17 : decode cX5_linksOf 17 = .ok (.iload_n 3, 1) := by decide +kernel
theorem dX5_linksOf_18 : decode cX5_linksOf 18 = .ok (.invokevirtual 78, 3) := by decide +kernel
theorem dX5_linksOf_21 : decode cX5_linksOf 21 = .ok (.iconst (-1), 1) := by decide +kernel
theorem dX5_linksOf_22 : decode cX5_linksOf 22 = .ok (.if_icmp .ne 7, 3) := by decide +kernel
theorem dX5_linksOf_25 : decode cX5_linksOf 25 = .ok (.iconst 0, 1) := by decide +kernel
theorem dX5_linksOf_26 : decode cX5_linksOf 26 = .ok (.goto 4, 3) := by decide +kernel
theorem dX5_linksOf_29 : decode cX5_linksOf 29 = .ok (.iconst 1, 1) := by decide +kernel
theorem dX5_linksOf_30 : decode cX5_linksOf 30 = .ok (.iadd, 1) := by decide +kernel
theorem dX5_linksOf_31 : decode cX5_linksOf 31 = .ok (.istore_n 2, 1) := by decide +kernel
theorem dX5_linksOf_32 : decode cX5_linksOf 32 = .ok (.iinc 3 1, 3) := by decide +kernel
theorem dX5_linksOf_35 : decode cX5_linksOf 35 = .ok (.goto (-31), 3) := by decide +kernel
theorem dX5_linksOf_38 : decode cX5_linksOf 38 = .ok (.iload_n 2, 1) := by decide +kernel
theorem dX5_linksOf_39 : decode cX5_linksOf 39 = .ok (.ireturn, 1) := by decide +kernel
theorem dX5_bits_0 : decode cX5_bits 0 = .ok (.iconst 0, 1) := by decide +kernel
theorem dX5_bits_1 : decode cX5_bits 1 = .ok (.istore_n 1, 1) := by decide +kernel
theorem dX5_bits_2 : decode cX5_bits 2 = .ok (.iconst 0, 1) := by decide +kernel
theorem dX5_bits_3 : decode cX5_bits 3 = .ok (.istore_n 2, 1) := by decide +kernel
theorem dX5_bits_4 : decode cX5_bits 4 = .ok (.iload_n 2, 1) := by decide +kernel
theorem dX5_bits_5 : decode cX5_bits 5 = .ok (.bipush 12, 2) := by decide +kernel
theorem dX5_bits_7 : decode cX5_bits 7 = .ok (.if_icmp .ge 17, 3) := by decide +kernel
theorem dX5_bits_10 : decode cX5_bits 10 = .ok (.iload_n 1, 1) := by decide +kernel
theorem dX5_bits_11 : decode cX5_bits 11 = .ok (.iload_n 0, 1) := by decide +kernel
theorem dX5_bits_12 : decode cX5_bits 12 = .ok (.iload_n 2, 1) := by decide +kernel
theorem dX5_bits_13 : decode cX5_bits 13 = .ok (.ishr, 1) := by decide +kernel
theorem dX5_bits_14 : decode cX5_bits 14 = .ok (.iconst 1, 1) := by decide +kernel
theorem dX5_bits_15 : decode cX5_bits 15 = .ok (.iand, 1) := by decide +kernel
theorem dX5_bits_16 : decode cX5_bits 16 = .ok (.iadd, 1) := by decide +kernel
theorem dX5_bits_17 : decode cX5_bits 17 = .ok (.istore_n 1, 1) := by decide +kernel
theorem dX5_bits_18 : decode cX5_bits 18 = .ok (.iinc 2 1, 3) := by decide +kernel
theorem dX5_bits_21 : decode cX5_bits 21 = .ok (.goto (-17), 3) := by decide +kernel
theorem dX5_bits_24 : decode cX5_bits 24 = .ok (.iload_n 1, 1) := by decide +kernel
theorem dX5_bits_25 : decode cX5_bits 25 = .ok (.ireturn, 1) := by decide +kernel
theorem dX5_comingTo_0 : decode cX5_comingTo 0 = .ok (.iconst 0, 1) := by decide +kernel
theorem dX5_comingTo_1 : decode cX5_comingTo 1 = .ok (.istore_n 2, 1) := by decide +kernel
theorem dX5_comingTo_2 : decode cX5_comingTo 2 = .ok (.iconst 0, 1) := by decide +kernel
theorem dX5_comingTo_3 : decode cX5_comingTo 3 = .ok (.istore_n 3, 1) := by decide +kernel
theorem dX5_comingTo_4 : decode cX5_comingTo 4 = .ok (.iload_n 3, 1) := by decide +kernel
theorem dX5_comingTo_5 : decode cX5_comingTo 5 = .ok (.aload_n 0, 1) := by decide +kernel
theorem dX5_comingTo_6 : decode cX5_comingTo 6 = .ok (.getfield 7, 3) := by decide +kernel
theorem dX5_comingTo_9 : decode cX5_comingTo 9 = .ok (.iconst 5, 1) := by decide +kernel
theorem dX5_comingTo_10 : decode cX5_comingTo 10 = .ok (.iaload, 1) := by decide +kernel
theorem dX5_comingTo_11 : decode cX5_comingTo 11 = .ok (.if_icmp .ge 30, 3) := by decide +kernel
theorem dX5_comingTo_14 : decode cX5_comingTo 14 = .ok (.iload_n 2, 1) := by decide +kernel
theorem dX5_comingTo_15 : decode cX5_comingTo 15 = .ok (.aload_n 0, 1) := by decide +kernel
theorem dX5_comingTo_16 : decode cX5_comingTo 16 = .ok (.getfield 7, 3) := by decide +kernel
theorem dX5_comingTo_19 : decode cX5_comingTo 19 = .ok (.sipush 158, 3) := by decide +kernel
theorem dX5_comingTo_22 : decode cX5_comingTo 22 = .ok (.bipush 10, 2) := by decide +kernel
theorem dX5_comingTo_24 : decode cX5_comingTo 24 = .ok (.iload_n 3, 1) := by decide +kernel
theorem dX5_comingTo_25 : decode cX5_comingTo 25 = .ok (.imul, 1) := by decide +kernel
theorem dX5_comingTo_26 : decode cX5_comingTo 26 = .ok (.iadd, 1) := by decide +kernel
theorem dX5_comingTo_27 : decode cX5_comingTo 27 = .ok (.iload_n 1, 1) := by decide +kernel
theorem dX5_comingTo_28 : decode cX5_comingTo 28 = .ok (.iadd, 1) := by decide +kernel
theorem dX5_comingTo_29 : decode cX5_comingTo 29 = .ok (.iaload, 1) := by decide +kernel
theorem dX5_comingTo_30 : decode cX5_comingTo 30 = .ok (.invokestatic 98, 3) := by decide +kernel
theorem dX5_comingTo_33 : decode cX5_comingTo 33 = .ok (.iadd, 1) := by decide +kernel
theorem dX5_comingTo_34 : decode cX5_comingTo 34 = .ok (.istore_n 2, 1) := by decide +kernel
theorem dX5_comingTo_35 : decode cX5_comingTo 35 = .ok (.iinc 3 1, 3) := by decide +kernel
theorem dX5_comingTo_38 : decode cX5_comingTo 38 = .ok (.goto (-34), 3) := by decide +kernel
theorem dX5_comingTo_41 : decode cX5_comingTo 41 = .ok (.iload_n 2, 1) := by decide +kernel
theorem dX5_comingTo_42 : decode cX5_comingTo 42 = .ok (.ireturn, 1) := by decide +kernel
theorem dX5_told_0 : decode cX5_told 0 = .ok (.aload_n 0, 1) := by decide +kernel
theorem dX5_told_1 : decode cX5_told 1 = .ok (.getfield 7, 3) := by decide +kernel
theorem dX5_told_4 : decode cX5_told 4 = .ok (.bipush 28, 2) := by decide +kernel
theorem dX5_told_6 : decode cX5_told 6 = .ok (.iload_n 1, 1) := by decide +kernel
theorem dX5_told_7 : decode cX5_told 7 = .ok (.iadd, 1) := by decide +kernel
theorem dX5_told_8 : decode cX5_told 8 = .ok (.iaload, 1) := by decide +kernel
theorem dX5_told_9 : decode cX5_told 9 = .ok (.iconst 1, 1) := by decide +kernel
theorem dX5_told_10 : decode cX5_told 10 = .ok (.if_icmp .ne 7, 3) := by decide +kernel
theorem dX5_told_13 : decode cX5_told 13 = .ok (.iconst 1, 1) := by decide +kernel
theorem dX5_told_14 : decode cX5_told 14 = .ok (.goto 4, 3) := by decide +kernel
theorem dX5_told_17 : decode cX5_told 17 = .ok (.iconst 0, 1) := by decide +kernel
theorem dX5_told_18 : decode cX5_told 18 = .ok (.istore_n 3, 1) := by decide +kernel
theorem dX5_told_19 : decode cX5_told 19 = .ok (.iload_n 2, 1) := by decide +kernel
theorem dX5_told_20 : decode cX5_told 20 = .ok (.tableswitch 112 0 5 #[40, 50, 60, 70, 88, 106], 40) := by decide +kernel
theorem dX5_told_60 : decode cX5_told 60 = .ok (.aload_n 0, 1) := by decide +kernel
theorem dX5_told_61 : decode cX5_told 61 = .ok (.getfield 7, 3) := by decide +kernel
theorem dX5_told_64 : decode cX5_told 64 = .ok (.bipush 8, 2) := by decide +kernel
theorem dX5_told_66 : decode cX5_told 66 = .ok (.iload_n 1, 1) := by decide +kernel
theorem dX5_told_67 : decode cX5_told 67 = .ok (.iadd, 1) := by decide +kernel
theorem dX5_told_68 : decode cX5_told 68 = .ok (.iaload, 1) := by decide +kernel
theorem dX5_told_69 : decode cX5_told 69 = .ok (.ireturn, 1) := by decide +kernel
theorem dX5_told_70 : decode cX5_told 70 = .ok (.aload_n 0, 1) := by decide +kernel
theorem dX5_told_71 : decode cX5_told 71 = .ok (.getfield 7, 3) := by decide +kernel
theorem dX5_told_74 : decode cX5_told 74 = .ok (.bipush 18, 2) := by decide +kernel
theorem dX5_told_76 : decode cX5_told 76 = .ok (.iload_n 1, 1) := by decide +kernel
theorem dX5_told_77 : decode cX5_told 77 = .ok (.iadd, 1) := by decide +kernel
theorem dX5_told_78 : decode cX5_told 78 = .ok (.iaload, 1) := by decide +kernel
theorem dX5_told_79 : decode cX5_told 79 = .ok (.ireturn, 1) := by decide +kernel
theorem dX5_told_80 : decode cX5_told 80 = .ok (.aload_n 0, 1) := by decide +kernel
theorem dX5_told_81 : decode cX5_told 81 = .ok (.getfield 7, 3) := by decide +kernel
theorem dX5_told_84 : decode cX5_told 84 = .ok (.bipush 28, 2) := by decide +kernel
theorem dX5_told_86 : decode cX5_told 86 = .ok (.iload_n 1, 1) := by decide +kernel
theorem dX5_told_87 : decode cX5_told 87 = .ok (.iadd, 1) := by decide +kernel
theorem dX5_told_88 : decode cX5_told 88 = .ok (.iaload, 1) := by decide +kernel
theorem dX5_told_89 : decode cX5_told 89 = .ok (.ireturn, 1) := by decide +kernel
theorem dX5_told_90 : decode cX5_told 90 = .ok (.iload_n 3, 1) := by decide +kernel
theorem dX5_told_91 : decode cX5_told 91 = .ok (.ifCond .eq 15, 3) := by decide +kernel
theorem dX5_told_94 : decode cX5_told 94 = .ok (.aload_n 0, 1) := by decide +kernel
theorem dX5_told_95 : decode cX5_told 95 = .ok (.getfield 7, 3) := by decide +kernel
theorem dX5_told_98 : decode cX5_told 98 = .ok (.bipush 38, 2) := by decide +kernel
theorem dX5_told_100 : decode cX5_told 100 = .ok (.iload_n 1, 1) := by decide +kernel
theorem dX5_told_101 : decode cX5_told 101 = .ok (.iadd, 1) := by decide +kernel
theorem dX5_told_102 : decode cX5_told 102 = .ok (.iaload, 1) := by decide +kernel
theorem dX5_told_103 : decode cX5_told 103 = .ok (.goto 4, 3) := by decide +kernel
theorem dX5_told_106 : decode cX5_told 106 = .ok (.iconst (-1), 1) := by decide +kernel
theorem dX5_told_107 : decode cX5_told 107 = .ok (.ireturn, 1) := by decide +kernel
theorem dX5_told_108 : decode cX5_told 108 = .ok (.iload_n 3, 1) := by decide +kernel
theorem dX5_told_109 : decode cX5_told 109 = .ok (.ifCond .eq 15, 3) := by decide +kernel
theorem dX5_told_112 : decode cX5_told 112 = .ok (.aload_n 0, 1) := by decide +kernel
theorem dX5_told_113 : decode cX5_told 113 = .ok (.getfield 7, 3) := by decide +kernel
theorem dX5_told_116 : decode cX5_told 116 = .ok (.bipush 48, 2) := by decide +kernel
theorem dX5_told_118 : decode cX5_told 118 = .ok (.iload_n 1, 1) := by decide +kernel
theorem dX5_told_119 : decode cX5_told 119 = .ok (.iadd, 1) := by decide +kernel
theorem dX5_told_120 : decode cX5_told 120 = .ok (.iaload, 1) := by decide +kernel
theorem dX5_told_121 : decode cX5_told 121 = .ok (.goto 4, 3) := by decide +kernel
theorem dX5_told_124 : decode cX5_told 124 = .ok (.iconst (-1), 1) := by decide +kernel
theorem dX5_told_125 : decode cX5_told 125 = .ok (.ireturn, 1) := by decide +kernel
theorem dX5_told_126 : decode cX5_told 126 = .ok (.aload_n 0, 1) := by decide +kernel
theorem dX5_told_127 : decode cX5_told 127 = .ok (.iload_n 1, 1) := by decide +kernel
theorem dX5_told_128 : decode cX5_told 128 = .ok (.invokevirtual 91, 3) := by decide +kernel
theorem dX5_told_131 : decode cX5_told 131 = .ok (.ireturn, 1) := by decide +kernel
theorem dX5_told_132 : decode cX5_told 132 = .ok (.aload_n 0, 1) := by decide +kernel
theorem dX5_told_133 : decode cX5_told 133 = .ok (.iload_n 1, 1) := by decide +kernel
theorem dX5_told_134 : decode cX5_told 134 = .ok (.invokevirtual 101, 3) := by decide +kernel
theorem dX5_told_137 : decode cX5_told 137 = .ok (.ireturn, 1) := by decide +kernel
theorem dX5_clock_0 : decode cX5_clock 0 = .ok (.aload_n 0, 1) := by decide +kernel
theorem dX5_clock_1 : decode cX5_clock 1 = .ok (.aload_n 0, 1) := by decide +kernel
theorem dX5_clock_2 : decode cX5_clock 2 = .ok (.iload_n 1, 1) := by decide +kernel
theorem dX5_clock_3 : decode cX5_clock 3 = .ok (.invokevirtual 60, 3) := by decide +kernel
theorem dX5_clock_6 : decode cX5_clock 6 = .ok (.ifCond .ne 7, 3) := by decide +kernel
theorem dX5_clock_9 : decode cX5_clock 9 = .ok (.iconst 1, 1) := by decide +kernel
theorem dX5_clock_10 : decode cX5_clock 10 = .ok (.goto 18, 3) := by decide +kernel
theorem dX5_clock_13 : decode cX5_clock 13 = .ok (.iload_n 2, 1) := by decide +kernel
theorem dX5_clock_14 : decode cX5_clock 14 = .ok (.iconst 0, 1) := by decide +kernel
theorem dX5_clock_15 : decode cX5_clock 15 = .ok (.bipush 6, 2) := by decide +kernel
theorem dX5_clock_17 : decode cX5_clock 17 = .ok (.invokestatic 39, 3) := by decide +kernel
theorem dX5_clock_20 : decode cX5_clock 20 = .ok (.ifCond .ne 7, 3) := by decide +kernel
theorem dX5_clock_23 : decode cX5_clock 23 = .ok (.iconst 2, 1) := by decide +kernel
theorem dX5_clock_24 : decode cX5_clock 24 = .ok (.goto 4, 3) := by decide +kernel
theorem dX5_clock_27 : decode cX5_clock 27 = .ok (.iconst 0, 1) := by decide +kernel
theorem dX5_clock_28 : decode cX5_clock 28 = .ok (.invokevirtual 46, 3) := by decide +kernel
theorem dX5_clock_31 : decode cX5_clock 31 = .ok (.ifCond .eq 7, 3) := by decide +kernel
theorem dX5_clock_34 : decode cX5_clock 34 = .ok (.iconst 0, 1) := by decide +kernel
theorem dX5_clock_35 : decode cX5_clock 35 = .ok (.goto 9, 3) := by decide +kernel
theorem dX5_clock_38 : decode cX5_clock 38 = .ok (.aload_n 0, 1) := by decide +kernel
theorem dX5_clock_39 : decode cX5_clock 39 = .ok (.iload_n 1, 1) := by decide +kernel
theorem dX5_clock_40 : decode cX5_clock 40 = .ok (.iload_n 2, 1) := by decide +kernel
theorem dX5_clock_41 : decode cX5_clock 41 = .ok (.invokevirtual 104, 3) := by decide +kernel
theorem dX5_clock_44 : decode cX5_clock 44 = .ok (.ireturn, 1) := by decide +kernel
theorem dX5_linkOf_0 : decode cX5_linkOf 0 = .ok (.aload_n 0, 1) := by decide +kernel
theorem dX5_linkOf_1 : decode cX5_linkOf 1 = .ok (.aload_n 0, 1) := by decide +kernel
theorem dX5_linkOf_2 : decode cX5_linkOf 2 = .ok (.aload_n 0, 1) := by decide +kernel
theorem dX5_linkOf_3 : decode cX5_linkOf 3 = .ok (.iload_n 1, 1) := by decide +kernel
theorem dX5_linkOf_4 : decode cX5_linkOf 4 = .ok (.invokevirtual 60, 3) := by decide +kernel
theorem dX5_linkOf_7 : decode cX5_linkOf 7 = .ok (.ifCond .eq 15, 3) := by decide +kernel
theorem dX5_linkOf_10 : decode cX5_linkOf 10 = .ok (.aload_n 0, 1) := by decide +kernel
theorem dX5_linkOf_11 : decode cX5_linkOf 11 = .ok (.iload_n 2, 1) := by decide +kernel
theorem dX5_linkOf_12 : decode cX5_linkOf 12 = .ok (.invokevirtual 60, 3) := by decide +kernel
theorem dX5_linkOf_15 : decode cX5_linkOf 15 = .ok (.ifCond .eq 7, 3) := by decide +kernel
theorem dX5_linkOf_18 : decode cX5_linkOf 18 = .ok (.iconst 1, 1) := by decide +kernel
theorem dX5_linkOf_19 : decode cX5_linkOf 19 = .ok (.goto 4, 3) := by decide +kernel
theorem dX5_linkOf_22 : decode cX5_linkOf 22 = .ok (.iconst 0, 1) := by decide +kernel
theorem dX5_linkOf_23 : decode cX5_linkOf 23 = .ok (.invokevirtual 94, 3) := by decide +kernel
theorem dX5_linkOf_26 : decode cX5_linkOf 26 = .ok (.invokevirtual 46, 3) := by decide +kernel
theorem dX5_linkOf_29 : decode cX5_linkOf 29 = .ok (.ifCond .eq 7, 3) := by decide +kernel
theorem dX5_linkOf_32 : decode cX5_linkOf 32 = .ok (.iconst 0, 1) := by decide +kernel
theorem dX5_linkOf_33 : decode cX5_linkOf 33 = .ok (.goto 9, 3) := by decide +kernel
theorem dX5_linkOf_36 : decode cX5_linkOf 36 = .ok (.aload_n 0, 1) := by decide +kernel
theorem dX5_linkOf_37 : decode cX5_linkOf 37 = .ok (.iload_n 1, 1) := by decide +kernel
theorem dX5_linkOf_38 : decode cX5_linkOf 38 = .ok (.iload_n 2, 1) := by decide +kernel
theorem dX5_linkOf_39 : decode cX5_linkOf 39 = .ok (.invokevirtual 78, 3) := by decide +kernel
theorem dX5_linkOf_42 : decode cX5_linkOf 42 = .ok (.ireturn, 1) := by decide +kernel
theorem dX5_spreads_0 : decode cX5_spreads 0 = .ok (.iload_n 1, 1) := by decide +kernel
theorem dX5_spreads_1 : decode cX5_spreads 1 = .ok (.istore_n 3, 1) := by decide +kernel
theorem dX5_spreads_2 : decode cX5_spreads 2 = .ok (.iconst 0, 1) := by decide +kernel
theorem dX5_spreads_3 : decode cX5_spreads 3 = .ok (.istore 4, 2) := by decide +kernel
theorem dX5_spreads_5 : decode cX5_spreads 5 = .ok (.iload 4, 2) := by decide +kernel
theorem dX5_spreads_7 : decode cX5_spreads 7 = .ok (.bipush 10, 2) := by decide +kernel
theorem dX5_spreads_9 : decode cX5_spreads 9 = .ok (.if_icmp .ge 16, 3) := by decide +kernel
theorem dX5_spreads_12 : decode cX5_spreads 12 = .ok (.aload_n 0, 1) := by decide +kernel
theorem dX5_spreads_13 : decode cX5_spreads 13 = .ok (.iload_n 3, 1) := by decide +kernel
theorem dX5_spreads_14 : decode cX5_spreads 14 = .ok (.iload_n 2, 1) := by decide +kernel
theorem dX5_spreads_15 : decode cX5_spreads 15 = .ok (.invokevirtual 107, 3) := by decide +kernel
theorem dX5_spreads_18 : decode cX5_spreads 18 = .ok (.istore_n 3, 1) := by decide +kernel
theorem dX5_spreads_19 : decode cX5_spreads 19 = .ok (.iinc 4 1, 3) := by decide +kernel
theorem dX5_spreads_22 : decode cX5_spreads 22 = .ok (.goto (-17), 3) := by decide +kernel
theorem dX5_spreads_25 : decode cX5_spreads 25 = .ok (.iload_n 3, 1) := by decide +kernel
theorem dX5_spreads_26 : decode cX5_spreads 26 = .ok (.ireturn, 1) := by decide +kernel
theorem dX5_nextTo_0 : decode cX5_nextTo 0 = .ok (.iload_n 1, 1) := by decide +kernel
theorem dX5_nextTo_1 : decode cX5_nextTo 1 = .ok (.istore_n 3, 1) := by decide +kernel
theorem dX5_nextTo_2 : decode cX5_nextTo 2 = .ok (.iconst 0, 1) := by decide +kernel
theorem dX5_nextTo_3 : decode cX5_nextTo 3 = .ok (.istore 4, 2) := by decide +kernel
theorem dX5_nextTo_5 : decode cX5_nextTo 5 = .ok (.iload 4, 2) := by decide +kernel
theorem dX5_nextTo_7 : decode cX5_nextTo 7 = .ok (.aload_n 0, 1) := by decide +kernel
theorem dX5_nextTo_8 : decode cX5_nextTo 8 = .ok (.getfield 7, 3) := by decide +kernel
theorem dX5_nextTo_11 : decode cX5_nextTo 11 = .ok (.iconst 5, 1) := by decide +kernel
theorem dX5_nextTo_12 : decode cX5_nextTo 12 = .ok (.iaload, 1) := by decide +kernel
theorem dX5_nextTo_13 : decode cX5_nextTo 13 = .ok (.if_icmp .ge 84, 3) := by decide +kernel
theorem dX5_nextTo_16 : decode cX5_nextTo 16 = .ok (.iconst 0, 1) := by decide +kernel
theorem dX5_nextTo_17 : decode cX5_nextTo 17 = .ok (.istore 5, 2) := by decide +kernel
theorem dX5_nextTo_19 : decode cX5_nextTo 19 = .ok (.iload 5, 2) := by decide +kernel
theorem dX5_nextTo_21 : decode cX5_nextTo 21 = .ok (.aload_n 0, 1) := by decide +kernel
theorem dX5_nextTo_22 : decode cX5_nextTo 22 = .ok (.getfield 7, 3) := by decide +kernel
theorem dX5_nextTo_25 : decode cX5_nextTo 25 = .ok (.iconst 5, 1) := by decide +kernel
theorem dX5_nextTo_26 : decode cX5_nextTo 26 = .ok (.iaload, 1) := by decide +kernel
theorem dX5_nextTo_27 : decode cX5_nextTo 27 = .ok (.if_icmp .ge 64, 3) := by decide +kernel
theorem dX5_nextTo_30 : decode cX5_nextTo 30 = .ok (.iload_n 1, 1) := by decide +kernel
theorem dX5_nextTo_31 : decode cX5_nextTo 31 = .ok (.iload 4, 2) := by decide +kernel
theorem dX5_nextTo_33 : decode cX5_nextTo 33 = .ok (.ishr, 1) := by decide +kernel
theorem dX5_nextTo_34 : decode cX5_nextTo 34 = .ok (.iconst 1, 1) := by decide +kernel
theorem dX5_nextTo_35 : decode cX5_nextTo 35 = .ok (.iand, 1) := by decide +kernel
theorem dX5_nextTo_36 : decode cX5_nextTo 36 = .ok (.iconst 1, 1) := by decide +kernel
theorem dX5_nextTo_37 : decode cX5_nextTo 37 = .ok (.if_icmp .ne 29, 3) := by decide +kernel
theorem dX5_nextTo_40 : decode cX5_nextTo 40 = .ok (.iload_n 2, 1) := by decide +kernel
theorem dX5_nextTo_41 : decode cX5_nextTo 41 = .ok (.iload 5, 2) := by decide +kernel
theorem dX5_nextTo_43 : decode cX5_nextTo 43 = .ok (.ishr, 1) := by decide +kernel
theorem dX5_nextTo_44 : decode cX5_nextTo 44 = .ok (.iconst 1, 1) := by decide +kernel
theorem dX5_nextTo_45 : decode cX5_nextTo 45 = .ok (.iand, 1) := by decide +kernel
theorem dX5_nextTo_46 : decode cX5_nextTo 46 = .ok (.iconst 1, 1) := by decide +kernel
theorem dX5_nextTo_47 : decode cX5_nextTo 47 = .ok (.if_icmp .ne 19, 3) := by decide +kernel
theorem dX5_nextTo_50 : decode cX5_nextTo 50 = .ok (.aload_n 0, 1) := by decide +kernel
theorem dX5_nextTo_51 : decode cX5_nextTo 51 = .ok (.iload 4, 2) := by decide +kernel
theorem dX5_nextTo_53 : decode cX5_nextTo 53 = .ok (.iload 5, 2) := by decide +kernel
theorem dX5_nextTo_55 : decode cX5_nextTo 55 = .ok (.invokevirtual 78, 3) := by decide +kernel
theorem dX5_nextTo_58 : decode cX5_nextTo 58 = .ok (.iconst (-1), 1) := by decide +kernel
theorem dX5_nextTo_59 : decode cX5_nextTo 59 = .ok (.if_icmp .eq 7, 3) := by decide +kernel
theorem dX5_nextTo_62 : decode cX5_nextTo 62 = .ok (.iconst 1, 1) := by decide +kernel
theorem dX5_nextTo_63 : decode cX5_nextTo 63 = .ok (.goto 4, 3) := by decide +kernel
theorem dX5_nextTo_66 : decode cX5_nextTo 66 = .ok (.iconst 0, 1) := by decide +kernel
theorem dX5_nextTo_67 : decode cX5_nextTo 67 = .ok (.istore 6, 2) := by decide +kernel
theorem dX5_nextTo_69 : decode cX5_nextTo 69 = .ok (.iload_n 3, 1) := by decide +kernel
theorem dX5_nextTo_70 : decode cX5_nextTo 70 = .ok (.iload 6, 2) := by decide +kernel
theorem dX5_nextTo_72 : decode cX5_nextTo 72 = .ok (.ifCond .eq 10, 3) := by decide +kernel
theorem dX5_nextTo_75 : decode cX5_nextTo 75 = .ok (.iconst 1, 1) := by decide +kernel
theorem dX5_nextTo_76 : decode cX5_nextTo 76 = .ok (.iload 5, 2) := by decide +kernel
theorem dX5_nextTo_78 : decode cX5_nextTo 78 = .ok (.ishl, 1) := by decide +kernel
theorem dX5_nextTo_79 : decode cX5_nextTo 79 = .ok (.goto 4, 3) := by decide +kernel
theorem dX5_nextTo_82 : decode cX5_nextTo 82 = .ok (.iconst 0, 1) := by decide +kernel
theorem dX5_nextTo_83 : decode cX5_nextTo 83 = .ok (.ior, 1) := by decide +kernel
theorem dX5_nextTo_84 : decode cX5_nextTo 84 = .ok (.istore_n 3, 1) := by decide +kernel
theorem dX5_nextTo_85 : decode cX5_nextTo 85 = .ok (.iinc 5 1, 3) := by decide +kernel
theorem dX5_nextTo_88 : decode cX5_nextTo 88 = .ok (.goto (-69), 3) := by decide +kernel
theorem dX5_nextTo_91 : decode cX5_nextTo 91 = .ok (.iinc 4 1, 3) := by decide +kernel
theorem dX5_nextTo_94 : decode cX5_nextTo 94 = .ok (.goto (-89), 3) := by decide +kernel
theorem dX5_nextTo_97 : decode cX5_nextTo 97 = .ok (.iload_n 3, 1) := by decide +kernel
theorem dX5_nextTo_98 : decode cX5_nextTo 98 = .ok (.ireturn, 1) := by decide +kernel
theorem dX5_distance_0 : decode cX5_distance 0 = .ok (.aload_n 0, 1) := by decide +kernel
theorem dX5_distance_1 : decode cX5_distance 1 = .ok (.aload_n 0, 1) := by decide +kernel
theorem dX5_distance_2 : decode cX5_distance 2 = .ok (.aload_n 0, 1) := by decide +kernel
theorem dX5_distance_3 : decode cX5_distance 3 = .ok (.iload_n 1, 1) := by decide +kernel
theorem dX5_distance_4 : decode cX5_distance 4 = .ok (.invokevirtual 60, 3) := by decide +kernel
theorem dX5_distance_7 : decode cX5_distance 7 = .ok (.ifCond .eq 15, 3) := by decide +kernel
theorem dX5_distance_10 : decode cX5_distance 10 = .ok (.aload_n 0, 1) := by decide +kernel
theorem dX5_distance_11 : decode cX5_distance 11 = .ok (.iload_n 2, 1) := by decide +kernel
theorem dX5_distance_12 : decode cX5_distance 12 = .ok (.invokevirtual 60, 3) := by decide +kernel
theorem dX5_distance_15 : decode cX5_distance 15 = .ok (.ifCond .eq 7, 3) := by decide +kernel
theorem dX5_distance_18 : decode cX5_distance 18 = .ok (.iconst 1, 1) := by decide +kernel
theorem dX5_distance_19 : decode cX5_distance 19 = .ok (.goto 4, 3) := by decide +kernel
theorem dX5_distance_22 : decode cX5_distance 22 = .ok (.iconst 0, 1) := by decide +kernel
theorem dX5_distance_23 : decode cX5_distance 23 = .ok (.invokevirtual 94, 3) := by decide +kernel
theorem dX5_distance_26 : decode cX5_distance 26 = .ok (.invokevirtual 46, 3) := by decide +kernel
theorem dX5_distance_29 : decode cX5_distance 29 = .ok (.ifCond .eq 5, 3) := by decide +kernel
theorem dX5_distance_32 : decode cX5_distance 32 = .ok (.iconst 0, 1) := by decide +kernel
theorem dX5_distance_33 : decode cX5_distance 33 = .ok (.ireturn, 1) := by decide +kernel
theorem dX5_distance_34 : decode cX5_distance 34 = .ok (.iconst 1, 1) := by decide +kernel
theorem dX5_distance_35 : decode cX5_distance 35 = .ok (.iload_n 1, 1) := by decide +kernel
theorem dX5_distance_36 : decode cX5_distance 36 = .ok (.ishl, 1) := by decide +kernel
theorem dX5_distance_37 : decode cX5_distance 37 = .ok (.istore_n 3, 1) := by decide +kernel
theorem dX5_distance_38 : decode cX5_distance 38 = .ok (.iconst 0, 1) := by decide +kernel
theorem dX5_distance_39 : decode cX5_distance 39 = .ok (.istore 4, 2) := by decide +kernel
theorem dX5_distance_41 : decode cX5_distance 41 = .ok (.iload 4, 2) := by decide +kernel
theorem dX5_distance_43 : decode cX5_distance 43 = .ok (.bipush 10, 2) := by decide +kernel
theorem dX5_distance_45 : decode cX5_distance 45 = .ok (.if_icmp .ge 30, 3) := by decide +kernel
theorem dX5_distance_48 : decode cX5_distance 48 = .ok (.iload_n 3, 1) := by decide +kernel
theorem dX5_distance_49 : decode cX5_distance 49 = .ok (.iload_n 2, 1) := by decide +kernel
theorem dX5_distance_50 : decode cX5_distance 50 = .ok (.ishr, 1) := by decide +kernel
theorem dX5_distance_51 : decode cX5_distance 51 = .ok (.iconst 1, 1) := by decide +kernel
theorem dX5_distance_52 : decode cX5_distance 52 = .ok (.iand, 1) := by decide +kernel
theorem dX5_distance_53 : decode cX5_distance 53 = .ok (.iconst 1, 1) := by decide +kernel
theorem dX5_distance_54 : decode cX5_distance 54 = .ok (.if_icmp .ne 6, 3) := by decide +kernel
theorem dX5_distance_57 : decode cX5_distance 57 = .ok (.iload 4, 2) := by decide +kernel
theorem dX5_distance_59 : decode cX5_distance 59 = .ok (.ireturn, 1) := by decide +kernel
theorem dX5_distance_60 : decode cX5_distance 60 = .ok (.aload_n 0, 1) := by decide +kernel
theorem dX5_distance_61 : decode cX5_distance 61 = .ok (.iload_n 3, 1) := by decide +kernel
theorem dX5_distance_62 : decode cX5_distance 62 = .ok (.sipush 1023, 3) := by decide +kernel
theorem dX5_distance_65 : decode cX5_distance 65 = .ok (.invokevirtual 107, 3) := by decide +kernel
theorem dX5_distance_68 : decode cX5_distance 68 = .ok (.istore_n 3, 1) := by decide +kernel
theorem dX5_distance_69 : decode cX5_distance 69 = .ok (.iinc 4 1, 3) := by decide +kernel
theorem dX5_distance_72 : decode cX5_distance 72 = .ok (.goto (-31), 3) := by decide +kernel
theorem dX5_distance_75 : decode cX5_distance 75 = .ok (.iconst (-1), 1) := by decide +kernel
theorem dX5_distance_76 : decode cX5_distance 76 = .ok (.ireturn, 1) := by decide +kernel
theorem dX5_parts_0 : decode cX5_parts 0 = .ok (.iconst 0, 1) := by decide +kernel
theorem dX5_parts_1 : decode cX5_parts 1 = .ok (.istore_n 2, 1) := by decide +kernel
theorem dX5_parts_2 : decode cX5_parts 2 = .ok (.iload_n 1, 1) := by decide +kernel
theorem dX5_parts_3 : decode cX5_parts 3 = .ok (.istore_n 3, 1) := by decide +kernel
theorem dX5_parts_4 : decode cX5_parts 4 = .ok (.iconst 0, 1) := by decide +kernel
theorem dX5_parts_5 : decode cX5_parts 5 = .ok (.istore 4, 2) := by decide +kernel
theorem dX5_parts_7 : decode cX5_parts 7 = .ok (.iload 4, 2) := by decide +kernel
theorem dX5_parts_9 : decode cX5_parts 9 = .ok (.aload_n 0, 1) := by decide +kernel
theorem dX5_parts_10 : decode cX5_parts 10 = .ok (.getfield 7, 3) := by decide +kernel
theorem dX5_parts_13 : decode cX5_parts 13 = .ok (.iconst 5, 1) := by decide +kernel
theorem dX5_parts_14 : decode cX5_parts 14 = .ok (.iaload, 1) := by decide +kernel
theorem dX5_parts_15 : decode cX5_parts 15 = .ok (.if_icmp .ge 36, 3) := by decide +kernel
theorem dX5_parts_18 : decode cX5_parts 18 = .ok (.iload_n 3, 1) := by decide +kernel
theorem dX5_parts_19 : decode cX5_parts 19 = .ok (.iload 4, 2) := by decide +kernel
theorem dX5_parts_21 : decode cX5_parts 21 = .ok (.ishr, 1) := by decide +kernel
theorem dX5_parts_22 : decode cX5_parts 22 = .ok (.iconst 1, 1) := by decide +kernel
theorem dX5_parts_23 : decode cX5_parts 23 = .ok (.iand, 1) := by decide +kernel
theorem dX5_parts_24 : decode cX5_parts 24 = .ok (.iconst 1, 1) := by decide +kernel
theorem dX5_parts_25 : decode cX5_parts 25 = .ok (.if_icmp .ne 20, 3) := by decide +kernel
theorem dX5_parts_28 : decode cX5_parts 28 = .ok (.iload_n 3, 1) := by decide +kernel
theorem dX5_parts_29 : decode cX5_parts 29 = .ok (.aload_n 0, 1) := by decide +kernel
theorem dX5_parts_30 : decode cX5_parts 30 = .ok (.iconst 1, 1) := by decide +kernel
theorem dX5_parts_31 : decode cX5_parts 31 = .ok (.iload 4, 2) := by decide +kernel
theorem dX5_parts_33 : decode cX5_parts 33 = .ok (.ishl, 1) := by decide +kernel
theorem dX5_parts_34 : decode cX5_parts 34 = .ok (.iload_n 1, 1) := by decide +kernel
theorem dX5_parts_35 : decode cX5_parts 35 = .ok (.invokevirtual 110, 3) := by decide +kernel
theorem dX5_parts_38 : decode cX5_parts 38 = .ok (.iconst (-1), 1) := by decide +kernel
theorem dX5_parts_39 : decode cX5_parts 39 = .ok (.ixor, 1) := by decide +kernel
theorem dX5_parts_40 : decode cX5_parts 40 = .ok (.iand, 1) := by decide +kernel
theorem dX5_parts_41 : decode cX5_parts 41 = .ok (.istore_n 3, 1) := by decide +kernel
theorem dX5_parts_42 : decode cX5_parts 42 = .ok (.iinc 2 1, 3) := by decide +kernel
theorem dX5_parts_45 : decode cX5_parts 45 = .ok (.iinc 4 1, 3) := by decide +kernel
theorem dX5_parts_48 : decode cX5_parts 48 = .ok (.goto (-41), 3) := by decide +kernel
theorem dX5_parts_51 : decode cX5_parts 51 = .ok (.iload_n 2, 1) := by decide +kernel
theorem dX5_parts_52 : decode cX5_parts 52 = .ok (.ireturn, 1) := by decide +kernel
theorem dX5_everyone_0 : decode cX5_everyone 0 = .ok (.iconst 1, 1) := by decide +kernel
theorem dX5_everyone_1 : decode cX5_everyone 1 = .ok (.aload_n 0, 1) := by decide +kernel
theorem dX5_everyone_2 : decode cX5_everyone 2 = .ok (.getfield 7, 3) := by decide +kernel
theorem dX5_everyone_5 : decode cX5_everyone 5 = .ok (.iconst 5, 1) := by decide +kernel
theorem dX5_everyone_6 : decode cX5_everyone 6 = .ok (.iaload, 1) := by decide +kernel
theorem dX5_everyone_7 : decode cX5_everyone 7 = .ok (.ishl, 1) := by decide +kernel
theorem dX5_everyone_8 : decode cX5_everyone 8 = .ok (.iconst 1, 1) := by decide +kernel
theorem dX5_everyone_9 : decode cX5_everyone 9 = .ok (.isub, 1) := by decide +kernel
theorem dX5_everyone_10 : decode cX5_everyone 10 = .ok (.ireturn, 1) := by decide +kernel
theorem dX5_components_0 : decode cX5_components 0 = .ok (.aload_n 0, 1) := by decide +kernel
theorem dX5_components_1 : decode cX5_components 1 = .ok (.iconst 0, 1) := by decide +kernel
theorem dX5_components_2 : decode cX5_components 2 = .ok (.putfield 35, 3) := by decide +kernel
theorem dX5_components_5 : decode cX5_components 5 = .ok (.aload_n 0, 1) := by decide +kernel
theorem dX5_components_6 : decode cX5_components 6 = .ok (.aload_n 0, 1) := by decide +kernel
theorem dX5_components_7 : decode cX5_components 7 = .ok (.invokevirtual 113, 3) := by decide +kernel
theorem dX5_components_10 : decode cX5_components 10 = .ok (.invokevirtual 116, 3) := by decide +kernel
theorem dX5_components_13 : decode cX5_components 13 = .ok (.ireturn, 1) := by decide +kernel
theorem dX5_isNeeded_0 : decode cX5_isNeeded 0 = .ok (.aload_n 0, 1) := by decide +kernel
theorem dX5_isNeeded_1 : decode cX5_isNeeded 1 = .ok (.aload_n 0, 1) := by decide +kernel
theorem dX5_isNeeded_2 : decode cX5_isNeeded 2 = .ok (.aload_n 0, 1) := by decide +kernel
theorem dX5_isNeeded_3 : decode cX5_isNeeded 3 = .ok (.iload_n 1, 1) := by decide +kernel
theorem dX5_isNeeded_4 : decode cX5_isNeeded 4 = .ok (.invokevirtual 60, 3) := by decide +kernel
theorem dX5_isNeeded_7 : decode cX5_isNeeded 7 = .ok (.invokevirtual 94, 3) := by decide +kernel
theorem dX5_isNeeded_10 : decode cX5_isNeeded 10 = .ok (.invokevirtual 46, 3) := by decide +kernel
theorem dX5_isNeeded_13 : decode cX5_isNeeded 13 = .ok (.ifCond .eq 5, 3) := by decide +kernel
theorem dX5_isNeeded_16 : decode cX5_isNeeded 16 = .ok (.iconst 0, 1) := by decide +kernel
theorem dX5_isNeeded_17 : decode cX5_isNeeded 17 = .ok (.ireturn, 1) := by decide +kernel
theorem dX5_isNeeded_18 : decode cX5_isNeeded 18 = .ok (.aload_n 0, 1) := by decide +kernel
theorem dX5_isNeeded_19 : decode cX5_isNeeded 19 = .ok (.aload_n 0, 1) := by decide +kernel
theorem dX5_isNeeded_20 : decode cX5_isNeeded 20 = .ok (.invokevirtual 113, 3) := by decide +kernel
theorem dX5_isNeeded_23 : decode cX5_isNeeded 23 = .ok (.iconst 1, 1) := by decide +kernel
theorem dX5_isNeeded_24 : decode cX5_isNeeded 24 = .ok (.iload_n 1, 1) := by decide +kernel
theorem dX5_isNeeded_25 : decode cX5_isNeeded 25 = .ok (.ishl, 1) := by decide +kernel
theorem dX5_isNeeded_26 : decode cX5_isNeeded 26 = .ok (.iconst (-1), 1) := by decide +kernel
theorem dX5_isNeeded_27 : decode cX5_isNeeded 27 = .ok (.ixor, 1) := by decide +kernel
theorem dX5_isNeeded_28 : decode cX5_isNeeded 28 = .ok (.iand, 1) := by decide +kernel
theorem dX5_isNeeded_29 : decode cX5_isNeeded 29 = .ok (.invokevirtual 116, 3) := by decide +kernel
theorem dX5_isNeeded_32 : decode cX5_isNeeded 32 = .ok (.aload_n 0, 1) := by decide +kernel
theorem dX5_isNeeded_33 : decode cX5_isNeeded 33 = .ok (.aload_n 0, 1) := by decide +kernel
theorem dX5_isNeeded_34 : decode cX5_isNeeded 34 = .ok (.invokevirtual 113, 3) := by decide +kernel
theorem dX5_isNeeded_37 : decode cX5_isNeeded 37 = .ok (.invokevirtual 116, 3) := by decide +kernel
theorem dX5_isNeeded_40 : decode cX5_isNeeded 40 = .ok (.if_icmp .le 7, 3) := by decide +kernel
theorem dX5_isNeeded_43 : decode cX5_isNeeded 43 = .ok (.iconst 1, 1) := by decide +kernel
theorem dX5_isNeeded_44 : decode cX5_isNeeded 44 = .ok (.goto 4, 3) := by decide +kernel
theorem dX5_isNeeded_47 : decode cX5_isNeeded 47 = .ok (.iconst 0, 1) := by decide +kernel
theorem dX5_isNeeded_48 : decode cX5_isNeeded 48 = .ok (.ireturn, 1) := by decide +kernel
theorem dX5_notes_0 : decode cX5_notes 0 = .ok (.aload_n 0, 1) := by decide +kernel
theorem dX5_notes_1 : decode cX5_notes 1 = .ok (.getfield 119, 3) := by decide +kernel
theorem dX5_notes_4 : decode cX5_notes 4 = .ok (.ifCond .eq 4, 3) := by decide +kernel
theorem dX5_notes_7 : decode cX5_notes 7 = .ok (.return_, 1) := by decide +kernel
theorem dX5_notes_8 : decode cX5_notes 8 = .ok (.aload_n 0, 1) := by decide +kernel
theorem dX5_notes_9 : decode cX5_notes 9 = .ok (.getfield 7, 3) := by decide +kernel
theorem dX5_notes_12 : decode cX5_notes 12 = .ok (.bipush 7, 2) := by decide +kernel
theorem dX5_notes_14 : decode cX5_notes 14 = .ok (.iaload, 1) := by decide +kernel
theorem dX5_notes_15 : decode cX5_notes 15 = .ok (.bipush 60, 2) := by decide +kernel
theorem dX5_notes_17 : decode cX5_notes 17 = .ok (.if_icmp .ne 50, 3) := by decide +kernel
theorem dX5_notes_20 : decode cX5_notes 20 = .ok (.iconst 0, 1) := by decide +kernel
theorem dX5_notes_21 : decode cX5_notes 21 = .ok (.istore_n 2, 1) := by decide +kernel
theorem dX5_notes_22 : decode cX5_notes 22 = .ok (.iload_n 2, 1) := by decide +kernel
theorem dX5_notes_23 : decode cX5_notes 23 = .ok (.bipush 118, 2) := by decide +kernel
theorem dX5_notes_25 : decode cX5_notes 25 = .ok (.if_icmp .ge 31, 3) := by decide +kernel
theorem dX5_notes_28 : decode cX5_notes 28 = .ok (.aload_n 0, 1) := by decide +kernel
theorem dX5_notes_29 : decode cX5_notes 29 = .ok (.getfield 7, 3) := by decide +kernel
theorem dX5_notes_32 : decode cX5_notes 32 = .ok (.sipush 258, 3) := by decide +kernel
theorem dX5_notes_35 : decode cX5_notes 35 = .ok (.iload_n 2, 1) := by decide +kernel
theorem dX5_notes_36 : decode cX5_notes 36 = .ok (.iadd, 1) := by decide +kernel
theorem dX5_notes_37 : decode cX5_notes 37 = .ok (.aload_n 0, 1) := by decide +kernel
theorem dX5_notes_38 : decode cX5_notes 38 = .ok (.getfield 7, 3) := by decide +kernel
theorem dX5_notes_41 : decode cX5_notes 41 = .ok (.sipush 258, 3) := by decide +kernel
theorem dX5_notes_44 : decode cX5_notes 44 = .ok (.iload_n 2, 1) := by decide +kernel
theorem dX5_notes_45 : decode cX5_notes 45 = .ok (.iadd, 1) := by decide +kernel
theorem dX5_notes_46 : decode cX5_notes 46 = .ok (.iconst 2, 1) := by decide +kernel
theorem dX5_notes_47 : decode cX5_notes 47 = .ok (.iadd, 1) := by decide +kernel
theorem dX5_notes_48 : decode cX5_notes 48 = .ok (.iaload, 1) := by decide +kernel
theorem dX5_notes_49 : decode cX5_notes 49 = .ok (.iastore, 1) := by decide +kernel
theorem dX5_notes_50 : decode cX5_notes 50 = .ok (.iinc 2 1, 3) := by decide +kernel
theorem dX5_notes_53 : decode cX5_notes 53 = .ok (.goto (-31), 3) := by decide +kernel
theorem dX5_notes_56 : decode cX5_notes 56 = .ok (.aload_n 0, 1) := by decide +kernel
theorem dX5_notes_57 : decode cX5_notes 57 = .ok (.getfield 7, 3) := by decide +kernel
theorem dX5_notes_60 : decode cX5_notes 60 = .ok (.bipush 7, 2) := by decide +kernel
theorem dX5_notes_62 : decode cX5_notes 62 = .ok (.dup2, 1) := by decide +kernel
theorem dX5_notes_63 : decode cX5_notes 63 = .ok (.iaload, 1) := by decide +kernel
theorem dX5_notes_64 : decode cX5_notes 64 = .ok (.iconst 1, 1) := by decide +kernel
theorem dX5_notes_65 : decode cX5_notes 65 = .ok (.isub, 1) := by decide +kernel
theorem dX5_notes_66 : decode cX5_notes 66 = .ok (.iastore, 1) := by decide +kernel
theorem dX5_notes_67 : decode cX5_notes 67 = .ok (.aload_n 0, 1) := by decide +kernel
theorem dX5_notes_68 : decode cX5_notes 68 = .ok (.getfield 7, 3) := by decide +kernel
theorem dX5_notes_71 : decode cX5_notes 71 = .ok (.sipush 258, 3) := by decide +kernel
theorem dX5_notes_74 : decode cX5_notes 74 = .ok (.iconst 2, 1) := by decide +kernel
theorem dX5_notes_75 : decode cX5_notes 75 = .ok (.aload_n 0, 1) := by decide +kernel
theorem dX5_notes_76 : decode cX5_notes 76 = .ok (.getfield 7, 3) := by decide +kernel
theorem dX5_notes_79 : decode cX5_notes 79 = .ok (.bipush 7, 2) := by decide +kernel
theorem dX5_notes_81 : decode cX5_notes 81 = .ok (.iaload, 1) := by decide +kernel
theorem dX5_notes_82 : decode cX5_notes 82 = .ok (.imul, 1) := by decide +kernel
theorem dX5_notes_83 : decode cX5_notes 83 = .ok (.iadd, 1) := by decide +kernel
theorem dX5_notes_84 : decode cX5_notes 84 = .ok (.aload_n 0, 1) := by decide +kernel
theorem dX5_notes_85 : decode cX5_notes 85 = .ok (.getfield 7, 3) := by decide +kernel
theorem dX5_notes_88 : decode cX5_notes 88 = .ok (.iconst 4, 1) := by decide +kernel
theorem dX5_notes_89 : decode cX5_notes 89 = .ok (.iaload, 1) := by decide +kernel
theorem dX5_notes_90 : decode cX5_notes 90 = .ok (.iastore, 1) := by decide +kernel
theorem dX5_notes_91 : decode cX5_notes 91 = .ok (.aload_n 0, 1) := by decide +kernel
theorem dX5_notes_92 : decode cX5_notes 92 = .ok (.getfield 7, 3) := by decide +kernel
theorem dX5_notes_95 : decode cX5_notes 95 = .ok (.sipush 258, 3) := by decide +kernel
theorem dX5_notes_98 : decode cX5_notes 98 = .ok (.iconst 2, 1) := by decide +kernel
theorem dX5_notes_99 : decode cX5_notes 99 = .ok (.aload_n 0, 1) := by decide +kernel
theorem dX5_notes_100 : decode cX5_notes 100 = .ok (.getfield 7, 3) := by decide +kernel
theorem dX5_notes_103 : decode cX5_notes 103 = .ok (.bipush 7, 2) := by decide +kernel
theorem dX5_notes_105 : decode cX5_notes 105 = .ok (.iaload, 1) := by decide +kernel
theorem dX5_notes_106 : decode cX5_notes 106 = .ok (.imul, 1) := by decide +kernel
theorem dX5_notes_107 : decode cX5_notes 107 = .ok (.iadd, 1) := by decide +kernel
theorem dX5_notes_108 : decode cX5_notes 108 = .ok (.iconst 1, 1) := by decide +kernel
theorem dX5_notes_109 : decode cX5_notes 109 = .ok (.iadd, 1) := by decide +kernel
theorem dX5_notes_110 : decode cX5_notes 110 = .ok (.iload_n 1, 1) := by decide +kernel
theorem dX5_notes_111 : decode cX5_notes 111 = .ok (.iastore, 1) := by decide +kernel
theorem dX5_notes_112 : decode cX5_notes 112 = .ok (.aload_n 0, 1) := by decide +kernel
theorem dX5_notes_113 : decode cX5_notes 113 = .ok (.getfield 7, 3) := by decide +kernel
theorem dX5_notes_116 : decode cX5_notes 116 = .ok (.bipush 7, 2) := by decide +kernel
theorem dX5_notes_118 : decode cX5_notes 118 = .ok (.dup2, 1) := by decide +kernel
theorem dX5_notes_119 : decode cX5_notes 119 = .ok (.iaload, 1) := by decide +kernel
theorem dX5_notes_120 : decode cX5_notes 120 = .ok (.iconst 1, 1) := by decide +kernel
theorem dX5_notes_121 : decode cX5_notes 121 = .ok (.iadd, 1) := by decide +kernel
theorem dX5_notes_122 : decode cX5_notes 122 = .ok (.iastore, 1) := by decide +kernel
theorem dX5_notes_123 : decode cX5_notes 123 = .ok (.return_, 1) := by decide +kernel
theorem dX5_fires_0 : decode cX5_fires 0 = .ok (.aload_n 0, 1) := by decide +kernel
theorem dX5_fires_1 : decode cX5_fires 1 = .ok (.getfield 22, 3) := by decide +kernel
theorem dX5_fires_4 : decode cX5_fires 4 = .ok (.aload_n 0, 1) := by decide +kernel
theorem dX5_fires_5 : decode cX5_fires 5 = .ok (.getfield 123, 3) := by decide +kernel
theorem dX5_fires_8 : decode cX5_fires 8 = .ok (.iload_n 1, 1) := by decide +kernel
theorem dX5_fires_9 : decode cX5_fires 9 = .ok (.iastore, 1) := by decide +kernel
theorem dX5_fires_10 : decode cX5_fires 10 = .ok (.aload_n 0, 1) := by decide +kernel
theorem dX5_fires_11 : decode cX5_fires 11 = .ok (.dup, 1) := by decide +kernel
theorem dX5_fires_12 : decode cX5_fires 12 = .ok (.getfield 123, 3) := by decide +kernel
theorem dX5_fires_15 : decode cX5_fires 15 = .ok (.iconst 1, 1) := by decide +kernel
theorem dX5_fires_16 : decode cX5_fires 16 = .ok (.iadd, 1) := by decide +kernel
theorem dX5_fires_17 : decode cX5_fires 17 = .ok (.putfield 123, 3) := by decide +kernel
theorem dX5_fires_20 : decode cX5_fires 20 = .ok (.aload_n 0, 1) := by decide +kernel
theorem dX5_fires_21 : decode cX5_fires 21 = .ok (.getfield 7, 3) := by decide +kernel
theorem dX5_fires_24 : decode cX5_fires 24 = .ok (.bipush 6, 2) := by decide +kernel
theorem dX5_fires_26 : decode cX5_fires 26 = .ok (.dup2, 1) := by decide +kernel
theorem dX5_fires_27 : decode cX5_fires 27 = .ok (.iaload, 1) := by decide +kernel
theorem dX5_fires_28 : decode cX5_fires 28 = .ok (.iconst 1, 1) := by decide +kernel
theorem dX5_fires_29 : decode cX5_fires 29 = .ok (.iload_n 1, 1) := by decide +kernel
theorem dX5_fires_30 : decode cX5_fires 30 = .ok (.ishl, 1) := by decide +kernel
theorem dX5_fires_31 : decode cX5_fires 31 = .ok (.ior, 1) := by decide +kernel
theorem dX5_fires_32 : decode cX5_fires 32 = .ok (.iastore, 1) := by decide +kernel
theorem dX5_fires_33 : decode cX5_fires 33 = .ok (.aload_n 0, 1) := by decide +kernel
theorem dX5_fires_34 : decode cX5_fires 34 = .ok (.getfield 7, 3) := by decide +kernel
theorem dX5_fires_37 : decode cX5_fires 37 = .ok (.bipush 8, 2) := by decide +kernel
theorem dX5_fires_39 : decode cX5_fires 39 = .ok (.iload_n 1, 1) := by decide +kernel
theorem dX5_fires_40 : decode cX5_fires 40 = .ok (.iadd, 1) := by decide +kernel
theorem dX5_fires_41 : decode cX5_fires 41 = .ok (.aload_n 0, 1) := by decide +kernel
theorem dX5_fires_42 : decode cX5_fires 42 = .ok (.getfield 7, 3) := by decide +kernel
theorem dX5_fires_45 : decode cX5_fires 45 = .ok (.bipush 28, 2) := by decide +kernel
theorem dX5_fires_47 : decode cX5_fires 47 = .ok (.iload_n 1, 1) := by decide +kernel
theorem dX5_fires_48 : decode cX5_fires 48 = .ok (.iadd, 1) := by decide +kernel
theorem dX5_fires_49 : decode cX5_fires 49 = .ok (.iaload, 1) := by decide +kernel
theorem dX5_fires_50 : decode cX5_fires 50 = .ok (.iconst 1, 1) := by decide +kernel
theorem dX5_fires_51 : decode cX5_fires 51 = .ok (.if_icmp .ne 15, 3) := by decide +kernel
theorem dX5_fires_54 : decode cX5_fires 54 = .ok (.aload_n 0, 1) := by decide +kernel
theorem dX5_fires_55 : decode cX5_fires 55 = .ok (.getfield 7, 3) := by decide +kernel
theorem dX5_fires_58 : decode cX5_fires 58 = .ok (.bipush 8, 2) := by decide +kernel
theorem dX5_fires_60 : decode cX5_fires 60 = .ok (.iload_n 1, 1) := by decide +kernel
theorem dX5_fires_61 : decode cX5_fires 61 = .ok (.iadd, 1) := by decide +kernel
theorem dX5_fires_62 : decode cX5_fires 62 = .ok (.iaload, 1) := by decide +kernel
theorem dX5_fires_63 : decode cX5_fires 63 = .ok (.goto 4, 3) := by decide +kernel
theorem dX5_fires_66 : decode cX5_fires 66 = .ok (.iconst 0, 1) := by decide +kernel
theorem dX5_fires_67 : decode cX5_fires 67 = .ok (.iastore, 1) := by decide +kernel
theorem dX5_fires_68 : decode cX5_fires 68 = .ok (.iconst 0, 1) := by decide +kernel
theorem dX5_fires_69 : decode cX5_fires 69 = .ok (.istore_n 2, 1) := by decide +kernel
theorem dX5_fires_70 : decode cX5_fires 70 = .ok (.iload_n 2, 1) := by decide +kernel
theorem dX5_fires_71 : decode cX5_fires 71 = .ok (.aload_n 0, 1) := by decide +kernel
theorem dX5_fires_72 : decode cX5_fires 72 = .ok (.getfield 7, 3) := by decide +kernel
theorem dX5_fires_75 : decode cX5_fires 75 = .ok (.iconst 5, 1) := by decide +kernel
theorem dX5_fires_76 : decode cX5_fires 76 = .ok (.iaload, 1) := by decide +kernel
theorem dX5_fires_77 : decode cX5_fires 77 = .ok (.if_icmp .ge 44, 3) := by decide +kernel
theorem dX5_fires_80 : decode cX5_fires 80 = .ok (.aload_n 0, 1) := by decide +kernel
theorem dX5_fires_81 : decode cX5_fires 81 = .ok (.iload_n 1, 1) := by decide +kernel
theorem dX5_fires_82 : decode cX5_fires 82 = .ok (.iload_n 2, 1) := by decide +kernel
theorem dX5_fires_83 : decode cX5_fires 83 = .ok (.invokevirtual 78, 3) := by decide +kernel
theorem dX5_fires_86 : decode cX5_fires 86 = .ok (.ifCond .le 29, 3) := by decide +kernel
theorem dX5_fires_89 : decode cX5_fires 89 = .ok (.aload_n 0, 1) := by decide +kernel
theorem dX5_fires_90 : decode cX5_fires 90 = .ok (.getfield 7, 3) := by decide +kernel
theorem dX5_fires_93 : decode cX5_fires 93 = .ok (.sipush 158, 3) := by decide +kernel
theorem dX5_fires_96 : decode cX5_fires 96 = .ok (.bipush 10, 2) := by decide +kernel
theorem dX5_fires_98 : decode cX5_fires 98 = .ok (.iload_n 1, 1) := by decide +kernel
theorem dX5_fires_99 : decode cX5_fires 99 = .ok (.imul, 1) := by decide +kernel
theorem dX5_fires_100 : decode cX5_fires 100 = .ok (.iadd, 1) := by decide +kernel
theorem dX5_fires_101 : decode cX5_fires 101 = .ok (.iload_n 2, 1) := by decide +kernel
theorem dX5_fires_102 : decode cX5_fires 102 = .ok (.iadd, 1) := by decide +kernel
theorem dX5_fires_103 : decode cX5_fires 103 = .ok (.dup2, 1) := by decide +kernel
theorem dX5_fires_104 : decode cX5_fires 104 = .ok (.iaload, 1) := by decide +kernel
theorem dX5_fires_105 : decode cX5_fires 105 = .ok (.iconst 1, 1) := by decide +kernel
theorem dX5_fires_106 : decode cX5_fires 106 = .ok (.aload_n 0, 1) := by decide +kernel
theorem dX5_fires_107 : decode cX5_fires 107 = .ok (.iload_n 1, 1) := by decide +kernel
theorem dX5_fires_108 : decode cX5_fires 108 = .ok (.iload_n 2, 1) := by decide +kernel
theorem dX5_fires_109 : decode cX5_fires 109 = .ok (.invokevirtual 78, 3) := by decide +kernel
theorem dX5_fires_112 : decode cX5_fires 112 = .ok (.ishl, 1) := by decide +kernel
theorem dX5_fires_113 : decode cX5_fires 113 = .ok (.ior, 1) := by decide +kernel
theorem dX5_fires_114 : decode cX5_fires 114 = .ok (.iastore, 1) := by decide +kernel
theorem dX5_fires_115 : decode cX5_fires 115 = .ok (.iinc 2 1, 3) := by decide +kernel
theorem dX5_fires_118 : decode cX5_fires 118 = .ok (.goto (-48), 3) := by decide +kernel
theorem dX5_fires_121 : decode cX5_fires 121 = .ok (.aload_n 0, 1) := by decide +kernel
theorem dX5_fires_122 : decode cX5_fires 122 = .ok (.iload_n 1, 1) := by decide +kernel
theorem dX5_fires_123 : decode cX5_fires 123 = .ok (.invokevirtual 126, 3) := by decide +kernel
theorem dX5_fires_126 : decode cX5_fires 126 = .ok (.return_, 1) := by decide +kernel
theorem dX5_reaches_0 : decode cX5_reaches 0 = .ok (.aload_n 0, 1) := by decide +kernel
theorem dX5_reaches_1 : decode cX5_reaches 1 = .ok (.getfield 7, 3) := by decide +kernel
theorem dX5_reaches_4 : decode cX5_reaches 4 = .ok (.bipush 8, 2) := by decide +kernel
theorem dX5_reaches_6 : decode cX5_reaches 6 = .ok (.iload_n 1, 1) := by decide +kernel
theorem dX5_reaches_7 : decode cX5_reaches 7 = .ok (.iadd, 1) := by decide +kernel
theorem dX5_reaches_8 : decode cX5_reaches 8 = .ok (.iaload, 1) := by decide +kernel
theorem dX5_reaches_9 : decode cX5_reaches 9 = .ok (.istore_n 2, 1) := by decide +kernel
theorem dX5_reaches_10 : decode cX5_reaches 10 = .ok (.aload_n 0, 1) := by decide +kernel
theorem dX5_reaches_11 : decode cX5_reaches 11 = .ok (.getfield 7, 3) := by decide +kernel
theorem dX5_reaches_14 : decode cX5_reaches 14 = .ok (.bipush 28, 2) := by decide +kernel
theorem dX5_reaches_16 : decode cX5_reaches 16 = .ok (.iload_n 1, 1) := by decide +kernel
theorem dX5_reaches_17 : decode cX5_reaches 17 = .ok (.iadd, 1) := by decide +kernel
theorem dX5_reaches_18 : decode cX5_reaches 18 = .ok (.iaload, 1) := by decide +kernel
theorem dX5_reaches_19 : decode cX5_reaches 19 = .ok (.iconst 1, 1) := by decide +kernel
theorem dX5_reaches_20 : decode cX5_reaches 20 = .ok (.if_icmp .eq 28, 3) := by decide +kernel
theorem dX5_reaches_23 : decode cX5_reaches 23 = .ok (.iload_n 2, 1) := by decide +kernel
theorem dX5_reaches_24 : decode cX5_reaches 24 = .ok (.aload_n 0, 1) := by decide +kernel
theorem dX5_reaches_25 : decode cX5_reaches 25 = .ok (.getfield 7, 3) := by decide +kernel
theorem dX5_reaches_28 : decode cX5_reaches 28 = .ok (.iconst 1, 1) := by decide +kernel
theorem dX5_reaches_29 : decode cX5_reaches 29 = .ok (.iaload, 1) := by decide +kernel
theorem dX5_reaches_30 : decode cX5_reaches 30 = .ok (.if_icmp .lt 18, 3) := by decide +kernel
theorem dX5_reaches_33 : decode cX5_reaches 33 = .ok (.aload_n 0, 1) := by decide +kernel
theorem dX5_reaches_34 : decode cX5_reaches 34 = .ok (.getfield 7, 3) := by decide +kernel
theorem dX5_reaches_37 : decode cX5_reaches 37 = .ok (.bipush 6, 2) := by decide +kernel
theorem dX5_reaches_39 : decode cX5_reaches 39 = .ok (.iaload, 1) := by decide +kernel
theorem dX5_reaches_40 : decode cX5_reaches 40 = .ok (.iload_n 1, 1) := by decide +kernel
theorem dX5_reaches_41 : decode cX5_reaches 41 = .ok (.ishr, 1) := by decide +kernel
theorem dX5_reaches_42 : decode cX5_reaches 42 = .ok (.iconst 1, 1) := by decide +kernel
theorem dX5_reaches_43 : decode cX5_reaches 43 = .ok (.iand, 1) := by decide +kernel
theorem dX5_reaches_44 : decode cX5_reaches 44 = .ok (.iconst 1, 1) := by decide +kernel
theorem dX5_reaches_45 : decode cX5_reaches 45 = .ok (.if_icmp .ne 4, 3) := by decide +kernel
theorem dX5_reaches_48 : decode cX5_reaches 48 = .ok (.return_, 1) := by decide +kernel
theorem dX5_reaches_49 : decode cX5_reaches 49 = .ok (.aload_n 0, 1) := by decide +kernel
theorem dX5_reaches_50 : decode cX5_reaches 50 = .ok (.getfield 7, 3) := by decide +kernel
theorem dX5_reaches_53 : decode cX5_reaches 53 = .ok (.iconst 2, 1) := by decide +kernel
theorem dX5_reaches_54 : decode cX5_reaches 54 = .ok (.iaload, 1) := by decide +kernel
theorem dX5_reaches_55 : decode cX5_reaches 55 = .ok (.istore_n 3, 1) := by decide +kernel
theorem dX5_reaches_56 : decode cX5_reaches 56 = .ok (.aload_n 0, 1) := by decide +kernel
theorem dX5_reaches_57 : decode cX5_reaches 57 = .ok (.getfield 7, 3) := by decide +kernel
theorem dX5_reaches_60 : decode cX5_reaches 60 = .ok (.iconst 3, 1) := by decide +kernel
theorem dX5_reaches_61 : decode cX5_reaches 61 = .ok (.iaload, 1) := by decide +kernel
theorem dX5_reaches_62 : decode cX5_reaches 62 = .ok (.ifCond .ne 12, 3) := by decide +kernel
theorem dX5_reaches_65 : decode cX5_reaches 65 = .ok (.iload_n 2, 1) := by decide +kernel
theorem dX5_reaches_66 : decode cX5_reaches 66 = .ok (.iload_n 3, 1) := by decide +kernel
theorem dX5_reaches_67 : decode cX5_reaches 67 = .ok (.imul, 1) := by decide +kernel
theorem dX5_reaches_68 : decode cX5_reaches 68 = .ok (.bipush 16, 2) := by decide +kernel
theorem dX5_reaches_70 : decode cX5_reaches 70 = .ok (.idiv, 1) := by decide +kernel
theorem dX5_reaches_71 : decode cX5_reaches 71 = .ok (.goto 32, 3) := by decide +kernel
theorem dX5_reaches_74 : decode cX5_reaches 74 = .ok (.aload_n 0, 1) := by decide +kernel
theorem dX5_reaches_75 : decode cX5_reaches 75 = .ok (.getfield 7, 3) := by decide +kernel
theorem dX5_reaches_78 : decode cX5_reaches 78 = .ok (.iconst 3, 1) := by decide +kernel
theorem dX5_reaches_79 : decode cX5_reaches 79 = .ok (.iaload, 1) := by decide +kernel
theorem dX5_reaches_80 : decode cX5_reaches 80 = .ok (.iconst 1, 1) := by decide +kernel
theorem dX5_reaches_81 : decode cX5_reaches 81 = .ok (.if_icmp .ne 7, 3) := by decide +kernel
theorem dX5_reaches_84 : decode cX5_reaches 84 = .ok (.iload_n 3, 1) := by decide +kernel
theorem dX5_reaches_85 : decode cX5_reaches 85 = .ok (.goto 18, 3) := by decide +kernel
theorem dX5_reaches_88 : decode cX5_reaches 88 = .ok (.iload_n 2, 1) := by decide +kernel
theorem dX5_reaches_89 : decode cX5_reaches 89 = .ok (.iload_n 2, 1) := by decide +kernel
theorem dX5_reaches_90 : decode cX5_reaches 90 = .ok (.imul, 1) := by decide +kernel
theorem dX5_reaches_91 : decode cX5_reaches 91 = .ok (.iload_n 3, 1) := by decide +kernel
theorem dX5_reaches_92 : decode cX5_reaches 92 = .ok (.imul, 1) := by decide +kernel
theorem dX5_reaches_93 : decode cX5_reaches 93 = .ok (.bipush 16, 2) := by decide +kernel
theorem dX5_reaches_95 : decode cX5_reaches 95 = .ok (.aload_n 0, 1) := by decide +kernel
theorem dX5_reaches_96 : decode cX5_reaches 96 = .ok (.getfield 7, 3) := by decide +kernel
theorem dX5_reaches_99 : decode cX5_reaches 99 = .ok (.iconst 0, 1) := by decide +kernel
theorem dX5_reaches_100 : decode cX5_reaches 100 = .ok (.iaload, 1) := by decide +kernel
theorem dX5_reaches_101 : decode cX5_reaches 101 = .ok (.imul, 1) := by decide +kernel
theorem dX5_reaches_102 : decode cX5_reaches 102 = .ok (.idiv, 1) := by decide +kernel
theorem dX5_reaches_103 : decode cX5_reaches 103 = .ok (.istore 4, 2) := by decide +kernel
theorem dX5_reaches_105 : decode cX5_reaches 105 = .ok (.aload_n 0, 1) := by decide +kernel
theorem dX5_reaches_106 : decode cX5_reaches 106 = .ok (.getfield 7, 3) := by decide +kernel
theorem dX5_reaches_109 : decode cX5_reaches 109 = .ok (.bipush 8, 2) := by decide +kernel
theorem dX5_reaches_111 : decode cX5_reaches 111 = .ok (.iload_n 1, 1) := by decide +kernel
theorem dX5_reaches_112 : decode cX5_reaches 112 = .ok (.iadd, 1) := by decide +kernel
theorem dX5_reaches_113 : decode cX5_reaches 113 = .ok (.iload_n 2, 1) := by decide +kernel
theorem dX5_reaches_114 : decode cX5_reaches 114 = .ok (.iload 4, 2) := by decide +kernel
theorem dX5_reaches_116 : decode cX5_reaches 116 = .ok (.iadd, 1) := by decide +kernel
theorem dX5_reaches_117 : decode cX5_reaches 117 = .ok (.iastore, 1) := by decide +kernel
theorem dX5_reaches_118 : decode cX5_reaches 118 = .ok (.iload_n 2, 1) := by decide +kernel
theorem dX5_reaches_119 : decode cX5_reaches 119 = .ok (.iload 4, 2) := by decide +kernel
theorem dX5_reaches_121 : decode cX5_reaches 121 = .ok (.iadd, 1) := by decide +kernel
theorem dX5_reaches_122 : decode cX5_reaches 122 = .ok (.aload_n 0, 1) := by decide +kernel
theorem dX5_reaches_123 : decode cX5_reaches 123 = .ok (.getfield 7, 3) := by decide +kernel
theorem dX5_reaches_126 : decode cX5_reaches 126 = .ok (.iconst 0, 1) := by decide +kernel
theorem dX5_reaches_127 : decode cX5_reaches 127 = .ok (.iaload, 1) := by decide +kernel
theorem dX5_reaches_128 : decode cX5_reaches 128 = .ok (.if_icmp .lt 8, 3) := by decide +kernel
theorem dX5_reaches_131 : decode cX5_reaches 131 = .ok (.aload_n 0, 1) := by decide +kernel
theorem dX5_reaches_132 : decode cX5_reaches 132 = .ok (.iload_n 1, 1) := by decide +kernel
theorem dX5_reaches_133 : decode cX5_reaches 133 = .ok (.invokevirtual 130, 3) := by decide +kernel
theorem dX5_reaches_136 : decode cX5_reaches 136 = .ok (.return_, 1) := by decide +kernel
theorem dX5_stepOf_0 : decode cX5_stepOf 0 = .ok (.aload_n 0, 1) := by decide +kernel
theorem dX5_stepOf_1 : decode cX5_stepOf 1 = .ok (.getfield 7, 3) := by decide +kernel
theorem dX5_stepOf_4 : decode cX5_stepOf 4 = .ok (.bipush 18, 2) := by decide +kernel
theorem dX5_stepOf_6 : decode cX5_stepOf 6 = .ok (.iload_n 1, 1) := by decide +kernel
theorem dX5_stepOf_7 : decode cX5_stepOf 7 = .ok (.iadd, 1) := by decide +kernel
theorem dX5_stepOf_8 : decode cX5_stepOf 8 = .ok (.iaload, 1) := by decide +kernel
theorem dX5_stepOf_9 : decode cX5_stepOf 9 = .ok (.istore_n 2, 1) := by decide +kernel
theorem dX5_stepOf_10 : decode cX5_stepOf 10 = .ok (.iload_n 2, 1) := by decide +kernel
theorem dX5_stepOf_11 : decode cX5_stepOf 11 = .ok (.ifCond .eq 18, 3) := by decide +kernel
theorem dX5_stepOf_14 : decode cX5_stepOf 14 = .ok (.aload_n 0, 1) := by decide +kernel
theorem dX5_stepOf_15 : decode cX5_stepOf 15 = .ok (.getfield 7, 3) := by decide +kernel
theorem dX5_stepOf_18 : decode cX5_stepOf 18 = .ok (.iconst 4, 1) := by decide +kernel
theorem dX5_stepOf_19 : decode cX5_stepOf 19 = .ok (.iaload, 1) := by decide +kernel
theorem dX5_stepOf_20 : decode cX5_stepOf 20 = .ok (.iload_n 2, 1) := by decide +kernel
theorem dX5_stepOf_21 : decode cX5_stepOf 21 = .ok (.irem, 1) := by decide +kernel
theorem dX5_stepOf_22 : decode cX5_stepOf 22 = .ok (.ifCond .ne 7, 3) := by decide +kernel
theorem dX5_stepOf_25 : decode cX5_stepOf 25 = .ok (.iconst 1, 1) := by decide +kernel
theorem dX5_stepOf_26 : decode cX5_stepOf 26 = .ok (.goto 4, 3) := by decide +kernel
theorem dX5_stepOf_29 : decode cX5_stepOf 29 = .ok (.iconst 0, 1) := by decide +kernel
theorem dX5_stepOf_30 : decode cX5_stepOf 30 = .ok (.istore_n 3, 1) := by decide +kernel
theorem dX5_stepOf_31 : decode cX5_stepOf 31 = .ok (.iload_n 3, 1) := by decide +kernel
theorem dX5_stepOf_32 : decode cX5_stepOf 32 = .ok (.ifCond .ne 7, 3) := by decide +kernel
theorem dX5_stepOf_35 : decode cX5_stepOf 35 = .ok (.iconst 1, 1) := by decide +kernel
theorem dX5_stepOf_36 : decode cX5_stepOf 36 = .ok (.goto 12, 3) := by decide +kernel
theorem dX5_stepOf_39 : decode cX5_stepOf 39 = .ok (.iload_n 2, 1) := by decide +kernel
theorem dX5_stepOf_40 : decode cX5_stepOf 40 = .ok (.ifCond .le 7, 3) := by decide +kernel
theorem dX5_stepOf_43 : decode cX5_stepOf 43 = .ok (.iconst 2, 1) := by decide +kernel
theorem dX5_stepOf_44 : decode cX5_stepOf 44 = .ok (.goto 4, 3) := by decide +kernel
theorem dX5_stepOf_47 : decode cX5_stepOf 47 = .ok (.iconst 0, 1) := by decide +kernel
theorem dX5_stepOf_48 : decode cX5_stepOf 48 = .ok (.ireturn, 1) := by decide +kernel
theorem dX5_ticks_0 : decode cX5_ticks 0 = .ok (.aload_n 0, 1) := by decide +kernel
theorem dX5_ticks_1 : decode cX5_ticks 1 = .ok (.getfield 7, 3) := by decide +kernel
theorem dX5_ticks_4 : decode cX5_ticks 4 = .ok (.iconst 4, 1) := by decide +kernel
theorem dX5_ticks_5 : decode cX5_ticks 5 = .ok (.dup2, 1) := by decide +kernel
theorem dX5_ticks_6 : decode cX5_ticks 6 = .ok (.iaload, 1) := by decide +kernel
theorem dX5_ticks_7 : decode cX5_ticks 7 = .ok (.iconst 1, 1) := by decide +kernel
theorem dX5_ticks_8 : decode cX5_ticks 8 = .ok (.iadd, 1) := by decide +kernel
theorem dX5_ticks_9 : decode cX5_ticks 9 = .ok (.iastore, 1) := by decide +kernel
theorem dX5_ticks_10 : decode cX5_ticks 10 = .ok (.aload_n 0, 1) := by decide +kernel
theorem dX5_ticks_11 : decode cX5_ticks 11 = .ok (.getfield 7, 3) := by decide +kernel
theorem dX5_ticks_14 : decode cX5_ticks 14 = .ok (.bipush 6, 2) := by decide +kernel
theorem dX5_ticks_16 : decode cX5_ticks 16 = .ok (.iconst 0, 1) := by decide +kernel
theorem dX5_ticks_17 : decode cX5_ticks 17 = .ok (.iastore, 1) := by decide +kernel
theorem dX5_ticks_18 : decode cX5_ticks 18 = .ok (.aload_n 0, 1) := by decide +kernel
theorem dX5_ticks_19 : decode cX5_ticks 19 = .ok (.iconst 0, 1) := by decide +kernel
theorem dX5_ticks_20 : decode cX5_ticks 20 = .ok (.putfield 123, 3) := by decide +kernel
theorem dX5_ticks_23 : decode cX5_ticks 23 = .ok (.iconst 0, 1) := by decide +kernel
theorem dX5_ticks_24 : decode cX5_ticks 24 = .ok (.istore_n 1, 1) := by decide +kernel
theorem dX5_ticks_25 : decode cX5_ticks 25 = .ok (.iload_n 1, 1) := by decide +kernel
theorem dX5_ticks_26 : decode cX5_ticks 26 = .ok (.bipush 100, 2) := by decide +kernel
theorem dX5_ticks_28 : decode cX5_ticks 28 = .ok (.if_icmp .ge 45, 3) := by decide +kernel
theorem dX5_ticks_31 : decode cX5_ticks 31 = .ok (.aload_n 0, 1) := by decide +kernel
theorem dX5_ticks_32 : decode cX5_ticks 32 = .ok (.getfield 7, 3) := by decide +kernel
theorem dX5_ticks_35 : decode cX5_ticks 35 = .ok (.sipush 158, 3) := by decide +kernel
theorem dX5_ticks_38 : decode cX5_ticks 38 = .ok (.iload_n 1, 1) := by decide +kernel
theorem dX5_ticks_39 : decode cX5_ticks 39 = .ok (.iadd, 1) := by decide +kernel
theorem dX5_ticks_40 : decode cX5_ticks 40 = .ok (.iaload, 1) := by decide +kernel
theorem dX5_ticks_41 : decode cX5_ticks 41 = .ok (.iconst 1, 1) := by decide +kernel
theorem dX5_ticks_42 : decode cX5_ticks 42 = .ok (.ishr, 1) := by decide +kernel
theorem dX5_ticks_43 : decode cX5_ticks 43 = .ok (.istore_n 2, 1) := by decide +kernel
theorem dX5_ticks_44 : decode cX5_ticks 44 = .ok (.aload_n 0, 1) := by decide +kernel
theorem dX5_ticks_45 : decode cX5_ticks 45 = .ok (.getfield 25, 3) := by decide +kernel
theorem dX5_ticks_48 : decode cX5_ticks 48 = .ok (.iload_n 1, 1) := by decide +kernel
theorem dX5_ticks_49 : decode cX5_ticks 49 = .ok (.iload_n 2, 1) := by decide +kernel
theorem dX5_ticks_50 : decode cX5_ticks 50 = .ok (.iconst 1, 1) := by decide +kernel
theorem dX5_ticks_51 : decode cX5_ticks 51 = .ok (.iand, 1) := by decide +kernel
theorem dX5_ticks_52 : decode cX5_ticks 52 = .ok (.iastore, 1) := by decide +kernel
theorem dX5_ticks_53 : decode cX5_ticks 53 = .ok (.aload_n 0, 1) := by decide +kernel
theorem dX5_ticks_54 : decode cX5_ticks 54 = .ok (.getfield 7, 3) := by decide +kernel
theorem dX5_ticks_57 : decode cX5_ticks 57 = .ok (.sipush 158, 3) := by decide +kernel
theorem dX5_ticks_60 : decode cX5_ticks 60 = .ok (.iload_n 1, 1) := by decide +kernel
theorem dX5_ticks_61 : decode cX5_ticks 61 = .ok (.iadd, 1) := by decide +kernel
theorem dX5_ticks_62 : decode cX5_ticks 62 = .ok (.iload_n 2, 1) := by decide +kernel
theorem dX5_ticks_63 : decode cX5_ticks 63 = .ok (.bipush (-2), 2) := by decide +kernel
theorem dX5_ticks_65 : decode cX5_ticks 65 = .ok (.iand, 1) := by decide +kernel
theorem dX5_ticks_66 : decode cX5_ticks 66 = .ok (.iastore, 1) := by decide +kernel
theorem dX5_ticks_67 : decode cX5_ticks 67 = .ok (.iinc 1 1, 3) := by decide +kernel
theorem dX5_ticks_70 : decode cX5_ticks 70 = .ok (.goto (-45), 3) := by decide +kernel
theorem dX5_ticks_73 : decode cX5_ticks 73 = .ok (.iconst 0, 1) := by decide +kernel
theorem dX5_ticks_74 : decode cX5_ticks 74 = .ok (.istore_n 1, 1) := by decide +kernel
theorem dX5_ticks_75 : decode cX5_ticks 75 = .ok (.iload_n 1, 1) := by decide +kernel
theorem dX5_ticks_76 : decode cX5_ticks 76 = .ok (.aload_n 0, 1) := by decide +kernel
theorem dX5_ticks_77 : decode cX5_ticks 77 = .ok (.getfield 7, 3) := by decide +kernel
theorem dX5_ticks_80 : decode cX5_ticks 80 = .ok (.iconst 5, 1) := by decide +kernel
theorem dX5_ticks_81 : decode cX5_ticks 81 = .ok (.iaload, 1) := by decide +kernel
theorem dX5_ticks_82 : decode cX5_ticks 82 = .ok (.if_icmp .ge 43, 3) := by decide +kernel
theorem dX5_ticks_85 : decode cX5_ticks 85 = .ok (.aload_n 0, 1) := by decide +kernel
theorem dX5_ticks_86 : decode cX5_ticks 86 = .ok (.getfield 7, 3) := by decide +kernel
theorem dX5_ticks_89 : decode cX5_ticks 89 = .ok (.bipush 8, 2) := by decide +kernel
theorem dX5_ticks_91 : decode cX5_ticks 91 = .ok (.iload_n 1, 1) := by decide +kernel
theorem dX5_ticks_92 : decode cX5_ticks 92 = .ok (.iadd, 1) := by decide +kernel
theorem dX5_ticks_93 : decode cX5_ticks 93 = .ok (.dup2, 1) := by decide +kernel
theorem dX5_ticks_94 : decode cX5_ticks 94 = .ok (.iaload, 1) := by decide +kernel
theorem dX5_ticks_95 : decode cX5_ticks 95 = .ok (.aload_n 0, 1) := by decide +kernel
theorem dX5_ticks_96 : decode cX5_ticks 96 = .ok (.getfield 7, 3) := by decide +kernel
theorem dX5_ticks_99 : decode cX5_ticks 99 = .ok (.bipush 28, 2) := by decide +kernel
theorem dX5_ticks_101 : decode cX5_ticks 101 = .ok (.iload_n 1, 1) := by decide +kernel
theorem dX5_ticks_102 : decode cX5_ticks 102 = .ok (.iadd, 1) := by decide +kernel
theorem dX5_ticks_103 : decode cX5_ticks 103 = .ok (.iaload, 1) := by decide +kernel
theorem dX5_ticks_104 : decode cX5_ticks 104 = .ok (.iconst 1, 1) := by decide +kernel
theorem dX5_ticks_105 : decode cX5_ticks 105 = .ok (.if_icmp .ne 7, 3) := by decide +kernel
theorem dX5_ticks_108 : decode cX5_ticks 108 = .ok (.iconst 0, 1) := by decide +kernel
theorem dX5_ticks_109 : decode cX5_ticks 109 = .ok (.goto 8, 3) := by decide +kernel
theorem dX5_ticks_112 : decode cX5_ticks 112 = .ok (.aload_n 0, 1) := by decide +kernel
theorem dX5_ticks_113 : decode cX5_ticks 113 = .ok (.iload_n 1, 1) := by decide +kernel
theorem dX5_ticks_114 : decode cX5_ticks 114 = .ok (.invokevirtual 133, 3) := by decide +kernel
theorem dX5_ticks_117 : decode cX5_ticks 117 = .ok (.iadd, 1) := by decide +kernel
theorem dX5_ticks_118 : decode cX5_ticks 118 = .ok (.iastore, 1) := by decide +kernel
theorem dX5_ticks_119 : decode cX5_ticks 119 = .ok (.iinc 1 1, 3) := by decide +kernel
theorem dX5_ticks_122 : decode cX5_ticks 122 = .ok (.goto (-47), 3) := by decide +kernel
theorem dX5_ticks_125 : decode cX5_ticks 125 = .ok (.iconst 0, 1) := by decide +kernel
theorem dX5_ticks_126 : decode cX5_ticks 126 = .ok (.istore_n 1, 1) := by decide +kernel
theorem dX5_ticks_127 : decode cX5_ticks 127 = .ok (.iload_n 1, 1) := by decide +kernel
theorem dX5_ticks_128 : decode cX5_ticks 128 = .ok (.aload_n 0, 1) := by decide +kernel
theorem dX5_ticks_129 : decode cX5_ticks 129 = .ok (.getfield 7, 3) := by decide +kernel
theorem dX5_ticks_132 : decode cX5_ticks 132 = .ok (.iconst 5, 1) := by decide +kernel
theorem dX5_ticks_133 : decode cX5_ticks 133 = .ok (.iaload, 1) := by decide +kernel
theorem dX5_ticks_134 : decode cX5_ticks 134 = .ok (.if_icmp .ge 44, 3) := by decide +kernel
theorem dX5_ticks_137 : decode cX5_ticks 137 = .ok (.aload_n 0, 1) := by decide +kernel
theorem dX5_ticks_138 : decode cX5_ticks 138 = .ok (.getfield 7, 3) := by decide +kernel
theorem dX5_ticks_141 : decode cX5_ticks 141 = .ok (.bipush 28, 2) := by decide +kernel
theorem dX5_ticks_143 : decode cX5_ticks 143 = .ok (.iload_n 1, 1) := by decide +kernel
theorem dX5_ticks_144 : decode cX5_ticks 144 = .ok (.iadd, 1) := by decide +kernel
theorem dX5_ticks_145 : decode cX5_ticks 145 = .ok (.iaload, 1) := by decide +kernel
theorem dX5_ticks_146 : decode cX5_ticks 146 = .ok (.ifCond .ne 26, 3) := by decide +kernel
theorem dX5_ticks_149 : decode cX5_ticks 149 = .ok (.aload_n 0, 1) := by decide +kernel
theorem dX5_ticks_150 : decode cX5_ticks 150 = .ok (.getfield 7, 3) := by decide +kernel
theorem dX5_ticks_153 : decode cX5_ticks 153 = .ok (.bipush 8, 2) := by decide +kernel
theorem dX5_ticks_155 : decode cX5_ticks 155 = .ok (.iload_n 1, 1) := by decide +kernel
theorem dX5_ticks_156 : decode cX5_ticks 156 = .ok (.iadd, 1) := by decide +kernel
theorem dX5_ticks_157 : decode cX5_ticks 157 = .ok (.iaload, 1) := by decide +kernel
theorem dX5_ticks_158 : decode cX5_ticks 158 = .ok (.aload_n 0, 1) := by decide +kernel
theorem dX5_ticks_159 : decode cX5_ticks 159 = .ok (.getfield 7, 3) := by decide +kernel
theorem dX5_ticks_162 : decode cX5_ticks 162 = .ok (.iconst 0, 1) := by decide +kernel
theorem dX5_ticks_163 : decode cX5_ticks 163 = .ok (.iaload, 1) := by decide +kernel
theorem dX5_ticks_164 : decode cX5_ticks 164 = .ok (.if_icmp .lt 8, 3) := by decide +kernel
theorem dX5_ticks_167 : decode cX5_ticks 167 = .ok (.aload_n 0, 1) := by decide +kernel
theorem dX5_ticks_168 : decode cX5_ticks 168 = .ok (.iload_n 1, 1) := by decide +kernel
theorem dX5_ticks_169 : decode cX5_ticks 169 = .ok (.invokevirtual 130, 3) := by decide +kernel
theorem dX5_ticks_172 : decode cX5_ticks 172 = .ok (.iinc 1 1, 3) := by decide +kernel
theorem dX5_ticks_175 : decode cX5_ticks 175 = .ok (.goto (-48), 3) := by decide +kernel
theorem dX5_ticks_178 : decode cX5_ticks 178 = .ok (.iconst 0, 1) := by decide +kernel
theorem dX5_ticks_179 : decode cX5_ticks 179 = .ok (.istore_n 1, 1) := by decide +kernel
theorem dX5_ticks_180 : decode cX5_ticks 180 = .ok (.iload_n 1, 1) := by decide +kernel
theorem dX5_ticks_181 : decode cX5_ticks 181 = .ok (.aload_n 0, 1) := by decide +kernel
theorem dX5_ticks_182 : decode cX5_ticks 182 = .ok (.getfield 7, 3) := by decide +kernel
theorem dX5_ticks_185 : decode cX5_ticks 185 = .ok (.iconst 5, 1) := by decide +kernel
theorem dX5_ticks_186 : decode cX5_ticks 186 = .ok (.iaload, 1) := by decide +kernel
theorem dX5_ticks_187 : decode cX5_ticks 187 = .ok (.if_icmp .ge 56, 3) := by decide +kernel
theorem dX5_ticks_190 : decode cX5_ticks 190 = .ok (.aload_n 0, 1) := by decide +kernel
theorem dX5_ticks_191 : decode cX5_ticks 191 = .ok (.getfield 7, 3) := by decide +kernel
theorem dX5_ticks_194 : decode cX5_ticks 194 = .ok (.bipush 28, 2) := by decide +kernel
theorem dX5_ticks_196 : decode cX5_ticks 196 = .ok (.iload_n 1, 1) := by decide +kernel
theorem dX5_ticks_197 : decode cX5_ticks 197 = .ok (.iadd, 1) := by decide +kernel
theorem dX5_ticks_198 : decode cX5_ticks 198 = .ok (.iaload, 1) := by decide +kernel
theorem dX5_ticks_199 : decode cX5_ticks 199 = .ok (.iconst 1, 1) := by decide +kernel
theorem dX5_ticks_200 : decode cX5_ticks 200 = .ok (.if_icmp .ne 37, 3) := by decide +kernel
theorem dX5_ticks_203 : decode cX5_ticks 203 = .ok (.aload_n 0, 1) := by decide +kernel
theorem dX5_ticks_204 : decode cX5_ticks 204 = .ok (.getfield 7, 3) := by decide +kernel
theorem dX5_ticks_207 : decode cX5_ticks 207 = .ok (.iconst 4, 1) := by decide +kernel
theorem dX5_ticks_208 : decode cX5_ticks 208 = .ok (.iaload, 1) := by decide +kernel
theorem dX5_ticks_209 : decode cX5_ticks 209 = .ok (.aload_n 0, 1) := by decide +kernel
theorem dX5_ticks_210 : decode cX5_ticks 210 = .ok (.getfield 7, 3) := by decide +kernel
theorem dX5_ticks_213 : decode cX5_ticks 213 = .ok (.bipush 48, 2) := by decide +kernel
theorem dX5_ticks_215 : decode cX5_ticks 215 = .ok (.iload_n 1, 1) := by decide +kernel
theorem dX5_ticks_216 : decode cX5_ticks 216 = .ok (.iadd, 1) := by decide +kernel
theorem dX5_ticks_217 : decode cX5_ticks 217 = .ok (.iaload, 1) := by decide +kernel
theorem dX5_ticks_218 : decode cX5_ticks 218 = .ok (.iadd, 1) := by decide +kernel
theorem dX5_ticks_219 : decode cX5_ticks 219 = .ok (.aload_n 0, 1) := by decide +kernel
theorem dX5_ticks_220 : decode cX5_ticks 220 = .ok (.getfield 7, 3) := by decide +kernel
theorem dX5_ticks_223 : decode cX5_ticks 223 = .ok (.bipush 38, 2) := by decide +kernel
theorem dX5_ticks_225 : decode cX5_ticks 225 = .ok (.iload_n 1, 1) := by decide +kernel
theorem dX5_ticks_226 : decode cX5_ticks 226 = .ok (.iadd, 1) := by decide +kernel
theorem dX5_ticks_227 : decode cX5_ticks 227 = .ok (.iaload, 1) := by decide +kernel
theorem dX5_ticks_228 : decode cX5_ticks 228 = .ok (.irem, 1) := by decide +kernel
theorem dX5_ticks_229 : decode cX5_ticks 229 = .ok (.ifCond .ne 8, 3) := by decide +kernel
theorem dX5_ticks_232 : decode cX5_ticks 232 = .ok (.aload_n 0, 1) := by decide +kernel
theorem dX5_ticks_233 : decode cX5_ticks 233 = .ok (.iload_n 1, 1) := by decide +kernel
theorem dX5_ticks_234 : decode cX5_ticks 234 = .ok (.invokevirtual 130, 3) := by decide +kernel
theorem dX5_ticks_237 : decode cX5_ticks 237 = .ok (.iinc 1 1, 3) := by decide +kernel
theorem dX5_ticks_240 : decode cX5_ticks 240 = .ok (.goto (-60), 3) := by decide +kernel
theorem dX5_ticks_243 : decode cX5_ticks 243 = .ok (.iconst 0, 1) := by decide +kernel
theorem dX5_ticks_244 : decode cX5_ticks 244 = .ok (.istore_n 1, 1) := by decide +kernel
theorem dX5_ticks_245 : decode cX5_ticks 245 = .ok (.iload_n 1, 1) := by decide +kernel
theorem dX5_ticks_246 : decode cX5_ticks 246 = .ok (.aload_n 0, 1) := by decide +kernel
theorem dX5_ticks_247 : decode cX5_ticks 247 = .ok (.getfield 7, 3) := by decide +kernel
theorem dX5_ticks_250 : decode cX5_ticks 250 = .ok (.iconst 5, 1) := by decide +kernel
theorem dX5_ticks_251 : decode cX5_ticks 251 = .ok (.iaload, 1) := by decide +kernel
theorem dX5_ticks_252 : decode cX5_ticks 252 = .ok (.if_icmp .ge 47, 3) := by decide +kernel
theorem dX5_ticks_255 : decode cX5_ticks 255 = .ok (.iconst 0, 1) := by decide +kernel
theorem dX5_ticks_256 : decode cX5_ticks 256 = .ok (.istore_n 2, 1) := by decide +kernel
theorem dX5_ticks_257 : decode cX5_ticks 257 = .ok (.iload_n 2, 1) := by decide +kernel
theorem dX5_ticks_258 : decode cX5_ticks 258 = .ok (.aload_n 0, 1) := by decide +kernel
theorem dX5_ticks_259 : decode cX5_ticks 259 = .ok (.getfield 7, 3) := by decide +kernel
theorem dX5_ticks_262 : decode cX5_ticks 262 = .ok (.iconst 5, 1) := by decide +kernel
theorem dX5_ticks_263 : decode cX5_ticks 263 = .ok (.iaload, 1) := by decide +kernel
theorem dX5_ticks_264 : decode cX5_ticks 264 = .ok (.if_icmp .ge 29, 3) := by decide +kernel
theorem dX5_ticks_267 : decode cX5_ticks 267 = .ok (.aload_n 0, 1) := by decide +kernel
theorem dX5_ticks_268 : decode cX5_ticks 268 = .ok (.getfield 25, 3) := by decide +kernel
theorem dX5_ticks_271 : decode cX5_ticks 271 = .ok (.bipush 10, 2) := by decide +kernel
theorem dX5_ticks_273 : decode cX5_ticks 273 = .ok (.iload_n 2, 1) := by decide +kernel
theorem dX5_ticks_274 : decode cX5_ticks 274 = .ok (.imul, 1) := by decide +kernel
theorem dX5_ticks_275 : decode cX5_ticks 275 = .ok (.iload_n 1, 1) := by decide +kernel
theorem dX5_ticks_276 : decode cX5_ticks 276 = .ok (.iadd, 1) := by decide +kernel
theorem dX5_ticks_277 : decode cX5_ticks 277 = .ok (.iaload, 1) := by decide +kernel
theorem dX5_ticks_278 : decode cX5_ticks 278 = .ok (.iconst 1, 1) := by decide +kernel
theorem dX5_ticks_279 : decode cX5_ticks 279 = .ok (.if_icmp .ne 8, 3) := by decide +kernel
theorem dX5_ticks_282 : decode cX5_ticks 282 = .ok (.aload_n 0, 1) := by decide +kernel
theorem dX5_ticks_283 : decode cX5_ticks 283 = .ok (.iload_n 1, 1) := by decide +kernel
theorem dX5_ticks_284 : decode cX5_ticks 284 = .ok (.invokevirtual 136, 3) := by decide +kernel
theorem dX5_ticks_287 : decode cX5_ticks 287 = .ok (.iinc 2 1, 3) := by decide +kernel
theorem dX5_ticks_290 : decode cX5_ticks 290 = .ok (.goto (-33), 3) := by decide +kernel
theorem dX5_ticks_293 : decode cX5_ticks 293 = .ok (.iinc 1 1, 3) := by decide +kernel
theorem dX5_ticks_296 : decode cX5_ticks 296 = .ok (.goto (-51), 3) := by decide +kernel
theorem dX5_ticks_299 : decode cX5_ticks 299 = .ok (.iconst 0, 1) := by decide +kernel
theorem dX5_ticks_300 : decode cX5_ticks 300 = .ok (.istore_n 1, 1) := by decide +kernel
theorem dX5_ticks_301 : decode cX5_ticks 301 = .ok (.iload_n 1, 1) := by decide +kernel
theorem dX5_ticks_302 : decode cX5_ticks 302 = .ok (.aload_n 0, 1) := by decide +kernel
theorem dX5_ticks_303 : decode cX5_ticks 303 = .ok (.getfield 123, 3) := by decide +kernel
theorem dX5_ticks_306 : decode cX5_ticks 306 = .ok (.if_icmp .ge 46, 3) := by decide +kernel
theorem dX5_ticks_309 : decode cX5_ticks 309 = .ok (.iconst 0, 1) := by decide +kernel
theorem dX5_ticks_310 : decode cX5_ticks 310 = .ok (.istore_n 2, 1) := by decide +kernel
theorem dX5_ticks_311 : decode cX5_ticks 311 = .ok (.iload_n 2, 1) := by decide +kernel
theorem dX5_ticks_312 : decode cX5_ticks 312 = .ok (.aload_n 0, 1) := by decide +kernel
theorem dX5_ticks_313 : decode cX5_ticks 313 = .ok (.getfield 7, 3) := by decide +kernel
theorem dX5_ticks_316 : decode cX5_ticks 316 = .ok (.iconst 5, 1) := by decide +kernel
theorem dX5_ticks_317 : decode cX5_ticks 317 = .ok (.iaload, 1) := by decide +kernel
theorem dX5_ticks_318 : decode cX5_ticks 318 = .ok (.if_icmp .ge 28, 3) := by decide +kernel
theorem dX5_ticks_321 : decode cX5_ticks 321 = .ok (.aload_n 0, 1) := by decide +kernel
theorem dX5_ticks_322 : decode cX5_ticks 322 = .ok (.aload_n 0, 1) := by decide +kernel
theorem dX5_ticks_323 : decode cX5_ticks 323 = .ok (.getfield 22, 3) := by decide +kernel
theorem dX5_ticks_326 : decode cX5_ticks 326 = .ok (.iload_n 1, 1) := by decide +kernel
theorem dX5_ticks_327 : decode cX5_ticks 327 = .ok (.iaload, 1) := by decide +kernel
theorem dX5_ticks_328 : decode cX5_ticks 328 = .ok (.iload_n 2, 1) := by decide +kernel
theorem dX5_ticks_329 : decode cX5_ticks 329 = .ok (.invokevirtual 78, 3) := by decide +kernel
theorem dX5_ticks_332 : decode cX5_ticks 332 = .ok (.ifCond .ne 8, 3) := by decide +kernel
theorem dX5_ticks_335 : decode cX5_ticks 335 = .ok (.aload_n 0, 1) := by decide +kernel
theorem dX5_ticks_336 : decode cX5_ticks 336 = .ok (.iload_n 2, 1) := by decide +kernel
theorem dX5_ticks_337 : decode cX5_ticks 337 = .ok (.invokevirtual 136, 3) := by decide +kernel
theorem dX5_ticks_340 : decode cX5_ticks 340 = .ok (.iinc 2 1, 3) := by decide +kernel
theorem dX5_ticks_343 : decode cX5_ticks 343 = .ok (.goto (-32), 3) := by decide +kernel
theorem dX5_ticks_346 : decode cX5_ticks 346 = .ok (.iinc 1 1, 3) := by decide +kernel
theorem dX5_ticks_349 : decode cX5_ticks 349 = .ok (.goto (-48), 3) := by decide +kernel
theorem dX5_ticks_352 : decode cX5_ticks 352 = .ok (.aload_n 0, 1) := by decide +kernel
theorem dX5_ticks_353 : decode cX5_ticks 353 = .ok (.getfield 123, 3) := by decide +kernel
theorem dX5_ticks_356 : decode cX5_ticks 356 = .ok (.ireturn, 1) := by decide +kernel
theorem dX5_doTick_0 : decode cX5_doTick 0 = .ok (.iconst 0, 1) := by decide +kernel
theorem dX5_doTick_1 : decode cX5_doTick 1 = .ok (.istore_n 2, 1) := by decide +kernel
theorem dX5_doTick_2 : decode cX5_doTick 2 = .ok (.iconst 0, 1) := by decide +kernel
theorem dX5_doTick_3 : decode cX5_doTick 3 = .ok (.istore_n 3, 1) := by decide +kernel
theorem dX5_doTick_4 : decode cX5_doTick 4 = .ok (.iload_n 3, 1) := by decide +kernel
theorem dX5_doTick_5 : decode cX5_doTick 5 = .ok (.iload_n 1, 1) := by decide +kernel
theorem dX5_doTick_6 : decode cX5_doTick 6 = .ok (.if_icmp .ge 16, 3) := by decide +kernel
theorem dX5_doTick_9 : decode cX5_doTick 9 = .ok (.iload_n 2, 1) := by decide +kernel
theorem dX5_doTick_10 : decode cX5_doTick 10 = .ok (.aload_n 0, 1) := by decide +kernel
theorem dX5_doTick_11 : decode cX5_doTick 11 = .ok (.invokevirtual 139, 3) := by decide +kernel
theorem dX5_doTick_14 : decode cX5_doTick 14 = .ok (.iadd, 1) := by decide +kernel
theorem dX5_doTick_15 : decode cX5_doTick 15 = .ok (.istore_n 2, 1) := by decide +kernel
theorem dX5_doTick_16 : decode cX5_doTick 16 = .ok (.iinc 3 1, 3) := by decide +kernel
theorem dX5_doTick_19 : decode cX5_doTick 19 = .ok (.goto (-15), 3) := by decide +kernel
theorem dX5_doTick_22 : decode cX5_doTick 22 = .ok (.iload_n 2, 1) := by decide +kernel
theorem dX5_doTick_23 : decode cX5_doTick 23 = .ok (.ireturn, 1) := by decide +kernel
theorem dX5_tick_0 : decode cX5_tick 0 = .ok (.aload_n 0, 1) := by decide +kernel
theorem dX5_tick_1 : decode cX5_tick 1 = .ok (.aload_n 0, 1) := by decide +kernel
theorem dX5_tick_2 : decode cX5_tick 2 = .ok (.iload_n 1, 1) := by decide +kernel
theorem dX5_tick_3 : decode cX5_tick 3 = .ok (.iconst 1, 1) := by decide +kernel
theorem dX5_tick_4 : decode cX5_tick 4 = .ok (.bipush 99, 2) := by decide +kernel
theorem dX5_tick_6 : decode cX5_tick 6 = .ok (.invokestatic 39, 3) := by decide +kernel
theorem dX5_tick_9 : decode cX5_tick 9 = .ok (.invokevirtual 94, 3) := by decide +kernel
theorem dX5_tick_12 : decode cX5_tick 12 = .ok (.invokevirtual 46, 3) := by decide +kernel
theorem dX5_tick_15 : decode cX5_tick 15 = .ok (.ifCond .eq 5, 3) := by decide +kernel
theorem dX5_tick_18 : decode cX5_tick 18 = .ok (.iconst 0, 1) := by decide +kernel
theorem dX5_tick_19 : decode cX5_tick 19 = .ok (.ireturn, 1) := by decide +kernel
theorem dX5_tick_20 : decode cX5_tick 20 = .ok (.aload_n 0, 1) := by decide +kernel
theorem dX5_tick_21 : decode cX5_tick 21 = .ok (.invokevirtual 54, 3) := by decide +kernel
theorem dX5_tick_24 : decode cX5_tick 24 = .ok (.aload_n 0, 1) := by decide +kernel
theorem dX5_tick_25 : decode cX5_tick 25 = .ok (.iload_n 1, 1) := by decide +kernel
theorem dX5_tick_26 : decode cX5_tick 26 = .ok (.invokevirtual 142, 3) := by decide +kernel
theorem dX5_tick_29 : decode cX5_tick 29 = .ok (.ireturn, 1) := by decide +kernel
theorem dX5_now_0 : decode cX5_now 0 = .ok (.aload_n 0, 1) := by decide +kernel
theorem dX5_now_1 : decode cX5_now 1 = .ok (.iconst 0, 1) := by decide +kernel
theorem dX5_now_2 : decode cX5_now 2 = .ok (.putfield 35, 3) := by decide +kernel
theorem dX5_now_5 : decode cX5_now 5 = .ok (.aload_n 0, 1) := by decide +kernel
theorem dX5_now_6 : decode cX5_now 6 = .ok (.getfield 7, 3) := by decide +kernel
theorem dX5_now_9 : decode cX5_now 9 = .ok (.iconst 4, 1) := by decide +kernel
theorem dX5_now_10 : decode cX5_now 10 = .ok (.iaload, 1) := by decide +kernel
theorem dX5_now_11 : decode cX5_now 11 = .ok (.ireturn, 1) := by decide +kernel
theorem dX5_noted_0 : decode cX5_noted 0 = .ok (.aload_n 0, 1) := by decide +kernel
theorem dX5_noted_1 : decode cX5_noted 1 = .ok (.iconst 0, 1) := by decide +kernel
theorem dX5_noted_2 : decode cX5_noted 2 = .ok (.putfield 35, 3) := by decide +kernel
theorem dX5_noted_5 : decode cX5_noted 5 = .ok (.iload_n 1, 1) := by decide +kernel
theorem dX5_noted_6 : decode cX5_noted 6 = .ok (.iconst 0, 1) := by decide +kernel
theorem dX5_noted_7 : decode cX5_noted 7 = .ok (.aload_n 0, 1) := by decide +kernel
theorem dX5_noted_8 : decode cX5_noted 8 = .ok (.getfield 7, 3) := by decide +kernel
theorem dX5_noted_11 : decode cX5_noted 11 = .ok (.bipush 7, 2) := by decide +kernel
theorem dX5_noted_13 : decode cX5_noted 13 = .ok (.iaload, 1) := by decide +kernel
theorem dX5_noted_14 : decode cX5_noted 14 = .ok (.iconst 1, 1) := by decide +kernel
theorem dX5_noted_15 : decode cX5_noted 15 = .ok (.isub, 1) := by decide +kernel
theorem dX5_noted_16 : decode cX5_noted 16 = .ok (.invokestatic 39, 3) := by decide +kernel
theorem dX5_noted_19 : decode cX5_noted 19 = .ok (.ifCond .ne 5, 3) := by decide +kernel
theorem dX5_noted_22 : decode cX5_noted 22 = .ok (.iconst (-1), 1) := by decide +kernel
theorem dX5_noted_23 : decode cX5_noted 23 = .ok (.ireturn, 1) := by decide +kernel
theorem dX5_noted_24 : decode cX5_noted 24 = .ok (.aload_n 0, 1) := by decide +kernel
theorem dX5_noted_25 : decode cX5_noted 25 = .ok (.getfield 7, 3) := by decide +kernel
theorem dX5_noted_28 : decode cX5_noted 28 = .ok (.sipush 258, 3) := by decide +kernel
theorem dX5_noted_31 : decode cX5_noted 31 = .ok (.iconst 2, 1) := by decide +kernel
theorem dX5_noted_32 : decode cX5_noted 32 = .ok (.aload_n 0, 1) := by decide +kernel
theorem dX5_noted_33 : decode cX5_noted 33 = .ok (.getfield 7, 3) := by decide +kernel
theorem dX5_noted_36 : decode cX5_noted 36 = .ok (.bipush 7, 2) := by decide +kernel
theorem dX5_noted_38 : decode cX5_noted 38 = .ok (.iaload, 1) := by decide +kernel
theorem dX5_noted_39 : decode cX5_noted 39 = .ok (.iconst 1, 1) := by decide +kernel
theorem dX5_noted_40 : decode cX5_noted 40 = .ok (.isub, 1) := by decide +kernel
theorem dX5_noted_41 : decode cX5_noted 41 = .ok (.iload_n 1, 1) := by decide +kernel
theorem dX5_noted_42 : decode cX5_noted 42 = .ok (.isub, 1) := by decide +kernel
theorem dX5_noted_43 : decode cX5_noted 43 = .ok (.imul, 1) := by decide +kernel
theorem dX5_noted_44 : decode cX5_noted 44 = .ok (.iadd, 1) := by decide +kernel
theorem dX5_noted_45 : decode cX5_noted 45 = .ok (.iload_n 2, 1) := by decide +kernel
theorem dX5_noted_46 : decode cX5_noted 46 = .ok (.ifCond .eq 7, 3) := by decide +kernel
theorem dX5_noted_49 : decode cX5_noted 49 = .ok (.iconst 0, 1) := by decide +kernel
theorem dX5_noted_50 : decode cX5_noted 50 = .ok (.goto 4, 3) := by decide +kernel
theorem dX5_noted_53 : decode cX5_noted 53 = .ok (.iconst 1, 1) := by decide +kernel
theorem dX5_noted_54 : decode cX5_noted 54 = .ok (.iadd, 1) := by decide +kernel
theorem dX5_noted_55 : decode cX5_noted 55 = .ok (.iaload, 1) := by decide +kernel
theorem dX5_noted_56 : decode cX5_noted 56 = .ok (.ireturn, 1) := by decide +kernel
theorem dX5_fired_0 : decode cX5_fired 0 = .ok (.aload_n 0, 1) := by decide +kernel
theorem dX5_fired_1 : decode cX5_fired 1 = .ok (.iconst 0, 1) := by decide +kernel
theorem dX5_fired_2 : decode cX5_fired 2 = .ok (.putfield 35, 3) := by decide +kernel
theorem dX5_fired_5 : decode cX5_fired 5 = .ok (.aload_n 0, 1) := by decide +kernel
theorem dX5_fired_6 : decode cX5_fired 6 = .ok (.getfield 7, 3) := by decide +kernel
theorem dX5_fired_9 : decode cX5_fired 9 = .ok (.bipush 6, 2) := by decide +kernel
theorem dX5_fired_11 : decode cX5_fired 11 = .ok (.iaload, 1) := by decide +kernel
theorem dX5_fired_12 : decode cX5_fired 12 = .ok (.ireturn, 1) := by decide +kernel
theorem dX5_pulses_0 : decode cX5_pulses 0 = .ok (.iconst 0, 1) := by decide +kernel
theorem dX5_pulses_1 : decode cX5_pulses 1 = .ok (.istore_n 1, 1) := by decide +kernel
theorem dX5_pulses_2 : decode cX5_pulses 2 = .ok (.iconst 0, 1) := by decide +kernel
theorem dX5_pulses_3 : decode cX5_pulses 3 = .ok (.istore_n 2, 1) := by decide +kernel
theorem dX5_pulses_4 : decode cX5_pulses 4 = .ok (.iload_n 2, 1) := by decide +kernel
theorem dX5_pulses_5 : decode cX5_pulses 5 = .ok (.aload_n 0, 1) := by decide +kernel
theorem dX5_pulses_6 : decode cX5_pulses 6 = .ok (.getfield 7, 3) := by decide +kernel
theorem dX5_pulses_9 : decode cX5_pulses 9 = .ok (.iconst 5, 1) := by decide +kernel
theorem dX5_pulses_10 : decode cX5_pulses 10 = .ok (.iaload, 1) := by decide +kernel
theorem dX5_pulses_11 : decode cX5_pulses 11 = .ok (.if_icmp .ge 17, 3) := by decide +kernel
theorem dX5_pulses_14 : decode cX5_pulses 14 = .ok (.iload_n 1, 1) := by decide +kernel
theorem dX5_pulses_15 : decode cX5_pulses 15 = .ok (.aload_n 0, 1) := by decide +kernel
theorem dX5_pulses_16 : decode cX5_pulses 16 = .ok (.iload_n 2, 1) := by decide +kernel
theorem dX5_pulses_17 : decode cX5_pulses 17 = .ok (.invokevirtual 101, 3) := by decide +kernel
theorem dX5_pulses_20 : decode cX5_pulses 20 = .ok (.iadd, 1) := by decide +kernel
theorem dX5_pulses_21 : decode cX5_pulses 21 = .ok (.istore_n 1, 1) := by decide +kernel
theorem dX5_pulses_22 : decode cX5_pulses 22 = .ok (.iinc 2 1, 3) := by decide +kernel
theorem dX5_pulses_25 : decode cX5_pulses 25 = .ok (.goto (-21), 3) := by decide +kernel
theorem dX5_pulses_28 : decode cX5_pulses 28 = .ok (.iload_n 1, 1) := by decide +kernel
theorem dX5_pulses_29 : decode cX5_pulses 29 = .ok (.ireturn, 1) := by decide +kernel
theorem dX5_underWay_0 : decode cX5_underWay 0 = .ok (.aload_n 0, 1) := by decide +kernel
theorem dX5_underWay_1 : decode cX5_underWay 1 = .ok (.iconst 0, 1) := by decide +kernel
theorem dX5_underWay_2 : decode cX5_underWay 2 = .ok (.putfield 35, 3) := by decide +kernel
theorem dX5_underWay_5 : decode cX5_underWay 5 = .ok (.aload_n 0, 1) := by decide +kernel
theorem dX5_underWay_6 : decode cX5_underWay 6 = .ok (.invokevirtual 145, 3) := by decide +kernel
theorem dX5_underWay_9 : decode cX5_underWay 9 = .ok (.ireturn, 1) := by decide +kernel
theorem dX5_at_0 : decode cX5_at 0 = .ok (.iconst 0, 1) := by decide +kernel
theorem dX5_at_1 : decode cX5_at 1 = .ok (.istore_n 2, 1) := by decide +kernel
theorem dX5_at_2 : decode cX5_at 2 = .ok (.iconst 0, 1) := by decide +kernel
theorem dX5_at_3 : decode cX5_at 3 = .ok (.istore_n 3, 1) := by decide +kernel
theorem dX5_at_4 : decode cX5_at 4 = .ok (.iload_n 3, 1) := by decide +kernel
theorem dX5_at_5 : decode cX5_at 5 = .ok (.aload_n 0, 1) := by decide +kernel
theorem dX5_at_6 : decode cX5_at 6 = .ok (.getfield 7, 3) := by decide +kernel
theorem dX5_at_9 : decode cX5_at 9 = .ok (.iconst 5, 1) := by decide +kernel
theorem dX5_at_10 : decode cX5_at 10 = .ok (.iaload, 1) := by decide +kernel
theorem dX5_at_11 : decode cX5_at 11 = .ok (.if_icmp .ge 44, 3) := by decide +kernel
theorem dX5_at_14 : decode cX5_at 14 = .ok (.iload_n 2, 1) := by decide +kernel
theorem dX5_at_15 : decode cX5_at 15 = .ok (.aload_n 0, 1) := by decide +kernel
theorem dX5_at_16 : decode cX5_at 16 = .ok (.getfield 7, 3) := by decide +kernel
theorem dX5_at_19 : decode cX5_at 19 = .ok (.bipush 28, 2) := by decide +kernel
theorem dX5_at_21 : decode cX5_at 21 = .ok (.iload_n 3, 1) := by decide +kernel
theorem dX5_at_22 : decode cX5_at 22 = .ok (.iadd, 1) := by decide +kernel
theorem dX5_at_23 : decode cX5_at 23 = .ok (.iaload, 1) := by decide +kernel
theorem dX5_at_24 : decode cX5_at 24 = .ok (.ifCond .ne 22, 3) := by decide +kernel
theorem dX5_at_27 : decode cX5_at 27 = .ok (.aload_n 0, 1) := by decide +kernel
theorem dX5_at_28 : decode cX5_at 28 = .ok (.getfield 7, 3) := by decide +kernel
theorem dX5_at_31 : decode cX5_at 31 = .ok (.bipush 8, 2) := by decide +kernel
theorem dX5_at_33 : decode cX5_at 33 = .ok (.iload_n 3, 1) := by decide +kernel
theorem dX5_at_34 : decode cX5_at 34 = .ok (.iadd, 1) := by decide +kernel
theorem dX5_at_35 : decode cX5_at 35 = .ok (.iaload, 1) := by decide +kernel
theorem dX5_at_36 : decode cX5_at 36 = .ok (.iload_n 1, 1) := by decide +kernel
theorem dX5_at_37 : decode cX5_at 37 = .ok (.if_icmp .ne 9, 3) := by decide +kernel
theorem dX5_at_40 : decode cX5_at 40 = .ok (.iconst 1, 1) := by decide +kernel
theorem dX5_at_41 : decode cX5_at 41 = .ok (.iload_n 3, 1) := by decide +kernel
theorem dX5_at_42 : decode cX5_at 42 = .ok (.ishl, 1) := by decide +kernel
theorem dX5_at_43 : decode cX5_at 43 = .ok (.goto 4, 3) := by decide +kernel
theorem dX5_at_46 : decode cX5_at 46 = .ok (.iconst 0, 1) := by decide +kernel
theorem dX5_at_47 : decode cX5_at 47 = .ok (.ior, 1) := by decide +kernel
theorem dX5_at_48 : decode cX5_at 48 = .ok (.istore_n 2, 1) := by decide +kernel
theorem dX5_at_49 : decode cX5_at 49 = .ok (.iinc 3 1, 3) := by decide +kernel
theorem dX5_at_52 : decode cX5_at 52 = .ok (.goto (-48), 3) := by decide +kernel
theorem dX5_at_55 : decode cX5_at 55 = .ok (.iload_n 2, 1) := by decide +kernel
theorem dX5_at_56 : decode cX5_at 56 = .ok (.ireturn, 1) := by decide +kernel
theorem dX5_groupMany_0 : decode cX5_groupMany 0 = .ok (.iconst 0, 1) := by decide +kernel
theorem dX5_groupMany_1 : decode cX5_groupMany 1 = .ok (.istore_n 1, 1) := by decide +kernel
theorem dX5_groupMany_2 : decode cX5_groupMany 2 = .ok (.iconst 0, 1) := by decide +kernel
theorem dX5_groupMany_3 : decode cX5_groupMany 3 = .ok (.istore_n 2, 1) := by decide +kernel
theorem dX5_groupMany_4 : decode cX5_groupMany 4 = .ok (.iload_n 2, 1) := by decide +kernel
theorem dX5_groupMany_5 : decode cX5_groupMany 5 = .ok (.aload_n 0, 1) := by decide +kernel
theorem dX5_groupMany_6 : decode cX5_groupMany 6 = .ok (.getfield 7, 3) := by decide +kernel
theorem dX5_groupMany_9 : decode cX5_groupMany 9 = .ok (.iconst 5, 1) := by decide +kernel
theorem dX5_groupMany_10 : decode cX5_groupMany 10 = .ok (.iaload, 1) := by decide +kernel
theorem dX5_groupMany_11 : decode cX5_groupMany 11 = .ok (.if_icmp .ge 61, 3) := by decide +kernel
theorem dX5_groupMany_14 : decode cX5_groupMany 14 = .ok (.aload_n 0, 1) := by decide +kernel
theorem dX5_groupMany_15 : decode cX5_groupMany 15 = .ok (.getfield 7, 3) := by decide +kernel
theorem dX5_groupMany_18 : decode cX5_groupMany 18 = .ok (.bipush 28, 2) := by decide +kernel
theorem dX5_groupMany_20 : decode cX5_groupMany 20 = .ok (.iload_n 2, 1) := by decide +kernel
theorem dX5_groupMany_21 : decode cX5_groupMany 21 = .ok (.iadd, 1) := by decide +kernel
theorem dX5_groupMany_22 : decode cX5_groupMany 22 = .ok (.iaload, 1) := by decide +kernel
theorem dX5_groupMany_23 : decode cX5_groupMany 23 = .ok (.ifCond .ne 29, 3) := by decide +kernel
theorem dX5_groupMany_26 : decode cX5_groupMany 26 = .ok (.aload_n 0, 1) := by decide +kernel
theorem dX5_groupMany_27 : decode cX5_groupMany 27 = .ok (.aload_n 0, 1) := by decide +kernel
theorem dX5_groupMany_28 : decode cX5_groupMany 28 = .ok (.getfield 7, 3) := by decide +kernel
theorem dX5_groupMany_31 : decode cX5_groupMany 31 = .ok (.bipush 8, 2) := by decide +kernel
theorem dX5_groupMany_33 : decode cX5_groupMany 33 = .ok (.iload_n 2, 1) := by decide +kernel
theorem dX5_groupMany_34 : decode cX5_groupMany 34 = .ok (.iadd, 1) := by decide +kernel
theorem dX5_groupMany_35 : decode cX5_groupMany 35 = .ok (.iaload, 1) := by decide +kernel
theorem dX5_groupMany_36 : decode cX5_groupMany 36 = .ok (.invokevirtual 148, 3) := by decide +kernel
theorem dX5_groupMany_39 : decode cX5_groupMany 39 = .ok (.iconst 1, 1) := by decide +kernel
theorem dX5_groupMany_40 : decode cX5_groupMany 40 = .ok (.iload_n 2, 1) := by decide +kernel
theorem dX5_groupMany_41 : decode cX5_groupMany 41 = .ok (.ishl, 1) := by decide +kernel
theorem dX5_groupMany_42 : decode cX5_groupMany 42 = .ok (.iconst 1, 1) := by decide +kernel
theorem dX5_groupMany_43 : decode cX5_groupMany 43 = .ok (.isub, 1) := by decide +kernel
theorem dX5_groupMany_44 : decode cX5_groupMany 44 = .ok (.iand, 1) := by decide +kernel
theorem dX5_groupMany_45 : decode cX5_groupMany 45 = .ok (.ifCond .ne 7, 3) := by decide +kernel
theorem dX5_groupMany_48 : decode cX5_groupMany 48 = .ok (.iconst 1, 1) := by decide +kernel
theorem dX5_groupMany_49 : decode cX5_groupMany 49 = .ok (.goto 4, 3) := by decide +kernel
theorem dX5_groupMany_52 : decode cX5_groupMany 52 = .ok (.iconst 0, 1) := by decide +kernel
theorem dX5_groupMany_53 : decode cX5_groupMany 53 = .ok (.istore_n 3, 1) := by decide +kernel
theorem dX5_groupMany_54 : decode cX5_groupMany 54 = .ok (.iload_n 1, 1) := by decide +kernel
theorem dX5_groupMany_55 : decode cX5_groupMany 55 = .ok (.iload_n 3, 1) := by decide +kernel
theorem dX5_groupMany_56 : decode cX5_groupMany 56 = .ok (.ifCond .eq 7, 3) := by decide +kernel
theorem dX5_groupMany_59 : decode cX5_groupMany 59 = .ok (.iconst 1, 1) := by decide +kernel
theorem dX5_groupMany_60 : decode cX5_groupMany 60 = .ok (.goto 4, 3) := by decide +kernel
theorem dX5_groupMany_63 : decode cX5_groupMany 63 = .ok (.iconst 0, 1) := by decide +kernel
theorem dX5_groupMany_64 : decode cX5_groupMany 64 = .ok (.iadd, 1) := by decide +kernel
theorem dX5_groupMany_65 : decode cX5_groupMany 65 = .ok (.istore_n 1, 1) := by decide +kernel
theorem dX5_groupMany_66 : decode cX5_groupMany 66 = .ok (.iinc 2 1, 3) := by decide +kernel
theorem dX5_groupMany_69 : decode cX5_groupMany 69 = .ok (.goto (-65), 3) := by decide +kernel
theorem dX5_groupMany_72 : decode cX5_groupMany 72 = .ok (.iload_n 1, 1) := by decide +kernel
theorem dX5_groupMany_73 : decode cX5_groupMany 73 = .ok (.ireturn, 1) := by decide +kernel
theorem dX5_groups_0 : decode cX5_groups 0 = .ok (.aload_n 0, 1) := by decide +kernel
theorem dX5_groups_1 : decode cX5_groups 1 = .ok (.iconst 0, 1) := by decide +kernel
theorem dX5_groups_2 : decode cX5_groups 2 = .ok (.putfield 35, 3) := by decide +kernel
theorem dX5_groups_5 : decode cX5_groups 5 = .ok (.aload_n 0, 1) := by decide +kernel
theorem dX5_groups_6 : decode cX5_groups 6 = .ok (.invokevirtual 151, 3) := by decide +kernel
theorem dX5_groups_9 : decode cX5_groups 9 = .ok (.ireturn, 1) := by decide +kernel
theorem dX5_phaseOf_0 : decode cX5_phaseOf 0 = .ok (.iconst (-1), 1) := by decide +kernel
theorem dX5_phaseOf_1 : decode cX5_phaseOf 1 = .ok (.istore_n 2, 1) := by decide +kernel
theorem dX5_phaseOf_2 : decode cX5_phaseOf 2 = .ok (.iconst (-1), 1) := by decide +kernel
theorem dX5_phaseOf_3 : decode cX5_phaseOf 3 = .ok (.istore_n 3, 1) := by decide +kernel
theorem dX5_phaseOf_4 : decode cX5_phaseOf 4 = .ok (.iload_n 2, 1) := by decide +kernel
theorem dX5_phaseOf_5 : decode cX5_phaseOf 5 = .ok (.iload_n 1, 1) := by decide +kernel
theorem dX5_phaseOf_6 : decode cX5_phaseOf 6 = .ok (.if_icmp .ge 25, 3) := by decide +kernel
theorem dX5_phaseOf_9 : decode cX5_phaseOf 9 = .ok (.iinc 3 1, 3) := by decide +kernel
theorem dX5_phaseOf_12 : decode cX5_phaseOf 12 = .ok (.iload_n 2, 1) := by decide +kernel
theorem dX5_phaseOf_13 : decode cX5_phaseOf 13 = .ok (.aload_n 0, 1) := by decide +kernel
theorem dX5_phaseOf_14 : decode cX5_phaseOf 14 = .ok (.iload_n 3, 1) := by decide +kernel
theorem dX5_phaseOf_15 : decode cX5_phaseOf 15 = .ok (.invokevirtual 148, 3) := by decide +kernel
theorem dX5_phaseOf_18 : decode cX5_phaseOf 18 = .ok (.ifCond .ne 7, 3) := by decide +kernel
theorem dX5_phaseOf_21 : decode cX5_phaseOf 21 = .ok (.iconst 0, 1) := by decide +kernel
theorem dX5_phaseOf_22 : decode cX5_phaseOf 22 = .ok (.goto 4, 3) := by decide +kernel
theorem dX5_phaseOf_25 : decode cX5_phaseOf 25 = .ok (.iconst 1, 1) := by decide +kernel
theorem dX5_phaseOf_26 : decode cX5_phaseOf 26 = .ok (.iadd, 1) := by decide +kernel
theorem dX5_phaseOf_27 : decode cX5_phaseOf 27 = .ok (.istore_n 2, 1) := by decide +kernel
theorem dX5_phaseOf_28 : decode cX5_phaseOf 28 = .ok (.goto (-24), 3) := by decide +kernel
theorem dX5_phaseOf_31 : decode cX5_phaseOf 31 = .ok (.iload_n 3, 1) := by decide +kernel
theorem dX5_phaseOf_32 : decode cX5_phaseOf 32 = .ok (.ireturn, 1) := by decide +kernel
theorem dX5_group_0 : decode cX5_group 0 = .ok (.aload_n 0, 1) := by decide +kernel
theorem dX5_group_1 : decode cX5_group 1 = .ok (.aload_n 0, 1) := by decide +kernel
theorem dX5_group_2 : decode cX5_group 2 = .ok (.iload_n 1, 1) := by decide +kernel
theorem dX5_group_3 : decode cX5_group 3 = .ok (.iconst 0, 1) := by decide +kernel
theorem dX5_group_4 : decode cX5_group 4 = .ok (.aload_n 0, 1) := by decide +kernel
theorem dX5_group_5 : decode cX5_group 5 = .ok (.invokevirtual 151, 3) := by decide +kernel
theorem dX5_group_8 : decode cX5_group 8 = .ok (.iconst 1, 1) := by decide +kernel
theorem dX5_group_9 : decode cX5_group 9 = .ok (.isub, 1) := by decide +kernel
theorem dX5_group_10 : decode cX5_group 10 = .ok (.invokestatic 39, 3) := by decide +kernel
theorem dX5_group_13 : decode cX5_group 13 = .ok (.invokevirtual 94, 3) := by decide +kernel
theorem dX5_group_16 : decode cX5_group 16 = .ok (.invokevirtual 46, 3) := by decide +kernel
theorem dX5_group_19 : decode cX5_group 19 = .ok (.ifCond .eq 5, 3) := by decide +kernel
theorem dX5_group_22 : decode cX5_group 22 = .ok (.iconst 0, 1) := by decide +kernel
theorem dX5_group_23 : decode cX5_group 23 = .ok (.ireturn, 1) := by decide +kernel
theorem dX5_group_24 : decode cX5_group 24 = .ok (.aload_n 0, 1) := by decide +kernel
theorem dX5_group_25 : decode cX5_group 25 = .ok (.iload_n 1, 1) := by decide +kernel
theorem dX5_group_26 : decode cX5_group 26 = .ok (.invokevirtual 154, 3) := by decide +kernel
theorem dX5_group_29 : decode cX5_group 29 = .ok (.istore_n 3, 1) := by decide +kernel
theorem dX5_group_30 : decode cX5_group 30 = .ok (.iload_n 2, 1) := by decide +kernel
theorem dX5_group_31 : decode cX5_group 31 = .ok (.ifCond .eq 7, 3) := by decide +kernel
theorem dX5_group_34 : decode cX5_group 34 = .ok (.iload_n 3, 1) := by decide +kernel
theorem dX5_group_35 : decode cX5_group 35 = .ok (.goto 8, 3) := by decide +kernel
theorem dX5_group_38 : decode cX5_group 38 = .ok (.aload_n 0, 1) := by decide +kernel
theorem dX5_group_39 : decode cX5_group 39 = .ok (.iload_n 3, 1) := by decide +kernel
theorem dX5_group_40 : decode cX5_group 40 = .ok (.invokevirtual 148, 3) := by decide +kernel
theorem dX5_group_43 : decode cX5_group 43 = .ok (.ireturn, 1) := by decide +kernel
theorem dX5_groupOf_0 : decode cX5_groupOf 0 = .ok (.aload_n 0, 1) := by decide +kernel
theorem dX5_groupOf_1 : decode cX5_groupOf 1 = .ok (.aload_n 0, 1) := by decide +kernel
theorem dX5_groupOf_2 : decode cX5_groupOf 2 = .ok (.aload_n 0, 1) := by decide +kernel
theorem dX5_groupOf_3 : decode cX5_groupOf 3 = .ok (.iload_n 1, 1) := by decide +kernel
theorem dX5_groupOf_4 : decode cX5_groupOf 4 = .ok (.invokevirtual 60, 3) := by decide +kernel
theorem dX5_groupOf_7 : decode cX5_groupOf 7 = .ok (.invokevirtual 94, 3) := by decide +kernel
theorem dX5_groupOf_10 : decode cX5_groupOf 10 = .ok (.invokevirtual 46, 3) := by decide +kernel
theorem dX5_groupOf_13 : decode cX5_groupOf 13 = .ok (.ifCond .eq 5, 3) := by decide +kernel
theorem dX5_groupOf_16 : decode cX5_groupOf 16 = .ok (.iconst 0, 1) := by decide +kernel
theorem dX5_groupOf_17 : decode cX5_groupOf 17 = .ok (.ireturn, 1) := by decide +kernel
theorem dX5_groupOf_18 : decode cX5_groupOf 18 = .ok (.iconst 0, 1) := by decide +kernel
theorem dX5_groupOf_19 : decode cX5_groupOf 19 = .ok (.istore_n 2, 1) := by decide +kernel
theorem dX5_groupOf_20 : decode cX5_groupOf 20 = .ok (.iconst 0, 1) := by decide +kernel
theorem dX5_groupOf_21 : decode cX5_groupOf 21 = .ok (.istore_n 3, 1) := by decide +kernel
theorem dX5_groupOf_22 : decode cX5_groupOf 22 = .ok (.iload_n 3, 1) := by decide +kernel
theorem dX5_groupOf_23 : decode cX5_groupOf 23 = .ok (.aload_n 0, 1) := by decide +kernel
theorem dX5_groupOf_24 : decode cX5_groupOf 24 = .ok (.getfield 7, 3) := by decide +kernel
theorem dX5_groupOf_27 : decode cX5_groupOf 27 = .ok (.bipush 8, 2) := by decide +kernel
theorem dX5_groupOf_29 : decode cX5_groupOf 29 = .ok (.iload_n 1, 1) := by decide +kernel
theorem dX5_groupOf_30 : decode cX5_groupOf 30 = .ok (.iadd, 1) := by decide +kernel
theorem dX5_groupOf_31 : decode cX5_groupOf 31 = .ok (.iaload, 1) := by decide +kernel
theorem dX5_groupOf_32 : decode cX5_groupOf 32 = .ok (.if_icmp .ge 25, 3) := by decide +kernel
theorem dX5_groupOf_35 : decode cX5_groupOf 35 = .ok (.iload_n 2, 1) := by decide +kernel
theorem dX5_groupOf_36 : decode cX5_groupOf 36 = .ok (.aload_n 0, 1) := by decide +kernel
theorem dX5_groupOf_37 : decode cX5_groupOf 37 = .ok (.iload_n 3, 1) := by decide +kernel
theorem dX5_groupOf_38 : decode cX5_groupOf 38 = .ok (.invokevirtual 148, 3) := by decide +kernel
theorem dX5_groupOf_41 : decode cX5_groupOf 41 = .ok (.ifCond .ne 7, 3) := by decide +kernel
theorem dX5_groupOf_44 : decode cX5_groupOf 44 = .ok (.iconst 0, 1) := by decide +kernel
theorem dX5_groupOf_45 : decode cX5_groupOf 45 = .ok (.goto 4, 3) := by decide +kernel
theorem dX5_groupOf_48 : decode cX5_groupOf 48 = .ok (.iconst 1, 1) := by decide +kernel
theorem dX5_groupOf_49 : decode cX5_groupOf 49 = .ok (.iadd, 1) := by decide +kernel
theorem dX5_groupOf_50 : decode cX5_groupOf 50 = .ok (.istore_n 2, 1) := by decide +kernel
theorem dX5_groupOf_51 : decode cX5_groupOf 51 = .ok (.iinc 3 1, 3) := by decide +kernel
theorem dX5_groupOf_54 : decode cX5_groupOf 54 = .ok (.goto (-32), 3) := by decide +kernel
theorem dX5_groupOf_57 : decode cX5_groupOf 57 = .ok (.aload_n 0, 1) := by decide +kernel
theorem dX5_groupOf_58 : decode cX5_groupOf 58 = .ok (.getfield 7, 3) := by decide +kernel
theorem dX5_groupOf_61 : decode cX5_groupOf 61 = .ok (.bipush 28, 2) := by decide +kernel
theorem dX5_groupOf_63 : decode cX5_groupOf 63 = .ok (.iload_n 1, 1) := by decide +kernel
theorem dX5_groupOf_64 : decode cX5_groupOf 64 = .ok (.iadd, 1) := by decide +kernel
theorem dX5_groupOf_65 : decode cX5_groupOf 65 = .ok (.iaload, 1) := by decide +kernel
theorem dX5_groupOf_66 : decode cX5_groupOf 66 = .ok (.iconst 1, 1) := by decide +kernel
theorem dX5_groupOf_67 : decode cX5_groupOf 67 = .ok (.if_icmp .ne 7, 3) := by decide +kernel
theorem dX5_groupOf_70 : decode cX5_groupOf 70 = .ok (.iconst (-1), 1) := by decide +kernel
theorem dX5_groupOf_71 : decode cX5_groupOf 71 = .ok (.goto 4, 3) := by decide +kernel
theorem dX5_groupOf_74 : decode cX5_groupOf 74 = .ok (.iload_n 2, 1) := by decide +kernel
theorem dX5_groupOf_75 : decode cX5_groupOf 75 = .ok (.ireturn, 1) := by decide +kernel
theorem dX5_spreadOf_0 : decode cX5_spreadOf 0 = .ok (.iconst (-1), 1) := by decide +kernel
theorem dX5_spreadOf_1 : decode cX5_spreadOf 1 = .ok (.istore_n 1, 1) := by decide +kernel
theorem dX5_spreadOf_2 : decode cX5_spreadOf 2 = .ok (.iconst 0, 1) := by decide +kernel
theorem dX5_spreadOf_3 : decode cX5_spreadOf 3 = .ok (.istore_n 2, 1) := by decide +kernel
theorem dX5_spreadOf_4 : decode cX5_spreadOf 4 = .ok (.iload_n 2, 1) := by decide +kernel
theorem dX5_spreadOf_5 : decode cX5_spreadOf 5 = .ok (.aload_n 0, 1) := by decide +kernel
theorem dX5_spreadOf_6 : decode cX5_spreadOf 6 = .ok (.getfield 7, 3) := by decide +kernel
theorem dX5_spreadOf_9 : decode cX5_spreadOf 9 = .ok (.iconst 0, 1) := by decide +kernel
theorem dX5_spreadOf_10 : decode cX5_spreadOf 10 = .ok (.iaload, 1) := by decide +kernel
theorem dX5_spreadOf_11 : decode cX5_spreadOf 11 = .ok (.if_icmp .ge 101, 3) := by decide +kernel
theorem dX5_spreadOf_14 : decode cX5_spreadOf 14 = .ok (.iconst 0, 1) := by decide +kernel
theorem dX5_spreadOf_15 : decode cX5_spreadOf 15 = .ok (.istore_n 3, 1) := by decide +kernel
theorem dX5_spreadOf_16 : decode cX5_spreadOf 16 = .ok (.iconst 0, 1) := by decide +kernel
theorem dX5_spreadOf_17 : decode cX5_spreadOf 17 = .ok (.istore 4, 2) := by decide +kernel
theorem dX5_spreadOf_19 : decode cX5_spreadOf 19 = .ok (.iload 4, 2) := by decide +kernel
theorem dX5_spreadOf_21 : decode cX5_spreadOf 21 = .ok (.aload_n 0, 1) := by decide +kernel
theorem dX5_spreadOf_22 : decode cX5_spreadOf 22 = .ok (.getfield 7, 3) := by decide +kernel
theorem dX5_spreadOf_25 : decode cX5_spreadOf 25 = .ok (.iconst 5, 1) := by decide +kernel
theorem dX5_spreadOf_26 : decode cX5_spreadOf 26 = .ok (.iaload, 1) := by decide +kernel
theorem dX5_spreadOf_27 : decode cX5_spreadOf 27 = .ok (.if_icmp .ge 63, 3) := by decide +kernel
theorem dX5_spreadOf_30 : decode cX5_spreadOf 30 = .ok (.aload_n 0, 1) := by decide +kernel
theorem dX5_spreadOf_31 : decode cX5_spreadOf 31 = .ok (.getfield 7, 3) := by decide +kernel
theorem dX5_spreadOf_34 : decode cX5_spreadOf 34 = .ok (.bipush 8, 2) := by decide +kernel
theorem dX5_spreadOf_36 : decode cX5_spreadOf 36 = .ok (.iload 4, 2) := by decide +kernel
theorem dX5_spreadOf_38 : decode cX5_spreadOf 38 = .ok (.iadd, 1) := by decide +kernel
theorem dX5_spreadOf_39 : decode cX5_spreadOf 39 = .ok (.iaload, 1) := by decide +kernel
theorem dX5_spreadOf_40 : decode cX5_spreadOf 40 = .ok (.iload_n 2, 1) := by decide +kernel
theorem dX5_spreadOf_41 : decode cX5_spreadOf 41 = .ok (.isub, 1) := by decide +kernel
theorem dX5_spreadOf_42 : decode cX5_spreadOf 42 = .ok (.aload_n 0, 1) := by decide +kernel
theorem dX5_spreadOf_43 : decode cX5_spreadOf 43 = .ok (.getfield 7, 3) := by decide +kernel
theorem dX5_spreadOf_46 : decode cX5_spreadOf 46 = .ok (.iconst 0, 1) := by decide +kernel
theorem dX5_spreadOf_47 : decode cX5_spreadOf 47 = .ok (.iaload, 1) := by decide +kernel
theorem dX5_spreadOf_48 : decode cX5_spreadOf 48 = .ok (.iadd, 1) := by decide +kernel
theorem dX5_spreadOf_49 : decode cX5_spreadOf 49 = .ok (.aload_n 0, 1) := by decide +kernel
theorem dX5_spreadOf_50 : decode cX5_spreadOf 50 = .ok (.getfield 7, 3) := by decide +kernel
theorem dX5_spreadOf_53 : decode cX5_spreadOf 53 = .ok (.iconst 0, 1) := by decide +kernel
theorem dX5_spreadOf_54 : decode cX5_spreadOf 54 = .ok (.iaload, 1) := by decide +kernel
theorem dX5_spreadOf_55 : decode cX5_spreadOf 55 = .ok (.irem, 1) := by decide +kernel
theorem dX5_spreadOf_56 : decode cX5_spreadOf 56 = .ok (.istore 5, 2) := by decide +kernel
theorem dX5_spreadOf_58 : decode cX5_spreadOf 58 = .ok (.aload_n 0, 1) := by decide +kernel
theorem dX5_spreadOf_59 : decode cX5_spreadOf 59 = .ok (.getfield 7, 3) := by decide +kernel
theorem dX5_spreadOf_62 : decode cX5_spreadOf 62 = .ok (.bipush 28, 2) := by decide +kernel
theorem dX5_spreadOf_64 : decode cX5_spreadOf 64 = .ok (.iload 4, 2) := by decide +kernel
theorem dX5_spreadOf_66 : decode cX5_spreadOf 66 = .ok (.iadd, 1) := by decide +kernel
theorem dX5_spreadOf_67 : decode cX5_spreadOf 67 = .ok (.iaload, 1) := by decide +kernel
theorem dX5_spreadOf_68 : decode cX5_spreadOf 68 = .ok (.ifCond .ne 14, 3) := by decide +kernel
theorem dX5_spreadOf_71 : decode cX5_spreadOf 71 = .ok (.iload 5, 2) := by decide +kernel
theorem dX5_spreadOf_73 : decode cX5_spreadOf 73 = .ok (.iload_n 3, 1) := by decide +kernel
theorem dX5_spreadOf_74 : decode cX5_spreadOf 74 = .ok (.if_icmp .le 8, 3) := by decide +kernel
theorem dX5_spreadOf_77 : decode cX5_spreadOf 77 = .ok (.iload 5, 2) := by decide +kernel
theorem dX5_spreadOf_79 : decode cX5_spreadOf 79 = .ok (.goto 4, 3) := by decide +kernel
theorem dX5_spreadOf_82 : decode cX5_spreadOf 82 = .ok (.iload_n 3, 1) := by decide +kernel
theorem dX5_spreadOf_83 : decode cX5_spreadOf 83 = .ok (.istore_n 3, 1) := by decide +kernel
theorem dX5_spreadOf_84 : decode cX5_spreadOf 84 = .ok (.iinc 4 1, 3) := by decide +kernel
theorem dX5_spreadOf_87 : decode cX5_spreadOf 87 = .ok (.goto (-68), 3) := by decide +kernel
theorem dX5_spreadOf_90 : decode cX5_spreadOf 90 = .ok (.iload_n 1, 1) := by decide +kernel
theorem dX5_spreadOf_91 : decode cX5_spreadOf 91 = .ok (.iconst (-1), 1) := by decide +kernel
theorem dX5_spreadOf_92 : decode cX5_spreadOf 92 = .ok (.if_icmp .eq 8, 3) := by decide +kernel
theorem dX5_spreadOf_95 : decode cX5_spreadOf 95 = .ok (.iload_n 3, 1) := by decide +kernel
theorem dX5_spreadOf_96 : decode cX5_spreadOf 96 = .ok (.iload_n 1, 1) := by decide +kernel
theorem dX5_spreadOf_97 : decode cX5_spreadOf 97 = .ok (.if_icmp .ge 7, 3) := by decide +kernel
theorem dX5_spreadOf_100 : decode cX5_spreadOf 100 = .ok (.iload_n 3, 1) := by decide +kernel
theorem dX5_spreadOf_101 : decode cX5_spreadOf 101 = .ok (.goto 4, 3) := by decide +kernel
theorem dX5_spreadOf_104 : decode cX5_spreadOf 104 = .ok (.iload_n 1, 1) := by decide +kernel
theorem dX5_spreadOf_105 : decode cX5_spreadOf 105 = .ok (.istore_n 1, 1) := by decide +kernel
theorem dX5_spreadOf_106 : decode cX5_spreadOf 106 = .ok (.iinc 2 1, 3) := by decide +kernel
theorem dX5_spreadOf_109 : decode cX5_spreadOf 109 = .ok (.goto (-105), 3) := by decide +kernel
theorem dX5_spreadOf_112 : decode cX5_spreadOf 112 = .ok (.iload_n 1, 1) := by decide +kernel
theorem dX5_spreadOf_113 : decode cX5_spreadOf 113 = .ok (.ireturn, 1) := by decide +kernel
theorem dX5_spread_0 : decode cX5_spread 0 = .ok (.aload_n 0, 1) := by decide +kernel
theorem dX5_spread_1 : decode cX5_spread 1 = .ok (.iconst 0, 1) := by decide +kernel
theorem dX5_spread_2 : decode cX5_spread 2 = .ok (.putfield 35, 3) := by decide +kernel
theorem dX5_spread_5 : decode cX5_spread 5 = .ok (.aload_n 0, 1) := by decide +kernel
theorem dX5_spread_6 : decode cX5_spread 6 = .ok (.invokevirtual 157, 3) := by decide +kernel
theorem dX5_spread_9 : decode cX5_spread 9 = .ok (.ireturn, 1) := by decide +kernel
theorem dX5_leaves_0 : decode cX5_leaves 0 = .ok (.iconst 0, 1) := by decide +kernel
theorem dX5_leaves_1 : decode cX5_leaves 1 = .ok (.istore_n 1, 1) := by decide +kernel
theorem dX5_leaves_2 : decode cX5_leaves 2 = .ok (.iload_n 1, 1) := by decide +kernel
theorem dX5_leaves_3 : decode cX5_leaves 3 = .ok (.sipush 378, 3) := by decide +kernel
theorem dX5_leaves_6 : decode cX5_leaves 6 = .ok (.if_icmp .ge 21, 3) := by decide +kernel
theorem dX5_leaves_9 : decode cX5_leaves 9 = .ok (.aload_n 0, 1) := by decide +kernel
theorem dX5_leaves_10 : decode cX5_leaves 10 = .ok (.getfield 16, 3) := by decide +kernel
theorem dX5_leaves_13 : decode cX5_leaves 13 = .ok (.iload_n 1, 1) := by decide +kernel
theorem dX5_leaves_14 : decode cX5_leaves 14 = .ok (.aload_n 0, 1) := by decide +kernel
theorem dX5_leaves_15 : decode cX5_leaves 15 = .ok (.getfield 7, 3) := by decide +kernel
theorem dX5_leaves_18 : decode cX5_leaves 18 = .ok (.iload_n 1, 1) := by decide +kernel
theorem dX5_leaves_19 : decode cX5_leaves 19 = .ok (.iaload, 1) := by decide +kernel
theorem dX5_leaves_20 : decode cX5_leaves 20 = .ok (.iastore, 1) := by decide +kernel
theorem dX5_leaves_21 : decode cX5_leaves 21 = .ok (.iinc 1 1, 3) := by decide +kernel
theorem dX5_leaves_24 : decode cX5_leaves 24 = .ok (.goto (-22), 3) := by decide +kernel
theorem dX5_leaves_27 : decode cX5_leaves 27 = .ok (.aload_n 0, 1) := by decide +kernel
theorem dX5_leaves_28 : decode cX5_leaves 28 = .ok (.iconst 1, 1) := by decide +kernel
theorem dX5_leaves_29 : decode cX5_leaves 29 = .ok (.putfield 119, 3) := by decide +kernel
theorem dX5_leaves_32 : decode cX5_leaves 32 = .ok (.return_, 1) := by decide +kernel
theorem dX5_comesBack_0 : decode cX5_comesBack 0 = .ok (.iconst 0, 1) := by decide +kernel
theorem dX5_comesBack_1 : decode cX5_comesBack 1 = .ok (.istore_n 1, 1) := by decide +kernel
theorem dX5_comesBack_2 : decode cX5_comesBack 2 = .ok (.iload_n 1, 1) := by decide +kernel
theorem dX5_comesBack_3 : decode cX5_comesBack 3 = .ok (.sipush 378, 3) := by decide +kernel
theorem dX5_comesBack_6 : decode cX5_comesBack 6 = .ok (.if_icmp .ge 21, 3) := by decide +kernel
theorem dX5_comesBack_9 : decode cX5_comesBack 9 = .ok (.aload_n 0, 1) := by decide +kernel
theorem dX5_comesBack_10 : decode cX5_comesBack 10 = .ok (.getfield 7, 3) := by decide +kernel
theorem dX5_comesBack_13 : decode cX5_comesBack 13 = .ok (.iload_n 1, 1) := by decide +kernel
theorem dX5_comesBack_14 : decode cX5_comesBack 14 = .ok (.aload_n 0, 1) := by decide +kernel
theorem dX5_comesBack_15 : decode cX5_comesBack 15 = .ok (.getfield 16, 3) := by decide +kernel
theorem dX5_comesBack_18 : decode cX5_comesBack 18 = .ok (.iload_n 1, 1) := by decide +kernel
theorem dX5_comesBack_19 : decode cX5_comesBack 19 = .ok (.iaload, 1) := by decide +kernel
theorem dX5_comesBack_20 : decode cX5_comesBack 20 = .ok (.iastore, 1) := by decide +kernel
theorem dX5_comesBack_21 : decode cX5_comesBack 21 = .ok (.iinc 1 1, 3) := by decide +kernel
theorem dX5_comesBack_24 : decode cX5_comesBack 24 = .ok (.goto (-22), 3) := by decide +kernel
theorem dX5_comesBack_27 : decode cX5_comesBack 27 = .ok (.aload_n 0, 1) := by decide +kernel
theorem dX5_comesBack_28 : decode cX5_comesBack 28 = .ok (.iconst 0, 1) := by decide +kernel
theorem dX5_comesBack_29 : decode cX5_comesBack 29 = .ok (.putfield 119, 3) := by decide +kernel
theorem dX5_comesBack_32 : decode cX5_comesBack 32 = .ok (.return_, 1) := by decide +kernel
theorem dX5_isLimit_0 : decode cX5_isLimit 0 = .ok (.iload_n 0, 1) := by decide +kernel
theorem dX5_isLimit_1 : decode cX5_isLimit 1 = .ok (.iconst 1, 1) := by decide +kernel
theorem dX5_isLimit_2 : decode cX5_isLimit 2 = .ok (.sipush 400, 3) := by decide +kernel
theorem dX5_isLimit_5 : decode cX5_isLimit 5 = .ok (.invokestatic 39, 3) := by decide +kernel
theorem dX5_isLimit_8 : decode cX5_isLimit 8 = .ok (.ireturn, 1) := by decide +kernel
theorem dX5_until_0 : decode cX5_until 0 = .ok (.iconst 1, 1) := by decide +kernel
theorem dX5_until_1 : decode cX5_until 1 = .ok (.istore_n 3, 1) := by decide +kernel
theorem dX5_until_2 : decode cX5_until 2 = .ok (.iload_n 3, 1) := by decide +kernel
theorem dX5_until_3 : decode cX5_until 3 = .ok (.iload_n 2, 1) := by decide +kernel
theorem dX5_until_4 : decode cX5_until 4 = .ok (.if_icmp .gt 25, 3) := by decide +kernel
theorem dX5_until_7 : decode cX5_until 7 = .ok (.aload_n 0, 1) := by decide +kernel
theorem dX5_until_8 : decode cX5_until 8 = .ok (.invokevirtual 139, 3) := by decide +kernel
theorem dX5_until_11 : decode cX5_until 11 = .ok (.istore 4, 2) := by decide +kernel
theorem dX5_until_13 : decode cX5_until 13 = .ok (.aload_n 0, 1) := by decide +kernel
theorem dX5_until_14 : decode cX5_until 14 = .ok (.invokevirtual 151, 3) := by decide +kernel
theorem dX5_until_17 : decode cX5_until 17 = .ok (.iload_n 1, 1) := by decide +kernel
theorem dX5_until_18 : decode cX5_until 18 = .ok (.if_icmp .gt 5, 3) := by decide +kernel
theorem dX5_until_21 : decode cX5_until 21 = .ok (.iload_n 3, 1) := by decide +kernel
theorem dX5_until_22 : decode cX5_until 22 = .ok (.ireturn, 1) := by decide +kernel
theorem dX5_until_23 : decode cX5_until 23 = .ok (.iinc 3 1, 3) := by decide +kernel
theorem dX5_until_26 : decode cX5_until 26 = .ok (.goto (-24), 3) := by decide +kernel
theorem dX5_until_29 : decode cX5_until 29 = .ok (.iconst (-1), 1) := by decide +kernel
theorem dX5_until_30 : decode cX5_until 30 = .ok (.ireturn, 1) := by decide +kernel
theorem dX5_ticksUntil_0 : decode cX5_ticksUntil 0 = .ok (.aload_n 0, 1) := by decide +kernel
theorem dX5_ticksUntil_1 : decode cX5_ticksUntil 1 = .ok (.aload_n 0, 1) := by decide +kernel
theorem dX5_ticksUntil_2 : decode cX5_ticksUntil 2 = .ok (.iload_n 1, 1) := by decide +kernel
theorem dX5_ticksUntil_3 : decode cX5_ticksUntil 3 = .ok (.iconst 0, 1) := by decide +kernel
theorem dX5_ticksUntil_4 : decode cX5_ticksUntil 4 = .ok (.bipush 10, 2) := by decide +kernel
theorem dX5_ticksUntil_6 : decode cX5_ticksUntil 6 = .ok (.invokestatic 39, 3) := by decide +kernel
theorem dX5_ticksUntil_9 : decode cX5_ticksUntil 9 = .ok (.ifCond .eq 14, 3) := by decide +kernel
theorem dX5_ticksUntil_12 : decode cX5_ticksUntil 12 = .ok (.iload_n 2, 1) := by decide +kernel
theorem dX5_ticksUntil_13 : decode cX5_ticksUntil 13 = .ok (.invokestatic 160, 3) := by decide +kernel
theorem dX5_ticksUntil_16 : decode cX5_ticksUntil 16 = .ok (.ifCond .eq 7, 3) := by decide +kernel
theorem dX5_ticksUntil_19 : decode cX5_ticksUntil 19 = .ok (.iconst 1, 1) := by decide +kernel
theorem dX5_ticksUntil_20 : decode cX5_ticksUntil 20 = .ok (.goto 4, 3) := by decide +kernel
theorem dX5_ticksUntil_23 : decode cX5_ticksUntil 23 = .ok (.iconst 0, 1) := by decide +kernel
theorem dX5_ticksUntil_24 : decode cX5_ticksUntil 24 = .ok (.invokevirtual 94, 3) := by decide +kernel
theorem dX5_ticksUntil_27 : decode cX5_ticksUntil 27 = .ok (.invokevirtual 46, 3) := by decide +kernel
theorem dX5_ticksUntil_30 : decode cX5_ticksUntil 30 = .ok (.ifCond .eq 5, 3) := by decide +kernel
theorem dX5_ticksUntil_33 : decode cX5_ticksUntil 33 = .ok (.iconst 0, 1) := by decide +kernel
theorem dX5_ticksUntil_34 : decode cX5_ticksUntil 34 = .ok (.ireturn, 1) := by decide +kernel
theorem dX5_ticksUntil_35 : decode cX5_ticksUntil 35 = .ok (.aload_n 0, 1) := by decide +kernel
theorem dX5_ticksUntil_36 : decode cX5_ticksUntil 36 = .ok (.invokevirtual 163, 3) := by decide +kernel
theorem dX5_ticksUntil_39 : decode cX5_ticksUntil 39 = .ok (.aload_n 0, 1) := by decide +kernel
theorem dX5_ticksUntil_40 : decode cX5_ticksUntil 40 = .ok (.iload_n 1, 1) := by decide +kernel
theorem dX5_ticksUntil_41 : decode cX5_ticksUntil 41 = .ok (.iload_n 2, 1) := by decide +kernel
theorem dX5_ticksUntil_42 : decode cX5_ticksUntil 42 = .ok (.invokevirtual 166, 3) := by decide +kernel
theorem dX5_ticksUntil_45 : decode cX5_ticksUntil 45 = .ok (.istore_n 3, 1) := by decide +kernel
theorem dX5_ticksUntil_46 : decode cX5_ticksUntil 46 = .ok (.aload_n 0, 1) := by decide +kernel
theorem dX5_ticksUntil_47 : decode cX5_ticksUntil 47 = .ok (.invokevirtual 169, 3) := by decide +kernel
theorem dX5_ticksUntil_50 : decode cX5_ticksUntil 50 = .ok (.iload_n 3, 1) := by decide +kernel
theorem dX5_ticksUntil_51 : decode cX5_ticksUntil 51 = .ok (.ireturn, 1) := by decide +kernel
theorem dX5_groupsAfter_0 : decode cX5_groupsAfter 0 = .ok (.aload_n 0, 1) := by decide +kernel
theorem dX5_groupsAfter_1 : decode cX5_groupsAfter 1 = .ok (.aload_n 0, 1) := by decide +kernel
theorem dX5_groupsAfter_2 : decode cX5_groupsAfter 2 = .ok (.iload_n 1, 1) := by decide +kernel
theorem dX5_groupsAfter_3 : decode cX5_groupsAfter 3 = .ok (.invokestatic 160, 3) := by decide +kernel
theorem dX5_groupsAfter_6 : decode cX5_groupsAfter 6 = .ok (.invokevirtual 94, 3) := by decide +kernel
theorem dX5_groupsAfter_9 : decode cX5_groupsAfter 9 = .ok (.invokevirtual 46, 3) := by decide +kernel
theorem dX5_groupsAfter_12 : decode cX5_groupsAfter 12 = .ok (.ifCond .eq 5, 3) := by decide +kernel
theorem dX5_groupsAfter_15 : decode cX5_groupsAfter 15 = .ok (.iconst 0, 1) := by decide +kernel
theorem dX5_groupsAfter_16 : decode cX5_groupsAfter 16 = .ok (.ireturn, 1) := by decide +kernel
theorem dX5_groupsAfter_17 : decode cX5_groupsAfter 17 = .ok (.aload_n 0, 1) := by decide +kernel
theorem dX5_groupsAfter_18 : decode cX5_groupsAfter 18 = .ok (.invokevirtual 163, 3) := by decide +kernel
theorem dX5_groupsAfter_21 : decode cX5_groupsAfter 21 = .ok (.aload_n 0, 1) := by decide +kernel
theorem dX5_groupsAfter_22 : decode cX5_groupsAfter 22 = .ok (.iload_n 1, 1) := by decide +kernel
theorem dX5_groupsAfter_23 : decode cX5_groupsAfter 23 = .ok (.invokevirtual 142, 3) := by decide +kernel
theorem dX5_groupsAfter_26 : decode cX5_groupsAfter 26 = .ok (.istore_n 2, 1) := by decide +kernel
theorem dX5_groupsAfter_27 : decode cX5_groupsAfter 27 = .ok (.aload_n 0, 1) := by decide +kernel
theorem dX5_groupsAfter_28 : decode cX5_groupsAfter 28 = .ok (.invokevirtual 151, 3) := by decide +kernel
theorem dX5_groupsAfter_31 : decode cX5_groupsAfter 31 = .ok (.istore_n 3, 1) := by decide +kernel
theorem dX5_groupsAfter_32 : decode cX5_groupsAfter 32 = .ok (.aload_n 0, 1) := by decide +kernel
theorem dX5_groupsAfter_33 : decode cX5_groupsAfter 33 = .ok (.invokevirtual 169, 3) := by decide +kernel
theorem dX5_groupsAfter_36 : decode cX5_groupsAfter 36 = .ok (.iload_n 3, 1) := by decide +kernel
theorem dX5_groupsAfter_37 : decode cX5_groupsAfter 37 = .ok (.ireturn, 1) := by decide +kernel
theorem dX5_keepsSituation_0 : decode cX5_keepsSituation 0 = .ok (.iconst 0, 1) := by decide +kernel
theorem dX5_keepsSituation_1 : decode cX5_keepsSituation 1 = .ok (.istore_n 2, 1) := by decide +kernel
theorem dX5_keepsSituation_2 : decode cX5_keepsSituation 2 = .ok (.iload_n 2, 1) := by decide +kernel
theorem dX5_keepsSituation_3 : decode cX5_keepsSituation 3 = .ok (.bipush 10, 2) := by decide +kernel
theorem dX5_keepsSituation_5 : decode cX5_keepsSituation 5 = .ok (.if_icmp .ge 130, 3) := by decide +kernel
theorem dX5_keepsSituation_8 : decode cX5_keepsSituation 8 = .ok (.iload_n 2, 1) := by decide +kernel
theorem dX5_keepsSituation_9 : decode cX5_keepsSituation 9 = .ok (.aload_n 0, 1) := by decide +kernel
theorem dX5_keepsSituation_10 : decode cX5_keepsSituation 10 = .ok (.getfield 7, 3) := by decide +kernel
theorem dX5_keepsSituation_13 : decode cX5_keepsSituation 13 = .ok (.iconst 5, 1) := by decide +kernel
theorem dX5_keepsSituation_14 : decode cX5_keepsSituation 14 = .ok (.iaload, 1) := by decide +kernel
theorem dX5_keepsSituation_15 : decode cX5_keepsSituation 15 = .ok (.if_icmp .lt 7, 3) := by decide +kernel
theorem dX5_keepsSituation_18 : decode cX5_keepsSituation 18 = .ok (.iconst 1, 1) := by decide +kernel
theorem dX5_keepsSituation_19 : decode cX5_keepsSituation 19 = .ok (.goto 53, 3) := by decide +kernel
theorem dX5_keepsSituation_22 : decode cX5_keepsSituation 22 = .ok (.aload_n 0, 1) := by decide +kernel
theorem dX5_keepsSituation_23 : decode cX5_keepsSituation 23 = .ok (.getfield 7, 3) := by decide +kernel
theorem dX5_keepsSituation_26 : decode cX5_keepsSituation 26 = .ok (.bipush 28, 2) := by decide +kernel
theorem dX5_keepsSituation_28 : decode cX5_keepsSituation 28 = .ok (.iload_n 2, 1) := by decide +kernel
theorem dX5_keepsSituation_29 : decode cX5_keepsSituation 29 = .ok (.iadd, 1) := by decide +kernel
theorem dX5_keepsSituation_30 : decode cX5_keepsSituation 30 = .ok (.iaload, 1) := by decide +kernel
theorem dX5_keepsSituation_31 : decode cX5_keepsSituation 31 = .ok (.iconst 1, 1) := by decide +kernel
theorem dX5_keepsSituation_32 : decode cX5_keepsSituation 32 = .ok (.if_icmp .ne 15, 3) := by decide +kernel
theorem dX5_keepsSituation_35 : decode cX5_keepsSituation 35 = .ok (.aload_n 0, 1) := by decide +kernel
theorem dX5_keepsSituation_36 : decode cX5_keepsSituation 36 = .ok (.getfield 7, 3) := by decide +kernel
theorem dX5_keepsSituation_39 : decode cX5_keepsSituation 39 = .ok (.bipush 38, 2) := by decide +kernel
theorem dX5_keepsSituation_41 : decode cX5_keepsSituation 41 = .ok (.iload_n 2, 1) := by decide +kernel
theorem dX5_keepsSituation_42 : decode cX5_keepsSituation 42 = .ok (.iadd, 1) := by decide +kernel
theorem dX5_keepsSituation_43 : decode cX5_keepsSituation 43 = .ok (.iaload, 1) := by decide +kernel
theorem dX5_keepsSituation_44 : decode cX5_keepsSituation 44 = .ok (.goto 28, 3) := by decide +kernel
theorem dX5_keepsSituation_47 : decode cX5_keepsSituation 47 = .ok (.aload_n 0, 1) := by decide +kernel
theorem dX5_keepsSituation_48 : decode cX5_keepsSituation 48 = .ok (.getfield 7, 3) := by decide +kernel
theorem dX5_keepsSituation_51 : decode cX5_keepsSituation 51 = .ok (.bipush 18, 2) := by decide +kernel
theorem dX5_keepsSituation_53 : decode cX5_keepsSituation 53 = .ok (.iload_n 2, 1) := by decide +kernel
theorem dX5_keepsSituation_54 : decode cX5_keepsSituation 54 = .ok (.iadd, 1) := by decide +kernel
theorem dX5_keepsSituation_55 : decode cX5_keepsSituation 55 = .ok (.iaload, 1) := by decide +kernel
theorem dX5_keepsSituation_56 : decode cX5_keepsSituation 56 = .ok (.ifCond .ne 7, 3) := by decide +kernel
theorem dX5_keepsSituation_59 : decode cX5_keepsSituation 59 = .ok (.iconst 1, 1) := by decide +kernel
theorem dX5_keepsSituation_60 : decode cX5_keepsSituation 60 = .ok (.goto 12, 3) := by decide +kernel
theorem dX5_keepsSituation_63 : decode cX5_keepsSituation 63 = .ok (.aload_n 0, 1) := by decide +kernel
theorem dX5_keepsSituation_64 : decode cX5_keepsSituation 64 = .ok (.getfield 7, 3) := by decide +kernel
theorem dX5_keepsSituation_67 : decode cX5_keepsSituation 67 = .ok (.bipush 18, 2) := by decide +kernel
theorem dX5_keepsSituation_69 : decode cX5_keepsSituation 69 = .ok (.iload_n 2, 1) := by decide +kernel
theorem dX5_keepsSituation_70 : decode cX5_keepsSituation 70 = .ok (.iadd, 1) := by decide +kernel
theorem dX5_keepsSituation_71 : decode cX5_keepsSituation 71 = .ok (.iaload, 1) := by decide +kernel
theorem dX5_keepsSituation_72 : decode cX5_keepsSituation 72 = .ok (.istore_n 3, 1) := by decide +kernel
theorem dX5_keepsSituation_73 : decode cX5_keepsSituation 73 = .ok (.aload_n 0, 1) := by decide +kernel
theorem dX5_keepsSituation_74 : decode cX5_keepsSituation 74 = .ok (.getfield 29, 3) := by decide +kernel
theorem dX5_keepsSituation_77 : decode cX5_keepsSituation 77 = .ok (.bipush 120, 2) := by decide +kernel
theorem dX5_keepsSituation_79 : decode cX5_keepsSituation 79 = .ok (.iload_n 1, 1) := by decide +kernel
theorem dX5_keepsSituation_80 : decode cX5_keepsSituation 80 = .ok (.imul, 1) := by decide +kernel
theorem dX5_keepsSituation_81 : decode cX5_keepsSituation 81 = .ok (.iload_n 2, 1) := by decide +kernel
theorem dX5_keepsSituation_82 : decode cX5_keepsSituation 82 = .ok (.iadd, 1) := by decide +kernel
theorem dX5_keepsSituation_83 : decode cX5_keepsSituation 83 = .ok (.iload_n 2, 1) := by decide +kernel
theorem dX5_keepsSituation_84 : decode cX5_keepsSituation 84 = .ok (.aload_n 0, 1) := by decide +kernel
theorem dX5_keepsSituation_85 : decode cX5_keepsSituation 85 = .ok (.getfield 7, 3) := by decide +kernel
theorem dX5_keepsSituation_88 : decode cX5_keepsSituation 88 = .ok (.iconst 5, 1) := by decide +kernel
theorem dX5_keepsSituation_89 : decode cX5_keepsSituation 89 = .ok (.iaload, 1) := by decide +kernel
theorem dX5_keepsSituation_90 : decode cX5_keepsSituation 90 = .ok (.if_icmp .ge 15, 3) := by decide +kernel
theorem dX5_keepsSituation_93 : decode cX5_keepsSituation 93 = .ok (.aload_n 0, 1) := by decide +kernel
theorem dX5_keepsSituation_94 : decode cX5_keepsSituation 94 = .ok (.getfield 7, 3) := by decide +kernel
theorem dX5_keepsSituation_97 : decode cX5_keepsSituation 97 = .ok (.bipush 8, 2) := by decide +kernel
theorem dX5_keepsSituation_99 : decode cX5_keepsSituation 99 = .ok (.iload_n 2, 1) := by decide +kernel
theorem dX5_keepsSituation_100 : decode cX5_keepsSituation 100 = .ok (.iadd, 1) := by decide +kernel
theorem dX5_keepsSituation_101 : decode cX5_keepsSituation 101 = .ok (.iaload, 1) := by decide +kernel
theorem dX5_keepsSituation_102 : decode cX5_keepsSituation 102 = .ok (.goto 4, 3) := by decide +kernel
theorem dX5_keepsSituation_105 : decode cX5_keepsSituation 105 = .ok (.iconst 0, 1) := by decide +kernel
theorem dX5_keepsSituation_106 : decode cX5_keepsSituation 106 = .ok (.iastore, 1) := by decide +kernel
theorem dX5_keepsSituation_107 : decode cX5_keepsSituation 107 = .ok (.aload_n 0, 1) := by decide +kernel
theorem dX5_keepsSituation_108 : decode cX5_keepsSituation 108 = .ok (.getfield 29, 3) := by decide +kernel
theorem dX5_keepsSituation_111 : decode cX5_keepsSituation 111 = .ok (.bipush 120, 2) := by decide +kernel
theorem dX5_keepsSituation_113 : decode cX5_keepsSituation 113 = .ok (.iload_n 1, 1) := by decide +kernel
theorem dX5_keepsSituation_114 : decode cX5_keepsSituation 114 = .ok (.imul, 1) := by decide +kernel
theorem dX5_keepsSituation_115 : decode cX5_keepsSituation 115 = .ok (.bipush 10, 2) := by decide +kernel
theorem dX5_keepsSituation_117 : decode cX5_keepsSituation 117 = .ok (.iadd, 1) := by decide +kernel
theorem dX5_keepsSituation_118 : decode cX5_keepsSituation 118 = .ok (.iload_n 2, 1) := by decide +kernel
theorem dX5_keepsSituation_119 : decode cX5_keepsSituation 119 = .ok (.iadd, 1) := by decide +kernel
theorem dX5_keepsSituation_120 : decode cX5_keepsSituation 120 = .ok (.aload_n 0, 1) := by decide +kernel
theorem dX5_keepsSituation_121 : decode cX5_keepsSituation 121 = .ok (.getfield 7, 3) := by decide +kernel
theorem dX5_keepsSituation_124 : decode cX5_keepsSituation 124 = .ok (.iconst 4, 1) := by decide +kernel
theorem dX5_keepsSituation_125 : decode cX5_keepsSituation 125 = .ok (.iaload, 1) := by decide +kernel
theorem dX5_keepsSituation_126 : decode cX5_keepsSituation 126 = .ok (.iload_n 3, 1) := by decide +kernel
theorem dX5_keepsSituation_127 : decode cX5_keepsSituation 127 = .ok (.irem, 1) := by decide +kernel
theorem dX5_keepsSituation_128 : decode cX5_keepsSituation 128 = .ok (.iastore, 1) := by decide +kernel
theorem dX5_keepsSituation_129 : decode cX5_keepsSituation 129 = .ok (.iinc 2 1, 3) := by decide +kernel
theorem dX5_keepsSituation_132 : decode cX5_keepsSituation 132 = .ok (.goto (-130), 3) := by decide +kernel
theorem dX5_keepsSituation_135 : decode cX5_keepsSituation 135 = .ok (.iconst 0, 1) := by decide +kernel
theorem dX5_keepsSituation_136 : decode cX5_keepsSituation 136 = .ok (.istore_n 2, 1) := by decide +kernel
theorem dX5_keepsSituation_137 : decode cX5_keepsSituation 137 = .ok (.iload_n 2, 1) := by decide +kernel
theorem dX5_keepsSituation_138 : decode cX5_keepsSituation 138 = .ok (.bipush 100, 2) := by decide +kernel
theorem dX5_keepsSituation_140 : decode cX5_keepsSituation 140 = .ok (.if_icmp .ge 33, 3) := by decide +kernel
theorem dX5_keepsSituation_143 : decode cX5_keepsSituation 143 = .ok (.aload_n 0, 1) := by decide +kernel
theorem dX5_keepsSituation_144 : decode cX5_keepsSituation 144 = .ok (.getfield 29, 3) := by decide +kernel
theorem dX5_keepsSituation_147 : decode cX5_keepsSituation 147 = .ok (.bipush 120, 2) := by decide +kernel
theorem dX5_keepsSituation_149 : decode cX5_keepsSituation 149 = .ok (.iload_n 1, 1) := by decide +kernel
theorem dX5_keepsSituation_150 : decode cX5_keepsSituation 150 = .ok (.imul, 1) := by decide +kernel
theorem dX5_keepsSituation_151 : decode cX5_keepsSituation 151 = .ok (.bipush 20, 2) := by decide +kernel
theorem dX5_keepsSituation_153 : decode cX5_keepsSituation 153 = .ok (.iadd, 1) := by decide +kernel
theorem dX5_keepsSituation_154 : decode cX5_keepsSituation 154 = .ok (.iload_n 2, 1) := by decide +kernel
theorem dX5_keepsSituation_155 : decode cX5_keepsSituation 155 = .ok (.iadd, 1) := by decide +kernel
theorem dX5_keepsSituation_156 : decode cX5_keepsSituation 156 = .ok (.aload_n 0, 1) := by decide +kernel
theorem dX5_keepsSituation_157 : decode cX5_keepsSituation 157 = .ok (.getfield 7, 3) := by decide +kernel
theorem dX5_keepsSituation_160 : decode cX5_keepsSituation 160 = .ok (.sipush 158, 3) := by decide +kernel
theorem dX5_keepsSituation_163 : decode cX5_keepsSituation 163 = .ok (.iload_n 2, 1) := by decide +kernel
theorem dX5_keepsSituation_164 : decode cX5_keepsSituation 164 = .ok (.iadd, 1) := by decide +kernel
theorem dX5_keepsSituation_165 : decode cX5_keepsSituation 165 = .ok (.iaload, 1) := by decide +kernel
theorem dX5_keepsSituation_166 : decode cX5_keepsSituation 166 = .ok (.iastore, 1) := by decide +kernel
theorem dX5_keepsSituation_167 : decode cX5_keepsSituation 167 = .ok (.iinc 2 1, 3) := by decide +kernel
theorem dX5_keepsSituation_170 : decode cX5_keepsSituation 170 = .ok (.goto (-33), 3) := by decide +kernel
theorem dX5_keepsSituation_173 : decode cX5_keepsSituation 173 = .ok (.return_, 1) := by decide +kernel
theorem dX5_areAlike_0 : decode cX5_areAlike 0 = .ok (.iconst 1, 1) := by decide +kernel
theorem dX5_areAlike_1 : decode cX5_areAlike 1 = .ok (.istore_n 3, 1) := by decide +kernel
theorem dX5_areAlike_2 : decode cX5_areAlike 2 = .ok (.iconst 0, 1) := by decide +kernel
theorem dX5_areAlike_3 : decode cX5_areAlike 3 = .ok (.istore 4, 2) := by decide +kernel
theorem dX5_areAlike_5 : decode cX5_areAlike 5 = .ok (.iload 4, 2) := by decide +kernel
theorem dX5_areAlike_7 : decode cX5_areAlike 7 = .ok (.bipush 120, 2) := by decide +kernel
theorem dX5_areAlike_9 : decode cX5_areAlike 9 = .ok (.if_icmp .ge 46, 3) := by decide +kernel
theorem dX5_areAlike_12 : decode cX5_areAlike 12 = .ok (.iload_n 3, 1) := by decide +kernel
theorem dX5_areAlike_13 : decode cX5_areAlike 13 = .ok (.ifCond .eq 42, 3) := by decide +kernel
theorem dX5_areAlike_16 : decode cX5_areAlike 16 = .ok (.aload_n 0, 1) := by decide +kernel
theorem dX5_areAlike_17 : decode cX5_areAlike 17 = .ok (.getfield 29, 3) := by decide +kernel
theorem dX5_areAlike_20 : decode cX5_areAlike 20 = .ok (.bipush 120, 2) := by decide +kernel
theorem dX5_areAlike_22 : decode cX5_areAlike 22 = .ok (.iload_n 1, 1) := by decide +kernel
theorem dX5_areAlike_23 : decode cX5_areAlike 23 = .ok (.imul, 1) := by decide +kernel
theorem dX5_areAlike_24 : decode cX5_areAlike 24 = .ok (.iload 4, 2) := by decide +kernel
theorem dX5_areAlike_26 : decode cX5_areAlike 26 = .ok (.iadd, 1) := by decide +kernel
theorem dX5_areAlike_27 : decode cX5_areAlike 27 = .ok (.iaload, 1) := by decide +kernel
theorem dX5_areAlike_28 : decode cX5_areAlike 28 = .ok (.aload_n 0, 1) := by decide +kernel
theorem dX5_areAlike_29 : decode cX5_areAlike 29 = .ok (.getfield 29, 3) := by decide +kernel
theorem dX5_areAlike_32 : decode cX5_areAlike 32 = .ok (.bipush 120, 2) := by decide +kernel
theorem dX5_areAlike_34 : decode cX5_areAlike 34 = .ok (.iload_n 2, 1) := by decide +kernel
theorem dX5_areAlike_35 : decode cX5_areAlike 35 = .ok (.imul, 1) := by decide +kernel
theorem dX5_areAlike_36 : decode cX5_areAlike 36 = .ok (.iload 4, 2) := by decide +kernel
theorem dX5_areAlike_38 : decode cX5_areAlike 38 = .ok (.iadd, 1) := by decide +kernel
theorem dX5_areAlike_39 : decode cX5_areAlike 39 = .ok (.iaload, 1) := by decide +kernel
theorem dX5_areAlike_40 : decode cX5_areAlike 40 = .ok (.if_icmp .ne 7, 3) := by decide +kernel
theorem dX5_areAlike_43 : decode cX5_areAlike 43 = .ok (.iconst 1, 1) := by decide +kernel
theorem dX5_areAlike_44 : decode cX5_areAlike 44 = .ok (.goto 4, 3) := by decide +kernel
theorem dX5_areAlike_47 : decode cX5_areAlike 47 = .ok (.iconst 0, 1) := by decide +kernel
theorem dX5_areAlike_48 : decode cX5_areAlike 48 = .ok (.istore_n 3, 1) := by decide +kernel
theorem dX5_areAlike_49 : decode cX5_areAlike 49 = .ok (.iinc 4 1, 3) := by decide +kernel
theorem dX5_areAlike_52 : decode cX5_areAlike 52 = .ok (.goto (-47), 3) := by decide +kernel
theorem dX5_areAlike_55 : decode cX5_areAlike 55 = .ok (.iload_n 3, 1) := by decide +kernel
theorem dX5_areAlike_56 : decode cX5_areAlike 56 = .ok (.ireturn, 1) := by decide +kernel
theorem dX5_repeats_0 : decode cX5_repeats 0 = .ok (.aload_n 0, 1) := by decide +kernel
theorem dX5_repeats_1 : decode cX5_repeats 1 = .ok (.aload_n 0, 1) := by decide +kernel
theorem dX5_repeats_2 : decode cX5_repeats 2 = .ok (.iload_n 1, 1) := by decide +kernel
theorem dX5_repeats_3 : decode cX5_repeats 3 = .ok (.invokestatic 160, 3) := by decide +kernel
theorem dX5_repeats_6 : decode cX5_repeats 6 = .ok (.invokevirtual 94, 3) := by decide +kernel
theorem dX5_repeats_9 : decode cX5_repeats 9 = .ok (.invokevirtual 46, 3) := by decide +kernel
theorem dX5_repeats_12 : decode cX5_repeats 12 = .ok (.ifCond .eq 5, 3) := by decide +kernel
theorem dX5_repeats_15 : decode cX5_repeats 15 = .ok (.iconst 0, 1) := by decide +kernel
theorem dX5_repeats_16 : decode cX5_repeats 16 = .ok (.ireturn, 1) := by decide +kernel
theorem dX5_repeats_17 : decode cX5_repeats 17 = .ok (.aload_n 0, 1) := by decide +kernel
theorem dX5_repeats_18 : decode cX5_repeats 18 = .ok (.invokevirtual 163, 3) := by decide +kernel
theorem dX5_repeats_21 : decode cX5_repeats 21 = .ok (.aload_n 0, 1) := by decide +kernel
theorem dX5_repeats_22 : decode cX5_repeats 22 = .ok (.iconst 0, 1) := by decide +kernel
theorem dX5_repeats_23 : decode cX5_repeats 23 = .ok (.invokevirtual 172, 3) := by decide +kernel
theorem dX5_repeats_26 : decode cX5_repeats 26 = .ok (.iconst (-1), 1) := by decide +kernel
theorem dX5_repeats_27 : decode cX5_repeats 27 = .ok (.istore_n 3, 1) := by decide +kernel
theorem dX5_repeats_28 : decode cX5_repeats 28 = .ok (.iconst 0, 1) := by decide +kernel
theorem dX5_repeats_29 : decode cX5_repeats 29 = .ok (.istore 4, 2) := by decide +kernel
theorem dX5_repeats_31 : decode cX5_repeats 31 = .ok (.iload 4, 2) := by decide +kernel
theorem dX5_repeats_33 : decode cX5_repeats 33 = .ok (.iload_n 1, 1) := by decide +kernel
theorem dX5_repeats_34 : decode cX5_repeats 34 = .ok (.if_icmp .ge 65, 3) := by decide +kernel
theorem dX5_repeats_37 : decode cX5_repeats 37 = .ok (.iload_n 3, 1) := by decide +kernel
theorem dX5_repeats_38 : decode cX5_repeats 38 = .ok (.iconst (-1), 1) := by decide +kernel
theorem dX5_repeats_39 : decode cX5_repeats 39 = .ok (.if_icmp .ne 60, 3) := by decide +kernel
theorem dX5_repeats_42 : decode cX5_repeats 42 = .ok (.iinc 4 1, 3) := by decide +kernel
theorem dX5_repeats_45 : decode cX5_repeats 45 = .ok (.aload_n 0, 1) := by decide +kernel
theorem dX5_repeats_46 : decode cX5_repeats 46 = .ok (.invokevirtual 139, 3) := by decide +kernel
theorem dX5_repeats_49 : decode cX5_repeats 49 = .ok (.istore 5, 2) := by decide +kernel
theorem dX5_repeats_51 : decode cX5_repeats 51 = .ok (.aload_n 0, 1) := by decide +kernel
theorem dX5_repeats_52 : decode cX5_repeats 52 = .ok (.iload 4, 2) := by decide +kernel
theorem dX5_repeats_54 : decode cX5_repeats 54 = .ok (.invokevirtual 172, 3) := by decide +kernel
theorem dX5_repeats_57 : decode cX5_repeats 57 = .ok (.iconst 0, 1) := by decide +kernel
theorem dX5_repeats_58 : decode cX5_repeats 58 = .ok (.istore 6, 2) := by decide +kernel
theorem dX5_repeats_60 : decode cX5_repeats 60 = .ok (.iload 6, 2) := by decide +kernel
theorem dX5_repeats_62 : decode cX5_repeats 62 = .ok (.iload 4, 2) := by decide +kernel
theorem dX5_repeats_64 : decode cX5_repeats 64 = .ok (.if_icmp .ge 32, 3) := by decide +kernel
theorem dX5_repeats_67 : decode cX5_repeats 67 = .ok (.iload_n 3, 1) := by decide +kernel
theorem dX5_repeats_68 : decode cX5_repeats 68 = .ok (.iconst (-1), 1) := by decide +kernel
theorem dX5_repeats_69 : decode cX5_repeats 69 = .ok (.if_icmp .ne 27, 3) := by decide +kernel
theorem dX5_repeats_72 : decode cX5_repeats 72 = .ok (.aload_n 0, 1) := by decide +kernel
theorem dX5_repeats_73 : decode cX5_repeats 73 = .ok (.iload 6, 2) := by decide +kernel
theorem dX5_repeats_75 : decode cX5_repeats 75 = .ok (.iload 4, 2) := by decide +kernel
theorem dX5_repeats_77 : decode cX5_repeats 77 = .ok (.invokevirtual 175, 3) := by decide +kernel
theorem dX5_repeats_80 : decode cX5_repeats 80 = .ok (.ifCond .eq 8, 3) := by decide +kernel
theorem dX5_repeats_83 : decode cX5_repeats 83 = .ok (.iload 6, 2) := by decide +kernel
theorem dX5_repeats_85 : decode cX5_repeats 85 = .ok (.goto 4, 3) := by decide +kernel
theorem dX5_repeats_88 : decode cX5_repeats 88 = .ok (.iconst (-1), 1) := by decide +kernel
theorem dX5_repeats_89 : decode cX5_repeats 89 = .ok (.istore_n 3, 1) := by decide +kernel
theorem dX5_repeats_90 : decode cX5_repeats 90 = .ok (.iinc 6 1, 3) := by decide +kernel
theorem dX5_repeats_93 : decode cX5_repeats 93 = .ok (.goto (-33), 3) := by decide +kernel
theorem dX5_repeats_96 : decode cX5_repeats 96 = .ok (.goto (-65), 3) := by decide +kernel
theorem dX5_repeats_99 : decode cX5_repeats 99 = .ok (.aload_n 0, 1) := by decide +kernel
theorem dX5_repeats_100 : decode cX5_repeats 100 = .ok (.invokevirtual 169, 3) := by decide +kernel
theorem dX5_repeats_103 : decode cX5_repeats 103 = .ok (.iload_n 3, 1) := by decide +kernel
theorem dX5_repeats_104 : decode cX5_repeats 104 = .ok (.iconst (-1), 1) := by decide +kernel
theorem dX5_repeats_105 : decode cX5_repeats 105 = .ok (.if_icmp .ne 7, 3) := by decide +kernel
theorem dX5_repeats_108 : decode cX5_repeats 108 = .ok (.iconst (-1), 1) := by decide +kernel
theorem dX5_repeats_109 : decode cX5_repeats 109 = .ok (.goto 15, 3) := by decide +kernel
theorem dX5_repeats_112 : decode cX5_repeats 112 = .ok (.iload_n 2, 1) := by decide +kernel
theorem dX5_repeats_113 : decode cX5_repeats 113 = .ok (.ifCond .eq 7, 3) := by decide +kernel
theorem dX5_repeats_116 : decode cX5_repeats 116 = .ok (.iload_n 3, 1) := by decide +kernel
theorem dX5_repeats_117 : decode cX5_repeats 117 = .ok (.goto 7, 3) := by decide +kernel
theorem dX5_repeats_120 : decode cX5_repeats 120 = .ok (.iload 4, 2) := by decide +kernel
theorem dX5_repeats_122 : decode cX5_repeats 122 = .ok (.iload_n 3, 1) := by decide +kernel
theorem dX5_repeats_123 : decode cX5_repeats 123 = .ok (.isub, 1) := by decide +kernel
theorem dX5_repeats_124 : decode cX5_repeats 124 = .ok (.ireturn, 1) := by decide +kernel
theorem dX5_leastStrength_0 : decode cX5_leastStrength 0 = .ok (.aload_n 0, 1) := by decide +kernel
theorem dX5_leastStrength_1 : decode cX5_leastStrength 1 = .ok (.aload_n 0, 1) := by decide +kernel
theorem dX5_leastStrength_2 : decode cX5_leastStrength 2 = .ok (.iload_n 1, 1) := by decide +kernel
theorem dX5_leastStrength_3 : decode cX5_leastStrength 3 = .ok (.invokestatic 160, 3) := by decide +kernel
theorem dX5_leastStrength_6 : decode cX5_leastStrength 6 = .ok (.invokevirtual 94, 3) := by decide +kernel
theorem dX5_leastStrength_9 : decode cX5_leastStrength 9 = .ok (.invokevirtual 46, 3) := by decide +kernel
theorem dX5_leastStrength_12 : decode cX5_leastStrength 12 = .ok (.ifCond .eq 5, 3) := by decide +kernel
theorem dX5_leastStrength_15 : decode cX5_leastStrength 15 = .ok (.iconst 0, 1) := by decide +kernel
theorem dX5_leastStrength_16 : decode cX5_leastStrength 16 = .ok (.ireturn, 1) := by decide +kernel
theorem dX5_leastStrength_17 : decode cX5_leastStrength 17 = .ok (.iconst (-1), 1) := by decide +kernel
theorem dX5_leastStrength_18 : decode cX5_leastStrength 18 = .ok (.istore_n 2, 1) := by decide +kernel
theorem dX5_leastStrength_19 : decode cX5_leastStrength 19 = .ok (.iconst 0, 1) := by decide +kernel
theorem dX5_leastStrength_20 : decode cX5_leastStrength 20 = .ok (.istore_n 3, 1) := by decide +kernel
theorem dX5_leastStrength_21 : decode cX5_leastStrength 21 = .ok (.iload_n 3, 1) := by decide +kernel
theorem dX5_leastStrength_22 : decode cX5_leastStrength 22 = .ok (.bipush 33, 2) := by decide +kernel
theorem dX5_leastStrength_24 : decode cX5_leastStrength 24 = .ok (.if_icmp .ge 45, 3) := by decide +kernel
theorem dX5_leastStrength_27 : decode cX5_leastStrength 27 = .ok (.iload_n 2, 1) := by decide +kernel
theorem dX5_leastStrength_28 : decode cX5_leastStrength 28 = .ok (.iconst (-1), 1) := by decide +kernel
theorem dX5_leastStrength_29 : decode cX5_leastStrength 29 = .ok (.if_icmp .ne 40, 3) := by decide +kernel
theorem dX5_leastStrength_32 : decode cX5_leastStrength 32 = .ok (.aload_n 0, 1) := by decide +kernel
theorem dX5_leastStrength_33 : decode cX5_leastStrength 33 = .ok (.invokevirtual 163, 3) := by decide +kernel
theorem dX5_leastStrength_36 : decode cX5_leastStrength 36 = .ok (.aload_n 0, 1) := by decide +kernel
theorem dX5_leastStrength_37 : decode cX5_leastStrength 37 = .ok (.getfield 7, 3) := by decide +kernel
theorem dX5_leastStrength_40 : decode cX5_leastStrength 40 = .ok (.iconst 2, 1) := by decide +kernel
theorem dX5_leastStrength_41 : decode cX5_leastStrength 41 = .ok (.iload_n 3, 1) := by decide +kernel
theorem dX5_leastStrength_42 : decode cX5_leastStrength 42 = .ok (.iastore, 1) := by decide +kernel
theorem dX5_leastStrength_43 : decode cX5_leastStrength 43 = .ok (.aload_n 0, 1) := by decide +kernel
theorem dX5_leastStrength_44 : decode cX5_leastStrength 44 = .ok (.iconst 1, 1) := by decide +kernel
theorem dX5_leastStrength_45 : decode cX5_leastStrength 45 = .ok (.iload_n 1, 1) := by decide +kernel
theorem dX5_leastStrength_46 : decode cX5_leastStrength 46 = .ok (.invokevirtual 166, 3) := by decide +kernel
theorem dX5_leastStrength_49 : decode cX5_leastStrength 49 = .ok (.iconst (-1), 1) := by decide +kernel
theorem dX5_leastStrength_50 : decode cX5_leastStrength 50 = .ok (.if_icmp .ne 7, 3) := by decide +kernel
theorem dX5_leastStrength_53 : decode cX5_leastStrength 53 = .ok (.iconst (-1), 1) := by decide +kernel
theorem dX5_leastStrength_54 : decode cX5_leastStrength 54 = .ok (.goto 4, 3) := by decide +kernel
theorem dX5_leastStrength_57 : decode cX5_leastStrength 57 = .ok (.iload_n 3, 1) := by decide +kernel
theorem dX5_leastStrength_58 : decode cX5_leastStrength 58 = .ok (.istore_n 2, 1) := by decide +kernel
theorem dX5_leastStrength_59 : decode cX5_leastStrength 59 = .ok (.aload_n 0, 1) := by decide +kernel
theorem dX5_leastStrength_60 : decode cX5_leastStrength 60 = .ok (.invokevirtual 169, 3) := by decide +kernel
theorem dX5_leastStrength_63 : decode cX5_leastStrength 63 = .ok (.iinc 3 1, 3) := by decide +kernel
theorem dX5_leastStrength_66 : decode cX5_leastStrength 66 = .ok (.goto (-45), 3) := by decide +kernel
theorem dX5_leastStrength_69 : decode cX5_leastStrength 69 = .ok (.iload_n 2, 1) := by decide +kernel
theorem dX5_leastStrength_70 : decode cX5_leastStrength 70 = .ok (.ireturn, 1) := by decide +kernel
theorem dX5_untilWith_0 : decode cX5_untilWith 0 = .ok (.aload_n 0, 1) := by decide +kernel
theorem dX5_untilWith_1 : decode cX5_untilWith 1 = .ok (.invokevirtual 163, 3) := by decide +kernel
theorem dX5_untilWith_4 : decode cX5_untilWith 4 = .ok (.aload_n 0, 1) := by decide +kernel
theorem dX5_untilWith_5 : decode cX5_untilWith 5 = .ok (.getfield 7, 3) := by decide +kernel
theorem dX5_untilWith_8 : decode cX5_untilWith 8 = .ok (.bipush 8, 2) := by decide +kernel
theorem dX5_untilWith_10 : decode cX5_untilWith 10 = .ok (.iload_n 1, 1) := by decide +kernel
theorem dX5_untilWith_11 : decode cX5_untilWith 11 = .ok (.iadd, 1) := by decide +kernel
theorem dX5_untilWith_12 : decode cX5_untilWith 12 = .ok (.iload_n 2, 1) := by decide +kernel
theorem dX5_untilWith_13 : decode cX5_untilWith 13 = .ok (.iastore, 1) := by decide +kernel
theorem dX5_untilWith_14 : decode cX5_untilWith 14 = .ok (.aload_n 0, 1) := by decide +kernel
theorem dX5_untilWith_15 : decode cX5_untilWith 15 = .ok (.iconst 1, 1) := by decide +kernel
theorem dX5_untilWith_16 : decode cX5_untilWith 16 = .ok (.iload_n 3, 1) := by decide +kernel
theorem dX5_untilWith_17 : decode cX5_untilWith 17 = .ok (.invokevirtual 166, 3) := by decide +kernel
theorem dX5_untilWith_20 : decode cX5_untilWith 20 = .ok (.istore 4, 2) := by decide +kernel
theorem dX5_untilWith_22 : decode cX5_untilWith 22 = .ok (.aload_n 0, 1) := by decide +kernel
theorem dX5_untilWith_23 : decode cX5_untilWith 23 = .ok (.invokevirtual 169, 3) := by decide +kernel
theorem dX5_untilWith_26 : decode cX5_untilWith 26 = .ok (.iload 4, 2) := by decide +kernel
theorem dX5_untilWith_28 : decode cX5_untilWith 28 = .ok (.ireturn, 1) := by decide +kernel
theorem dX5_basin_0 : decode cX5_basin 0 = .ok (.aload_n 0, 1) := by decide +kernel
theorem dX5_basin_1 : decode cX5_basin 1 = .ok (.aload_n 0, 1) := by decide +kernel
theorem dX5_basin_2 : decode cX5_basin 2 = .ok (.iload_n 1, 1) := by decide +kernel
theorem dX5_basin_3 : decode cX5_basin 3 = .ok (.invokevirtual 60, 3) := by decide +kernel
theorem dX5_basin_6 : decode cX5_basin 6 = .ok (.ifCond .ne 7, 3) := by decide +kernel
theorem dX5_basin_9 : decode cX5_basin 9 = .ok (.iconst 1, 1) := by decide +kernel
theorem dX5_basin_10 : decode cX5_basin 10 = .ok (.goto 15, 3) := by decide +kernel
theorem dX5_basin_13 : decode cX5_basin 13 = .ok (.iload_n 2, 1) := by decide +kernel
theorem dX5_basin_14 : decode cX5_basin 14 = .ok (.invokestatic 160, 3) := by decide +kernel
theorem dX5_basin_17 : decode cX5_basin 17 = .ok (.ifCond .ne 7, 3) := by decide +kernel
theorem dX5_basin_20 : decode cX5_basin 20 = .ok (.iconst 2, 1) := by decide +kernel
theorem dX5_basin_21 : decode cX5_basin 21 = .ok (.goto 4, 3) := by decide +kernel
theorem dX5_basin_24 : decode cX5_basin 24 = .ok (.iconst 0, 1) := by decide +kernel
theorem dX5_basin_25 : decode cX5_basin 25 = .ok (.invokevirtual 46, 3) := by decide +kernel
theorem dX5_basin_28 : decode cX5_basin 28 = .ok (.ifCond .eq 5, 3) := by decide +kernel
theorem dX5_basin_31 : decode cX5_basin 31 = .ok (.iconst 0, 1) := by decide +kernel
theorem dX5_basin_32 : decode cX5_basin 32 = .ok (.ireturn, 1) := by decide +kernel
theorem dX5_basin_33 : decode cX5_basin 33 = .ok (.iconst 0, 1) := by decide +kernel
theorem dX5_basin_34 : decode cX5_basin 34 = .ok (.istore_n 3, 1) := by decide +kernel
theorem dX5_basin_35 : decode cX5_basin 35 = .ok (.iconst 0, 1) := by decide +kernel
theorem dX5_basin_36 : decode cX5_basin 36 = .ok (.istore 4, 2) := by decide +kernel
theorem dX5_basin_38 : decode cX5_basin 38 = .ok (.iload 4, 2) := by decide +kernel
theorem dX5_basin_40 : decode cX5_basin 40 = .ok (.aload_n 0, 1) := by decide +kernel
theorem dX5_basin_41 : decode cX5_basin 41 = .ok (.getfield 7, 3) := by decide +kernel
theorem dX5_basin_44 : decode cX5_basin 44 = .ok (.iconst 0, 1) := by decide +kernel
theorem dX5_basin_45 : decode cX5_basin 45 = .ok (.iaload, 1) := by decide +kernel
theorem dX5_basin_46 : decode cX5_basin 46 = .ok (.if_icmp .ge 29, 3) := by decide +kernel
theorem dX5_basin_49 : decode cX5_basin 49 = .ok (.iload_n 3, 1) := by decide +kernel
theorem dX5_basin_50 : decode cX5_basin 50 = .ok (.aload_n 0, 1) := by decide +kernel
theorem dX5_basin_51 : decode cX5_basin 51 = .ok (.iload_n 1, 1) := by decide +kernel
theorem dX5_basin_52 : decode cX5_basin 52 = .ok (.iload 4, 2) := by decide +kernel
theorem dX5_basin_54 : decode cX5_basin 54 = .ok (.iload_n 2, 1) := by decide +kernel
theorem dX5_basin_55 : decode cX5_basin 55 = .ok (.invokevirtual 179, 3) := by decide +kernel
theorem dX5_basin_58 : decode cX5_basin 58 = .ok (.iconst (-1), 1) := by decide +kernel
theorem dX5_basin_59 : decode cX5_basin 59 = .ok (.if_icmp .ne 7, 3) := by decide +kernel
theorem dX5_basin_62 : decode cX5_basin 62 = .ok (.iconst 0, 1) := by decide +kernel
theorem dX5_basin_63 : decode cX5_basin 63 = .ok (.goto 4, 3) := by decide +kernel
theorem dX5_basin_66 : decode cX5_basin 66 = .ok (.iconst 1, 1) := by decide +kernel
theorem dX5_basin_67 : decode cX5_basin 67 = .ok (.iadd, 1) := by decide +kernel
theorem dX5_basin_68 : decode cX5_basin 68 = .ok (.istore_n 3, 1) := by decide +kernel
theorem dX5_basin_69 : decode cX5_basin 69 = .ok (.iinc 4 1, 3) := by decide +kernel
theorem dX5_basin_72 : decode cX5_basin 72 = .ok (.goto (-34), 3) := by decide +kernel
theorem dX5_basin_75 : decode cX5_basin 75 = .ok (.iload_n 3, 1) := by decide +kernel
theorem dX5_basin_76 : decode cX5_basin 76 = .ok (.ireturn, 1) := by decide +kernel
theorem dX5_worstPhase_0 : decode cX5_worstPhase 0 = .ok (.aload_n 0, 1) := by decide +kernel
theorem dX5_worstPhase_1 : decode cX5_worstPhase 1 = .ok (.aload_n 0, 1) := by decide +kernel
theorem dX5_worstPhase_2 : decode cX5_worstPhase 2 = .ok (.iload_n 1, 1) := by decide +kernel
theorem dX5_worstPhase_3 : decode cX5_worstPhase 3 = .ok (.invokevirtual 60, 3) := by decide +kernel
theorem dX5_worstPhase_6 : decode cX5_worstPhase 6 = .ok (.ifCond .ne 7, 3) := by decide +kernel
theorem dX5_worstPhase_9 : decode cX5_worstPhase 9 = .ok (.iconst 1, 1) := by decide +kernel
theorem dX5_worstPhase_10 : decode cX5_worstPhase 10 = .ok (.goto 15, 3) := by decide +kernel
theorem dX5_worstPhase_13 : decode cX5_worstPhase 13 = .ok (.iload_n 2, 1) := by decide +kernel
theorem dX5_worstPhase_14 : decode cX5_worstPhase 14 = .ok (.invokestatic 160, 3) := by decide +kernel
theorem dX5_worstPhase_17 : decode cX5_worstPhase 17 = .ok (.ifCond .ne 7, 3) := by decide +kernel
theorem dX5_worstPhase_20 : decode cX5_worstPhase 20 = .ok (.iconst 2, 1) := by decide +kernel
theorem dX5_worstPhase_21 : decode cX5_worstPhase 21 = .ok (.goto 4, 3) := by decide +kernel
theorem dX5_worstPhase_24 : decode cX5_worstPhase 24 = .ok (.iconst 0, 1) := by decide +kernel
theorem dX5_worstPhase_25 : decode cX5_worstPhase 25 = .ok (.invokevirtual 46, 3) := by decide +kernel
theorem dX5_worstPhase_28 : decode cX5_worstPhase 28 = .ok (.ifCond .eq 5, 3) := by decide +kernel
theorem dX5_worstPhase_31 : decode cX5_worstPhase 31 = .ok (.iconst 0, 1) := by decide +kernel
theorem dX5_worstPhase_32 : decode cX5_worstPhase 32 = .ok (.ireturn, 1) := by decide +kernel
theorem dX5_worstPhase_33 : decode cX5_worstPhase 33 = .ok (.iconst 0, 1) := by decide +kernel
theorem dX5_worstPhase_34 : decode cX5_worstPhase 34 = .ok (.istore_n 3, 1) := by decide +kernel
theorem dX5_worstPhase_35 : decode cX5_worstPhase 35 = .ok (.iconst 0, 1) := by decide +kernel
theorem dX5_worstPhase_36 : decode cX5_worstPhase 36 = .ok (.istore 4, 2) := by decide +kernel
theorem dX5_worstPhase_38 : decode cX5_worstPhase 38 = .ok (.iconst 0, 1) := by decide +kernel
theorem dX5_worstPhase_39 : decode cX5_worstPhase 39 = .ok (.istore 5, 2) := by decide +kernel
theorem dX5_worstPhase_41 : decode cX5_worstPhase 41 = .ok (.iload 5, 2) := by decide +kernel
theorem dX5_worstPhase_43 : decode cX5_worstPhase 43 = .ok (.aload_n 0, 1) := by decide +kernel
theorem dX5_worstPhase_44 : decode cX5_worstPhase 44 = .ok (.getfield 7, 3) := by decide +kernel
theorem dX5_worstPhase_47 : decode cX5_worstPhase 47 = .ok (.iconst 0, 1) := by decide +kernel
theorem dX5_worstPhase_48 : decode cX5_worstPhase 48 = .ok (.iaload, 1) := by decide +kernel
theorem dX5_worstPhase_49 : decode cX5_worstPhase 49 = .ok (.if_icmp .ge 65, 3) := by decide +kernel
theorem dX5_worstPhase_52 : decode cX5_worstPhase 52 = .ok (.aload_n 0, 1) := by decide +kernel
theorem dX5_worstPhase_53 : decode cX5_worstPhase 53 = .ok (.iload_n 1, 1) := by decide +kernel
theorem dX5_worstPhase_54 : decode cX5_worstPhase 54 = .ok (.iload 5, 2) := by decide +kernel
theorem dX5_worstPhase_56 : decode cX5_worstPhase 56 = .ok (.iload_n 2, 1) := by decide +kernel
theorem dX5_worstPhase_57 : decode cX5_worstPhase 57 = .ok (.invokevirtual 179, 3) := by decide +kernel
theorem dX5_worstPhase_60 : decode cX5_worstPhase 60 = .ok (.istore 6, 2) := by decide +kernel
theorem dX5_worstPhase_62 : decode cX5_worstPhase 62 = .ok (.iload 6, 2) := by decide +kernel
theorem dX5_worstPhase_64 : decode cX5_worstPhase 64 = .ok (.iconst (-1), 1) := by decide +kernel
theorem dX5_worstPhase_65 : decode cX5_worstPhase 65 = .ok (.if_icmp .ne 9, 3) := by decide +kernel
theorem dX5_worstPhase_68 : decode cX5_worstPhase 68 = .ok (.sipush 1000, 3) := by decide +kernel
theorem dX5_worstPhase_71 : decode cX5_worstPhase 71 = .ok (.goto 5, 3) := by decide +kernel
theorem dX5_worstPhase_74 : decode cX5_worstPhase 74 = .ok (.iload 6, 2) := by decide +kernel
theorem dX5_worstPhase_76 : decode cX5_worstPhase 76 = .ok (.istore 6, 2) := by decide +kernel
theorem dX5_worstPhase_78 : decode cX5_worstPhase 78 = .ok (.iload 6, 2) := by decide +kernel
theorem dX5_worstPhase_80 : decode cX5_worstPhase 80 = .ok (.iload 4, 2) := by decide +kernel
theorem dX5_worstPhase_82 : decode cX5_worstPhase 82 = .ok (.if_icmp .le 8, 3) := by decide +kernel
theorem dX5_worstPhase_85 : decode cX5_worstPhase 85 = .ok (.iload 5, 2) := by decide +kernel
theorem dX5_worstPhase_87 : decode cX5_worstPhase 87 = .ok (.goto 4, 3) := by decide +kernel
theorem dX5_worstPhase_90 : decode cX5_worstPhase 90 = .ok (.iload_n 3, 1) := by decide +kernel
theorem dX5_worstPhase_91 : decode cX5_worstPhase 91 = .ok (.istore_n 3, 1) := by decide +kernel
theorem dX5_worstPhase_92 : decode cX5_worstPhase 92 = .ok (.iload 6, 2) := by decide +kernel
theorem dX5_worstPhase_94 : decode cX5_worstPhase 94 = .ok (.iload 4, 2) := by decide +kernel
theorem dX5_worstPhase_96 : decode cX5_worstPhase 96 = .ok (.if_icmp .le 8, 3) := by decide +kernel
theorem dX5_worstPhase_99 : decode cX5_worstPhase 99 = .ok (.iload 6, 2) := by decide +kernel
theorem dX5_worstPhase_101 : decode cX5_worstPhase 101 = .ok (.goto 5, 3) := by decide +kernel
theorem dX5_worstPhase_104 : decode cX5_worstPhase 104 = .ok (.iload 4, 2) := by decide +kernel
theorem dX5_worstPhase_106 : decode cX5_worstPhase 106 = .ok (.istore 4, 2) := by decide +kernel
theorem dX5_worstPhase_108 : decode cX5_worstPhase 108 = .ok (.iinc 5 1, 3) := by decide +kernel
theorem dX5_worstPhase_111 : decode cX5_worstPhase 111 = .ok (.goto (-70), 3) := by decide +kernel
theorem dX5_worstPhase_114 : decode cX5_worstPhase 114 = .ok (.iload_n 3, 1) := by decide +kernel
theorem dX5_worstPhase_115 : decode cX5_worstPhase 115 = .ok (.ireturn, 1) := by decide +kernel
theorem dX5_blamed_0 : decode cX5_blamed 0 = .ok (.aload_n 0, 1) := by decide +kernel
theorem dX5_blamed_1 : decode cX5_blamed 1 = .ok (.aload_n 0, 1) := by decide +kernel
theorem dX5_blamed_2 : decode cX5_blamed 2 = .ok (.iload_n 1, 1) := by decide +kernel
theorem dX5_blamed_3 : decode cX5_blamed 3 = .ok (.invokestatic 160, 3) := by decide +kernel
theorem dX5_blamed_6 : decode cX5_blamed 6 = .ok (.invokevirtual 94, 3) := by decide +kernel
theorem dX5_blamed_9 : decode cX5_blamed 9 = .ok (.invokevirtual 46, 3) := by decide +kernel
theorem dX5_blamed_12 : decode cX5_blamed 12 = .ok (.ifCond .eq 5, 3) := by decide +kernel
theorem dX5_blamed_15 : decode cX5_blamed 15 = .ok (.iconst 0, 1) := by decide +kernel
theorem dX5_blamed_16 : decode cX5_blamed 16 = .ok (.ireturn, 1) := by decide +kernel
theorem dX5_blamed_17 : decode cX5_blamed 17 = .ok (.iconst (-1), 1) := by decide +kernel
theorem dX5_blamed_18 : decode cX5_blamed 18 = .ok (.istore_n 2, 1) := by decide +kernel
theorem dX5_blamed_19 : decode cX5_blamed 19 = .ok (.iconst 0, 1) := by decide +kernel
theorem dX5_blamed_20 : decode cX5_blamed 20 = .ok (.istore_n 3, 1) := by decide +kernel
theorem dX5_blamed_21 : decode cX5_blamed 21 = .ok (.iload_n 3, 1) := by decide +kernel
theorem dX5_blamed_22 : decode cX5_blamed 22 = .ok (.aload_n 0, 1) := by decide +kernel
theorem dX5_blamed_23 : decode cX5_blamed 23 = .ok (.getfield 7, 3) := by decide +kernel
theorem dX5_blamed_26 : decode cX5_blamed 26 = .ok (.iconst 5, 1) := by decide +kernel
theorem dX5_blamed_27 : decode cX5_blamed 27 = .ok (.iaload, 1) := by decide +kernel
theorem dX5_blamed_28 : decode cX5_blamed 28 = .ok (.if_icmp .ge 61, 3) := by decide +kernel
theorem dX5_blamed_31 : decode cX5_blamed 31 = .ok (.iload_n 2, 1) := by decide +kernel
theorem dX5_blamed_32 : decode cX5_blamed 32 = .ok (.iconst (-1), 1) := by decide +kernel
theorem dX5_blamed_33 : decode cX5_blamed 33 = .ok (.if_icmp .ne 56, 3) := by decide +kernel
theorem dX5_blamed_36 : decode cX5_blamed 36 = .ok (.aload_n 0, 1) := by decide +kernel
theorem dX5_blamed_37 : decode cX5_blamed 37 = .ok (.getfield 7, 3) := by decide +kernel
theorem dX5_blamed_40 : decode cX5_blamed 40 = .ok (.bipush 28, 2) := by decide +kernel
theorem dX5_blamed_42 : decode cX5_blamed 42 = .ok (.iload_n 3, 1) := by decide +kernel
theorem dX5_blamed_43 : decode cX5_blamed 43 = .ok (.iadd, 1) := by decide +kernel
theorem dX5_blamed_44 : decode cX5_blamed 44 = .ok (.iaload, 1) := by decide +kernel
theorem dX5_blamed_45 : decode cX5_blamed 45 = .ok (.iconst 1, 1) := by decide +kernel
theorem dX5_blamed_46 : decode cX5_blamed 46 = .ok (.if_icmp .ne 37, 3) := by decide +kernel
theorem dX5_blamed_49 : decode cX5_blamed 49 = .ok (.aload_n 0, 1) := by decide +kernel
theorem dX5_blamed_50 : decode cX5_blamed 50 = .ok (.invokevirtual 163, 3) := by decide +kernel
theorem dX5_blamed_53 : decode cX5_blamed 53 = .ok (.aload_n 0, 1) := by decide +kernel
theorem dX5_blamed_54 : decode cX5_blamed 54 = .ok (.getfield 7, 3) := by decide +kernel
theorem dX5_blamed_57 : decode cX5_blamed 57 = .ok (.bipush 28, 2) := by decide +kernel
theorem dX5_blamed_59 : decode cX5_blamed 59 = .ok (.iload_n 3, 1) := by decide +kernel
theorem dX5_blamed_60 : decode cX5_blamed 60 = .ok (.iadd, 1) := by decide +kernel
theorem dX5_blamed_61 : decode cX5_blamed 61 = .ok (.iconst 0, 1) := by decide +kernel
theorem dX5_blamed_62 : decode cX5_blamed 62 = .ok (.iastore, 1) := by decide +kernel
theorem dX5_blamed_63 : decode cX5_blamed 63 = .ok (.aload_n 0, 1) := by decide +kernel
theorem dX5_blamed_64 : decode cX5_blamed 64 = .ok (.iconst 1, 1) := by decide +kernel
theorem dX5_blamed_65 : decode cX5_blamed 65 = .ok (.iload_n 1, 1) := by decide +kernel
theorem dX5_blamed_66 : decode cX5_blamed 66 = .ok (.invokevirtual 166, 3) := by decide +kernel
theorem dX5_blamed_69 : decode cX5_blamed 69 = .ok (.iconst (-1), 1) := by decide +kernel
theorem dX5_blamed_70 : decode cX5_blamed 70 = .ok (.if_icmp .ne 7, 3) := by decide +kernel
theorem dX5_blamed_73 : decode cX5_blamed 73 = .ok (.iconst (-1), 1) := by decide +kernel
theorem dX5_blamed_74 : decode cX5_blamed 74 = .ok (.goto 4, 3) := by decide +kernel
theorem dX5_blamed_77 : decode cX5_blamed 77 = .ok (.iload_n 3, 1) := by decide +kernel
theorem dX5_blamed_78 : decode cX5_blamed 78 = .ok (.istore_n 2, 1) := by decide +kernel
theorem dX5_blamed_79 : decode cX5_blamed 79 = .ok (.aload_n 0, 1) := by decide +kernel
theorem dX5_blamed_80 : decode cX5_blamed 80 = .ok (.invokevirtual 169, 3) := by decide +kernel
theorem dX5_blamed_83 : decode cX5_blamed 83 = .ok (.iinc 3 1, 3) := by decide +kernel
theorem dX5_blamed_86 : decode cX5_blamed 86 = .ok (.goto (-65), 3) := by decide +kernel
theorem dX5_blamed_89 : decode cX5_blamed 89 = .ok (.iload_n 2, 1) := by decide +kernel
theorem dX5_blamed_90 : decode cX5_blamed 90 = .ok (.ireturn, 1) := by decide +kernel
theorem dX5_firesIn_0 : decode cX5_firesIn 0 = .ok (.aload_n 0, 1) := by decide +kernel
theorem dX5_firesIn_1 : decode cX5_firesIn 1 = .ok (.aload_n 0, 1) := by decide +kernel
theorem dX5_firesIn_2 : decode cX5_firesIn 2 = .ok (.iload_n 1, 1) := by decide +kernel
theorem dX5_firesIn_3 : decode cX5_firesIn 3 = .ok (.invokevirtual 60, 3) := by decide +kernel
theorem dX5_firesIn_6 : decode cX5_firesIn 6 = .ok (.ifCond .ne 7, 3) := by decide +kernel
theorem dX5_firesIn_9 : decode cX5_firesIn 9 = .ok (.iconst 1, 1) := by decide +kernel
theorem dX5_firesIn_10 : decode cX5_firesIn 10 = .ok (.goto 15, 3) := by decide +kernel
theorem dX5_firesIn_13 : decode cX5_firesIn 13 = .ok (.iload_n 2, 1) := by decide +kernel
theorem dX5_firesIn_14 : decode cX5_firesIn 14 = .ok (.invokestatic 160, 3) := by decide +kernel
theorem dX5_firesIn_17 : decode cX5_firesIn 17 = .ok (.ifCond .ne 7, 3) := by decide +kernel
theorem dX5_firesIn_20 : decode cX5_firesIn 20 = .ok (.iconst 2, 1) := by decide +kernel
theorem dX5_firesIn_21 : decode cX5_firesIn 21 = .ok (.goto 4, 3) := by decide +kernel
theorem dX5_firesIn_24 : decode cX5_firesIn 24 = .ok (.iconst 0, 1) := by decide +kernel
theorem dX5_firesIn_25 : decode cX5_firesIn 25 = .ok (.invokevirtual 46, 3) := by decide +kernel
theorem dX5_firesIn_28 : decode cX5_firesIn 28 = .ok (.ifCond .eq 5, 3) := by decide +kernel
theorem dX5_firesIn_31 : decode cX5_firesIn 31 = .ok (.iconst 0, 1) := by decide +kernel
theorem dX5_firesIn_32 : decode cX5_firesIn 32 = .ok (.ireturn, 1) := by decide +kernel
theorem dX5_firesIn_33 : decode cX5_firesIn 33 = .ok (.aload_n 0, 1) := by decide +kernel
theorem dX5_firesIn_34 : decode cX5_firesIn 34 = .ok (.invokevirtual 163, 3) := by decide +kernel
theorem dX5_firesIn_37 : decode cX5_firesIn 37 = .ok (.iconst (-1), 1) := by decide +kernel
theorem dX5_firesIn_38 : decode cX5_firesIn 38 = .ok (.istore_n 3, 1) := by decide +kernel
theorem dX5_firesIn_39 : decode cX5_firesIn 39 = .ok (.iconst 1, 1) := by decide +kernel
theorem dX5_firesIn_40 : decode cX5_firesIn 40 = .ok (.istore 4, 2) := by decide +kernel
theorem dX5_firesIn_42 : decode cX5_firesIn 42 = .ok (.iload 4, 2) := by decide +kernel
theorem dX5_firesIn_44 : decode cX5_firesIn 44 = .ok (.iload_n 2, 1) := by decide +kernel
theorem dX5_firesIn_45 : decode cX5_firesIn 45 = .ok (.if_icmp .gt 42, 3) := by decide +kernel
theorem dX5_firesIn_48 : decode cX5_firesIn 48 = .ok (.iload_n 3, 1) := by decide +kernel
theorem dX5_firesIn_49 : decode cX5_firesIn 49 = .ok (.iconst (-1), 1) := by decide +kernel
theorem dX5_firesIn_50 : decode cX5_firesIn 50 = .ok (.if_icmp .ne 37, 3) := by decide +kernel
theorem dX5_firesIn_53 : decode cX5_firesIn 53 = .ok (.aload_n 0, 1) := by decide +kernel
theorem dX5_firesIn_54 : decode cX5_firesIn 54 = .ok (.invokevirtual 139, 3) := by decide +kernel
theorem dX5_firesIn_57 : decode cX5_firesIn 57 = .ok (.istore 5, 2) := by decide +kernel
theorem dX5_firesIn_59 : decode cX5_firesIn 59 = .ok (.aload_n 0, 1) := by decide +kernel
theorem dX5_firesIn_60 : decode cX5_firesIn 60 = .ok (.getfield 7, 3) := by decide +kernel
theorem dX5_firesIn_63 : decode cX5_firesIn 63 = .ok (.bipush 6, 2) := by decide +kernel
theorem dX5_firesIn_65 : decode cX5_firesIn 65 = .ok (.iaload, 1) := by decide +kernel
theorem dX5_firesIn_66 : decode cX5_firesIn 66 = .ok (.iload_n 1, 1) := by decide +kernel
theorem dX5_firesIn_67 : decode cX5_firesIn 67 = .ok (.ishr, 1) := by decide +kernel
theorem dX5_firesIn_68 : decode cX5_firesIn 68 = .ok (.iconst 1, 1) := by decide +kernel
theorem dX5_firesIn_69 : decode cX5_firesIn 69 = .ok (.iand, 1) := by decide +kernel
theorem dX5_firesIn_70 : decode cX5_firesIn 70 = .ok (.iconst 1, 1) := by decide +kernel
theorem dX5_firesIn_71 : decode cX5_firesIn 71 = .ok (.if_icmp .ne 8, 3) := by decide +kernel
theorem dX5_firesIn_74 : decode cX5_firesIn 74 = .ok (.iload 4, 2) := by decide +kernel
theorem dX5_firesIn_76 : decode cX5_firesIn 76 = .ok (.goto 4, 3) := by decide +kernel
theorem dX5_firesIn_79 : decode cX5_firesIn 79 = .ok (.iconst (-1), 1) := by decide +kernel
theorem dX5_firesIn_80 : decode cX5_firesIn 80 = .ok (.istore_n 3, 1) := by decide +kernel
theorem dX5_firesIn_81 : decode cX5_firesIn 81 = .ok (.iinc 4 1, 3) := by decide +kernel
theorem dX5_firesIn_84 : decode cX5_firesIn 84 = .ok (.goto (-42), 3) := by decide +kernel
theorem dX5_firesIn_87 : decode cX5_firesIn 87 = .ok (.aload_n 0, 1) := by decide +kernel
theorem dX5_firesIn_88 : decode cX5_firesIn 88 = .ok (.invokevirtual 169, 3) := by decide +kernel
theorem dX5_firesIn_91 : decode cX5_firesIn 91 = .ok (.iload_n 3, 1) := by decide +kernel
theorem dX5_firesIn_92 : decode cX5_firesIn 92 = .ok (.ireturn, 1) := by decide +kernel
theorem dX5_append_0 : decode cX5_append 0 = .ok (.aload_n 0, 1) := by decide +kernel
theorem dX5_append_1 : decode cX5_append 1 = .ok (.iload_n 1, 1) := by decide +kernel
theorem dX5_append_2 : decode cX5_append 2 = .ok (.iconst 0, 1) := by decide +kernel
theorem dX5_append_3 : decode cX5_append 3 = .ok (.bipush 127, 2) := by decide +kernel
theorem dX5_append_5 : decode cX5_append 5 = .ok (.invokestatic 39, 3) := by decide +kernel
theorem dX5_append_8 : decode cX5_append 8 = .ok (.ifCond .ne 7, 3) := by decide +kernel
theorem dX5_append_11 : decode cX5_append 11 = .ok (.iconst 1, 1) := by decide +kernel
theorem dX5_append_12 : decode cX5_append 12 = .ok (.goto 17, 3) := by decide +kernel
theorem dX5_append_15 : decode cX5_append 15 = .ok (.aload_n 0, 1) := by decide +kernel
theorem dX5_append_16 : decode cX5_append 16 = .ok (.getfield 182, 3) := by decide +kernel
theorem dX5_append_19 : decode cX5_append 19 = .ok (.bipush 100, 2) := by decide +kernel
theorem dX5_append_21 : decode cX5_append 21 = .ok (.if_icmp .ne 7, 3) := by decide +kernel
theorem dX5_append_24 : decode cX5_append 24 = .ok (.iconst 2, 1) := by decide +kernel
theorem dX5_append_25 : decode cX5_append 25 = .ok (.goto 4, 3) := by decide +kernel
theorem dX5_append_28 : decode cX5_append 28 = .ok (.iconst 0, 1) := by decide +kernel
theorem dX5_append_29 : decode cX5_append 29 = .ok (.invokevirtual 46, 3) := by decide +kernel
theorem dX5_append_32 : decode cX5_append 32 = .ok (.ifCond .eq 5, 3) := by decide +kernel
theorem dX5_append_35 : decode cX5_append 35 = .ok (.iconst 0, 1) := by decide +kernel
theorem dX5_append_36 : decode cX5_append 36 = .ok (.ireturn, 1) := by decide +kernel
theorem dX5_append_37 : decode cX5_append 37 = .ok (.aload_n 0, 1) := by decide +kernel
theorem dX5_append_38 : decode cX5_append 38 = .ok (.getfield 19, 3) := by decide +kernel
theorem dX5_append_41 : decode cX5_append 41 = .ok (.aload_n 0, 1) := by decide +kernel
theorem dX5_append_42 : decode cX5_append 42 = .ok (.getfield 182, 3) := by decide +kernel
theorem dX5_append_45 : decode cX5_append 45 = .ok (.iload_n 1, 1) := by decide +kernel
theorem dX5_append_46 : decode cX5_append 46 = .ok (.iastore, 1) := by decide +kernel
theorem dX5_append_47 : decode cX5_append 47 = .ok (.aload_n 0, 1) := by decide +kernel
theorem dX5_append_48 : decode cX5_append 48 = .ok (.dup, 1) := by decide +kernel
theorem dX5_append_49 : decode cX5_append 49 = .ok (.getfield 182, 3) := by decide +kernel
theorem dX5_append_52 : decode cX5_append 52 = .ok (.iconst 1, 1) := by decide +kernel
theorem dX5_append_53 : decode cX5_append 53 = .ok (.iadd, 1) := by decide +kernel
theorem dX5_append_54 : decode cX5_append 54 = .ok (.putfield 182, 3) := by decide +kernel
theorem dX5_append_57 : decode cX5_append 57 = .ok (.aload_n 0, 1) := by decide +kernel
theorem dX5_append_58 : decode cX5_append 58 = .ok (.getfield 182, 3) := by decide +kernel
theorem dX5_append_61 : decode cX5_append 61 = .ok (.ireturn, 1) := by decide +kernel
theorem dX5_clearText_0 : decode cX5_clearText 0 = .ok (.aload_n 0, 1) := by decide +kernel
theorem dX5_clearText_1 : decode cX5_clearText 1 = .ok (.iconst 0, 1) := by decide +kernel
theorem dX5_clearText_2 : decode cX5_clearText 2 = .ok (.putfield 35, 3) := by decide +kernel
theorem dX5_clearText_5 : decode cX5_clearText 5 = .ok (.aload_n 0, 1) := by decide +kernel
theorem dX5_clearText_6 : decode cX5_clearText 6 = .ok (.getfield 182, 3) := by decide +kernel
theorem dX5_clearText_9 : decode cX5_clearText 9 = .ok (.istore_n 1, 1) := by decide +kernel
theorem dX5_clearText_10 : decode cX5_clearText 10 = .ok (.aload_n 0, 1) := by decide +kernel
theorem dX5_clearText_11 : decode cX5_clearText 11 = .ok (.iconst 0, 1) := by decide +kernel
theorem dX5_clearText_12 : decode cX5_clearText 12 = .ok (.putfield 182, 3) := by decide +kernel
theorem dX5_clearText_15 : decode cX5_clearText 15 = .ok (.iload_n 1, 1) := by decide +kernel
theorem dX5_clearText_16 : decode cX5_clearText 16 = .ok (.ireturn, 1) := by decide +kernel
theorem dX5_letter_0 : decode cX5_letter 0 = .ok (.aload_n 0, 1) := by decide +kernel
theorem dX5_letter_1 : decode cX5_letter 1 = .ok (.getfield 185, 3) := by decide +kernel
theorem dX5_letter_4 : decode cX5_letter 4 = .ok (.aload_n 0, 1) := by decide +kernel
theorem dX5_letter_5 : decode cX5_letter 5 = .ok (.getfield 182, 3) := by decide +kernel
theorem dX5_letter_8 : decode cX5_letter 8 = .ok (.if_icmp .ge 15, 3) := by decide +kernel
theorem dX5_letter_11 : decode cX5_letter 11 = .ok (.aload_n 0, 1) := by decide +kernel
theorem dX5_letter_12 : decode cX5_letter 12 = .ok (.getfield 19, 3) := by decide +kernel
theorem dX5_letter_15 : decode cX5_letter 15 = .ok (.aload_n 0, 1) := by decide +kernel
theorem dX5_letter_16 : decode cX5_letter 16 = .ok (.getfield 185, 3) := by decide +kernel
theorem dX5_letter_19 : decode cX5_letter 19 = .ok (.iaload, 1) := by decide +kernel
theorem dX5_letter_20 : decode cX5_letter 20 = .ok (.goto 4, 3) := by decide +kernel
theorem dX5_letter_23 : decode cX5_letter 23 = .ok (.iconst (-1), 1) := by decide +kernel
theorem dX5_letter_24 : decode cX5_letter 24 = .ok (.ireturn, 1) := by decide +kernel
theorem dX5_numbersOf_0 : decode cX5_numbersOf 0 = .ok (.iload_n 0, 1) := by decide +kernel
theorem dX5_numbersOf_1 : decode cX5_numbersOf 1 = .ok (.bipush 97, 2) := by decide +kernel
theorem dX5_numbersOf_3 : decode cX5_numbersOf 3 = .ok (.if_icmp .eq 9, 3) := by decide +kernel
theorem dX5_numbersOf_6 : decode cX5_numbersOf 6 = .ok (.iload_n 0, 1) := by decide +kernel
theorem dX5_numbersOf_7 : decode cX5_numbersOf 7 = .ok (.bipush 116, 2) := by decide +kernel
theorem dX5_numbersOf_9 : decode cX5_numbersOf 9 = .ok (.if_icmp .ne 7, 3) := by decide +kernel
theorem dX5_numbersOf_12 : decode cX5_numbersOf 12 = .ok (.iconst 1, 1) := by decide +kernel
theorem dX5_numbersOf_13 : decode cX5_numbersOf 13 = .ok (.goto 30, 3) := by decide +kernel
theorem dX5_numbersOf_16 : decode cX5_numbersOf 16 = .ok (.iload_n 0, 1) := by decide +kernel
theorem dX5_numbersOf_17 : decode cX5_numbersOf 17 = .ok (.bipush 112, 2) := by decide +kernel
theorem dX5_numbersOf_19 : decode cX5_numbersOf 19 = .ok (.if_icmp .ne 7, 3) := by decide +kernel
theorem dX5_numbersOf_22 : decode cX5_numbersOf 22 = .ok (.iconst 2, 1) := by decide +kernel
theorem dX5_numbersOf_23 : decode cX5_numbersOf 23 = .ok (.goto 20, 3) := by decide +kernel
theorem dX5_numbersOf_26 : decode cX5_numbersOf 26 = .ok (.iload_n 0, 1) := by decide +kernel
theorem dX5_numbersOf_27 : decode cX5_numbersOf 27 = .ok (.bipush 108, 2) := by decide +kernel
theorem dX5_numbersOf_29 : decode cX5_numbersOf 29 = .ok (.if_icmp .eq 9, 3) := by decide +kernel
theorem dX5_numbersOf_32 : decode cX5_numbersOf 32 = .ok (.iload_n 0, 1) := by decide +kernel
theorem dX5_numbersOf_33 : decode cX5_numbersOf 33 = .ok (.bipush 98, 2) := by decide +kernel
theorem dX5_numbersOf_35 : decode cX5_numbersOf 35 = .ok (.if_icmp .ne 7, 3) := by decide +kernel
theorem dX5_numbersOf_38 : decode cX5_numbersOf 38 = .ok (.iconst 3, 1) := by decide +kernel
theorem dX5_numbersOf_39 : decode cX5_numbersOf 39 = .ok (.goto 4, 3) := by decide +kernel
theorem dX5_numbersOf_42 : decode cX5_numbersOf 42 = .ok (.iconst 0, 1) := by decide +kernel
theorem dX5_numbersOf_43 : decode cX5_numbersOf 43 = .ok (.ireturn, 1) := by decide +kernel
theorem dX5_isFigure_0 : decode cX5_isFigure 0 = .ok (.iload_n 0, 1) := by decide +kernel
theorem dX5_isFigure_1 : decode cX5_isFigure 1 = .ok (.bipush 48, 2) := by decide +kernel
theorem dX5_isFigure_3 : decode cX5_isFigure 3 = .ok (.bipush 57, 2) := by decide +kernel
theorem dX5_isFigure_5 : decode cX5_isFigure 5 = .ok (.invokestatic 39, 3) := by decide +kernel
theorem dX5_isFigure_8 : decode cX5_isFigure 8 = .ok (.ireturn, 1) := by decide +kernel
theorem dX5_takesCommand_0 : decode cX5_takesCommand 0 = .ok (.aload_n 0, 1) := by decide +kernel
theorem dX5_takesCommand_1 : decode cX5_takesCommand 1 = .ok (.invokevirtual 188, 3) := by decide +kernel
theorem dX5_takesCommand_4 : decode cX5_takesCommand 4 = .ok (.invokestatic 191, 3) := by decide +kernel
theorem dX5_takesCommand_7 : decode cX5_takesCommand 7 = .ok (.istore_n 1, 1) := by decide +kernel
theorem dX5_takesCommand_8 : decode cX5_takesCommand 8 = .ok (.iload_n 1, 1) := by decide +kernel
theorem dX5_takesCommand_9 : decode cX5_takesCommand 9 = .ok (.ifCond .ne 5, 3) := by decide +kernel
theorem dX5_takesCommand_12 : decode cX5_takesCommand 12 = .ok (.iconst 0, 1) := by decide +kernel
theorem dX5_takesCommand_13 : decode cX5_takesCommand 13 = .ok (.ireturn, 1) := by decide +kernel
theorem dX5_takesCommand_14 : decode cX5_takesCommand 14 = .ok (.aload_n 0, 1) := by decide +kernel
theorem dX5_takesCommand_15 : decode cX5_takesCommand 15 = .ok (.getfield 32, 3) := by decide +kernel
theorem dX5_takesCommand_18 : decode cX5_takesCommand 18 = .ok (.iconst 4, 1) := by decide +kernel
theorem dX5_takesCommand_19 : decode cX5_takesCommand 19 = .ok (.aload_n 0, 1) := by decide +kernel
theorem dX5_takesCommand_20 : decode cX5_takesCommand 20 = .ok (.getfield 194, 3) := by decide +kernel
theorem dX5_takesCommand_23 : decode cX5_takesCommand 23 = .ok (.imul, 1) := by decide +kernel
theorem dX5_takesCommand_24 : decode cX5_takesCommand 24 = .ok (.aload_n 0, 1) := by decide +kernel
theorem dX5_takesCommand_25 : decode cX5_takesCommand 25 = .ok (.invokevirtual 188, 3) := by decide +kernel
theorem dX5_takesCommand_28 : decode cX5_takesCommand 28 = .ok (.iastore, 1) := by decide +kernel
theorem dX5_takesCommand_29 : decode cX5_takesCommand 29 = .ok (.aload_n 0, 1) := by decide +kernel
theorem dX5_takesCommand_30 : decode cX5_takesCommand 30 = .ok (.dup, 1) := by decide +kernel
theorem dX5_takesCommand_31 : decode cX5_takesCommand 31 = .ok (.getfield 185, 3) := by decide +kernel
theorem dX5_takesCommand_34 : decode cX5_takesCommand 34 = .ok (.iconst 1, 1) := by decide +kernel
theorem dX5_takesCommand_35 : decode cX5_takesCommand 35 = .ok (.iadd, 1) := by decide +kernel
theorem dX5_takesCommand_36 : decode cX5_takesCommand 36 = .ok (.putfield 185, 3) := by decide +kernel
theorem dX5_takesCommand_39 : decode cX5_takesCommand 39 = .ok (.iconst 0, 1) := by decide +kernel
theorem dX5_takesCommand_40 : decode cX5_takesCommand 40 = .ok (.istore_n 2, 1) := by decide +kernel
theorem dX5_takesCommand_41 : decode cX5_takesCommand 41 = .ok (.iload_n 2, 1) := by decide +kernel
theorem dX5_takesCommand_42 : decode cX5_takesCommand 42 = .ok (.iload_n 1, 1) := by decide +kernel
theorem dX5_takesCommand_43 : decode cX5_takesCommand 43 = .ok (.if_icmp .ge 113, 3) := by decide +kernel
theorem dX5_takesCommand_46 : decode cX5_takesCommand 46 = .ok (.iload_n 2, 1) := by decide +kernel
theorem dX5_takesCommand_47 : decode cX5_takesCommand 47 = .ok (.ifCond .le 24, 3) := by decide +kernel
theorem dX5_takesCommand_50 : decode cX5_takesCommand 50 = .ok (.aload_n 0, 1) := by decide +kernel
theorem dX5_takesCommand_51 : decode cX5_takesCommand 51 = .ok (.invokevirtual 188, 3) := by decide +kernel
theorem dX5_takesCommand_54 : decode cX5_takesCommand 54 = .ok (.bipush 44, 2) := by decide +kernel
theorem dX5_takesCommand_56 : decode cX5_takesCommand 56 = .ok (.if_icmp .eq 5, 3) := by decide +kernel
theorem dX5_takesCommand_59 : decode cX5_takesCommand 59 = .ok (.iconst 0, 1) := by decide +kernel
theorem dX5_takesCommand_60 : decode cX5_takesCommand 60 = .ok (.ireturn, 1) := by decide +kernel
theorem dX5_takesCommand_61 : decode cX5_takesCommand 61 = .ok (.aload_n 0, 1) := by decide +kernel
theorem dX5_takesCommand_62 : decode cX5_takesCommand 62 = .ok (.dup, 1) := by decide +kernel
theorem dX5_takesCommand_63 : decode cX5_takesCommand 63 = .ok (.getfield 185, 3) := by decide +kernel
theorem dX5_takesCommand_66 : decode cX5_takesCommand 66 = .ok (.iconst 1, 1) := by decide +kernel
theorem dX5_takesCommand_67 : decode cX5_takesCommand 67 = .ok (.iadd, 1) := by decide +kernel
theorem dX5_takesCommand_68 : decode cX5_takesCommand 68 = .ok (.putfield 185, 3) := by decide +kernel
theorem dX5_takesCommand_71 : decode cX5_takesCommand 71 = .ok (.aload_n 0, 1) := by decide +kernel
theorem dX5_takesCommand_72 : decode cX5_takesCommand 72 = .ok (.invokevirtual 188, 3) := by decide +kernel
theorem dX5_takesCommand_75 : decode cX5_takesCommand 75 = .ok (.invokestatic 197, 3) := by decide +kernel
theorem dX5_takesCommand_78 : decode cX5_takesCommand 78 = .ok (.ifCond .ne 5, 3) := by decide +kernel
theorem dX5_takesCommand_81 : decode cX5_takesCommand 81 = .ok (.iconst 0, 1) := by decide +kernel
theorem dX5_takesCommand_82 : decode cX5_takesCommand 82 = .ok (.ireturn, 1) := by decide +kernel
theorem dX5_takesCommand_83 : decode cX5_takesCommand 83 = .ok (.aload_n 0, 1) := by decide +kernel
theorem dX5_takesCommand_84 : decode cX5_takesCommand 84 = .ok (.invokevirtual 188, 3) := by decide +kernel
theorem dX5_takesCommand_87 : decode cX5_takesCommand 87 = .ok (.bipush 48, 2) := by decide +kernel
theorem dX5_takesCommand_89 : decode cX5_takesCommand 89 = .ok (.isub, 1) := by decide +kernel
theorem dX5_takesCommand_90 : decode cX5_takesCommand 90 = .ok (.istore_n 3, 1) := by decide +kernel
theorem dX5_takesCommand_91 : decode cX5_takesCommand 91 = .ok (.aload_n 0, 1) := by decide +kernel
theorem dX5_takesCommand_92 : decode cX5_takesCommand 92 = .ok (.dup, 1) := by decide +kernel
theorem dX5_takesCommand_93 : decode cX5_takesCommand 93 = .ok (.getfield 185, 3) := by decide +kernel
theorem dX5_takesCommand_96 : decode cX5_takesCommand 96 = .ok (.iconst 1, 1) := by decide +kernel
theorem dX5_takesCommand_97 : decode cX5_takesCommand 97 = .ok (.iadd, 1) := by decide +kernel
theorem dX5_takesCommand_98 : decode cX5_takesCommand 98 = .ok (.putfield 185, 3) := by decide +kernel
theorem dX5_takesCommand_101 : decode cX5_takesCommand 101 = .ok (.aload_n 0, 1) := by decide +kernel
theorem dX5_takesCommand_102 : decode cX5_takesCommand 102 = .ok (.invokevirtual 188, 3) := by decide +kernel
theorem dX5_takesCommand_105 : decode cX5_takesCommand 105 = .ok (.invokestatic 197, 3) := by decide +kernel
theorem dX5_takesCommand_108 : decode cX5_takesCommand 108 = .ok (.ifCond .eq 26, 3) := by decide +kernel
theorem dX5_takesCommand_111 : decode cX5_takesCommand 111 = .ok (.bipush 10, 2) := by decide +kernel
theorem dX5_takesCommand_113 : decode cX5_takesCommand 113 = .ok (.iload_n 3, 1) := by decide +kernel
theorem dX5_takesCommand_114 : decode cX5_takesCommand 114 = .ok (.imul, 1) := by decide +kernel
theorem dX5_takesCommand_115 : decode cX5_takesCommand 115 = .ok (.aload_n 0, 1) := by decide +kernel
theorem dX5_takesCommand_116 : decode cX5_takesCommand 116 = .ok (.invokevirtual 188, 3) := by decide +kernel
theorem dX5_takesCommand_119 : decode cX5_takesCommand 119 = .ok (.iadd, 1) := by decide +kernel
theorem dX5_takesCommand_120 : decode cX5_takesCommand 120 = .ok (.bipush 48, 2) := by decide +kernel
theorem dX5_takesCommand_122 : decode cX5_takesCommand 122 = .ok (.isub, 1) := by decide +kernel
theorem dX5_takesCommand_123 : decode cX5_takesCommand 123 = .ok (.istore_n 3, 1) := by decide +kernel
theorem dX5_takesCommand_124 : decode cX5_takesCommand 124 = .ok (.aload_n 0, 1) := by decide +kernel
theorem dX5_takesCommand_125 : decode cX5_takesCommand 125 = .ok (.dup, 1) := by decide +kernel
theorem dX5_takesCommand_126 : decode cX5_takesCommand 126 = .ok (.getfield 185, 3) := by decide +kernel
theorem dX5_takesCommand_129 : decode cX5_takesCommand 129 = .ok (.iconst 1, 1) := by decide +kernel
theorem dX5_takesCommand_130 : decode cX5_takesCommand 130 = .ok (.iadd, 1) := by decide +kernel
theorem dX5_takesCommand_131 : decode cX5_takesCommand 131 = .ok (.putfield 185, 3) := by decide +kernel
theorem dX5_takesCommand_134 : decode cX5_takesCommand 134 = .ok (.aload_n 0, 1) := by decide +kernel
theorem dX5_takesCommand_135 : decode cX5_takesCommand 135 = .ok (.getfield 32, 3) := by decide +kernel
theorem dX5_takesCommand_138 : decode cX5_takesCommand 138 = .ok (.iconst 4, 1) := by decide +kernel
theorem dX5_takesCommand_139 : decode cX5_takesCommand 139 = .ok (.aload_n 0, 1) := by decide +kernel
theorem dX5_takesCommand_140 : decode cX5_takesCommand 140 = .ok (.getfield 194, 3) := by decide +kernel
theorem dX5_takesCommand_143 : decode cX5_takesCommand 143 = .ok (.imul, 1) := by decide +kernel
theorem dX5_takesCommand_144 : decode cX5_takesCommand 144 = .ok (.iconst 1, 1) := by decide +kernel
theorem dX5_takesCommand_145 : decode cX5_takesCommand 145 = .ok (.iadd, 1) := by decide +kernel
theorem dX5_takesCommand_146 : decode cX5_takesCommand 146 = .ok (.iload_n 2, 1) := by decide +kernel
theorem dX5_takesCommand_147 : decode cX5_takesCommand 147 = .ok (.iadd, 1) := by decide +kernel
theorem dX5_takesCommand_148 : decode cX5_takesCommand 148 = .ok (.iload_n 3, 1) := by decide +kernel
theorem dX5_takesCommand_149 : decode cX5_takesCommand 149 = .ok (.iastore, 1) := by decide +kernel
theorem dX5_takesCommand_150 : decode cX5_takesCommand 150 = .ok (.iinc 2 1, 3) := by decide +kernel
theorem dX5_takesCommand_153 : decode cX5_takesCommand 153 = .ok (.goto (-112), 3) := by decide +kernel
theorem dX5_takesCommand_156 : decode cX5_takesCommand 156 = .ok (.aload_n 0, 1) := by decide +kernel
theorem dX5_takesCommand_157 : decode cX5_takesCommand 157 = .ok (.invokevirtual 188, 3) := by decide +kernel
theorem dX5_takesCommand_160 : decode cX5_takesCommand 160 = .ok (.bipush 59, 2) := by decide +kernel
theorem dX5_takesCommand_162 : decode cX5_takesCommand 162 = .ok (.if_icmp .eq 5, 3) := by decide +kernel
theorem dX5_takesCommand_165 : decode cX5_takesCommand 165 = .ok (.iconst 0, 1) := by decide +kernel
theorem dX5_takesCommand_166 : decode cX5_takesCommand 166 = .ok (.ireturn, 1) := by decide +kernel
theorem dX5_takesCommand_167 : decode cX5_takesCommand 167 = .ok (.aload_n 0, 1) := by decide +kernel
theorem dX5_takesCommand_168 : decode cX5_takesCommand 168 = .ok (.dup, 1) := by decide +kernel
theorem dX5_takesCommand_169 : decode cX5_takesCommand 169 = .ok (.getfield 185, 3) := by decide +kernel
theorem dX5_takesCommand_172 : decode cX5_takesCommand 172 = .ok (.iconst 1, 1) := by decide +kernel
theorem dX5_takesCommand_173 : decode cX5_takesCommand 173 = .ok (.iadd, 1) := by decide +kernel
theorem dX5_takesCommand_174 : decode cX5_takesCommand 174 = .ok (.putfield 185, 3) := by decide +kernel
theorem dX5_takesCommand_177 : decode cX5_takesCommand 177 = .ok (.aload_n 0, 1) := by decide +kernel
theorem dX5_takesCommand_178 : decode cX5_takesCommand 178 = .ok (.dup, 1) := by decide +kernel
theorem dX5_takesCommand_179 : decode cX5_takesCommand 179 = .ok (.getfield 194, 3) := by decide +kernel
theorem dX5_takesCommand_182 : decode cX5_takesCommand 182 = .ok (.iconst 1, 1) := by decide +kernel
theorem dX5_takesCommand_183 : decode cX5_takesCommand 183 = .ok (.iadd, 1) := by decide +kernel
theorem dX5_takesCommand_184 : decode cX5_takesCommand 184 = .ok (.putfield 194, 3) := by decide +kernel
theorem dX5_takesCommand_187 : decode cX5_takesCommand 187 = .ok (.iconst 1, 1) := by decide +kernel
theorem dX5_takesCommand_188 : decode cX5_takesCommand 188 = .ok (.ireturn, 1) := by decide +kernel
theorem dX5_does_0 : decode cX5_does 0 = .ok (.aload_n 0, 1) := by decide +kernel
theorem dX5_does_1 : decode cX5_does 1 = .ok (.getfield 32, 3) := by decide +kernel
theorem dX5_does_4 : decode cX5_does 4 = .ok (.iconst 4, 1) := by decide +kernel
theorem dX5_does_5 : decode cX5_does 5 = .ok (.iload_n 1, 1) := by decide +kernel
theorem dX5_does_6 : decode cX5_does 6 = .ok (.imul, 1) := by decide +kernel
theorem dX5_does_7 : decode cX5_does 7 = .ok (.iconst 1, 1) := by decide +kernel
theorem dX5_does_8 : decode cX5_does 8 = .ok (.iadd, 1) := by decide +kernel
theorem dX5_does_9 : decode cX5_does 9 = .ok (.iaload, 1) := by decide +kernel
theorem dX5_does_10 : decode cX5_does 10 = .ok (.istore_n 2, 1) := by decide +kernel
theorem dX5_does_11 : decode cX5_does 11 = .ok (.aload_n 0, 1) := by decide +kernel
theorem dX5_does_12 : decode cX5_does 12 = .ok (.getfield 32, 3) := by decide +kernel
theorem dX5_does_15 : decode cX5_does 15 = .ok (.iconst 4, 1) := by decide +kernel
theorem dX5_does_16 : decode cX5_does 16 = .ok (.iload_n 1, 1) := by decide +kernel
theorem dX5_does_17 : decode cX5_does 17 = .ok (.imul, 1) := by decide +kernel
theorem dX5_does_18 : decode cX5_does 18 = .ok (.iconst 2, 1) := by decide +kernel
theorem dX5_does_19 : decode cX5_does 19 = .ok (.iadd, 1) := by decide +kernel
theorem dX5_does_20 : decode cX5_does 20 = .ok (.iaload, 1) := by decide +kernel
theorem dX5_does_21 : decode cX5_does 21 = .ok (.istore_n 3, 1) := by decide +kernel
theorem dX5_does_22 : decode cX5_does 22 = .ok (.aload_n 0, 1) := by decide +kernel
theorem dX5_does_23 : decode cX5_does 23 = .ok (.getfield 32, 3) := by decide +kernel
theorem dX5_does_26 : decode cX5_does 26 = .ok (.iconst 4, 1) := by decide +kernel
theorem dX5_does_27 : decode cX5_does 27 = .ok (.iload_n 1, 1) := by decide +kernel
theorem dX5_does_28 : decode cX5_does 28 = .ok (.imul, 1) := by decide +kernel
theorem dX5_does_29 : decode cX5_does 29 = .ok (.iconst 3, 1) := by decide +kernel
theorem dX5_does_30 : decode cX5_does 30 = .ok (.iadd, 1) := by decide +kernel
theorem dX5_does_31 : decode cX5_does 31 = .ok (.iaload, 1) := by decide +kernel
theorem dX5_does_32 : decode cX5_does 32 = .ok (.istore 4, 2) := by decide +kernel
theorem dX5_does_34 : decode cX5_does 34 = .ok (.iconst 0, 1) := by decide +kernel
theorem dX5_does_35 : decode cX5_does 35 = .ok (.istore 5, 2) := by decide +kernel
theorem dX5_does_37 : decode cX5_does 37 = .ok (.aload_n 0, 1) := by decide +kernel
theorem dX5_does_38 : decode cX5_does 38 = .ok (.getfield 32, 3) := by decide +kernel
theorem dX5_does_41 : decode cX5_does 41 = .ok (.iconst 4, 1) := by decide +kernel
theorem dX5_does_42 : decode cX5_does 42 = .ok (.iload_n 1, 1) := by decide +kernel
theorem dX5_does_43 : decode cX5_does 43 = .ok (.imul, 1) := by decide +kernel
theorem dX5_does_44 : decode cX5_does 44 = .ok (.iaload, 1) := by decide +kernel
theorem dX5_does_45 : decode cX5_does 45 = .ok (.lookupswitch 135 #[(97, 43), (98, 110), (108, 85), (112, 62)], 43) := by decide +kernel
theorem dX5_does_88 : decode cX5_does 88 = .ok (.aload_n 0, 1) := by decide +kernel
theorem dX5_does_89 : decode cX5_does 89 = .ok (.iload_n 2, 1) := by decide +kernel
theorem dX5_does_90 : decode cX5_does 90 = .ok (.invokevirtual 50, 3) := by decide +kernel
theorem dX5_does_93 : decode cX5_does 93 = .ok (.ifCond .le 5, 3) := by decide +kernel
theorem dX5_does_96 : decode cX5_does 96 = .ok (.iconst 0, 1) := by decide +kernel
theorem dX5_does_97 : decode cX5_does 97 = .ok (.ireturn, 1) := by decide +kernel
theorem dX5_does_98 : decode cX5_does 98 = .ok (.aload_n 0, 1) := by decide +kernel
theorem dX5_does_99 : decode cX5_does 99 = .ok (.iload_n 2, 1) := by decide +kernel
theorem dX5_does_100 : decode cX5_does 100 = .ok (.invokevirtual 57, 3) := by decide +kernel
theorem dX5_does_103 : decode cX5_does 103 = .ok (.istore 5, 2) := by decide +kernel
theorem dX5_does_105 : decode cX5_does 105 = .ok (.iconst 1, 1) := by decide +kernel
theorem dX5_does_106 : decode cX5_does 106 = .ok (.ireturn, 1) := by decide +kernel
theorem dX5_does_107 : decode cX5_does 107 = .ok (.aload_n 0, 1) := by decide +kernel
theorem dX5_does_108 : decode cX5_does 108 = .ok (.iload_n 2, 1) := by decide +kernel
theorem dX5_does_109 : decode cX5_does 109 = .ok (.iload_n 3, 1) := by decide +kernel
theorem dX5_does_110 : decode cX5_does 110 = .ok (.invokevirtual 63, 3) := by decide +kernel
theorem dX5_does_113 : decode cX5_does 113 = .ok (.ifCond .le 5, 3) := by decide +kernel
theorem dX5_does_116 : decode cX5_does 116 = .ok (.iconst 0, 1) := by decide +kernel
theorem dX5_does_117 : decode cX5_does 117 = .ok (.ireturn, 1) := by decide +kernel
theorem dX5_does_118 : decode cX5_does 118 = .ok (.aload_n 0, 1) := by decide +kernel
theorem dX5_does_119 : decode cX5_does 119 = .ok (.getfield 7, 3) := by decide +kernel
theorem dX5_does_122 : decode cX5_does 122 = .ok (.bipush 8, 2) := by decide +kernel
theorem dX5_does_124 : decode cX5_does 124 = .ok (.iload_n 2, 1) := by decide +kernel
theorem dX5_does_125 : decode cX5_does 125 = .ok (.iadd, 1) := by decide +kernel
theorem dX5_does_126 : decode cX5_does 126 = .ok (.iload_n 3, 1) := by decide +kernel
theorem dX5_does_127 : decode cX5_does 127 = .ok (.iastore, 1) := by decide +kernel
theorem dX5_does_128 : decode cX5_does 128 = .ok (.iconst 1, 1) := by decide +kernel
theorem dX5_does_129 : decode cX5_does 129 = .ok (.ireturn, 1) := by decide +kernel
theorem dX5_does_130 : decode cX5_does 130 = .ok (.aload_n 0, 1) := by decide +kernel
theorem dX5_does_131 : decode cX5_does 131 = .ok (.iload_n 2, 1) := by decide +kernel
theorem dX5_does_132 : decode cX5_does 132 = .ok (.iload_n 3, 1) := by decide +kernel
theorem dX5_does_133 : decode cX5_does 133 = .ok (.iload 4, 2) := by decide +kernel
theorem dX5_does_135 : decode cX5_does 135 = .ok (.invokevirtual 85, 3) := by decide +kernel
theorem dX5_does_138 : decode cX5_does 138 = .ok (.ifCond .le 5, 3) := by decide +kernel
theorem dX5_does_141 : decode cX5_does 141 = .ok (.iconst 0, 1) := by decide +kernel
theorem dX5_does_142 : decode cX5_does 142 = .ok (.ireturn, 1) := by decide +kernel
theorem dX5_does_143 : decode cX5_does 143 = .ok (.aload_n 0, 1) := by decide +kernel
theorem dX5_does_144 : decode cX5_does 144 = .ok (.iload_n 2, 1) := by decide +kernel
theorem dX5_does_145 : decode cX5_does 145 = .ok (.iload_n 3, 1) := by decide +kernel
theorem dX5_does_146 : decode cX5_does 146 = .ok (.iload 4, 2) := by decide +kernel
theorem dX5_does_148 : decode cX5_does 148 = .ok (.invokevirtual 88, 3) := by decide +kernel
theorem dX5_does_151 : decode cX5_does 151 = .ok (.istore 5, 2) := by decide +kernel
theorem dX5_does_153 : decode cX5_does 153 = .ok (.iconst 1, 1) := by decide +kernel
theorem dX5_does_154 : decode cX5_does 154 = .ok (.ireturn, 1) := by decide +kernel
theorem dX5_does_155 : decode cX5_does 155 = .ok (.aload_n 0, 1) := by decide +kernel
theorem dX5_does_156 : decode cX5_does 156 = .ok (.iload_n 2, 1) := by decide +kernel
theorem dX5_does_157 : decode cX5_does 157 = .ok (.iload_n 3, 1) := by decide +kernel
theorem dX5_does_158 : decode cX5_does 158 = .ok (.iload 4, 2) := by decide +kernel
theorem dX5_does_160 : decode cX5_does 160 = .ok (.invokevirtual 71, 3) := by decide +kernel
theorem dX5_does_163 : decode cX5_does 163 = .ok (.ifCond .le 5, 3) := by decide +kernel
theorem dX5_does_166 : decode cX5_does 166 = .ok (.iconst 0, 1) := by decide +kernel
theorem dX5_does_167 : decode cX5_does 167 = .ok (.ireturn, 1) := by decide +kernel
theorem dX5_does_168 : decode cX5_does 168 = .ok (.aload_n 0, 1) := by decide +kernel
theorem dX5_does_169 : decode cX5_does 169 = .ok (.iload_n 2, 1) := by decide +kernel
theorem dX5_does_170 : decode cX5_does 170 = .ok (.iload_n 3, 1) := by decide +kernel
theorem dX5_does_171 : decode cX5_does 171 = .ok (.iload 4, 2) := by decide +kernel
theorem dX5_does_173 : decode cX5_does 173 = .ok (.invokevirtual 75, 3) := by decide +kernel
theorem dX5_does_176 : decode cX5_does 176 = .ok (.istore 5, 2) := by decide +kernel
theorem dX5_does_178 : decode cX5_does 178 = .ok (.iconst 1, 1) := by decide +kernel
theorem dX5_does_179 : decode cX5_does 179 = .ok (.ireturn, 1) := by decide +kernel
theorem dX5_does_180 : decode cX5_does 180 = .ok (.iload_n 2, 1) := by decide +kernel
theorem dX5_does_181 : decode cX5_does 181 = .ok (.iconst 1, 1) := by decide +kernel
theorem dX5_does_182 : decode cX5_does 182 = .ok (.if_icmp .ge 5, 3) := by decide +kernel
theorem dX5_does_185 : decode cX5_does 185 = .ok (.iconst 0, 1) := by decide +kernel
theorem dX5_does_186 : decode cX5_does 186 = .ok (.ireturn, 1) := by decide +kernel
theorem dX5_does_187 : decode cX5_does 187 = .ok (.aload_n 0, 1) := by decide +kernel
theorem dX5_does_188 : decode cX5_does 188 = .ok (.iload_n 2, 1) := by decide +kernel
theorem dX5_does_189 : decode cX5_does 189 = .ok (.invokevirtual 142, 3) := by decide +kernel
theorem dX5_does_192 : decode cX5_does 192 = .ok (.istore 5, 2) := by decide +kernel
theorem dX5_does_194 : decode cX5_does 194 = .ok (.iconst 1, 1) := by decide +kernel
theorem dX5_does_195 : decode cX5_does 195 = .ok (.ireturn, 1) := by decide +kernel
theorem dX5_execute_0 : decode cX5_execute 0 = .ok (.aload_n 0, 1) := by decide +kernel
theorem dX5_execute_1 : decode cX5_execute 1 = .ok (.iconst 0, 1) := by decide +kernel
theorem dX5_execute_2 : decode cX5_execute 2 = .ok (.putfield 35, 3) := by decide +kernel
theorem dX5_execute_5 : decode cX5_execute 5 = .ok (.aload_n 0, 1) := by decide +kernel
theorem dX5_execute_6 : decode cX5_execute 6 = .ok (.iconst 0, 1) := by decide +kernel
theorem dX5_execute_7 : decode cX5_execute 7 = .ok (.putfield 194, 3) := by decide +kernel
theorem dX5_execute_10 : decode cX5_execute 10 = .ok (.aload_n 0, 1) := by decide +kernel
theorem dX5_execute_11 : decode cX5_execute 11 = .ok (.iconst 0, 1) := by decide +kernel
theorem dX5_execute_12 : decode cX5_execute 12 = .ok (.putfield 185, 3) := by decide +kernel
theorem dX5_execute_15 : decode cX5_execute 15 = .ok (.aload_n 0, 1) := by decide +kernel
theorem dX5_execute_16 : decode cX5_execute 16 = .ok (.getfield 185, 3) := by decide +kernel
theorem dX5_execute_19 : decode cX5_execute 19 = .ok (.aload_n 0, 1) := by decide +kernel
theorem dX5_execute_20 : decode cX5_execute 20 = .ok (.getfield 182, 3) := by decide +kernel
theorem dX5_execute_23 : decode cX5_execute 23 = .ok (.if_icmp .ge 18, 3) := by decide +kernel
theorem dX5_execute_26 : decode cX5_execute 26 = .ok (.aload_n 0, 1) := by decide +kernel
theorem dX5_execute_27 : decode cX5_execute 27 = .ok (.invokevirtual 200, 3) := by decide +kernel
theorem dX5_execute_30 : decode cX5_execute 30 = .ok (.ifCond .ne (-15), 3) := by decide +kernel
theorem dX5_execute_33 : decode cX5_execute 33 = .ok (.bipush (-10), 2) := by decide +kernel
theorem dX5_execute_35 : decode cX5_execute 35 = .ok (.aload_n 0, 1) := by decide +kernel
theorem dX5_execute_36 : decode cX5_execute 36 = .ok (.getfield 185, 3) := by decide +kernel
theorem dX5_execute_39 : decode cX5_execute 39 = .ok (.isub, 1) := by decide +kernel
theorem dX5_execute_40 : decode cX5_execute 40 = .ok (.ireturn, 1) := by decide +kernel
theorem dX5_execute_41 : decode cX5_execute 41 = .ok (.iconst 0, 1) := by decide +kernel
theorem dX5_execute_42 : decode cX5_execute 42 = .ok (.istore_n 1, 1) := by decide +kernel
theorem dX5_execute_43 : decode cX5_execute 43 = .ok (.iload_n 1, 1) := by decide +kernel
theorem dX5_execute_44 : decode cX5_execute 44 = .ok (.sipush 378, 3) := by decide +kernel
theorem dX5_execute_47 : decode cX5_execute 47 = .ok (.if_icmp .ge 21, 3) := by decide +kernel
theorem dX5_execute_50 : decode cX5_execute 50 = .ok (.aload_n 0, 1) := by decide +kernel
theorem dX5_execute_51 : decode cX5_execute 51 = .ok (.getfield 16, 3) := by decide +kernel
theorem dX5_execute_54 : decode cX5_execute 54 = .ok (.iload_n 1, 1) := by decide +kernel
theorem dX5_execute_55 : decode cX5_execute 55 = .ok (.aload_n 0, 1) := by decide +kernel
theorem dX5_execute_56 : decode cX5_execute 56 = .ok (.getfield 7, 3) := by decide +kernel
theorem dX5_execute_59 : decode cX5_execute 59 = .ok (.iload_n 1, 1) := by decide +kernel
theorem dX5_execute_60 : decode cX5_execute 60 = .ok (.iaload, 1) := by decide +kernel
theorem dX5_execute_61 : decode cX5_execute 61 = .ok (.iastore, 1) := by decide +kernel
theorem dX5_execute_62 : decode cX5_execute 62 = .ok (.iinc 1 1, 3) := by decide +kernel
theorem dX5_execute_65 : decode cX5_execute 65 = .ok (.goto (-22), 3) := by decide +kernel
theorem dX5_execute_68 : decode cX5_execute 68 = .ok (.iconst (-1), 1) := by decide +kernel
theorem dX5_execute_69 : decode cX5_execute 69 = .ok (.istore_n 1, 1) := by decide +kernel
theorem dX5_execute_70 : decode cX5_execute 70 = .ok (.iconst 0, 1) := by decide +kernel
theorem dX5_execute_71 : decode cX5_execute 71 = .ok (.istore_n 2, 1) := by decide +kernel
theorem dX5_execute_72 : decode cX5_execute 72 = .ok (.iload_n 2, 1) := by decide +kernel
theorem dX5_execute_73 : decode cX5_execute 73 = .ok (.aload_n 0, 1) := by decide +kernel
theorem dX5_execute_74 : decode cX5_execute 74 = .ok (.getfield 194, 3) := by decide +kernel
theorem dX5_execute_77 : decode cX5_execute 77 = .ok (.if_icmp .ge 28, 3) := by decide +kernel
theorem dX5_execute_80 : decode cX5_execute 80 = .ok (.iload_n 1, 1) := by decide +kernel
theorem dX5_execute_81 : decode cX5_execute 81 = .ok (.iconst (-1), 1) := by decide +kernel
theorem dX5_execute_82 : decode cX5_execute 82 = .ok (.if_icmp .ne 23, 3) := by decide +kernel
theorem dX5_execute_85 : decode cX5_execute 85 = .ok (.aload_n 0, 1) := by decide +kernel
theorem dX5_execute_86 : decode cX5_execute 86 = .ok (.iload_n 2, 1) := by decide +kernel
theorem dX5_execute_87 : decode cX5_execute 87 = .ok (.invokevirtual 204, 3) := by decide +kernel
theorem dX5_execute_90 : decode cX5_execute 90 = .ok (.ifCond .eq 7, 3) := by decide +kernel
theorem dX5_execute_93 : decode cX5_execute 93 = .ok (.iconst (-1), 1) := by decide +kernel
theorem dX5_execute_94 : decode cX5_execute 94 = .ok (.goto 4, 3) := by decide +kernel
theorem dX5_execute_97 : decode cX5_execute 97 = .ok (.iload_n 2, 1) := by decide +kernel
theorem dX5_execute_98 : decode cX5_execute 98 = .ok (.istore_n 1, 1) := by decide +kernel
theorem dX5_execute_99 : decode cX5_execute 99 = .ok (.iinc 2 1, 3) := by decide +kernel
theorem dX5_execute_102 : decode cX5_execute 102 = .ok (.goto (-30), 3) := by decide +kernel
theorem dX5_execute_105 : decode cX5_execute 105 = .ok (.iconst 0, 1) := by decide +kernel
theorem dX5_execute_106 : decode cX5_execute 106 = .ok (.istore_n 2, 1) := by decide +kernel
theorem dX5_execute_107 : decode cX5_execute 107 = .ok (.iload_n 2, 1) := by decide +kernel
theorem dX5_execute_108 : decode cX5_execute 108 = .ok (.sipush 378, 3) := by decide +kernel
theorem dX5_execute_111 : decode cX5_execute 111 = .ok (.if_icmp .ge 35, 3) := by decide +kernel
theorem dX5_execute_114 : decode cX5_execute 114 = .ok (.aload_n 0, 1) := by decide +kernel
theorem dX5_execute_115 : decode cX5_execute 115 = .ok (.getfield 7, 3) := by decide +kernel
theorem dX5_execute_118 : decode cX5_execute 118 = .ok (.iload_n 2, 1) := by decide +kernel
theorem dX5_execute_119 : decode cX5_execute 119 = .ok (.iaload, 1) := by decide +kernel
theorem dX5_execute_120 : decode cX5_execute 120 = .ok (.istore_n 3, 1) := by decide +kernel
theorem dX5_execute_121 : decode cX5_execute 121 = .ok (.aload_n 0, 1) := by decide +kernel
theorem dX5_execute_122 : decode cX5_execute 122 = .ok (.getfield 7, 3) := by decide +kernel
theorem dX5_execute_125 : decode cX5_execute 125 = .ok (.iload_n 2, 1) := by decide +kernel
theorem dX5_execute_126 : decode cX5_execute 126 = .ok (.aload_n 0, 1) := by decide +kernel
theorem dX5_execute_127 : decode cX5_execute 127 = .ok (.getfield 16, 3) := by decide +kernel
theorem dX5_execute_130 : decode cX5_execute 130 = .ok (.iload_n 2, 1) := by decide +kernel
theorem dX5_execute_131 : decode cX5_execute 131 = .ok (.iaload, 1) := by decide +kernel
theorem dX5_execute_132 : decode cX5_execute 132 = .ok (.iastore, 1) := by decide +kernel
theorem dX5_execute_133 : decode cX5_execute 133 = .ok (.aload_n 0, 1) := by decide +kernel
theorem dX5_execute_134 : decode cX5_execute 134 = .ok (.getfield 16, 3) := by decide +kernel
theorem dX5_execute_137 : decode cX5_execute 137 = .ok (.iload_n 2, 1) := by decide +kernel
theorem dX5_execute_138 : decode cX5_execute 138 = .ok (.iload_n 3, 1) := by decide +kernel
theorem dX5_execute_139 : decode cX5_execute 139 = .ok (.iastore, 1) := by decide +kernel
theorem dX5_execute_140 : decode cX5_execute 140 = .ok (.iinc 2 1, 3) := by decide +kernel
theorem dX5_execute_143 : decode cX5_execute 143 = .ok (.goto (-36), 3) := by decide +kernel
theorem dX5_execute_146 : decode cX5_execute 146 = .ok (.iload_n 1, 1) := by decide +kernel
theorem dX5_execute_147 : decode cX5_execute 147 = .ok (.iconst (-1), 1) := by decide +kernel
theorem dX5_execute_148 : decode cX5_execute 148 = .ok (.if_icmp .eq 9, 3) := by decide +kernel
theorem dX5_execute_151 : decode cX5_execute 151 = .ok (.sipush (-1000), 3) := by decide +kernel
theorem dX5_execute_154 : decode cX5_execute 154 = .ok (.iload_n 1, 1) := by decide +kernel
theorem dX5_execute_155 : decode cX5_execute 155 = .ok (.isub, 1) := by decide +kernel
theorem dX5_execute_156 : decode cX5_execute 156 = .ok (.ireturn, 1) := by decide +kernel
theorem dX5_execute_157 : decode cX5_execute 157 = .ok (.aload_n 0, 1) := by decide +kernel
theorem dX5_execute_158 : decode cX5_execute 158 = .ok (.invokevirtual 54, 3) := by decide +kernel
theorem dX5_execute_161 : decode cX5_execute 161 = .ok (.iconst 0, 1) := by decide +kernel
theorem dX5_execute_162 : decode cX5_execute 162 = .ok (.istore_n 2, 1) := by decide +kernel
theorem dX5_execute_163 : decode cX5_execute 163 = .ok (.iload_n 2, 1) := by decide +kernel
theorem dX5_execute_164 : decode cX5_execute 164 = .ok (.sipush 378, 3) := by decide +kernel
theorem dX5_execute_167 : decode cX5_execute 167 = .ok (.if_icmp .ge 21, 3) := by decide +kernel
theorem dX5_execute_170 : decode cX5_execute 170 = .ok (.aload_n 0, 1) := by decide +kernel
theorem dX5_execute_171 : decode cX5_execute 171 = .ok (.getfield 7, 3) := by decide +kernel
theorem dX5_execute_174 : decode cX5_execute 174 = .ok (.iload_n 2, 1) := by decide +kernel
theorem dX5_execute_175 : decode cX5_execute 175 = .ok (.aload_n 0, 1) := by decide +kernel
theorem dX5_execute_176 : decode cX5_execute 176 = .ok (.getfield 16, 3) := by decide +kernel
theorem dX5_execute_179 : decode cX5_execute 179 = .ok (.iload_n 2, 1) := by decide +kernel
theorem dX5_execute_180 : decode cX5_execute 180 = .ok (.iaload, 1) := by decide +kernel
theorem dX5_execute_181 : decode cX5_execute 181 = .ok (.iastore, 1) := by decide +kernel
theorem dX5_execute_182 : decode cX5_execute 182 = .ok (.iinc 2 1, 3) := by decide +kernel
theorem dX5_execute_185 : decode cX5_execute 185 = .ok (.goto (-22), 3) := by decide +kernel
theorem dX5_execute_188 : decode cX5_execute 188 = .ok (.aload_n 0, 1) := by decide +kernel
theorem dX5_execute_189 : decode cX5_execute 189 = .ok (.getfield 194, 3) := by decide +kernel
theorem dX5_execute_192 : decode cX5_execute 192 = .ok (.ireturn, 1) := by decide +kernel
theorem dX5_mix_0 : decode cX5_mix 0 = .ok (.aload_n 0, 1) := by decide +kernel
theorem dX5_mix_1 : decode cX5_mix 1 = .ok (.ldc2_w 207, 3) := by decide +kernel
theorem dX5_mix_4 : decode cX5_mix 4 = .ok (.aload_n 0, 1) := by decide +kernel
theorem dX5_mix_5 : decode cX5_mix 5 = .ok (.getfield 209, 3) := by decide +kernel
theorem dX5_mix_8 : decode cX5_mix 8 = .ok (.lmul, 1) := by decide +kernel
theorem dX5_mix_9 : decode cX5_mix 9 = .ok (.iload_n 1, 1) := by decide +kernel
theorem dX5_mix_10 : decode cX5_mix 10 = .ok (.i2l, 1) := by decide +kernel
theorem dX5_mix_11 : decode cX5_mix 11 = .ok (.ladd, 1) := by decide +kernel
theorem dX5_mix_12 : decode cX5_mix 12 = .ok (.putfield 209, 3) := by decide +kernel
theorem dX5_mix_15 : decode cX5_mix 15 = .ok (.return_, 1) := by decide +kernel
theorem dX5_digest_0 : decode cX5_digest 0 = .ok (.aload_n 0, 1) := by decide +kernel
theorem dX5_digest_1 : decode cX5_digest 1 = .ok (.iconst 0, 1) := by decide +kernel
theorem dX5_digest_2 : decode cX5_digest 2 = .ok (.putfield 35, 3) := by decide +kernel
theorem dX5_digest_5 : decode cX5_digest 5 = .ok (.aload_n 0, 1) := by decide +kernel
theorem dX5_digest_6 : decode cX5_digest 6 = .ok (.ldc2_w 213, 3) := by decide +kernel
theorem dX5_digest_9 : decode cX5_digest 9 = .ok (.putfield 209, 3) := by decide +kernel
theorem dX5_digest_12 : decode cX5_digest 12 = .ok (.aload_n 0, 1) := by decide +kernel
theorem dX5_digest_13 : decode cX5_digest 13 = .ok (.aload_n 0, 1) := by decide +kernel
theorem dX5_digest_14 : decode cX5_digest 14 = .ok (.getfield 7, 3) := by decide +kernel
theorem dX5_digest_17 : decode cX5_digest 17 = .ok (.iconst 0, 1) := by decide +kernel
theorem dX5_digest_18 : decode cX5_digest 18 = .ok (.iaload, 1) := by decide +kernel
theorem dX5_digest_19 : decode cX5_digest 19 = .ok (.invokevirtual 215, 3) := by decide +kernel
theorem dX5_digest_22 : decode cX5_digest 22 = .ok (.aload_n 0, 1) := by decide +kernel
theorem dX5_digest_23 : decode cX5_digest 23 = .ok (.aload_n 0, 1) := by decide +kernel
theorem dX5_digest_24 : decode cX5_digest 24 = .ok (.getfield 7, 3) := by decide +kernel
theorem dX5_digest_27 : decode cX5_digest 27 = .ok (.iconst 1, 1) := by decide +kernel
theorem dX5_digest_28 : decode cX5_digest 28 = .ok (.iaload, 1) := by decide +kernel
theorem dX5_digest_29 : decode cX5_digest 29 = .ok (.invokevirtual 215, 3) := by decide +kernel
theorem dX5_digest_32 : decode cX5_digest 32 = .ok (.aload_n 0, 1) := by decide +kernel
theorem dX5_digest_33 : decode cX5_digest 33 = .ok (.aload_n 0, 1) := by decide +kernel
theorem dX5_digest_34 : decode cX5_digest 34 = .ok (.getfield 7, 3) := by decide +kernel
theorem dX5_digest_37 : decode cX5_digest 37 = .ok (.iconst 2, 1) := by decide +kernel
theorem dX5_digest_38 : decode cX5_digest 38 = .ok (.iaload, 1) := by decide +kernel
theorem dX5_digest_39 : decode cX5_digest 39 = .ok (.invokevirtual 215, 3) := by decide +kernel
theorem dX5_digest_42 : decode cX5_digest 42 = .ok (.aload_n 0, 1) := by decide +kernel
theorem dX5_digest_43 : decode cX5_digest 43 = .ok (.aload_n 0, 1) := by decide +kernel
theorem dX5_digest_44 : decode cX5_digest 44 = .ok (.getfield 7, 3) := by decide +kernel
theorem dX5_digest_47 : decode cX5_digest 47 = .ok (.iconst 3, 1) := by decide +kernel
theorem dX5_digest_48 : decode cX5_digest 48 = .ok (.iaload, 1) := by decide +kernel
theorem dX5_digest_49 : decode cX5_digest 49 = .ok (.invokevirtual 215, 3) := by decide +kernel
theorem dX5_digest_52 : decode cX5_digest 52 = .ok (.aload_n 0, 1) := by decide +kernel
theorem dX5_digest_53 : decode cX5_digest 53 = .ok (.aload_n 0, 1) := by decide +kernel
theorem dX5_digest_54 : decode cX5_digest 54 = .ok (.getfield 7, 3) := by decide +kernel
theorem dX5_digest_57 : decode cX5_digest 57 = .ok (.iconst 4, 1) := by decide +kernel
theorem dX5_digest_58 : decode cX5_digest 58 = .ok (.iaload, 1) := by decide +kernel
theorem dX5_digest_59 : decode cX5_digest 59 = .ok (.invokevirtual 215, 3) := by decide +kernel
theorem dX5_digest_62 : decode cX5_digest 62 = .ok (.aload_n 0, 1) := by decide +kernel
theorem dX5_digest_63 : decode cX5_digest 63 = .ok (.aload_n 0, 1) := by decide +kernel
theorem dX5_digest_64 : decode cX5_digest 64 = .ok (.getfield 7, 3) := by decide +kernel
theorem dX5_digest_67 : decode cX5_digest 67 = .ok (.iconst 5, 1) := by decide +kernel
theorem dX5_digest_68 : decode cX5_digest 68 = .ok (.iaload, 1) := by decide +kernel
theorem dX5_digest_69 : decode cX5_digest 69 = .ok (.invokevirtual 215, 3) := by decide +kernel
theorem dX5_digest_72 : decode cX5_digest 72 = .ok (.iconst 0, 1) := by decide +kernel
theorem dX5_digest_73 : decode cX5_digest 73 = .ok (.istore_n 1, 1) := by decide +kernel
theorem dX5_digest_74 : decode cX5_digest 74 = .ok (.iload_n 1, 1) := by decide +kernel
theorem dX5_digest_75 : decode cX5_digest 75 = .ok (.aload_n 0, 1) := by decide +kernel
theorem dX5_digest_76 : decode cX5_digest 76 = .ok (.getfield 7, 3) := by decide +kernel
theorem dX5_digest_79 : decode cX5_digest 79 = .ok (.iconst 5, 1) := by decide +kernel
theorem dX5_digest_80 : decode cX5_digest 80 = .ok (.iaload, 1) := by decide +kernel
theorem dX5_digest_81 : decode cX5_digest 81 = .ok (.if_icmp .ge 61, 3) := by decide +kernel
theorem dX5_digest_84 : decode cX5_digest 84 = .ok (.iconst 0, 1) := by decide +kernel
theorem dX5_digest_85 : decode cX5_digest 85 = .ok (.istore_n 2, 1) := by decide +kernel
theorem dX5_digest_86 : decode cX5_digest 86 = .ok (.iload_n 2, 1) := by decide +kernel
theorem dX5_digest_87 : decode cX5_digest 87 = .ok (.bipush 7, 2) := by decide +kernel
theorem dX5_digest_89 : decode cX5_digest 89 = .ok (.if_icmp .ge 19, 3) := by decide +kernel
theorem dX5_digest_92 : decode cX5_digest 92 = .ok (.aload_n 0, 1) := by decide +kernel
theorem dX5_digest_93 : decode cX5_digest 93 = .ok (.aload_n 0, 1) := by decide +kernel
theorem dX5_digest_94 : decode cX5_digest 94 = .ok (.iload_n 1, 1) := by decide +kernel
theorem dX5_digest_95 : decode cX5_digest 95 = .ok (.iload_n 2, 1) := by decide +kernel
theorem dX5_digest_96 : decode cX5_digest 96 = .ok (.invokevirtual 104, 3) := by decide +kernel
theorem dX5_digest_99 : decode cX5_digest 99 = .ok (.invokevirtual 215, 3) := by decide +kernel
theorem dX5_digest_102 : decode cX5_digest 102 = .ok (.iinc 2 1, 3) := by decide +kernel
theorem dX5_digest_105 : decode cX5_digest 105 = .ok (.goto (-19), 3) := by decide +kernel
theorem dX5_digest_108 : decode cX5_digest 108 = .ok (.iconst 0, 1) := by decide +kernel
theorem dX5_digest_109 : decode cX5_digest 109 = .ok (.istore_n 2, 1) := by decide +kernel
theorem dX5_digest_110 : decode cX5_digest 110 = .ok (.iload_n 2, 1) := by decide +kernel
theorem dX5_digest_111 : decode cX5_digest 111 = .ok (.aload_n 0, 1) := by decide +kernel
theorem dX5_digest_112 : decode cX5_digest 112 = .ok (.getfield 7, 3) := by decide +kernel
theorem dX5_digest_115 : decode cX5_digest 115 = .ok (.iconst 5, 1) := by decide +kernel
theorem dX5_digest_116 : decode cX5_digest 116 = .ok (.iaload, 1) := by decide +kernel
theorem dX5_digest_117 : decode cX5_digest 117 = .ok (.if_icmp .ge 19, 3) := by decide +kernel
theorem dX5_digest_120 : decode cX5_digest 120 = .ok (.aload_n 0, 1) := by decide +kernel
theorem dX5_digest_121 : decode cX5_digest 121 = .ok (.aload_n 0, 1) := by decide +kernel
theorem dX5_digest_122 : decode cX5_digest 122 = .ok (.iload_n 1, 1) := by decide +kernel
theorem dX5_digest_123 : decode cX5_digest 123 = .ok (.iload_n 2, 1) := by decide +kernel
theorem dX5_digest_124 : decode cX5_digest 124 = .ok (.invokevirtual 78, 3) := by decide +kernel
theorem dX5_digest_127 : decode cX5_digest 127 = .ok (.invokevirtual 215, 3) := by decide +kernel
theorem dX5_digest_130 : decode cX5_digest 130 = .ok (.iinc 2 1, 3) := by decide +kernel
theorem dX5_digest_133 : decode cX5_digest 133 = .ok (.goto (-23), 3) := by decide +kernel
theorem dX5_digest_136 : decode cX5_digest 136 = .ok (.iinc 1 1, 3) := by decide +kernel
theorem dX5_digest_139 : decode cX5_digest 139 = .ok (.goto (-65), 3) := by decide +kernel
theorem dX5_digest_142 : decode cX5_digest 142 = .ok (.aload_n 0, 1) := by decide +kernel
theorem dX5_digest_143 : decode cX5_digest 143 = .ok (.aload_n 0, 1) := by decide +kernel
theorem dX5_digest_144 : decode cX5_digest 144 = .ok (.getfield 7, 3) := by decide +kernel
theorem dX5_digest_147 : decode cX5_digest 147 = .ok (.bipush 6, 2) := by decide +kernel
theorem dX5_digest_149 : decode cX5_digest 149 = .ok (.iaload, 1) := by decide +kernel
theorem dX5_digest_150 : decode cX5_digest 150 = .ok (.invokevirtual 215, 3) := by decide +kernel
theorem dX5_digest_153 : decode cX5_digest 153 = .ok (.aload_n 0, 1) := by decide +kernel
theorem dX5_digest_154 : decode cX5_digest 154 = .ok (.aload_n 0, 1) := by decide +kernel
theorem dX5_digest_155 : decode cX5_digest 155 = .ok (.invokevirtual 145, 3) := by decide +kernel
theorem dX5_digest_158 : decode cX5_digest 158 = .ok (.invokevirtual 215, 3) := by decide +kernel
theorem dX5_digest_161 : decode cX5_digest 161 = .ok (.aload_n 0, 1) := by decide +kernel
theorem dX5_digest_162 : decode cX5_digest 162 = .ok (.aload_n 0, 1) := by decide +kernel
theorem dX5_digest_163 : decode cX5_digest 163 = .ok (.invokevirtual 151, 3) := by decide +kernel
theorem dX5_digest_166 : decode cX5_digest 166 = .ok (.invokevirtual 215, 3) := by decide +kernel
theorem dX5_digest_169 : decode cX5_digest 169 = .ok (.iconst 0, 1) := by decide +kernel
theorem dX5_digest_170 : decode cX5_digest 170 = .ok (.istore_n 1, 1) := by decide +kernel
theorem dX5_digest_171 : decode cX5_digest 171 = .ok (.iload_n 1, 1) := by decide +kernel
theorem dX5_digest_172 : decode cX5_digest 172 = .ok (.aload_n 0, 1) := by decide +kernel
theorem dX5_digest_173 : decode cX5_digest 173 = .ok (.invokevirtual 151, 3) := by decide +kernel
theorem dX5_digest_176 : decode cX5_digest 176 = .ok (.if_icmp .ge 31, 3) := by decide +kernel
theorem dX5_digest_179 : decode cX5_digest 179 = .ok (.aload_n 0, 1) := by decide +kernel
theorem dX5_digest_180 : decode cX5_digest 180 = .ok (.aload_n 0, 1) := by decide +kernel
theorem dX5_digest_181 : decode cX5_digest 181 = .ok (.iload_n 1, 1) := by decide +kernel
theorem dX5_digest_182 : decode cX5_digest 182 = .ok (.invokevirtual 154, 3) := by decide +kernel
theorem dX5_digest_185 : decode cX5_digest 185 = .ok (.invokevirtual 215, 3) := by decide +kernel
theorem dX5_digest_188 : decode cX5_digest 188 = .ok (.aload_n 0, 1) := by decide +kernel
theorem dX5_digest_189 : decode cX5_digest 189 = .ok (.aload_n 0, 1) := by decide +kernel
theorem dX5_digest_190 : decode cX5_digest 190 = .ok (.aload_n 0, 1) := by decide +kernel
theorem dX5_digest_191 : decode cX5_digest 191 = .ok (.iload_n 1, 1) := by decide +kernel
theorem dX5_digest_192 : decode cX5_digest 192 = .ok (.invokevirtual 154, 3) := by decide +kernel
theorem dX5_digest_195 : decode cX5_digest 195 = .ok (.invokevirtual 148, 3) := by decide +kernel
theorem dX5_digest_198 : decode cX5_digest 198 = .ok (.invokevirtual 215, 3) := by decide +kernel
theorem dX5_digest_201 : decode cX5_digest 201 = .ok (.iinc 1 1, 3) := by decide +kernel
theorem dX5_digest_204 : decode cX5_digest 204 = .ok (.goto (-33), 3) := by decide +kernel
theorem dX5_digest_207 : decode cX5_digest 207 = .ok (.aload_n 0, 1) := by decide +kernel
theorem dX5_digest_208 : decode cX5_digest 208 = .ok (.aload_n 0, 1) := by decide +kernel
theorem dX5_digest_209 : decode cX5_digest 209 = .ok (.invokevirtual 157, 3) := by decide +kernel
theorem dX5_digest_212 : decode cX5_digest 212 = .ok (.invokevirtual 215, 3) := by decide +kernel
theorem dX5_digest_215 : decode cX5_digest 215 = .ok (.aload_n 0, 1) := by decide +kernel
theorem dX5_digest_216 : decode cX5_digest 216 = .ok (.getfield 7, 3) := by decide +kernel
theorem dX5_digest_219 : decode cX5_digest 219 = .ok (.bipush 7, 2) := by decide +kernel
theorem dX5_digest_221 : decode cX5_digest 221 = .ok (.iaload, 1) := by decide +kernel
theorem dX5_digest_222 : decode cX5_digest 222 = .ok (.iconst 1, 1) := by decide +kernel
theorem dX5_digest_223 : decode cX5_digest 223 = .ok (.isub, 1) := by decide +kernel
theorem dX5_digest_224 : decode cX5_digest 224 = .ok (.istore_n 1, 1) := by decide +kernel
theorem dX5_digest_225 : decode cX5_digest 225 = .ok (.iload_n 1, 1) := by decide +kernel
theorem dX5_digest_226 : decode cX5_digest 226 = .ok (.ifCond .lt 43, 3) := by decide +kernel
theorem dX5_digest_229 : decode cX5_digest 229 = .ok (.aload_n 0, 1) := by decide +kernel
theorem dX5_digest_230 : decode cX5_digest 230 = .ok (.aload_n 0, 1) := by decide +kernel
theorem dX5_digest_231 : decode cX5_digest 231 = .ok (.getfield 7, 3) := by decide +kernel
theorem dX5_digest_234 : decode cX5_digest 234 = .ok (.sipush 258, 3) := by decide +kernel
theorem dX5_digest_237 : decode cX5_digest 237 = .ok (.iconst 2, 1) := by decide +kernel
theorem dX5_digest_238 : decode cX5_digest 238 = .ok (.iload_n 1, 1) := by decide +kernel
theorem dX5_digest_239 : decode cX5_digest 239 = .ok (.imul, 1) := by decide +kernel
theorem dX5_digest_240 : decode cX5_digest 240 = .ok (.iadd, 1) := by decide +kernel
theorem dX5_digest_241 : decode cX5_digest 241 = .ok (.iaload, 1) := by decide +kernel
theorem dX5_digest_242 : decode cX5_digest 242 = .ok (.invokevirtual 215, 3) := by decide +kernel
theorem dX5_digest_245 : decode cX5_digest 245 = .ok (.aload_n 0, 1) := by decide +kernel
theorem dX5_digest_246 : decode cX5_digest 246 = .ok (.aload_n 0, 1) := by decide +kernel
theorem dX5_digest_247 : decode cX5_digest 247 = .ok (.getfield 7, 3) := by decide +kernel
theorem dX5_digest_250 : decode cX5_digest 250 = .ok (.sipush 258, 3) := by decide +kernel
theorem dX5_digest_253 : decode cX5_digest 253 = .ok (.iconst 2, 1) := by decide +kernel
theorem dX5_digest_254 : decode cX5_digest 254 = .ok (.iload_n 1, 1) := by decide +kernel
theorem dX5_digest_255 : decode cX5_digest 255 = .ok (.imul, 1) := by decide +kernel
theorem dX5_digest_256 : decode cX5_digest 256 = .ok (.iadd, 1) := by decide +kernel
theorem dX5_digest_257 : decode cX5_digest 257 = .ok (.iconst 1, 1) := by decide +kernel
theorem dX5_digest_258 : decode cX5_digest 258 = .ok (.iadd, 1) := by decide +kernel
theorem dX5_digest_259 : decode cX5_digest 259 = .ok (.iaload, 1) := by decide +kernel
theorem dX5_digest_260 : decode cX5_digest 260 = .ok (.invokevirtual 215, 3) := by decide +kernel
theorem dX5_digest_263 : decode cX5_digest 263 = .ok (.iinc 1 (-1), 3) := by decide +kernel
theorem dX5_digest_266 : decode cX5_digest 266 = .ok (.goto (-41), 3) := by decide +kernel
theorem dX5_digest_269 : decode cX5_digest 269 = .ok (.aload_n 0, 1) := by decide +kernel
theorem dX5_digest_270 : decode cX5_digest 270 = .ok (.aload_n 0, 1) := by decide +kernel
theorem dX5_digest_271 : decode cX5_digest 271 = .ok (.getfield 182, 3) := by decide +kernel
theorem dX5_digest_274 : decode cX5_digest 274 = .ok (.invokevirtual 215, 3) := by decide +kernel
theorem dX5_digest_277 : decode cX5_digest 277 = .ok (.aload_n 0, 1) := by decide +kernel
theorem dX5_digest_278 : decode cX5_digest 278 = .ok (.aload_n 0, 1) := by decide +kernel
theorem dX5_digest_279 : decode cX5_digest 279 = .ok (.getfield 43, 3) := by decide +kernel
theorem dX5_digest_282 : decode cX5_digest 282 = .ok (.invokevirtual 215, 3) := by decide +kernel
theorem dX5_digest_285 : decode cX5_digest 285 = .ok (.aload_n 0, 1) := by decide +kernel
theorem dX5_digest_286 : decode cX5_digest 286 = .ok (.getfield 209, 3) := by decide +kernel
theorem dX5_digest_289 : decode cX5_digest 289 = .ok (.lreturn, 1) := by decide +kernel
