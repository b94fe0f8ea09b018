theorem dX0_init_0 : decode cX0_init 0 = .ok (.aload_n 0, 1) := by decide +kernel
theorem dX0_init_1 : decode cX0_init 1 = .ok (.invokespecial 3, 3) := by decide +kernel
theorem dX0_init_4 : decode cX0_init 4 = .ok (.aload_n 0, 1) := by decide +kernel
theorem dX0_init_5 : decode cX0_init 5 = .ok (.bipush 60, 2) := by decide +kernel
theorem dX0_init_7 : decode cX0_init 7 = .ok (.newarray .int, 2) := by decide +kernel
theorem dX0_init_9 : decode cX0_init 9 = .ok (.putfield 9, 3) := by decide +kernel
theorem dX0_init_12 : decode cX0_init 12 = .ok (.aload_n 0, 1) := by decide +kernel
theorem dX0_init_13 : decode cX0_init 13 = .ok (.bipush 60, 2) := by decide +kernel
theorem dX0_init_15 : decode cX0_init 15 = .ok (.newarray .int, 2) := by decide +kernel
theorem dX0_init_17 : decode cX0_init 17 = .ok (.putfield 15, 3) := by decide +kernel
theorem dX0_init_20 : decode cX0_init 20 = .ok (.return_, 1) := by decide +kernel
theorem dX0_note_0 : decode cX0_note 0 = .ok (.aload_n 0, 1) := by decide +kernel
theorem dX0_note_1 : decode cX0_note 1 = .ok (.getfield 9, 3) := by decide +kernel
theorem dX0_note_4 : decode cX0_note 4 = .ok (.aload_n 0, 1) := by decide +kernel
theorem dX0_note_5 : decode cX0_note 5 = .ok (.getfield 18, 3) := by decide +kernel
theorem dX0_note_8 : decode cX0_note 8 = .ok (.iload_n 1, 1) := by decide +kernel
theorem dX0_note_9 : decode cX0_note 9 = .ok (.iastore, 1) := by decide +kernel
theorem dX0_note_10 : decode cX0_note 10 = .ok (.aload_n 0, 1) := by decide +kernel
theorem dX0_note_11 : decode cX0_note 11 = .ok (.getfield 15, 3) := by decide +kernel
theorem dX0_note_14 : decode cX0_note 14 = .ok (.aload_n 0, 1) := by decide +kernel
theorem dX0_note_15 : decode cX0_note 15 = .ok (.getfield 18, 3) := by decide +kernel
theorem dX0_note_18 : decode cX0_note 18 = .ok (.iload_n 2, 1) := by decide +kernel
theorem dX0_note_19 : decode cX0_note 19 = .ok (.iastore, 1) := by decide +kernel
theorem dX0_note_20 : decode cX0_note 20 = .ok (.aload_n 0, 1) := by decide +kernel
theorem dX0_note_21 : decode cX0_note 21 = .ok (.aload_n 0, 1) := by decide +kernel
theorem dX0_note_22 : decode cX0_note 22 = .ok (.getfield 18, 3) := by decide +kernel
theorem dX0_note_25 : decode cX0_note 25 = .ok (.iconst 1, 1) := by decide +kernel
theorem dX0_note_26 : decode cX0_note 26 = .ok (.iadd, 1) := by decide +kernel
theorem dX0_note_27 : decode cX0_note 27 = .ok (.bipush 60, 2) := by decide +kernel
theorem dX0_note_29 : decode cX0_note 29 = .ok (.if_icmp .ge 12, 3) := by decide +kernel
theorem dX0_note_32 : decode cX0_note 32 = .ok (.aload_n 0, 1) := by decide +kernel
theorem dX0_note_33 : decode cX0_note 33 = .ok (.getfield 18, 3) := by decide +kernel
theorem dX0_note_36 : decode cX0_note 36 = .ok (.iconst 1, 1) := by decide +kernel
theorem dX0_note_37 : decode cX0_note 37 = .ok (.iadd, 1) := by decide +kernel
theorem dX0_note_38 : decode cX0_note 38 = .ok (.goto 4, 3) := by decide +kernel
theorem dX0_note_41 : decode cX0_note 41 = .ok (.iconst 0, 1) := by decide +kernel
theorem dX0_note_42 : decode cX0_note 42 = .ok (.putfield 18, 3) := by decide +kernel
theorem dX0_note_45 : decode cX0_note 45 = .ok (.aload_n 0, 1) := by decide +kernel
theorem dX0_note_46 : decode cX0_note 46 = .ok (.getfield 22, 3) := by decide +kernel
theorem dX0_note_49 : decode cX0_note 49 = .ok (.bipush 60, 2) := by decide +kernel
theorem dX0_note_51 : decode cX0_note 51 = .ok (.if_icmp .ge 13, 3) := by decide +kernel
theorem dX0_note_54 : decode cX0_note 54 = .ok (.aload_n 0, 1) := by decide +kernel
theorem dX0_note_55 : decode cX0_note 55 = .ok (.dup, 1) := by decide +kernel
theorem dX0_note_56 : decode cX0_note 56 = .ok (.getfield 22, 3) := by decide +kernel
theorem dX0_note_59 : decode cX0_note 59 = .ok (.iconst 1, 1) := by decide +kernel
theorem dX0_note_60 : decode cX0_note 60 = .ok (.iadd, 1) := by decide +kernel
theorem dX0_note_61 : decode cX0_note 61 = .ok (.putfield 22, 3) := by decide +kernel
theorem dX0_note_64 : decode cX0_note 64 = .ok (.return_, 1) := by decide +kernel
theorem dX0_placeOf_0 : decode cX0_placeOf 0 = .ok (.iload_n 1, 1) := by decide +kernel
theorem dX0_placeOf_1 : decode cX0_placeOf 1 = .ok (.ifCond .lt 11, 3) := by decide +kernel
theorem dX0_placeOf_4 : decode cX0_placeOf 4 = .ok (.iload_n 1, 1) := by decide +kernel
theorem dX0_placeOf_5 : decode cX0_placeOf 5 = .ok (.aload_n 0, 1) := by decide +kernel
theorem dX0_placeOf_6 : decode cX0_placeOf 6 = .ok (.getfield 22, 3) := by decide +kernel
theorem dX0_placeOf_9 : decode cX0_placeOf 9 = .ok (.if_icmp .lt 5, 3) := by decide +kernel
theorem dX0_placeOf_12 : decode cX0_placeOf 12 = .ok (.iconst (-1), 1) := by decide +kernel
theorem dX0_placeOf_13 : decode cX0_placeOf 13 = .ok (.ireturn, 1) := by decide +kernel
theorem dX0_placeOf_14 : decode cX0_placeOf 14 = .ok (.aload_n 0, 1) := by decide +kernel
theorem dX0_placeOf_15 : decode cX0_placeOf 15 = .ok (.getfield 18, 3) := by decide +kernel
theorem dX0_placeOf_18 : decode cX0_placeOf 18 = .ok (.iconst 1, 1) := by decide +kernel
theorem dX0_placeOf_19 : decode cX0_placeOf 19 = .ok (.isub, 1) := by decide +kernel
theorem dX0_placeOf_20 : decode cX0_placeOf 20 = .ok (.iload_n 1, 1) := by decide +kernel
theorem dX0_placeOf_21 : decode cX0_placeOf 21 = .ok (.isub, 1) := by decide +kernel
theorem dX0_placeOf_22 : decode cX0_placeOf 22 = .ok (.istore_n 2, 1) := by decide +kernel
theorem dX0_placeOf_23 : decode cX0_placeOf 23 = .ok (.iload_n 2, 1) := by decide +kernel
theorem dX0_placeOf_24 : decode cX0_placeOf 24 = .ok (.ifCond .lt 7, 3) := by decide +kernel
theorem dX0_placeOf_27 : decode cX0_placeOf 27 = .ok (.iload_n 2, 1) := by decide +kernel
theorem dX0_placeOf_28 : decode cX0_placeOf 28 = .ok (.goto 7, 3) := by decide +kernel
theorem dX0_placeOf_31 : decode cX0_placeOf 31 = .ok (.iload_n 2, 1) := by decide +kernel
theorem dX0_placeOf_32 : decode cX0_placeOf 32 = .ok (.bipush 60, 2) := by decide +kernel
theorem dX0_placeOf_34 : decode cX0_placeOf 34 = .ok (.iadd, 1) := by decide +kernel
theorem dX0_placeOf_35 : decode cX0_placeOf 35 = .ok (.ireturn, 1) := by decide +kernel
theorem dX0_copyNotes_0 : decode cX0_copyNotes 0 = .ok (.aload_n 1, 1) := by decide +kernel
theorem dX0_copyNotes_1 : decode cX0_copyNotes 1 = .ok (.getfield 9, 3) := by decide +kernel
theorem dX0_copyNotes_4 : decode cX0_copyNotes 4 = .ok (.iconst 0, 1) := by decide +kernel
theorem dX0_copyNotes_5 : decode cX0_copyNotes 5 = .ok (.aload_n 0, 1) := by decide +kernel
theorem dX0_copyNotes_6 : decode cX0_copyNotes 6 = .ok (.getfield 9, 3) := by decide +kernel
theorem dX0_copyNotes_9 : decode cX0_copyNotes 9 = .ok (.iconst 0, 1) := by decide +kernel
theorem dX0_copyNotes_10 : decode cX0_copyNotes 10 = .ok (.bipush 60, 2) := by decide +kernel
theorem dX0_copyNotes_12 : decode cX0_copyNotes 12 = .ok (.invokestatic 25, 3) := by decide +kernel
theorem dX0_copyNotes_15 : decode cX0_copyNotes 15 = .ok (.aload_n 1, 1) := by decide +kernel
theorem dX0_copyNotes_16 : decode cX0_copyNotes 16 = .ok (.getfield 15, 3) := by decide +kernel
theorem dX0_copyNotes_19 : decode cX0_copyNotes 19 = .ok (.iconst 0, 1) := by decide +kernel
theorem dX0_copyNotes_20 : decode cX0_copyNotes 20 = .ok (.aload_n 0, 1) := by decide +kernel
theorem dX0_copyNotes_21 : decode cX0_copyNotes 21 = .ok (.getfield 15, 3) := by decide +kernel
theorem dX0_copyNotes_24 : decode cX0_copyNotes 24 = .ok (.iconst 0, 1) := by decide +kernel
theorem dX0_copyNotes_25 : decode cX0_copyNotes 25 = .ok (.bipush 60, 2) := by decide +kernel
theorem dX0_copyNotes_27 : decode cX0_copyNotes 27 = .ok (.invokestatic 25, 3) := by decide +kernel
theorem dX0_copyNotes_30 : decode cX0_copyNotes 30 = .ok (.aload_n 0, 1) := by decide +kernel
theorem dX0_copyNotes_31 : decode cX0_copyNotes 31 = .ok (.aload_n 1, 1) := by decide +kernel
theorem dX0_copyNotes_32 : decode cX0_copyNotes 32 = .ok (.getfield 18, 3) := by decide +kernel
theorem dX0_copyNotes_35 : decode cX0_copyNotes 35 = .ok (.putfield 18, 3) := by decide +kernel
theorem dX0_copyNotes_38 : decode cX0_copyNotes 38 = .ok (.aload_n 0, 1) := by decide +kernel
theorem dX0_copyNotes_39 : decode cX0_copyNotes 39 = .ok (.aload_n 1, 1) := by decide +kernel
theorem dX0_copyNotes_40 : decode cX0_copyNotes 40 = .ok (.getfield 22, 3) := by decide +kernel
theorem dX0_copyNotes_43 : decode cX0_copyNotes 43 = .ok (.putfield 22, 3) := by decide +kernel
theorem dX0_copyNotes_46 : decode cX0_copyNotes 46 = .ok (.return_, 1) := by decide +kernel
theorem dX1_init_0 : decode cX1_init 0 = .ok (.aload_n 0, 1) := by decide +kernel
theorem dX1_init_1 : decode cX1_init 1 = .ok (.invokespecial 3, 3) := by decide +kernel
theorem dX1_init_4 : decode cX1_init 4 = .ok (.aload_n 0, 1) := by decide +kernel
theorem dX1_init_5 : decode cX1_init 5 = .ok (.bipush 40, 2) := by decide +kernel
theorem dX1_init_7 : decode cX1_init 7 = .ok (.putfield 9, 3) := by decide +kernel
theorem dX1_init_10 : decode cX1_init 10 = .ok (.aload_n 0, 1) := by decide +kernel
theorem dX1_init_11 : decode cX1_init 11 = .ok (.iconst 3, 1) := by decide +kernel
theorem dX1_init_12 : decode cX1_init 12 = .ok (.newarray .int, 2) := by decide +kernel
theorem dX1_init_14 : decode cX1_init 14 = .ok (.dup, 1) := by decide +kernel
theorem dX1_init_15 : decode cX1_init 15 = .ok (.iconst 0, 1) := by decide +kernel
theorem dX1_init_16 : decode cX1_init 16 = .ok (.iconst 0, 1) := by decide +kernel
theorem dX1_init_17 : decode cX1_init 17 = .ok (.iastore, 1) := by decide +kernel
theorem dX1_init_18 : decode cX1_init 18 = .ok (.dup, 1) := by decide +kernel
theorem dX1_init_19 : decode cX1_init 19 = .ok (.iconst 1, 1) := by decide +kernel
theorem dX1_init_20 : decode cX1_init 20 = .ok (.iconst 4, 1) := by decide +kernel
theorem dX1_init_21 : decode cX1_init 21 = .ok (.iastore, 1) := by decide +kernel
theorem dX1_init_22 : decode cX1_init 22 = .ok (.dup, 1) := by decide +kernel
theorem dX1_init_23 : decode cX1_init 23 = .ok (.iconst 2, 1) := by decide +kernel
theorem dX1_init_24 : decode cX1_init 24 = .ok (.iconst 0, 1) := by decide +kernel
theorem dX1_init_25 : decode cX1_init 25 = .ok (.iastore, 1) := by decide +kernel
theorem dX1_init_26 : decode cX1_init 26 = .ok (.putfield 15, 3) := by decide +kernel
theorem dX1_init_29 : decode cX1_init 29 = .ok (.aload_n 0, 1) := by decide +kernel
theorem dX1_init_30 : decode cX1_init 30 = .ok (.new 19, 3) := by decide +kernel
theorem dX1_init_33 : decode cX1_init 33 = .ok (.dup, 1) := by decide +kernel
theorem dX1_init_34 : decode cX1_init 34 = .ok (.invokespecial 21, 3) := by decide +kernel
theorem dX1_init_37 : decode cX1_init 37 = .ok (.putfield 22, 3) := by decide +kernel
theorem dX1_init_40 : decode cX1_init 40 = .ok (.aload_n 0, 1) := by decide +kernel
theorem dX1_init_41 : decode cX1_init 41 = .ok (.bipush 10, 2) := by decide +kernel
theorem dX1_init_43 : decode cX1_init 43 = .ok (.newarray .int, 2) := by decide +kernel
theorem dX1_init_45 : decode cX1_init 45 = .ok (.putfield 26, 3) := by decide +kernel
theorem dX1_init_48 : decode cX1_init 48 = .ok (.aload_n 0, 1) := by decide +kernel
theorem dX1_init_49 : decode cX1_init 49 = .ok (.bipush 10, 2) := by decide +kernel
theorem dX1_init_51 : decode cX1_init 51 = .ok (.newarray .int, 2) := by decide +kernel
theorem dX1_init_53 : decode cX1_init 53 = .ok (.putfield 29, 3) := by decide +kernel
theorem dX1_init_56 : decode cX1_init 56 = .ok (.aload_n 0, 1) := by decide +kernel
theorem dX1_init_57 : decode cX1_init 57 = .ok (.bipush 10, 2) := by decide +kernel
theorem dX1_init_59 : decode cX1_init 59 = .ok (.newarray .int, 2) := by decide +kernel
theorem dX1_init_61 : decode cX1_init 61 = .ok (.putfield 32, 3) := by decide +kernel
theorem dX1_init_64 : decode cX1_init 64 = .ok (.aload_n 0, 1) := by decide +kernel
theorem dX1_init_65 : decode cX1_init 65 = .ok (.bipush 10, 2) := by decide +kernel
theorem dX1_init_67 : decode cX1_init 67 = .ok (.newarray .int, 2) := by decide +kernel
theorem dX1_init_69 : decode cX1_init 69 = .ok (.putfield 35, 3) := by decide +kernel
theorem dX1_init_72 : decode cX1_init 72 = .ok (.aload_n 0, 1) := by decide +kernel
theorem dX1_init_73 : decode cX1_init 73 = .ok (.bipush 100, 2) := by decide +kernel
theorem dX1_init_75 : decode cX1_init 75 = .ok (.newarray .int, 2) := by decide +kernel
theorem dX1_init_77 : decode cX1_init 77 = .ok (.putfield 38, 3) := by decide +kernel
theorem dX1_init_80 : decode cX1_init 80 = .ok (.aload_n 0, 1) := by decide +kernel
theorem dX1_init_81 : decode cX1_init 81 = .ok (.sipush 160, 3) := by decide +kernel
theorem dX1_init_84 : decode cX1_init 84 = .ok (.newarray .int, 2) := by decide +kernel
theorem dX1_init_86 : decode cX1_init 86 = .ok (.putfield 41, 3) := by decide +kernel
theorem dX1_init_89 : decode cX1_init 89 = .ok (.aload_n 0, 1) := by decide +kernel
theorem dX1_init_90 : decode cX1_init 90 = .ok (.bipush 10, 2) := by decide +kernel
theorem dX1_init_92 : decode cX1_init 92 = .ok (.newarray .int, 2) := by decide +kernel
theorem dX1_init_94 : decode cX1_init 94 = .ok (.putfield 44, 3) := by decide +kernel
theorem dX1_init_97 : decode cX1_init 97 = .ok (.iconst 0, 1) := by decide +kernel
theorem dX1_init_98 : decode cX1_init 98 = .ok (.istore_n 1, 1) := by decide +kernel
theorem dX1_init_99 : decode cX1_init 99 = .ok (.iload_n 1, 1) := by decide +kernel
theorem dX1_init_100 : decode cX1_init 100 = .ok (.aload_n 0, 1) := by decide +kernel
theorem dX1_init_101 : decode cX1_init 101 = .ok (.getfield 38, 3) := by decide +kernel
theorem dX1_init_104 : decode cX1_init 104 = .ok (.arraylength, 1) := by decide +kernel
theorem dX1_init_105 : decode cX1_init 105 = .ok (.if_icmp .ge 16, 3) := by decide +kernel
theorem dX1_init_108 : decode cX1_init 108 = .ok (.aload_n 0, 1) := by decide +kernel
theorem dX1_init_109 : decode cX1_init 109 = .ok (.getfield 38, 3) := by decide +kernel
theorem dX1_init_112 : decode cX1_init 112 = .ok (.iload_n 1, 1) := by decide +kernel
theorem dX1_init_113 : decode cX1_init 113 = .ok (.iconst (-1), 1) := by decide +kernel
theorem dX1_init_114 : decode cX1_init 114 = .ok (.iastore, 1) := by decide +kernel
theorem dX1_init_115 : decode cX1_init 115 = .ok (.iinc 1 1, 3) := by decide +kernel
theorem dX1_init_118 : decode cX1_init 118 = .ok (.goto (-19), 3) := by decide +kernel
theorem dX1_init_121 : decode cX1_init 121 = .ok (.return_, 1) := by decide +kernel
theorem dX1_copyFrom_0 : decode cX1_copyFrom 0 = .ok (.aload_n 0, 1) := by decide +kernel
theorem dX1_copyFrom_1 : decode cX1_copyFrom 1 = .ok (.aload_n 1, 1) := by decide +kernel
theorem dX1_copyFrom_2 : decode cX1_copyFrom 2 = .ok (.getfield 47, 3) := by decide +kernel
theorem dX1_copyFrom_5 : decode cX1_copyFrom 5 = .ok (.putfield 47, 3) := by decide +kernel
theorem dX1_copyFrom_8 : decode cX1_copyFrom 8 = .ok (.aload_n 0, 1) := by decide +kernel
theorem dX1_copyFrom_9 : decode cX1_copyFrom 9 = .ok (.aload_n 1, 1) := by decide +kernel
theorem dX1_copyFrom_10 : decode cX1_copyFrom 10 = .ok (.getfield 9, 3) := by decide +kernel
theorem dX1_copyFrom_13 : decode cX1_copyFrom 13 = .ok (.putfield 9, 3) := by decide +kernel
theorem dX1_copyFrom_16 : decode cX1_copyFrom 16 = .ok (.aload_n 1, 1) := by decide +kernel
theorem dX1_copyFrom_17 : decode cX1_copyFrom 17 = .ok (.getfield 15, 3) := by decide +kernel
theorem dX1_copyFrom_20 : decode cX1_copyFrom 20 = .ok (.iconst 0, 1) := by decide +kernel
theorem dX1_copyFrom_21 : decode cX1_copyFrom 21 = .ok (.aload_n 0, 1) := by decide +kernel
theorem dX1_copyFrom_22 : decode cX1_copyFrom 22 = .ok (.getfield 15, 3) := by decide +kernel
theorem dX1_copyFrom_25 : decode cX1_copyFrom 25 = .ok (.iconst 0, 1) := by decide +kernel
theorem dX1_copyFrom_26 : decode cX1_copyFrom 26 = .ok (.aload_n 0, 1) := by decide +kernel
theorem dX1_copyFrom_27 : decode cX1_copyFrom 27 = .ok (.getfield 15, 3) := by decide +kernel
theorem dX1_copyFrom_30 : decode cX1_copyFrom 30 = .ok (.arraylength, 1) := by decide +kernel
theorem dX1_copyFrom_31 : decode cX1_copyFrom 31 = .ok (.invokestatic 50, 3) := by decide +kernel
theorem dX1_copyFrom_34 : decode cX1_copyFrom 34 = .ok (.aload_n 0, 1) := by decide +kernel
theorem dX1_copyFrom_35 : decode cX1_copyFrom 35 = .ok (.aload_n 1, 1) := by decide +kernel
theorem dX1_copyFrom_36 : decode cX1_copyFrom 36 = .ok (.getfield 56, 3) := by decide +kernel
theorem dX1_copyFrom_39 : decode cX1_copyFrom 39 = .ok (.putfield 56, 3) := by decide +kernel
theorem dX1_copyFrom_42 : decode cX1_copyFrom 42 = .ok (.aload_n 0, 1) := by decide +kernel
theorem dX1_copyFrom_43 : decode cX1_copyFrom 43 = .ok (.aload_n 1, 1) := by decide +kernel
theorem dX1_copyFrom_44 : decode cX1_copyFrom 44 = .ok (.getfield 59, 3) := by decide +kernel
theorem dX1_copyFrom_47 : decode cX1_copyFrom 47 = .ok (.putfield 59, 3) := by decide +kernel
theorem dX1_copyFrom_50 : decode cX1_copyFrom 50 = .ok (.aload_n 0, 1) := by decide +kernel
theorem dX1_copyFrom_51 : decode cX1_copyFrom 51 = .ok (.getfield 22, 3) := by decide +kernel
theorem dX1_copyFrom_54 : decode cX1_copyFrom 54 = .ok (.aload_n 1, 1) := by decide +kernel
theorem dX1_copyFrom_55 : decode cX1_copyFrom 55 = .ok (.getfield 22, 3) := by decide +kernel
theorem dX1_copyFrom_58 : decode cX1_copyFrom 58 = .ok (.invokevirtual 62, 3) := by decide +kernel
theorem dX1_copyFrom_61 : decode cX1_copyFrom 61 = .ok (.aload_n 1, 1) := by decide +kernel
theorem dX1_copyFrom_62 : decode cX1_copyFrom 62 = .ok (.getfield 26, 3) := by decide +kernel
theorem dX1_copyFrom_65 : decode cX1_copyFrom 65 = .ok (.iconst 0, 1) := by decide +kernel
theorem dX1_copyFrom_66 : decode cX1_copyFrom 66 = .ok (.aload_n 0, 1) := by decide +kernel
theorem dX1_copyFrom_67 : decode cX1_copyFrom 67 = .ok (.getfield 26, 3) := by decide +kernel
theorem dX1_copyFrom_70 : decode cX1_copyFrom 70 = .ok (.iconst 0, 1) := by decide +kernel
theorem dX1_copyFrom_71 : decode cX1_copyFrom 71 = .ok (.aload_n 0, 1) := by decide +kernel
theorem dX1_copyFrom_72 : decode cX1_copyFrom 72 = .ok (.getfield 26, 3) := by decide +kernel
theorem dX1_copyFrom_75 : decode cX1_copyFrom 75 = .ok (.arraylength, 1) := by decide +kernel
theorem dX1_copyFrom_76 : decode cX1_copyFrom 76 = .ok (.invokestatic 50, 3) := by decide +kernel
theorem dX1_copyFrom_79 : decode cX1_copyFrom 79 = .ok (.aload_n 1, 1) := by decide +kernel
theorem dX1_copyFrom_80 : decode cX1_copyFrom 80 = .ok (.getfield 29, 3) := by decide +kernel
theorem dX1_copyFrom_83 : decode cX1_copyFrom 83 = .ok (.iconst 0, 1) := by decide +kernel
theorem dX1_copyFrom_84 : decode cX1_copyFrom 84 = .ok (.aload_n 0, 1) := by decide +kernel
theorem dX1_copyFrom_85 : decode cX1_copyFrom 85 = .ok (.getfield 29, 3) := by decide +kernel
theorem dX1_copyFrom_88 : decode cX1_copyFrom 88 = .ok (.iconst 0, 1) := by decide +kernel
theorem dX1_copyFrom_89 : decode cX1_copyFrom 89 = .ok (.aload_n 0, 1) := by decide +kernel
theorem dX1_copyFrom_90 : decode cX1_copyFrom 90 = .ok (.getfield 29, 3) := by decide +kernel
theorem dX1_copyFrom_93 : decode cX1_copyFrom 93 = .ok (.arraylength, 1) := by decide +kernel
theorem dX1_copyFrom_94 : decode cX1_copyFrom 94 = .ok (.invokestatic 50, 3) := by decide +kernel
theorem dX1_copyFrom_97 : decode cX1_copyFrom 97 = .ok (.aload_n 1, 1) := by decide +kernel
theorem dX1_copyFrom_98 : decode cX1_copyFrom 98 = .ok (.getfield 32, 3) := by decide +kernel
theorem dX1_copyFrom_101 : decode cX1_copyFrom 101 = .ok (.iconst 0, 1) := by decide +kernel
theorem dX1_copyFrom_102 : decode cX1_copyFrom 102 = .ok (.aload_n 0, 1) := by decide +kernel
theorem dX1_copyFrom_103 : decode cX1_copyFrom 103 = .ok (.getfield 32, 3) := by decide +kernel
theorem dX1_copyFrom_106 : decode cX1_copyFrom 106 = .ok (.iconst 0, 1) := by decide +kernel
theorem dX1_copyFrom_107 : decode cX1_copyFrom 107 = .ok (.aload_n 0, 1) := by decide +kernel
theorem dX1_copyFrom_108 : decode cX1_copyFrom 108 = .ok (.getfield 32, 3) := by decide +kernel
theorem dX1_copyFrom_111 : decode cX1_copyFrom 111 = .ok (.arraylength, 1) := by decide +kernel
theorem dX1_copyFrom_112 : decode cX1_copyFrom 112 = .ok (.invokestatic 50, 3) := by decide +kernel
theorem dX1_copyFrom_115 : decode cX1_copyFrom 115 = .ok (.aload_n 1, 1) := by decide +kernel
theorem dX1_copyFrom_116 : decode cX1_copyFrom 116 = .ok (.getfield 35, 3) := by decide +kernel
theorem dX1_copyFrom_119 : decode cX1_copyFrom 119 = .ok (.iconst 0, 1) := by decide +kernel
theorem dX1_copyFrom_120 : decode cX1_copyFrom 120 = .ok (.aload_n 0, 1) := by decide +kernel
theorem dX1_copyFrom_121 : decode cX1_copyFrom 121 = .ok (.getfield 35, 3) := by decide +kernel
theorem dX1_copyFrom_124 : decode cX1_copyFrom 124 = .ok (.iconst 0, 1) := by decide +kernel
theorem dX1_copyFrom_125 : decode cX1_copyFrom 125 = .ok (.aload_n 0, 1) := by decide +kernel
theorem dX1_copyFrom_126 : decode cX1_copyFrom 126 = .ok (.getfield 35, 3) := by decide +kernel
theorem dX1_copyFrom_129 : decode cX1_copyFrom 129 = .ok (.arraylength, 1) := by decide +kernel
theorem dX1_copyFrom_130 : decode cX1_copyFrom 130 = .ok (.invokestatic 50, 3) := by decide +kernel
theorem dX1_copyFrom_133 : decode cX1_copyFrom 133 = .ok (.aload_n 1, 1) := by decide +kernel
theorem dX1_copyFrom_134 : decode cX1_copyFrom 134 = .ok (.getfield 38, 3) := by decide +kernel
theorem dX1_copyFrom_137 : decode cX1_copyFrom 137 = .ok (.iconst 0, 1) := by decide +kernel
theorem dX1_copyFrom_138 : decode cX1_copyFrom 138 = .ok (.aload_n 0, 1) := by decide +kernel
theorem dX1_copyFrom_139 : decode cX1_copyFrom 139 = .ok (.getfield 38, 3) := by decide +kernel
theorem dX1_copyFrom_142 : decode cX1_copyFrom 142 = .ok (.iconst 0, 1) := by decide +kernel
theorem dX1_copyFrom_143 : decode cX1_copyFrom 143 = .ok (.aload_n 0, 1) := by decide +kernel
theorem dX1_copyFrom_144 : decode cX1_copyFrom 144 = .ok (.getfield 38, 3) := by decide +kernel
theorem dX1_copyFrom_147 : decode cX1_copyFrom 147 = .ok (.arraylength, 1) := by decide +kernel
theorem dX1_copyFrom_148 : decode cX1_copyFrom 148 = .ok (.invokestatic 50, 3) := by decide +kernel
theorem dX1_copyFrom_151 : decode cX1_copyFrom 151 = .ok (.aload_n 1, 1) := by decide +kernel
theorem dX1_copyFrom_152 : decode cX1_copyFrom 152 = .ok (.getfield 41, 3) := by decide +kernel
theorem dX1_copyFrom_155 : decode cX1_copyFrom 155 = .ok (.iconst 0, 1) := by decide +kernel
theorem dX1_copyFrom_156 : decode cX1_copyFrom 156 = .ok (.aload_n 0, 1) := by decide +kernel
theorem dX1_copyFrom_157 : decode cX1_copyFrom 157 = .ok (.getfield 41, 3) := by decide +kernel
theorem dX1_copyFrom_160 : decode cX1_copyFrom 160 = .ok (.iconst 0, 1) := by decide +kernel
theorem dX1_copyFrom_161 : decode cX1_copyFrom 161 = .ok (.aload_n 0, 1) := by decide +kernel
theorem dX1_copyFrom_162 : decode cX1_copyFrom 162 = .ok (.getfield 41, 3) := by decide +kernel
theorem dX1_copyFrom_165 : decode cX1_copyFrom 165 = .ok (.arraylength, 1) := by decide +kernel
theorem dX1_copyFrom_166 : decode cX1_copyFrom 166 = .ok (.invokestatic 50, 3) := by decide +kernel
theorem dX1_copyFrom_169 : decode cX1_copyFrom 169 = .ok (.return_, 1) := by decide +kernel
theorem dX1_hasClock_0 : decode cX1_hasClock 0 = .ok (.iload_n 1, 1) := by decide +kernel
theorem dX1_hasClock_1 : decode cX1_hasClock 1 = .ok (.ifCond .lt 15, 3) := by decide +kernel
theorem dX1_hasClock_4 : decode cX1_hasClock 4 = .ok (.iload_n 1, 1) := by decide +kernel
theorem dX1_hasClock_5 : decode cX1_hasClock 5 = .ok (.aload_n 0, 1) := by decide +kernel
theorem dX1_hasClock_6 : decode cX1_hasClock 6 = .ok (.getfield 47, 3) := by decide +kernel
theorem dX1_hasClock_9 : decode cX1_hasClock 9 = .ok (.if_icmp .ge 7, 3) := by decide +kernel
theorem dX1_hasClock_12 : decode cX1_hasClock 12 = .ok (.iconst 1, 1) := by decide +kernel
theorem dX1_hasClock_13 : decode cX1_hasClock 13 = .ok (.goto 4, 3) := by decide +kernel
theorem dX1_hasClock_16 : decode cX1_hasClock 16 = .ok (.iconst 0, 1) := by decide +kernel
theorem dX1_hasClock_17 : decode cX1_hasClock 17 = .ok (.ireturn, 1) := by decide +kernel
theorem dX1_isFull_0 : decode cX1_isFull 0 = .ok (.aload_n 0, 1) := by decide +kernel
theorem dX1_isFull_1 : decode cX1_isFull 1 = .ok (.getfield 47, 3) := by decide +kernel
theorem dX1_isFull_4 : decode cX1_isFull 4 = .ok (.bipush 10, 2) := by decide +kernel
theorem dX1_isFull_6 : decode cX1_isFull 6 = .ok (.if_icmp .lt 7, 3) := by decide +kernel
theorem dX1_isFull_9 : decode cX1_isFull 9 = .ok (.iconst 1, 1) := by decide +kernel
theorem dX1_isFull_10 : decode cX1_isFull 10 = .ok (.goto 4, 3) := by decide +kernel
theorem dX1_isFull_13 : decode cX1_isFull 13 = .ok (.iconst 0, 1) := by decide +kernel
theorem dX1_isFull_14 : decode cX1_isFull 14 = .ok (.ireturn, 1) := by decide +kernel
theorem dX1_isPhase_0 : decode cX1_isPhase 0 = .ok (.iload_n 1, 1) := by decide +kernel
theorem dX1_isPhase_1 : decode cX1_isPhase 1 = .ok (.ifCond .lt 15, 3) := by decide +kernel
theorem dX1_isPhase_4 : decode cX1_isPhase 4 = .ok (.iload_n 1, 1) := by decide +kernel
theorem dX1_isPhase_5 : decode cX1_isPhase 5 = .ok (.aload_n 0, 1) := by decide +kernel
theorem dX1_isPhase_6 : decode cX1_isPhase 6 = .ok (.getfield 9, 3) := by decide +kernel
theorem dX1_isPhase_9 : decode cX1_isPhase 9 = .ok (.if_icmp .ge 7, 3) := by decide +kernel
theorem dX1_isPhase_12 : decode cX1_isPhase 12 = .ok (.iconst 1, 1) := by decide +kernel
theorem dX1_isPhase_13 : decode cX1_isPhase 13 = .ok (.goto 4, 3) := by decide +kernel
theorem dX1_isPhase_16 : decode cX1_isPhase 16 = .ok (.iconst 0, 1) := by decide +kernel
theorem dX1_isPhase_17 : decode cX1_isPhase 17 = .ok (.ireturn, 1) := by decide +kernel
theorem dX1_isGood_0 : decode cX1_isGood 0 = .ok (.aload_n 0, 1) := by decide +kernel
theorem dX1_isGood_1 : decode cX1_isGood 1 = .ok (.getfield 32, 3) := by decide +kernel
theorem dX1_isGood_4 : decode cX1_isGood 4 = .ok (.iload_n 1, 1) := by decide +kernel
theorem dX1_isGood_5 : decode cX1_isGood 5 = .ok (.iaload, 1) := by decide +kernel
theorem dX1_isGood_6 : decode cX1_isGood 6 = .ok (.ifCond .ne 7, 3) := by decide +kernel
theorem dX1_isGood_9 : decode cX1_isGood 9 = .ok (.iconst 1, 1) := by decide +kernel
theorem dX1_isGood_10 : decode cX1_isGood 10 = .ok (.goto 4, 3) := by decide +kernel
theorem dX1_isGood_13 : decode cX1_isGood 13 = .ok (.iconst 0, 1) := by decide +kernel
theorem dX1_isGood_14 : decode cX1_isGood 14 = .ok (.ireturn, 1) := by decide +kernel
theorem dX1_hasFired_0 : decode cX1_hasFired 0 = .ok (.aload_n 0, 1) := by decide +kernel
theorem dX1_hasFired_1 : decode cX1_hasFired 1 = .ok (.getfield 59, 3) := by decide +kernel
theorem dX1_hasFired_4 : decode cX1_hasFired 4 = .ok (.iconst 1, 1) := by decide +kernel
theorem dX1_hasFired_5 : decode cX1_hasFired 5 = .ok (.iload_n 1, 1) := by decide +kernel
theorem dX1_hasFired_6 : decode cX1_hasFired 6 = .ok (.ishl, 1) := by decide +kernel
theorem dX1_hasFired_7 : decode cX1_hasFired 7 = .ok (.iand, 1) := by decide +kernel
theorem dX1_hasFired_8 : decode cX1_hasFired 8 = .ok (.ifCond .eq 7, 3) := by decide +kernel
theorem dX1_hasFired_11 : decode cX1_hasFired 11 = .ok (.iconst 1, 1) := by decide +kernel
theorem dX1_hasFired_12 : decode cX1_hasFired 12 = .ok (.goto 4, 3) := by decide +kernel
theorem dX1_hasFired_15 : decode cX1_hasFired 15 = .ok (.iconst 0, 1) := by decide +kernel
theorem dX1_hasFired_16 : decode cX1_hasFired 16 = .ok (.ireturn, 1) := by decide +kernel
theorem dX1_allClocks_0 : decode cX1_allClocks 0 = .ok (.iconst 1, 1) := by decide +kernel
theorem dX1_allClocks_1 : decode cX1_allClocks 1 = .ok (.aload_n 0, 1) := by decide +kernel
theorem dX1_allClocks_2 : decode cX1_allClocks 2 = .ok (.getfield 47, 3) := by decide +kernel
theorem dX1_allClocks_5 : decode cX1_allClocks 5 = .ok (.ishl, 1) := by decide +kernel
theorem dX1_allClocks_6 : decode cX1_allClocks 6 = .ok (.iconst 1, 1) := by decide +kernel
theorem dX1_allClocks_7 : decode cX1_allClocks 7 = .ok (.isub, 1) := by decide +kernel
theorem dX1_allClocks_8 : decode cX1_allClocks 8 = .ok (.ireturn, 1) := by decide +kernel
theorem dX1_about_0 : decode cX1_about 0 = .ok (.iload_n 2, 1) := by decide +kernel
theorem dX1_about_1 : decode cX1_about 1 = .ok (.tableswitch 114 0 5 #[39, 46, 53, 67, 86, 105], 39) := by decide +kernel
theorem dX1_about_40 : decode cX1_about 40 = .ok (.aload_n 0, 1) := by decide +kernel
theorem dX1_about_41 : decode cX1_about 41 = .ok (.getfield 26, 3) := by decide +kernel
theorem dX1_about_44 : decode cX1_about 44 = .ok (.iload_n 1, 1) := by decide +kernel
theorem dX1_about_45 : decode cX1_about 45 = .ok (.iaload, 1) := by decide +kernel
theorem dX1_about_46 : decode cX1_about 46 = .ok (.ireturn, 1) := by decide +kernel
theorem dX1_about_47 : decode cX1_about 47 = .ok (.aload_n 0, 1) := by decide +kernel
theorem dX1_about_48 : decode cX1_about 48 = .ok (.getfield 29, 3) := by decide +kernel
theorem dX1_about_51 : decode cX1_about 51 = .ok (.iload_n 1, 1) := by decide +kernel
theorem dX1_about_52 : decode cX1_about 52 = .ok (.iaload, 1) := by decide +kernel
theorem dX1_about_53 : decode cX1_about 53 = .ok (.ireturn, 1) := by decide +kernel
theorem dX1_about_54 : decode cX1_about 54 = .ok (.aload_n 0, 1) := by decide +kernel
theorem dX1_about_55 : decode cX1_about 55 = .ok (.iload_n 1, 1) := by decide +kernel
theorem dX1_about_56 : decode cX1_about 56 = .ok (.invokevirtual 66, 3) := by decide +kernel
theorem dX1_about_59 : decode cX1_about 59 = .ok (.ifCond .eq 7, 3) := by decide +kernel
theorem dX1_about_62 : decode cX1_about 62 = .ok (.iconst 0, 1) := by decide +kernel
theorem dX1_about_63 : decode cX1_about 63 = .ok (.goto 4, 3) := by decide +kernel
theorem dX1_about_66 : decode cX1_about 66 = .ok (.iconst 1, 1) := by decide +kernel
theorem dX1_about_67 : decode cX1_about 67 = .ok (.ireturn, 1) := by decide +kernel
theorem dX1_about_68 : decode cX1_about 68 = .ok (.aload_n 0, 1) := by decide +kernel
theorem dX1_about_69 : decode cX1_about 69 = .ok (.iload_n 1, 1) := by decide +kernel
theorem dX1_about_70 : decode cX1_about 70 = .ok (.invokevirtual 66, 3) := by decide +kernel
theorem dX1_about_73 : decode cX1_about 73 = .ok (.ifCond .eq 7, 3) := by decide +kernel
theorem dX1_about_76 : decode cX1_about 76 = .ok (.iconst (-1), 1) := by decide +kernel
theorem dX1_about_77 : decode cX1_about 77 = .ok (.goto 9, 3) := by decide +kernel
theorem dX1_about_80 : decode cX1_about 80 = .ok (.aload_n 0, 1) := by decide +kernel
theorem dX1_about_81 : decode cX1_about 81 = .ok (.getfield 32, 3) := by decide +kernel
theorem dX1_about_84 : decode cX1_about 84 = .ok (.iload_n 1, 1) := by decide +kernel
theorem dX1_about_85 : decode cX1_about 85 = .ok (.iaload, 1) := by decide +kernel
theorem dX1_about_86 : decode cX1_about 86 = .ok (.ireturn, 1) := by decide +kernel
theorem dX1_about_87 : decode cX1_about 87 = .ok (.aload_n 0, 1) := by decide +kernel
theorem dX1_about_88 : decode cX1_about 88 = .ok (.iload_n 1, 1) := by decide +kernel
theorem dX1_about_89 : decode cX1_about 89 = .ok (.invokevirtual 66, 3) := by decide +kernel
theorem dX1_about_92 : decode cX1_about 92 = .ok (.ifCond .eq 7, 3) := by decide +kernel
theorem dX1_about_95 : decode cX1_about 95 = .ok (.iconst (-1), 1) := by decide +kernel
theorem dX1_about_96 : decode cX1_about 96 = .ok (.goto 9, 3) := by decide +kernel
theorem dX1_about_99 : decode cX1_about 99 = .ok (.aload_n 0, 1) := by decide +kernel
theorem dX1_about_100 : decode cX1_about 100 = .ok (.getfield 35, 3) := by decide +kernel
theorem dX1_about_103 : decode cX1_about 103 = .ok (.iload_n 1, 1) := by decide +kernel
theorem dX1_about_104 : decode cX1_about 104 = .ok (.iaload, 1) := by decide +kernel
theorem dX1_about_105 : decode cX1_about 105 = .ok (.ireturn, 1) := by decide +kernel
theorem dX1_about_106 : decode cX1_about 106 = .ok (.aload_n 0, 1) := by decide +kernel
theorem dX1_about_107 : decode cX1_about 107 = .ok (.iload_n 1, 1) := by decide +kernel
theorem dX1_about_108 : decode cX1_about 108 = .ok (.invokevirtual 70, 3) := by decide +kernel
theorem dX1_about_111 : decode cX1_about 111 = .ok (.invokestatic 74, 3) := by decide +kernel
theorem dX1_about_114 : decode cX1_about 114 = .ok (.ireturn, 1) := by decide +kernel
theorem dX1_about_115 : decode cX1_about 115 = .ok (.aload_n 0, 1) := by decide +kernel
theorem dX1_about_116 : decode cX1_about 116 = .ok (.iload_n 1, 1) := by decide +kernel
theorem dX1_about_117 : decode cX1_about 117 = .ok (.invokevirtual 79, 3) := by decide +kernel
theorem dX1_about_120 : decode cX1_about 120 = .ok (.ireturn, 1) := by decide +kernel
theorem dX1_blinkerCount_0 : decode cX1_blinkerCount 0 = .ok (.iconst 0, 1) := by decide +kernel
theorem dX1_blinkerCount_1 : decode cX1_blinkerCount 1 = .ok (.istore_n 1, 1) := by decide +kernel
theorem dX1_blinkerCount_2 : decode cX1_blinkerCount 2 = .ok (.iconst 0, 1) := by decide +kernel
theorem dX1_blinkerCount_3 : decode cX1_blinkerCount 3 = .ok (.istore_n 2, 1) := by decide +kernel
theorem dX1_blinkerCount_4 : decode cX1_blinkerCount 4 = .ok (.iload_n 2, 1) := by decide +kernel
theorem dX1_blinkerCount_5 : decode cX1_blinkerCount 5 = .ok (.aload_n 0, 1) := by decide +kernel
theorem dX1_blinkerCount_6 : decode cX1_blinkerCount 6 = .ok (.getfield 47, 3) := by decide +kernel
theorem dX1_blinkerCount_9 : decode cX1_blinkerCount 9 = .ok (.if_icmp .ge 20, 3) := by decide +kernel
theorem dX1_blinkerCount_12 : decode cX1_blinkerCount 12 = .ok (.aload_n 0, 1) := by decide +kernel
theorem dX1_blinkerCount_13 : decode cX1_blinkerCount 13 = .ok (.iload_n 2, 1) := by decide +kernel
theorem dX1_blinkerCount_14 : decode cX1_blinkerCount 14 = .ok (.invokevirtual 66, 3) := by decide +kernel
theorem dX1_blinkerCount_17 : decode cX1_blinkerCount 17 = .ok (.ifCond .ne 6, 3) := by decide +kernel
theorem dX1_blinkerCount_20 : decode cX1_blinkerCount 20 = .ok (.iinc 1 1, 3) := by decide +kernel
theorem dX1_blinkerCount_23 : decode cX1_blinkerCount 23 = .ok (.iinc 2 1, 3) := by decide +kernel
theorem dX1_blinkerCount_26 : decode cX1_blinkerCount 26 = .ok (.goto (-22), 3) := by decide +kernel
theorem dX1_blinkerCount_29 : decode cX1_blinkerCount 29 = .ok (.iload_n 1, 1) := by decide +kernel
theorem dX1_blinkerCount_30 : decode cX1_blinkerCount 30 = .ok (.ireturn, 1) := by decide +kernel
theorem dX1_pulsesTo_0 : decode cX1_pulsesTo 0 = .ok (.iconst 0, 1) := by decide +kernel
theorem dX1_pulsesTo_1 : decode cX1_pulsesTo 1 = .ok (.istore_n 2, 1) := by decide +kernel
theorem dX1_pulsesTo_2 : decode cX1_pulsesTo 2 = .ok (.iconst 0, 1) := by decide +kernel
theorem dX1_pulsesTo_3 : decode cX1_pulsesTo 3 = .ok (.istore_n 3, 1) := by decide +kernel
theorem dX1_pulsesTo_4 : decode cX1_pulsesTo 4 = .ok (.iload_n 3, 1) := by decide +kernel
theorem dX1_pulsesTo_5 : decode cX1_pulsesTo 5 = .ok (.bipush 16, 2) := by decide +kernel
theorem dX1_pulsesTo_7 : decode cX1_pulsesTo 7 = .ok (.if_icmp .ge 26, 3) := by decide +kernel
theorem dX1_pulsesTo_10 : decode cX1_pulsesTo 10 = .ok (.iload_n 2, 1) := by decide +kernel
theorem dX1_pulsesTo_11 : decode cX1_pulsesTo 11 = .ok (.aload_n 0, 1) := by decide +kernel
theorem dX1_pulsesTo_12 : decode cX1_pulsesTo 12 = .ok (.getfield 41, 3) := by decide +kernel
theorem dX1_pulsesTo_15 : decode cX1_pulsesTo 15 = .ok (.iload_n 3, 1) := by decide +kernel
theorem dX1_pulsesTo_16 : decode cX1_pulsesTo 16 = .ok (.bipush 10, 2) := by decide +kernel
theorem dX1_pulsesTo_18 : decode cX1_pulsesTo 18 = .ok (.imul, 1) := by decide +kernel
theorem dX1_pulsesTo_19 : decode cX1_pulsesTo 19 = .ok (.iload_n 1, 1) := by decide +kernel
theorem dX1_pulsesTo_20 : decode cX1_pulsesTo 20 = .ok (.iadd, 1) := by decide +kernel
theorem dX1_pulsesTo_21 : decode cX1_pulsesTo 21 = .ok (.iaload, 1) := by decide +kernel
theorem dX1_pulsesTo_22 : decode cX1_pulsesTo 22 = .ok (.invokestatic 74, 3) := by decide +kernel
theorem dX1_pulsesTo_25 : decode cX1_pulsesTo 25 = .ok (.iadd, 1) := by decide +kernel
theorem dX1_pulsesTo_26 : decode cX1_pulsesTo 26 = .ok (.istore_n 2, 1) := by decide +kernel
theorem dX1_pulsesTo_27 : decode cX1_pulsesTo 27 = .ok (.iinc 3 1, 3) := by decide +kernel
theorem dX1_pulsesTo_30 : decode cX1_pulsesTo 30 = .ok (.goto (-26), 3) := by decide +kernel
theorem dX1_pulsesTo_33 : decode cX1_pulsesTo 33 = .ok (.iload_n 2, 1) := by decide +kernel
theorem dX1_pulsesTo_34 : decode cX1_pulsesTo 34 = .ok (.ireturn, 1) := by decide +kernel
theorem dX1_pulseCount_0 : decode cX1_pulseCount 0 = .ok (.iconst 0, 1) := by decide +kernel
theorem dX1_pulseCount_1 : decode cX1_pulseCount 1 = .ok (.istore_n 1, 1) := by decide +kernel
theorem dX1_pulseCount_2 : decode cX1_pulseCount 2 = .ok (.iconst 0, 1) := by decide +kernel
theorem dX1_pulseCount_3 : decode cX1_pulseCount 3 = .ok (.istore_n 2, 1) := by decide +kernel
theorem dX1_pulseCount_4 : decode cX1_pulseCount 4 = .ok (.iload_n 2, 1) := by decide +kernel
theorem dX1_pulseCount_5 : decode cX1_pulseCount 5 = .ok (.aload_n 0, 1) := by decide +kernel
theorem dX1_pulseCount_6 : decode cX1_pulseCount 6 = .ok (.getfield 47, 3) := by decide +kernel
theorem dX1_pulseCount_9 : decode cX1_pulseCount 9 = .ok (.if_icmp .ge 17, 3) := by decide +kernel
theorem dX1_pulseCount_12 : decode cX1_pulseCount 12 = .ok (.iload_n 1, 1) := by decide +kernel
theorem dX1_pulseCount_13 : decode cX1_pulseCount 13 = .ok (.aload_n 0, 1) := by decide +kernel
theorem dX1_pulseCount_14 : decode cX1_pulseCount 14 = .ok (.iload_n 2, 1) := by decide +kernel
theorem dX1_pulseCount_15 : decode cX1_pulseCount 15 = .ok (.invokevirtual 79, 3) := by decide +kernel
theorem dX1_pulseCount_18 : decode cX1_pulseCount 18 = .ok (.iadd, 1) := by decide +kernel
theorem dX1_pulseCount_19 : decode cX1_pulseCount 19 = .ok (.istore_n 1, 1) := by decide +kernel
theorem dX1_pulseCount_20 : decode cX1_pulseCount 20 = .ok (.iinc 2 1, 3) := by decide +kernel
theorem dX1_pulseCount_23 : decode cX1_pulseCount 23 = .ok (.goto (-19), 3) := by decide +kernel
theorem dX1_pulseCount_26 : decode cX1_pulseCount 26 = .ok (.iload_n 1, 1) := by decide +kernel
theorem dX1_pulseCount_27 : decode cX1_pulseCount 27 = .ok (.ireturn, 1) := by decide +kernel
theorem dX1_addClock_0 : decode cX1_addClock 0 = .ok (.aload_n 0, 1) := by decide +kernel
theorem dX1_addClock_1 : decode cX1_addClock 1 = .ok (.getfield 47, 3) := by decide +kernel
theorem dX1_addClock_4 : decode cX1_addClock 4 = .ok (.istore_n 2, 1) := by decide +kernel
theorem dX1_addClock_5 : decode cX1_addClock 5 = .ok (.aload_n 0, 1) := by decide +kernel
theorem dX1_addClock_6 : decode cX1_addClock 6 = .ok (.getfield 26, 3) := by decide +kernel
theorem dX1_addClock_9 : decode cX1_addClock 9 = .ok (.iload_n 2, 1) := by decide +kernel
theorem dX1_addClock_10 : decode cX1_addClock 10 = .ok (.iload_n 1, 1) := by decide +kernel
theorem dX1_addClock_11 : decode cX1_addClock 11 = .ok (.iastore, 1) := by decide +kernel
theorem dX1_addClock_12 : decode cX1_addClock 12 = .ok (.aload_n 0, 1) := by decide +kernel
theorem dX1_addClock_13 : decode cX1_addClock 13 = .ok (.dup, 1) := by decide +kernel
theorem dX1_addClock_14 : decode cX1_addClock 14 = .ok (.getfield 47, 3) := by decide +kernel
theorem dX1_addClock_17 : decode cX1_addClock 17 = .ok (.iconst 1, 1) := by decide +kernel
theorem dX1_addClock_18 : decode cX1_addClock 18 = .ok (.iadd, 1) := by decide +kernel
theorem dX1_addClock_19 : decode cX1_addClock 19 = .ok (.putfield 47, 3) := by decide +kernel
theorem dX1_addClock_22 : decode cX1_addClock 22 = .ok (.iload_n 2, 1) := by decide +kernel
theorem dX1_addClock_23 : decode cX1_addClock 23 = .ok (.ireturn, 1) := by decide +kernel
theorem dX1_changePhase_0 : decode cX1_changePhase 0 = .ok (.aload_n 0, 1) := by decide +kernel
theorem dX1_changePhase_1 : decode cX1_changePhase 1 = .ok (.getfield 26, 3) := by decide +kernel
theorem dX1_changePhase_4 : decode cX1_changePhase 4 = .ok (.iload_n 1, 1) := by decide +kernel
theorem dX1_changePhase_5 : decode cX1_changePhase 5 = .ok (.iaload, 1) := by decide +kernel
theorem dX1_changePhase_6 : decode cX1_changePhase 6 = .ok (.istore_n 3, 1) := by decide +kernel
theorem dX1_changePhase_7 : decode cX1_changePhase 7 = .ok (.aload_n 0, 1) := by decide +kernel
theorem dX1_changePhase_8 : decode cX1_changePhase 8 = .ok (.getfield 26, 3) := by decide +kernel
theorem dX1_changePhase_11 : decode cX1_changePhase 11 = .ok (.iload_n 1, 1) := by decide +kernel
theorem dX1_changePhase_12 : decode cX1_changePhase 12 = .ok (.iload_n 2, 1) := by decide +kernel
theorem dX1_changePhase_13 : decode cX1_changePhase 13 = .ok (.iastore, 1) := by decide +kernel
theorem dX1_changePhase_14 : decode cX1_changePhase 14 = .ok (.iload_n 3, 1) := by decide +kernel
theorem dX1_changePhase_15 : decode cX1_changePhase 15 = .ok (.ireturn, 1) := by decide +kernel
theorem dX1_changeDrift_0 : decode cX1_changeDrift 0 = .ok (.aload_n 0, 1) := by decide +kernel
theorem dX1_changeDrift_1 : decode cX1_changeDrift 1 = .ok (.getfield 29, 3) := by decide +kernel
theorem dX1_changeDrift_4 : decode cX1_changeDrift 4 = .ok (.iload_n 1, 1) := by decide +kernel
theorem dX1_changeDrift_5 : decode cX1_changeDrift 5 = .ok (.iaload, 1) := by decide +kernel
theorem dX1_changeDrift_6 : decode cX1_changeDrift 6 = .ok (.istore_n 3, 1) := by decide +kernel
theorem dX1_changeDrift_7 : decode cX1_changeDrift 7 = .ok (.aload_n 0, 1) := by decide +kernel
theorem dX1_changeDrift_8 : decode cX1_changeDrift 8 = .ok (.getfield 29, 3) := by decide +kernel
theorem dX1_changeDrift_11 : decode cX1_changeDrift 11 = .ok (.iload_n 1, 1) := by decide +kernel
theorem dX1_changeDrift_12 : decode cX1_changeDrift 12 = .ok (.iload_n 2, 1) := by decide +kernel
theorem dX1_changeDrift_13 : decode cX1_changeDrift 13 = .ok (.iastore, 1) := by decide +kernel
theorem dX1_changeDrift_14 : decode cX1_changeDrift 14 = .ok (.iload_n 3, 1) := by decide +kernel
theorem dX1_changeDrift_15 : decode cX1_changeDrift 15 = .ok (.ireturn, 1) := by decide +kernel
theorem dX1_makeBlinker_0 : decode cX1_makeBlinker 0 = .ok (.aload_n 0, 1) := by decide +kernel
theorem dX1_makeBlinker_1 : decode cX1_makeBlinker 1 = .ok (.getfield 32, 3) := by decide +kernel
theorem dX1_makeBlinker_4 : decode cX1_makeBlinker 4 = .ok (.iload_n 1, 1) := by decide +kernel
theorem dX1_makeBlinker_5 : decode cX1_makeBlinker 5 = .ok (.iload_n 2, 1) := by decide +kernel
theorem dX1_makeBlinker_6 : decode cX1_makeBlinker 6 = .ok (.iastore, 1) := by decide +kernel
theorem dX1_makeBlinker_7 : decode cX1_makeBlinker 7 = .ok (.aload_n 0, 1) := by decide +kernel
theorem dX1_makeBlinker_8 : decode cX1_makeBlinker 8 = .ok (.getfield 35, 3) := by decide +kernel
theorem dX1_makeBlinker_11 : decode cX1_makeBlinker 11 = .ok (.iload_n 1, 1) := by decide +kernel
theorem dX1_makeBlinker_12 : decode cX1_makeBlinker 12 = .ok (.iload_n 3, 1) := by decide +kernel
theorem dX1_makeBlinker_13 : decode cX1_makeBlinker 13 = .ok (.iastore, 1) := by decide +kernel
theorem dX1_makeBlinker_14 : decode cX1_makeBlinker 14 = .ok (.return_, 1) := by decide +kernel
theorem dX1_makeGood_0 : decode cX1_makeGood 0 = .ok (.aload_n 0, 1) := by decide +kernel
theorem dX1_makeGood_1 : decode cX1_makeGood 1 = .ok (.getfield 32, 3) := by decide +kernel
theorem dX1_makeGood_4 : decode cX1_makeGood 4 = .ok (.iload_n 1, 1) := by decide +kernel
theorem dX1_makeGood_5 : decode cX1_makeGood 5 = .ok (.iconst 0, 1) := by decide +kernel
theorem dX1_makeGood_6 : decode cX1_makeGood 6 = .ok (.iastore, 1) := by decide +kernel
theorem dX1_makeGood_7 : decode cX1_makeGood 7 = .ok (.aload_n 0, 1) := by decide +kernel
theorem dX1_makeGood_8 : decode cX1_makeGood 8 = .ok (.getfield 35, 3) := by decide +kernel
theorem dX1_makeGood_11 : decode cX1_makeGood 11 = .ok (.iload_n 1, 1) := by decide +kernel
theorem dX1_makeGood_12 : decode cX1_makeGood 12 = .ok (.iconst 0, 1) := by decide +kernel
theorem dX1_makeGood_13 : decode cX1_makeGood 13 = .ok (.iastore, 1) := by decide +kernel
theorem dX1_makeGood_14 : decode cX1_makeGood 14 = .ok (.return_, 1) := by decide +kernel
theorem dX1_changeLink_0 : decode cX1_changeLink 0 = .ok (.aload_n 0, 1) := by decide +kernel
theorem dX1_changeLink_1 : decode cX1_changeLink 1 = .ok (.iload_n 1, 1) := by decide +kernel
theorem dX1_changeLink_2 : decode cX1_changeLink 2 = .ok (.iload_n 2, 1) := by decide +kernel
theorem dX1_changeLink_3 : decode cX1_changeLink 3 = .ok (.invokevirtual 82, 3) := by decide +kernel
theorem dX1_changeLink_6 : decode cX1_changeLink 6 = .ok (.istore 4, 2) := by decide +kernel
theorem dX1_changeLink_8 : decode cX1_changeLink 8 = .ok (.iload 4, 2) := by decide +kernel
theorem dX1_changeLink_10 : decode cX1_changeLink 10 = .ok (.iload_n 3, 1) := by decide +kernel
theorem dX1_changeLink_11 : decode cX1_changeLink 11 = .ok (.if_icmp .eq 39, 3) := by decide +kernel
theorem dX1_changeLink_14 : decode cX1_changeLink 14 = .ok (.aload_n 0, 1) := by decide +kernel
theorem dX1_changeLink_15 : decode cX1_changeLink 15 = .ok (.iload_n 1, 1) := by decide +kernel
theorem dX1_changeLink_16 : decode cX1_changeLink 16 = .ok (.iload_n 2, 1) := by decide +kernel
theorem dX1_changeLink_17 : decode cX1_changeLink 17 = .ok (.invokevirtual 86, 3) := by decide +kernel
theorem dX1_changeLink_20 : decode cX1_changeLink 20 = .ok (.aload_n 0, 1) := by decide +kernel
theorem dX1_changeLink_21 : decode cX1_changeLink 21 = .ok (.iload_n 2, 1) := by decide +kernel
theorem dX1_changeLink_22 : decode cX1_changeLink 22 = .ok (.iload_n 1, 1) := by decide +kernel
theorem dX1_changeLink_23 : decode cX1_changeLink 23 = .ok (.invokevirtual 86, 3) := by decide +kernel
theorem dX1_changeLink_26 : decode cX1_changeLink 26 = .ok (.aload_n 0, 1) := by decide +kernel
theorem dX1_changeLink_27 : decode cX1_changeLink 27 = .ok (.getfield 38, 3) := by decide +kernel
theorem dX1_changeLink_30 : decode cX1_changeLink 30 = .ok (.iload_n 1, 1) := by decide +kernel
theorem dX1_changeLink_31 : decode cX1_changeLink 31 = .ok (.bipush 10, 2) := by decide +kernel
theorem dX1_changeLink_33 : decode cX1_changeLink 33 = .ok (.imul, 1) := by decide +kernel
theorem dX1_changeLink_34 : decode cX1_changeLink 34 = .ok (.iload_n 2, 1) := by decide +kernel
theorem dX1_changeLink_35 : decode cX1_changeLink 35 = .ok (.iadd, 1) := by decide +kernel
theorem dX1_changeLink_36 : decode cX1_changeLink 36 = .ok (.iload_n 3, 1) := by decide +kernel
theorem dX1_changeLink_37 : decode cX1_changeLink 37 = .ok (.iastore, 1) := by decide +kernel
theorem dX1_changeLink_38 : decode cX1_changeLink 38 = .ok (.aload_n 0, 1) := by decide +kernel
theorem dX1_changeLink_39 : decode cX1_changeLink 39 = .ok (.getfield 38, 3) := by decide +kernel
theorem dX1_changeLink_42 : decode cX1_changeLink 42 = .ok (.iload_n 2, 1) := by decide +kernel
theorem dX1_changeLink_43 : decode cX1_changeLink 43 = .ok (.bipush 10, 2) := by decide +kernel
theorem dX1_changeLink_45 : decode cX1_changeLink 45 = .ok (.imul, 1) := by decide +kernel
theorem dX1_changeLink_46 : decode cX1_changeLink 46 = .ok (.iload_n 1, 1) := by decide +kernel
theorem dX1_changeLink_47 : decode cX1_changeLink 47 = .ok (.iadd, 1) := by decide +kernel
theorem dX1_changeLink_48 : decode cX1_changeLink 48 = .ok (.iload_n 3, 1) := by decide +kernel
theorem dX1_changeLink_49 : decode cX1_changeLink 49 = .ok (.iastore, 1) := by decide +kernel
theorem dX1_changeLink_50 : decode cX1_changeLink 50 = .ok (.iload 4, 2) := by decide +kernel
theorem dX1_changeLink_52 : decode cX1_changeLink 52 = .ok (.ireturn, 1) := by decide +kernel
theorem dX1_dropPulses_0 : decode cX1_dropPulses 0 = .ok (.iconst 0, 1) := by decide +kernel
theorem dX1_dropPulses_1 : decode cX1_dropPulses 1 = .ok (.istore_n 3, 1) := by decide +kernel
theorem dX1_dropPulses_2 : decode cX1_dropPulses 2 = .ok (.iload_n 3, 1) := by decide +kernel
theorem dX1_dropPulses_3 : decode cX1_dropPulses 3 = .ok (.bipush 16, 2) := by decide +kernel
theorem dX1_dropPulses_5 : decode cX1_dropPulses 5 = .ok (.if_icmp .ge 28, 3) := by decide +kernel
theorem dX1_dropPulses_8 : decode cX1_dropPulses 8 = .ok (.aload_n 0, 1) := by decide +kernel
theorem dX1_dropPulses_9 : decode cX1_dropPulses 9 = .ok (.getfield 41, 3) := by decide +kernel
theorem dX1_dropPulses_12 : decode cX1_dropPulses 12 = .ok (.iload_n 3, 1) := by decide +kernel
theorem dX1_dropPulses_13 : decode cX1_dropPulses 13 = .ok (.bipush 10, 2) := by decide +kernel
theorem dX1_dropPulses_15 : decode cX1_dropPulses 15 = .ok (.imul, 1) := by decide +kernel
theorem dX1_dropPulses_16 : decode cX1_dropPulses 16 = .ok (.iload_n 2, 1) := by decide +kernel
theorem dX1_dropPulses_17 : decode cX1_dropPulses 17 = .ok (.iadd, 1) := by decide +kernel
theorem dX1_dropPulses_18 : decode cX1_dropPulses 18 = .ok (.dup2, 1) := by decide +kernel
theorem dX1_dropPulses_19 : decode cX1_dropPulses 19 = .ok (.iaload, 1) := by decide +kernel
theorem dX1_dropPulses_20 : decode cX1_dropPulses 20 = .ok (.iconst 1, 1) := by decide +kernel
theorem dX1_dropPulses_21 : decode cX1_dropPulses 21 = .ok (.iload_n 1, 1) := by decide +kernel
theorem dX1_dropPulses_22 : decode cX1_dropPulses 22 = .ok (.ishl, 1) := by decide +kernel
theorem dX1_dropPulses_23 : decode cX1_dropPulses 23 = .ok (.iconst (-1), 1) := by decide +kernel
theorem dX1_dropPulses_24 : decode cX1_dropPulses 24 = .ok (.ixor, 1) := by decide +kernel
theorem dX1_dropPulses_25 : decode cX1_dropPulses 25 = .ok (.iand, 1) := by decide +kernel
theorem dX1_dropPulses_26 : decode cX1_dropPulses 26 = .ok (.iastore, 1) := by decide +kernel
theorem dX1_dropPulses_27 : decode cX1_dropPulses 27 = .ok (.iinc 3 1, 3) := by decide +kernel
theorem dX1_dropPulses_30 : decode cX1_dropPulses 30 = .ok (.goto (-28), 3) := by decide +kernel
theorem dX1_dropPulses_33 : decode cX1_dropPulses 33 = .ok (.return_, 1) := by decide +kernel
theorem dX1_changePeriod_0 : decode cX1_changePeriod 0 = .ok (.aload_n 0, 1) := by decide +kernel
theorem dX1_changePeriod_1 : decode cX1_changePeriod 1 = .ok (.getfield 9, 3) := by decide +kernel
theorem dX1_changePeriod_4 : decode cX1_changePeriod 4 = .ok (.istore_n 2, 1) := by decide +kernel
theorem dX1_changePeriod_5 : decode cX1_changePeriod 5 = .ok (.iload_n 1, 1) := by decide +kernel
theorem dX1_changePeriod_6 : decode cX1_changePeriod 6 = .ok (.ifCond .le 34, 3) := by decide +kernel
theorem dX1_changePeriod_9 : decode cX1_changePeriod 9 = .ok (.aload_n 0, 1) := by decide +kernel
theorem dX1_changePeriod_10 : decode cX1_changePeriod 10 = .ok (.iload_n 1, 1) := by decide +kernel
theorem dX1_changePeriod_11 : decode cX1_changePeriod 11 = .ok (.putfield 9, 3) := by decide +kernel
theorem dX1_changePeriod_14 : decode cX1_changePeriod 14 = .ok (.iconst 0, 1) := by decide +kernel
theorem dX1_changePeriod_15 : decode cX1_changePeriod 15 = .ok (.istore_n 3, 1) := by decide +kernel
theorem dX1_changePeriod_16 : decode cX1_changePeriod 16 = .ok (.iload_n 3, 1) := by decide +kernel
theorem dX1_changePeriod_17 : decode cX1_changePeriod 17 = .ok (.aload_n 0, 1) := by decide +kernel
theorem dX1_changePeriod_18 : decode cX1_changePeriod 18 = .ok (.getfield 47, 3) := by decide +kernel
theorem dX1_changePeriod_21 : decode cX1_changePeriod 21 = .ok (.if_icmp .ge 19, 3) := by decide +kernel
theorem dX1_changePeriod_24 : decode cX1_changePeriod 24 = .ok (.aload_n 0, 1) := by decide +kernel
theorem dX1_changePeriod_25 : decode cX1_changePeriod 25 = .ok (.getfield 26, 3) := by decide +kernel
theorem dX1_changePeriod_28 : decode cX1_changePeriod 28 = .ok (.iload_n 3, 1) := by decide +kernel
theorem dX1_changePeriod_29 : decode cX1_changePeriod 29 = .ok (.dup2, 1) := by decide +kernel
theorem dX1_changePeriod_30 : decode cX1_changePeriod 30 = .ok (.iaload, 1) := by decide +kernel
theorem dX1_changePeriod_31 : decode cX1_changePeriod 31 = .ok (.iload_n 1, 1) := by decide +kernel
theorem dX1_changePeriod_32 : decode cX1_changePeriod 32 = .ok (.irem, 1) := by decide +kernel
theorem dX1_changePeriod_33 : decode cX1_changePeriod 33 = .ok (.iastore, 1) := by decide +kernel
theorem dX1_changePeriod_34 : decode cX1_changePeriod 34 = .ok (.iinc 3 1, 3) := by decide +kernel
theorem dX1_changePeriod_37 : decode cX1_changePeriod 37 = .ok (.goto (-21), 3) := by decide +kernel
theorem dX1_changePeriod_40 : decode cX1_changePeriod 40 = .ok (.iload_n 2, 1) := by decide +kernel
theorem dX1_changePeriod_41 : decode cX1_changePeriod 41 = .ok (.ireturn, 1) := by decide +kernel
theorem dX1_changeResponse_0 : decode cX1_changeResponse 0 = .ok (.aload_n 0, 1) := by decide +kernel
theorem dX1_changeResponse_1 : decode cX1_changeResponse 1 = .ok (.getfield 15, 3) := by decide +kernel
theorem dX1_changeResponse_4 : decode cX1_changeResponse 4 = .ok (.iload_n 1, 1) := by decide +kernel
theorem dX1_changeResponse_5 : decode cX1_changeResponse 5 = .ok (.iaload, 1) := by decide +kernel
theorem dX1_changeResponse_6 : decode cX1_changeResponse 6 = .ok (.istore_n 3, 1) := by decide +kernel
theorem dX1_changeResponse_7 : decode cX1_changeResponse 7 = .ok (.aload_n 0, 1) := by decide +kernel
theorem dX1_changeResponse_8 : decode cX1_changeResponse 8 = .ok (.getfield 15, 3) := by decide +kernel
theorem dX1_changeResponse_11 : decode cX1_changeResponse 11 = .ok (.iload_n 1, 1) := by decide +kernel
theorem dX1_changeResponse_12 : decode cX1_changeResponse 12 = .ok (.iload_n 2, 1) := by decide +kernel
theorem dX1_changeResponse_13 : decode cX1_changeResponse 13 = .ok (.iastore, 1) := by decide +kernel
theorem dX1_changeResponse_14 : decode cX1_changeResponse 14 = .ok (.iload_n 3, 1) := by decide +kernel
theorem dX1_changeResponse_15 : decode cX1_changeResponse 15 = .ok (.ireturn, 1) := by decide +kernel
theorem dX1_delayBetween_0 : decode cX1_delayBetween 0 = .ok (.aload_n 0, 1) := by decide +kernel
theorem dX1_delayBetween_1 : decode cX1_delayBetween 1 = .ok (.getfield 38, 3) := by decide +kernel
theorem dX1_delayBetween_4 : decode cX1_delayBetween 4 = .ok (.iload_n 1, 1) := by decide +kernel
theorem dX1_delayBetween_5 : decode cX1_delayBetween 5 = .ok (.bipush 10, 2) := by decide +kernel
theorem dX1_delayBetween_7 : decode cX1_delayBetween 7 = .ok (.imul, 1) := by decide +kernel
theorem dX1_delayBetween_8 : decode cX1_delayBetween 8 = .ok (.iload_n 2, 1) := by decide +kernel
theorem dX1_delayBetween_9 : decode cX1_delayBetween 9 = .ok (.iadd, 1) := by decide +kernel
theorem dX1_delayBetween_10 : decode cX1_delayBetween 10 = .ok (.iaload, 1) := by decide +kernel
theorem dX1_delayBetween_11 : decode cX1_delayBetween 11 = .ok (.ireturn, 1) := by decide +kernel
theorem dX1_linkCount_0 : decode cX1_linkCount 0 = .ok (.iconst 0, 1) := by decide +kernel
theorem dX1_linkCount_1 : decode cX1_linkCount 1 = .ok (.istore_n 1, 1) := by decide +kernel
theorem dX1_linkCount_2 : decode cX1_linkCount 2 = .ok (.iconst 0, 1) := by decide +kernel
theorem dX1_linkCount_3 : decode cX1_linkCount 3 = .ok (.istore_n 2, 1) := by decide +kernel
theorem dX1_linkCount_4 : decode cX1_linkCount 4 = .ok (.iload_n 2, 1) := by decide +kernel
theorem dX1_linkCount_5 : decode cX1_linkCount 5 = .ok (.aload_n 0, 1) := by decide +kernel
theorem dX1_linkCount_6 : decode cX1_linkCount 6 = .ok (.getfield 47, 3) := by decide +kernel
theorem dX1_linkCount_9 : decode cX1_linkCount 9 = .ok (.if_icmp .ge 20, 3) := by decide +kernel
theorem dX1_linkCount_12 : decode cX1_linkCount 12 = .ok (.iload_n 1, 1) := by decide +kernel
theorem dX1_linkCount_13 : decode cX1_linkCount 13 = .ok (.aload_n 0, 1) := by decide +kernel
theorem dX1_linkCount_14 : decode cX1_linkCount 14 = .ok (.iload_n 2, 1) := by decide +kernel
theorem dX1_linkCount_15 : decode cX1_linkCount 15 = .ok (.invokevirtual 70, 3) := by decide +kernel
theorem dX1_linkCount_18 : decode cX1_linkCount 18 = .ok (.invokestatic 74, 3) := by decide +kernel
theorem dX1_linkCount_21 : decode cX1_linkCount 21 = .ok (.iadd, 1) := by decide +kernel
theorem dX1_linkCount_22 : decode cX1_linkCount 22 = .ok (.istore_n 1, 1) := by decide +kernel
theorem dX1_linkCount_23 : decode cX1_linkCount 23 = .ok (.iinc 2 1, 3) := by decide +kernel
theorem dX1_linkCount_26 : decode cX1_linkCount 26 = .ok (.goto (-22), 3) := by decide +kernel
theorem dX1_linkCount_29 : decode cX1_linkCount 29 = .ok (.iload_n 1, 1) := by decide +kernel
theorem dX1_linkCount_30 : decode cX1_linkCount 30 = .ok (.iconst 2, 1) := by decide +kernel
theorem dX1_linkCount_31 : decode cX1_linkCount 31 = .ok (.idiv, 1) := by decide +kernel
theorem dX1_linkCount_32 : decode cX1_linkCount 32 = .ok (.ireturn, 1) := by decide +kernel
theorem dX1_neighboursOf_0 : decode cX1_neighboursOf 0 = .ok (.iconst 0, 1) := by decide +kernel
theorem dX1_neighboursOf_1 : decode cX1_neighboursOf 1 = .ok (.istore_n 2, 1) := by decide +kernel
theorem dX1_neighboursOf_2 : decode cX1_neighboursOf 2 = .ok (.iconst 0, 1) := by decide +kernel
theorem dX1_neighboursOf_3 : decode cX1_neighboursOf 3 = .ok (.istore_n 3, 1) := by decide +kernel
theorem dX1_neighboursOf_4 : decode cX1_neighboursOf 4 = .ok (.iload_n 3, 1) := by decide +kernel
theorem dX1_neighboursOf_5 : decode cX1_neighboursOf 5 = .ok (.aload_n 0, 1) := by decide +kernel
theorem dX1_neighboursOf_6 : decode cX1_neighboursOf 6 = .ok (.getfield 47, 3) := by decide +kernel
theorem dX1_neighboursOf_9 : decode cX1_neighboursOf 9 = .ok (.if_icmp .ge 25, 3) := by decide +kernel
theorem dX1_neighboursOf_12 : decode cX1_neighboursOf 12 = .ok (.aload_n 0, 1) := by decide +kernel
theorem dX1_neighboursOf_13 : decode cX1_neighboursOf 13 = .ok (.iload_n 1, 1) := by decide +kernel
theorem dX1_neighboursOf_14 : decode cX1_neighboursOf 14 = .ok (.iload_n 3, 1) := by decide +kernel
theorem dX1_neighboursOf_15 : decode cX1_neighboursOf 15 = .ok (.invokevirtual 82, 3) := by decide +kernel
theorem dX1_neighboursOf_18 : decode cX1_neighboursOf 18 = .ok (.iconst (-1), 1) := by decide +kernel
theorem dX1_neighboursOf_19 : decode cX1_neighboursOf 19 = .ok (.if_icmp .eq 9, 3) := by decide +kernel
theorem dX1_neighboursOf_22 : decode cX1_neighboursOf 22 = .ok (.iload_n 2, 1) := by decide +kernel
theorem dX1_neighboursOf_23 : decode cX1_neighboursOf 23 = .ok (.iconst 1, 1) := by decide +kernel
theorem dX1_neighboursOf_24 : decode cX1_neighboursOf 24 = .ok (.iload_n 3, 1) := by decide +kernel
theorem dX1_neighboursOf_25 : decode cX1_neighboursOf 25 = .ok (.ishl, 1) := by decide +kernel
theorem dX1_neighboursOf_26 : decode cX1_neighboursOf 26 = .ok (.ior, 1) := by decide +kernel
theorem dX1_neighboursOf_27 : decode cX1_neighboursOf 27 = .ok (.istore_n 2, 1) := by decide +kernel
theorem dX1_neighboursOf_28 : decode cX1_neighboursOf 28 = .ok (.iinc 3 1, 3) := by decide +kernel
theorem dX1_neighboursOf_31 : decode cX1_neighboursOf 31 = .ok (.goto (-27), 3) := by decide +kernel
theorem dX1_neighboursOf_34 : decode cX1_neighboursOf 34 = .ok (.iload_n 2, 1) := by decide +kernel
theorem dX1_neighboursOf_35 : decode cX1_neighboursOf 35 = .ok (.ireturn, 1) := by decide +kernel
theorem dX1_withNeighbours_0 : decode cX1_withNeighbours 0 = .ok (.iload_n 1, 1) := by decide +kernel
theorem dX1_withNeighbours_1 : decode cX1_withNeighbours 1 = .ok (.istore_n 2, 1) := by decide +kernel
theorem dX1_withNeighbours_2 : decode cX1_withNeighbours 2 = .ok (.iconst 0, 1) := by decide +kernel
theorem dX1_withNeighbours_3 : decode cX1_withNeighbours 3 = .ok (.istore_n 3, 1) := by decide +kernel
theorem dX1_withNeighbours_4 : decode cX1_withNeighbours 4 = .ok (.iload_n 3, 1) := by decide +kernel
theorem dX1_withNeighbours_5 : decode cX1_withNeighbours 5 = .ok (.aload_n 0, 1) := by decide +kernel
theorem dX1_withNeighbours_6 : decode cX1_withNeighbours 6 = .ok (.getfield 47, 3) := by decide +kernel
theorem dX1_withNeighbours_9 : decode cX1_withNeighbours 9 = .ok (.if_icmp .ge 25, 3) := by decide +kernel
theorem dX1_withNeighbours_12 : decode cX1_withNeighbours 12 = .ok (.iload_n 1, 1) := by decide +kernel
theorem dX1_withNeighbours_13 : decode cX1_withNeighbours 13 = .ok (.iconst 1, 1) := by decide +kernel
theorem dX1_withNeighbours_14 : decode cX1_withNeighbours 14 = .ok (.iload_n 3, 1) := by decide +kernel
theorem dX1_withNeighbours_15 : decode cX1_withNeighbours 15 = .ok (.ishl, 1) := by decide +kernel
theorem dX1_withNeighbours_16 : decode cX1_withNeighbours 16 = .ok (.iand, 1) := by decide +kernel
theorem dX1_withNeighbours_17 : decode cX1_withNeighbours 17 = .ok (.ifCond .eq 11, 3) := by decide +kernel
theorem dX1_withNeighbours_20 : decode cX1_withNeighbours 20 = .ok (.iload_n 2, 1) := by decide +kernel
theorem dX1_withNeighbours_21 : decode cX1_withNeighbours 21 = .ok (.aload_n 0, 1) := by decide +kernel
theorem dX1_withNeighbours_22 : decode cX1_withNeighbours 22 = .ok (.iload_n 3, 1) := by decide +kernel
theorem dX1_withNeighbours_23 : decode cX1_withNeighbours 23 = .ok (.invokevirtual 70, 3) := by decide +kernel
theorem dX1_withNeighbours_26 : decode cX1_withNeighbours 26 = .ok (.ior, 1) := by decide +kernel
theorem dX1_withNeighbours_27 : decode cX1_withNeighbours 27 = .ok (.istore_n 2, 1) := by decide +kernel
theorem dX1_withNeighbours_28 : decode cX1_withNeighbours 28 = .ok (.iinc 3 1, 3) := by decide +kernel
theorem dX1_withNeighbours_31 : decode cX1_withNeighbours 31 = .ok (.goto (-27), 3) := by decide +kernel
theorem dX1_withNeighbours_34 : decode cX1_withNeighbours 34 = .ok (.iload_n 2, 1) := by decide +kernel
theorem dX1_withNeighbours_35 : decode cX1_withNeighbours 35 = .ok (.ireturn, 1) := by decide +kernel
theorem dX1_linksFromTo_0 : decode cX1_linksFromTo 0 = .ok (.iconst 1, 1) := by decide +kernel
theorem dX1_linksFromTo_1 : decode cX1_linksFromTo 1 = .ok (.iload_n 1, 1) := by decide +kernel
theorem dX1_linksFromTo_2 : decode cX1_linksFromTo 2 = .ok (.ishl, 1) := by decide +kernel
theorem dX1_linksFromTo_3 : decode cX1_linksFromTo 3 = .ok (.istore_n 3, 1) := by decide +kernel
theorem dX1_linksFromTo_4 : decode cX1_linksFromTo 4 = .ok (.iconst 0, 1) := by decide +kernel
theorem dX1_linksFromTo_5 : decode cX1_linksFromTo 5 = .ok (.istore 4, 2) := by decide +kernel
theorem dX1_linksFromTo_7 : decode cX1_linksFromTo 7 = .ok (.iload 4, 2) := by decide +kernel
theorem dX1_linksFromTo_9 : decode cX1_linksFromTo 9 = .ok (.aload_n 0, 1) := by decide +kernel
theorem dX1_linksFromTo_10 : decode cX1_linksFromTo 10 = .ok (.getfield 47, 3) := by decide +kernel
theorem dX1_linksFromTo_13 : decode cX1_linksFromTo 13 = .ok (.if_icmp .ge 26, 3) := by decide +kernel
theorem dX1_linksFromTo_16 : decode cX1_linksFromTo 16 = .ok (.iload_n 3, 1) := by decide +kernel
theorem dX1_linksFromTo_17 : decode cX1_linksFromTo 17 = .ok (.iconst 1, 1) := by decide +kernel
theorem dX1_linksFromTo_18 : decode cX1_linksFromTo 18 = .ok (.iload_n 2, 1) := by decide +kernel
theorem dX1_linksFromTo_19 : decode cX1_linksFromTo 19 = .ok (.ishl, 1) := by decide +kernel
theorem dX1_linksFromTo_20 : decode cX1_linksFromTo 20 = .ok (.iand, 1) := by decide +kernel
theorem dX1_linksFromTo_21 : decode cX1_linksFromTo 21 = .ok (.ifCond .eq 6, 3) := by decide +kernel
theorem dX1_linksFromTo_24 : decode cX1_linksFromTo 24 = .ok (.iload 4, 2) := by decide +kernel
theorem dX1_linksFromTo_26 : decode cX1_linksFromTo 26 = .ok (.ireturn, 1) := by decide +kernel
theorem dX1_linksFromTo_27 : decode cX1_linksFromTo 27 = .ok (.aload_n 0, 1) := by decide +kernel
theorem dX1_linksFromTo_28 : decode cX1_linksFromTo 28 = .ok (.iload_n 3, 1) := by decide +kernel
theorem dX1_linksFromTo_29 : decode cX1_linksFromTo 29 = .ok (.invokevirtual 90, 3) := by decide +kernel
theorem dX1_linksFromTo_32 : decode cX1_linksFromTo 32 = .ok (.istore_n 3, 1) := by decide +kernel
theorem dX1_linksFromTo_33 : decode cX1_linksFromTo 33 = .ok (.iinc 4 1, 3) := by decide +kernel
theorem dX1_linksFromTo_36 : decode cX1_linksFromTo 36 = .ok (.goto (-29), 3) := by decide +kernel
theorem dX1_linksFromTo_39 : decode cX1_linksFromTo 39 = .ok (.iconst (-1), 1) := by decide +kernel
theorem dX1_linksFromTo_40 : decode cX1_linksFromTo 40 = .ok (.ireturn, 1) := by decide +kernel
theorem dX1_partsWithin_0 : decode cX1_partsWithin 0 = .ok (.iload_n 1, 1) := by decide +kernel
theorem dX1_partsWithin_1 : decode cX1_partsWithin 1 = .ok (.istore_n 2, 1) := by decide +kernel
theorem dX1_partsWithin_2 : decode cX1_partsWithin 2 = .ok (.iconst 0, 1) := by decide +kernel
theorem dX1_partsWithin_3 : decode cX1_partsWithin 3 = .ok (.istore_n 3, 1) := by decide +kernel
theorem dX1_partsWithin_4 : decode cX1_partsWithin 4 = .ok (.iconst 0, 1) := by decide +kernel
theorem dX1_partsWithin_5 : decode cX1_partsWithin 5 = .ok (.istore 4, 2) := by decide +kernel
theorem dX1_partsWithin_7 : decode cX1_partsWithin 7 = .ok (.iload 4, 2) := by decide +kernel
theorem dX1_partsWithin_9 : decode cX1_partsWithin 9 = .ok (.aload_n 0, 1) := by decide +kernel
theorem dX1_partsWithin_10 : decode cX1_partsWithin 10 = .ok (.getfield 47, 3) := by decide +kernel
theorem dX1_partsWithin_13 : decode cX1_partsWithin 13 = .ok (.if_icmp .ge 33, 3) := by decide +kernel
theorem dX1_partsWithin_16 : decode cX1_partsWithin 16 = .ok (.iload_n 2, 1) := by decide +kernel
theorem dX1_partsWithin_17 : decode cX1_partsWithin 17 = .ok (.iconst 1, 1) := by decide +kernel
theorem dX1_partsWithin_18 : decode cX1_partsWithin 18 = .ok (.iload 4, 2) := by decide +kernel
theorem dX1_partsWithin_20 : decode cX1_partsWithin 20 = .ok (.ishl, 1) := by decide +kernel
theorem dX1_partsWithin_21 : decode cX1_partsWithin 21 = .ok (.iand, 1) := by decide +kernel
theorem dX1_partsWithin_22 : decode cX1_partsWithin 22 = .ok (.ifCond .eq 18, 3) := by decide +kernel
theorem dX1_partsWithin_25 : decode cX1_partsWithin 25 = .ok (.iload_n 2, 1) := by decide +kernel
theorem dX1_partsWithin_26 : decode cX1_partsWithin 26 = .ok (.aload_n 0, 1) := by decide +kernel
theorem dX1_partsWithin_27 : decode cX1_partsWithin 27 = .ok (.iload 4, 2) := by decide +kernel
theorem dX1_partsWithin_29 : decode cX1_partsWithin 29 = .ok (.iload_n 1, 1) := by decide +kernel
theorem dX1_partsWithin_30 : decode cX1_partsWithin 30 = .ok (.invokevirtual 93, 3) := by decide +kernel
theorem dX1_partsWithin_33 : decode cX1_partsWithin 33 = .ok (.iconst (-1), 1) := by decide +kernel
theorem dX1_partsWithin_34 : decode cX1_partsWithin 34 = .ok (.ixor, 1) := by decide +kernel
theorem dX1_partsWithin_35 : decode cX1_partsWithin 35 = .ok (.iand, 1) := by decide +kernel
theorem dX1_partsWithin_36 : decode cX1_partsWithin 36 = .ok (.istore_n 2, 1) := by decide +kernel
theorem dX1_partsWithin_37 : decode cX1_partsWithin 37 = .ok (.iinc 3 1, 3) := by decide +kernel
theorem dX1_partsWithin_40 : decode cX1_partsWithin 40 = .ok (.iinc 4 1, 3) := by decide +kernel
theorem dX1_partsWithin_43 : decode cX1_partsWithin 43 = .ok (.goto (-36), 3) := by decide +kernel
theorem dX1_partsWithin_46 : decode cX1_partsWithin 46 = .ok (.iload_n 3, 1) := by decide +kernel
theorem dX1_partsWithin_47 : decode cX1_partsWithin 47 = .ok (.ireturn, 1) := by decide +kernel
theorem dX1_partOf_0 : decode cX1_partOf 0 = .ok (.iconst 1, 1) := by decide +kernel
theorem dX1_partOf_1 : decode cX1_partOf 1 = .ok (.iload_n 1, 1) := by decide +kernel
theorem dX1_partOf_2 : decode cX1_partOf 2 = .ok (.ishl, 1) := by decide +kernel
theorem dX1_partOf_3 : decode cX1_partOf 3 = .ok (.istore_n 3, 1) := by decide +kernel
theorem dX1_partOf_4 : decode cX1_partOf 4 = .ok (.iconst 1, 1) := by decide +kernel
theorem dX1_partOf_5 : decode cX1_partOf 5 = .ok (.istore 4, 2) := by decide +kernel
theorem dX1_partOf_7 : decode cX1_partOf 7 = .ok (.iload 4, 2) := by decide +kernel
theorem dX1_partOf_9 : decode cX1_partOf 9 = .ok (.aload_n 0, 1) := by decide +kernel
theorem dX1_partOf_10 : decode cX1_partOf 10 = .ok (.getfield 47, 3) := by decide +kernel
theorem dX1_partOf_13 : decode cX1_partOf 13 = .ok (.if_icmp .ge 17, 3) := by decide +kernel
theorem dX1_partOf_16 : decode cX1_partOf 16 = .ok (.aload_n 0, 1) := by decide +kernel
theorem dX1_partOf_17 : decode cX1_partOf 17 = .ok (.iload_n 3, 1) := by decide +kernel
theorem dX1_partOf_18 : decode cX1_partOf 18 = .ok (.invokevirtual 90, 3) := by decide +kernel
theorem dX1_partOf_21 : decode cX1_partOf 21 = .ok (.iload_n 2, 1) := by decide +kernel
theorem dX1_partOf_22 : decode cX1_partOf 22 = .ok (.iand, 1) := by decide +kernel
theorem dX1_partOf_23 : decode cX1_partOf 23 = .ok (.istore_n 3, 1) := by decide +kernel
theorem dX1_partOf_24 : decode cX1_partOf 24 = .ok (.iinc 4 1, 3) := by decide +kernel
theorem dX1_partOf_27 : decode cX1_partOf 27 = .ok (.goto (-20), 3) := by decide +kernel
theorem dX1_partOf_30 : decode cX1_partOf 30 = .ok (.iload_n 3, 1) := by decide +kernel
theorem dX1_partOf_31 : decode cX1_partOf 31 = .ok (.ireturn, 1) := by decide +kernel
theorem dX1_passTicks_0 : decode cX1_passTicks 0 = .ok (.iconst 0, 1) := by decide +kernel
theorem dX1_passTicks_1 : decode cX1_passTicks 1 = .ok (.istore_n 2, 1) := by decide +kernel
theorem dX1_passTicks_2 : decode cX1_passTicks 2 = .ok (.iconst 0, 1) := by decide +kernel
theorem dX1_passTicks_3 : decode cX1_passTicks 3 = .ok (.istore_n 3, 1) := by decide +kernel
theorem dX1_passTicks_4 : decode cX1_passTicks 4 = .ok (.iload_n 3, 1) := by decide +kernel
theorem dX1_passTicks_5 : decode cX1_passTicks 5 = .ok (.iload_n 1, 1) := by decide +kernel
theorem dX1_passTicks_6 : decode cX1_passTicks 6 = .ok (.if_icmp .ge 60, 3) := by decide +kernel
theorem dX1_passTicks_9 : decode cX1_passTicks 9 = .ok (.aload_n 0, 1) := by decide +kernel
theorem dX1_passTicks_10 : decode cX1_passTicks 10 = .ok (.dup, 1) := by decide +kernel
theorem dX1_passTicks_11 : decode cX1_passTicks 11 = .ok (.getfield 56, 3) := by decide +kernel
theorem dX1_passTicks_14 : decode cX1_passTicks 14 = .ok (.iconst 1, 1) := by decide +kernel
theorem dX1_passTicks_15 : decode cX1_passTicks 15 = .ok (.iadd, 1) := by decide +kernel
theorem dX1_passTicks_16 : decode cX1_passTicks 16 = .ok (.putfield 56, 3) := by decide +kernel
theorem dX1_passTicks_19 : decode cX1_passTicks 19 = .ok (.aload_n 0, 1) := by decide +kernel
theorem dX1_passTicks_20 : decode cX1_passTicks 20 = .ok (.iconst 0, 1) := by decide +kernel
theorem dX1_passTicks_21 : decode cX1_passTicks 21 = .ok (.putfield 59, 3) := by decide +kernel
theorem dX1_passTicks_24 : decode cX1_passTicks 24 = .ok (.aload_n 0, 1) := by decide +kernel
theorem dX1_passTicks_25 : decode cX1_passTicks 25 = .ok (.iconst 0, 1) := by decide +kernel
theorem dX1_passTicks_26 : decode cX1_passTicks 26 = .ok (.putfield 96, 3) := by decide +kernel
theorem dX1_passTicks_29 : decode cX1_passTicks 29 = .ok (.aload_n 0, 1) := by decide +kernel
theorem dX1_passTicks_30 : decode cX1_passTicks 30 = .ok (.invokevirtual 99, 3) := by decide +kernel
theorem dX1_passTicks_33 : decode cX1_passTicks 33 = .ok (.aload_n 0, 1) := by decide +kernel
theorem dX1_passTicks_34 : decode cX1_passTicks 34 = .ok (.invokevirtual 102, 3) := by decide +kernel
theorem dX1_passTicks_37 : decode cX1_passTicks 37 = .ok (.aload_n 0, 1) := by decide +kernel
theorem dX1_passTicks_38 : decode cX1_passTicks 38 = .ok (.invokevirtual 105, 3) := by decide +kernel
theorem dX1_passTicks_41 : decode cX1_passTicks 41 = .ok (.aload_n 0, 1) := by decide +kernel
theorem dX1_passTicks_42 : decode cX1_passTicks 42 = .ok (.invokevirtual 108, 3) := by decide +kernel
theorem dX1_passTicks_45 : decode cX1_passTicks 45 = .ok (.aload_n 0, 1) := by decide +kernel
theorem dX1_passTicks_46 : decode cX1_passTicks 46 = .ok (.invokevirtual 111, 3) := by decide +kernel
theorem dX1_passTicks_49 : decode cX1_passTicks 49 = .ok (.aload_n 0, 1) := by decide +kernel
theorem dX1_passTicks_50 : decode cX1_passTicks 50 = .ok (.invokevirtual 114, 3) := by decide +kernel
theorem dX1_passTicks_53 : decode cX1_passTicks 53 = .ok (.iload_n 2, 1) := by decide +kernel
theorem dX1_passTicks_54 : decode cX1_passTicks 54 = .ok (.aload_n 0, 1) := by decide +kernel
theorem dX1_passTicks_55 : decode cX1_passTicks 55 = .ok (.getfield 96, 3) := by decide +kernel
theorem dX1_passTicks_58 : decode cX1_passTicks 58 = .ok (.iadd, 1) := by decide +kernel
theorem dX1_passTicks_59 : decode cX1_passTicks 59 = .ok (.istore_n 2, 1) := by decide +kernel
theorem dX1_passTicks_60 : decode cX1_passTicks 60 = .ok (.iinc 3 1, 3) := by decide +kernel
theorem dX1_passTicks_63 : decode cX1_passTicks 63 = .ok (.goto (-59), 3) := by decide +kernel
theorem dX1_passTicks_66 : decode cX1_passTicks 66 = .ok (.iload_n 2, 1) := by decide +kernel
theorem dX1_passTicks_67 : decode cX1_passTicks 67 = .ok (.ireturn, 1) := by decide +kernel
theorem dX1_advancePhases_0 : decode cX1_advancePhases 0 = .ok (.iconst 0, 1) := by decide +kernel
theorem dX1_advancePhases_1 : decode cX1_advancePhases 1 = .ok (.istore_n 1, 1) := by decide +kernel
theorem dX1_advancePhases_2 : decode cX1_advancePhases 2 = .ok (.iload_n 1, 1) := by decide +kernel
theorem dX1_advancePhases_3 : decode cX1_advancePhases 3 = .ok (.aload_n 0, 1) := by decide +kernel
theorem dX1_advancePhases_4 : decode cX1_advancePhases 4 = .ok (.getfield 47, 3) := by decide +kernel
theorem dX1_advancePhases_7 : decode cX1_advancePhases 7 = .ok (.if_icmp .ge 31, 3) := by decide +kernel
theorem dX1_advancePhases_10 : decode cX1_advancePhases 10 = .ok (.aload_n 0, 1) := by decide +kernel
theorem dX1_advancePhases_11 : decode cX1_advancePhases 11 = .ok (.iload_n 1, 1) := by decide +kernel
theorem dX1_advancePhases_12 : decode cX1_advancePhases 12 = .ok (.invokevirtual 66, 3) := by decide +kernel
theorem dX1_advancePhases_15 : decode cX1_advancePhases 15 = .ok (.ifCond .eq 17, 3) := by decide +kernel
theorem dX1_advancePhases_18 : decode cX1_advancePhases 18 = .ok (.aload_n 0, 1) := by decide +kernel
theorem dX1_advancePhases_19 : decode cX1_advancePhases 19 = .ok (.getfield 26, 3) := by decide +kernel
theorem dX1_advancePhases_22 : decode cX1_advancePhases 22 = .ok (.iload_n 1, 1) := by decide +kernel
theorem dX1_advancePhases_23 : decode cX1_advancePhases 23 = .ok (.dup2, 1) := by decide +kernel
theorem dX1_advancePhases_24 : decode cX1_advancePhases 24 = .ok (.iaload, 1) := by decide +kernel
theorem dX1_advancePhases_25 : decode cX1_advancePhases 25 = .ok (.aload_n 0, 1) := by decide +kernel
theorem dX1_advancePhases_26 : decode cX1_advancePhases 26 = .ok (.iload_n 1, 1) := by decide +kernel
theorem dX1_advancePhases_27 : decode cX1_advancePhases 27 = .ok (.invokevirtual 117, 3) := by decide +kernel
theorem dX1_advancePhases_30 : decode cX1_advancePhases 30 = .ok (.iadd, 1) := by decide +kernel
theorem dX1_advancePhases_31 : decode cX1_advancePhases 31 = .ok (.iastore, 1) := by decide +kernel
theorem dX1_advancePhases_32 : decode cX1_advancePhases 32 = .ok (.iinc 1 1, 3) := by decide +kernel
theorem dX1_advancePhases_35 : decode cX1_advancePhases 35 = .ok (.goto (-33), 3) := by decide +kernel
theorem dX1_advancePhases_38 : decode cX1_advancePhases 38 = .ok (.return_, 1) := by decide +kernel
theorem dX1_stepOf_0 : decode cX1_stepOf 0 = .ok (.aload_n 0, 1) := by decide +kernel
theorem dX1_stepOf_1 : decode cX1_stepOf 1 = .ok (.getfield 29, 3) := by decide +kernel
theorem dX1_stepOf_4 : decode cX1_stepOf 4 = .ok (.iload_n 1, 1) := by decide +kernel
theorem dX1_stepOf_5 : decode cX1_stepOf 5 = .ok (.iaload, 1) := by decide +kernel
theorem dX1_stepOf_6 : decode cX1_stepOf 6 = .ok (.istore_n 2, 1) := by decide +kernel
theorem dX1_stepOf_7 : decode cX1_stepOf 7 = .ok (.iload_n 2, 1) := by decide +kernel
theorem dX1_stepOf_8 : decode cX1_stepOf 8 = .ok (.ifCond .eq 12, 3) := by decide +kernel
theorem dX1_stepOf_11 : decode cX1_stepOf 11 = .ok (.aload_n 0, 1) := by decide +kernel
theorem dX1_stepOf_12 : decode cX1_stepOf 12 = .ok (.getfield 56, 3) := by decide +kernel
theorem dX1_stepOf_15 : decode cX1_stepOf 15 = .ok (.iload_n 2, 1) := by decide +kernel
theorem dX1_stepOf_16 : decode cX1_stepOf 16 = .ok (.irem, 1) := by decide +kernel
theorem dX1_stepOf_17 : decode cX1_stepOf 17 = .ok (.ifCond .eq 5, 3) := by decide +kernel
theorem dX1_stepOf_20 : decode cX1_stepOf 20 = .ok (.iconst 1, 1) := by decide +kernel
theorem dX1_stepOf_21 : decode cX1_stepOf 21 = .ok (.ireturn, 1) := by decide +kernel
theorem dX1_stepOf_22 : decode cX1_stepOf 22 = .ok (.iload_n 2, 1) := by decide +kernel
theorem dX1_stepOf_23 : decode cX1_stepOf 23 = .ok (.ifCond .le 7, 3) := by decide +kernel
theorem dX1_stepOf_26 : decode cX1_stepOf 26 = .ok (.iconst 2, 1) := by decide +kernel
theorem dX1_stepOf_27 : decode cX1_stepOf 27 = .ok (.goto 4, 3) := by decide +kernel
theorem dX1_stepOf_30 : decode cX1_stepOf 30 = .ok (.iconst 0, 1) := by decide +kernel
theorem dX1_stepOf_31 : decode cX1_stepOf 31 = .ok (.ireturn, 1) := by decide +kernel
theorem dX1_fireRipeClocks_0 : decode cX1_fireRipeClocks 0 = .ok (.iconst 0, 1) := by decide +kernel
theorem dX1_fireRipeClocks_1 : decode cX1_fireRipeClocks 1 = .ok (.istore_n 1, 1) := by decide +kernel
theorem dX1_fireRipeClocks_2 : decode cX1_fireRipeClocks 2 = .ok (.iload_n 1, 1) := by decide +kernel
theorem dX1_fireRipeClocks_3 : decode cX1_fireRipeClocks 3 = .ok (.aload_n 0, 1) := by decide +kernel
theorem dX1_fireRipeClocks_4 : decode cX1_fireRipeClocks 4 = .ok (.getfield 47, 3) := by decide +kernel
theorem dX1_fireRipeClocks_7 : decode cX1_fireRipeClocks 7 = .ok (.if_icmp .ge 35, 3) := by decide +kernel
theorem dX1_fireRipeClocks_10 : decode cX1_fireRipeClocks 10 = .ok (.aload_n 0, 1) := by decide +kernel
theorem dX1_fireRipeClocks_11 : decode cX1_fireRipeClocks 11 = .ok (.iload_n 1, 1) := by decide +kernel
theorem dX1_fireRipeClocks_12 : decode cX1_fireRipeClocks 12 = .ok (.invokevirtual 66, 3) := by decide +kernel
theorem dX1_fireRipeClocks_15 : decode cX1_fireRipeClocks 15 = .ok (.ifCond .eq 21, 3) := by decide +kernel
theorem dX1_fireRipeClocks_18 : decode cX1_fireRipeClocks 18 = .ok (.aload_n 0, 1) := by decide +kernel
theorem dX1_fireRipeClocks_19 : decode cX1_fireRipeClocks 19 = .ok (.getfield 26, 3) := by decide +kernel
theorem dX1_fireRipeClocks_22 : decode cX1_fireRipeClocks 22 = .ok (.iload_n 1, 1) := by decide +kernel
theorem dX1_fireRipeClocks_23 : decode cX1_fireRipeClocks 23 = .ok (.iaload, 1) := by decide +kernel
theorem dX1_fireRipeClocks_24 : decode cX1_fireRipeClocks 24 = .ok (.aload_n 0, 1) := by decide +kernel
theorem dX1_fireRipeClocks_25 : decode cX1_fireRipeClocks 25 = .ok (.getfield 9, 3) := by decide +kernel
theorem dX1_fireRipeClocks_28 : decode cX1_fireRipeClocks 28 = .ok (.if_icmp .lt 8, 3) := by decide +kernel
theorem dX1_fireRipeClocks_31 : decode cX1_fireRipeClocks 31 = .ok (.aload_n 0, 1) := by decide +kernel
theorem dX1_fireRipeClocks_32 : decode cX1_fireRipeClocks 32 = .ok (.iload_n 1, 1) := by decide +kernel
theorem dX1_fireRipeClocks_33 : decode cX1_fireRipeClocks 33 = .ok (.invokevirtual 120, 3) := by decide +kernel
theorem dX1_fireRipeClocks_36 : decode cX1_fireRipeClocks 36 = .ok (.iinc 1 1, 3) := by decide +kernel
theorem dX1_fireRipeClocks_39 : decode cX1_fireRipeClocks 39 = .ok (.goto (-37), 3) := by decide +kernel
theorem dX1_fireRipeClocks_42 : decode cX1_fireRipeClocks 42 = .ok (.return_, 1) := by decide +kernel
theorem dX1_fireBlinkers_0 : decode cX1_fireBlinkers 0 = .ok (.iconst 0, 1) := by decide +kernel
theorem dX1_fireBlinkers_1 : decode cX1_fireBlinkers 1 = .ok (.istore_n 1, 1) := by decide +kernel
theorem dX1_fireBlinkers_2 : decode cX1_fireBlinkers 2 = .ok (.iload_n 1, 1) := by decide +kernel
theorem dX1_fireBlinkers_3 : decode cX1_fireBlinkers 3 = .ok (.aload_n 0, 1) := by decide +kernel
theorem dX1_fireBlinkers_4 : decode cX1_fireBlinkers 4 = .ok (.getfield 47, 3) := by decide +kernel
theorem dX1_fireBlinkers_7 : decode cX1_fireBlinkers 7 = .ok (.if_icmp .ge 41, 3) := by decide +kernel
theorem dX1_fireBlinkers_10 : decode cX1_fireBlinkers 10 = .ok (.aload_n 0, 1) := by decide +kernel
theorem dX1_fireBlinkers_11 : decode cX1_fireBlinkers 11 = .ok (.getfield 32, 3) := by decide +kernel
theorem dX1_fireBlinkers_14 : decode cX1_fireBlinkers 14 = .ok (.iload_n 1, 1) := by decide +kernel
theorem dX1_fireBlinkers_15 : decode cX1_fireBlinkers 15 = .ok (.iaload, 1) := by decide +kernel
theorem dX1_fireBlinkers_16 : decode cX1_fireBlinkers 16 = .ok (.istore_n 2, 1) := by decide +kernel
theorem dX1_fireBlinkers_17 : decode cX1_fireBlinkers 17 = .ok (.iload_n 2, 1) := by decide +kernel
theorem dX1_fireBlinkers_18 : decode cX1_fireBlinkers 18 = .ok (.ifCond .eq 24, 3) := by decide +kernel
theorem dX1_fireBlinkers_21 : decode cX1_fireBlinkers 21 = .ok (.aload_n 0, 1) := by decide +kernel
theorem dX1_fireBlinkers_22 : decode cX1_fireBlinkers 22 = .ok (.getfield 56, 3) := by decide +kernel
theorem dX1_fireBlinkers_25 : decode cX1_fireBlinkers 25 = .ok (.aload_n 0, 1) := by decide +kernel
theorem dX1_fireBlinkers_26 : decode cX1_fireBlinkers 26 = .ok (.getfield 35, 3) := by decide +kernel
theorem dX1_fireBlinkers_29 : decode cX1_fireBlinkers 29 = .ok (.iload_n 1, 1) := by decide +kernel
theorem dX1_fireBlinkers_30 : decode cX1_fireBlinkers 30 = .ok (.iaload, 1) := by decide +kernel
theorem dX1_fireBlinkers_31 : decode cX1_fireBlinkers 31 = .ok (.iadd, 1) := by decide +kernel
theorem dX1_fireBlinkers_32 : decode cX1_fireBlinkers 32 = .ok (.iload_n 2, 1) := by decide +kernel
theorem dX1_fireBlinkers_33 : decode cX1_fireBlinkers 33 = .ok (.irem, 1) := by decide +kernel
theorem dX1_fireBlinkers_34 : decode cX1_fireBlinkers 34 = .ok (.ifCond .ne 8, 3) := by decide +kernel
theorem dX1_fireBlinkers_37 : decode cX1_fireBlinkers 37 = .ok (.aload_n 0, 1) := by decide +kernel
theorem dX1_fireBlinkers_38 : decode cX1_fireBlinkers 38 = .ok (.iload_n 1, 1) := by decide +kernel
theorem dX1_fireBlinkers_39 : decode cX1_fireBlinkers 39 = .ok (.invokevirtual 120, 3) := by decide +kernel
theorem dX1_fireBlinkers_42 : decode cX1_fireBlinkers 42 = .ok (.iinc 1 1, 3) := by decide +kernel
theorem dX1_fireBlinkers_45 : decode cX1_fireBlinkers 45 = .ok (.goto (-43), 3) := by decide +kernel
theorem dX1_fireBlinkers_48 : decode cX1_fireBlinkers 48 = .ok (.return_, 1) := by decide +kernel
theorem dX1_deliverDelayedPulses_0 : decode cX1_deliverDelayedPulses 0 = .ok (.aload_n 0, 1) := by decide +kernel
theorem dX1_deliverDelayedPulses_1 : decode cX1_deliverDelayedPulses 1 = .ok (.getfield 56, 3) := by decide +kernel
theorem dX1_deliverDelayedPulses_4 : decode cX1_deliverDelayedPulses 4 = .ok (.invokestatic 124, 3) := by decide +kernel
theorem dX1_deliverDelayedPulses_7 : decode cX1_deliverDelayedPulses 7 = .ok (.istore_n 1, 1) := by decide +kernel
theorem dX1_deliverDelayedPulses_8 : decode cX1_deliverDelayedPulses 8 = .ok (.iconst 0, 1) := by decide +kernel
theorem dX1_deliverDelayedPulses_9 : decode cX1_deliverDelayedPulses 9 = .ok (.istore_n 2, 1) := by decide +kernel
theorem dX1_deliverDelayedPulses_10 : decode cX1_deliverDelayedPulses 10 = .ok (.iload_n 2, 1) := by decide +kernel
theorem dX1_deliverDelayedPulses_11 : decode cX1_deliverDelayedPulses 11 = .ok (.aload_n 0, 1) := by decide +kernel
theorem dX1_deliverDelayedPulses_12 : decode cX1_deliverDelayedPulses 12 = .ok (.getfield 47, 3) := by decide +kernel
theorem dX1_deliverDelayedPulses_15 : decode cX1_deliverDelayedPulses 15 = .ok (.if_icmp .ge 50, 3) := by decide +kernel
theorem dX1_deliverDelayedPulses_18 : decode cX1_deliverDelayedPulses 18 = .ok (.aload_n 0, 1) := by decide +kernel
theorem dX1_deliverDelayedPulses_19 : decode cX1_deliverDelayedPulses 19 = .ok (.getfield 41, 3) := by decide +kernel
theorem dX1_deliverDelayedPulses_22 : decode cX1_deliverDelayedPulses 22 = .ok (.iload_n 1, 1) := by decide +kernel
theorem dX1_deliverDelayedPulses_23 : decode cX1_deliverDelayedPulses 23 = .ok (.iload_n 2, 1) := by decide +kernel
theorem dX1_deliverDelayedPulses_24 : decode cX1_deliverDelayedPulses 24 = .ok (.iadd, 1) := by decide +kernel
theorem dX1_deliverDelayedPulses_25 : decode cX1_deliverDelayedPulses 25 = .ok (.iaload, 1) := by decide +kernel
theorem dX1_deliverDelayedPulses_26 : decode cX1_deliverDelayedPulses 26 = .ok (.invokestatic 74, 3) := by decide +kernel
theorem dX1_deliverDelayedPulses_29 : decode cX1_deliverDelayedPulses 29 = .ok (.istore_n 3, 1) := by decide +kernel
theorem dX1_deliverDelayedPulses_30 : decode cX1_deliverDelayedPulses 30 = .ok (.aload_n 0, 1) := by decide +kernel
theorem dX1_deliverDelayedPulses_31 : decode cX1_deliverDelayedPulses 31 = .ok (.getfield 41, 3) := by decide +kernel
theorem dX1_deliverDelayedPulses_34 : decode cX1_deliverDelayedPulses 34 = .ok (.iload_n 1, 1) := by decide +kernel
theorem dX1_deliverDelayedPulses_35 : decode cX1_deliverDelayedPulses 35 = .ok (.iload_n 2, 1) := by decide +kernel
theorem dX1_deliverDelayedPulses_36 : decode cX1_deliverDelayedPulses 36 = .ok (.iadd, 1) := by decide +kernel
theorem dX1_deliverDelayedPulses_37 : decode cX1_deliverDelayedPulses 37 = .ok (.iconst 0, 1) := by decide +kernel
theorem dX1_deliverDelayedPulses_38 : decode cX1_deliverDelayedPulses 38 = .ok (.iastore, 1) := by decide +kernel
theorem dX1_deliverDelayedPulses_39 : decode cX1_deliverDelayedPulses 39 = .ok (.iconst 0, 1) := by decide +kernel
theorem dX1_deliverDelayedPulses_40 : decode cX1_deliverDelayedPulses 40 = .ok (.istore 4, 2) := by decide +kernel
theorem dX1_deliverDelayedPulses_42 : decode cX1_deliverDelayedPulses 42 = .ok (.iload 4, 2) := by decide +kernel
theorem dX1_deliverDelayedPulses_44 : decode cX1_deliverDelayedPulses 44 = .ok (.iload_n 3, 1) := by decide +kernel
theorem dX1_deliverDelayedPulses_45 : decode cX1_deliverDelayedPulses 45 = .ok (.if_icmp .ge 14, 3) := by decide +kernel
theorem dX1_deliverDelayedPulses_48 : decode cX1_deliverDelayedPulses 48 = .ok (.aload_n 0, 1) := by decide +kernel
theorem dX1_deliverDelayedPulses_49 : decode cX1_deliverDelayedPulses 49 = .ok (.iload_n 2, 1) := by decide +kernel
theorem dX1_deliverDelayedPulses_50 : decode cX1_deliverDelayedPulses 50 = .ok (.invokevirtual 127, 3) := by decide +kernel
theorem dX1_deliverDelayedPulses_53 : decode cX1_deliverDelayedPulses 53 = .ok (.iinc 4 1, 3) := by decide +kernel
theorem dX1_deliverDelayedPulses_56 : decode cX1_deliverDelayedPulses 56 = .ok (.goto (-14), 3) := by decide +kernel
theorem dX1_deliverDelayedPulses_59 : decode cX1_deliverDelayedPulses 59 = .ok (.iinc 2 1, 3) := by decide +kernel
theorem dX1_deliverDelayedPulses_62 : decode cX1_deliverDelayedPulses 62 = .ok (.goto (-52), 3) := by decide +kernel
theorem dX1_deliverDelayedPulses_65 : decode cX1_deliverDelayedPulses 65 = .ok (.return_, 1) := by decide +kernel
theorem dX1_deliverPulsesAtOnce_0 : decode cX1_deliverPulsesAtOnce 0 = .ok (.iconst 0, 1) := by decide +kernel
theorem dX1_deliverPulsesAtOnce_1 : decode cX1_deliverPulsesAtOnce 1 = .ok (.istore_n 1, 1) := by decide +kernel
theorem dX1_deliverPulsesAtOnce_2 : decode cX1_deliverPulsesAtOnce 2 = .ok (.iload_n 1, 1) := by decide +kernel
theorem dX1_deliverPulsesAtOnce_3 : decode cX1_deliverPulsesAtOnce 3 = .ok (.aload_n 0, 1) := by decide +kernel
theorem dX1_deliverPulsesAtOnce_4 : decode cX1_deliverPulsesAtOnce 4 = .ok (.getfield 44, 3) := by decide +kernel
theorem dX1_deliverPulsesAtOnce_7 : decode cX1_deliverPulsesAtOnce 7 = .ok (.arraylength, 1) := by decide +kernel
theorem dX1_deliverPulsesAtOnce_8 : decode cX1_deliverPulsesAtOnce 8 = .ok (.if_icmp .ge 52, 3) := by decide +kernel
theorem dX1_deliverPulsesAtOnce_11 : decode cX1_deliverPulsesAtOnce 11 = .ok (.iload_n 1, 1) := by decide +kernel
theorem dX1_deliverPulsesAtOnce_12 : decode cX1_deliverPulsesAtOnce 12 = .ok (.aload_n 0, 1) := by decide +kernel
theorem dX1_deliverPulsesAtOnce_13 : decode cX1_deliverPulsesAtOnce 13 = .ok (.getfield 96, 3) := by decide +kernel
theorem dX1_deliverPulsesAtOnce_16 : decode cX1_deliverPulsesAtOnce 16 = .ok (.if_icmp .ge 44, 3) := by decide +kernel
theorem dX1_deliverPulsesAtOnce_19 : decode cX1_deliverPulsesAtOnce 19 = .ok (.iconst 0, 1) := by decide +kernel
theorem dX1_deliverPulsesAtOnce_20 : decode cX1_deliverPulsesAtOnce 20 = .ok (.istore_n 2, 1) := by decide +kernel
theorem dX1_deliverPulsesAtOnce_21 : decode cX1_deliverPulsesAtOnce 21 = .ok (.iload_n 2, 1) := by decide +kernel
theorem dX1_deliverPulsesAtOnce_22 : decode cX1_deliverPulsesAtOnce 22 = .ok (.aload_n 0, 1) := by decide +kernel
theorem dX1_deliverPulsesAtOnce_23 : decode cX1_deliverPulsesAtOnce 23 = .ok (.getfield 47, 3) := by decide +kernel
theorem dX1_deliverPulsesAtOnce_26 : decode cX1_deliverPulsesAtOnce 26 = .ok (.if_icmp .ge 28, 3) := by decide +kernel
theorem dX1_deliverPulsesAtOnce_29 : decode cX1_deliverPulsesAtOnce 29 = .ok (.aload_n 0, 1) := by decide +kernel
theorem dX1_deliverPulsesAtOnce_30 : decode cX1_deliverPulsesAtOnce 30 = .ok (.aload_n 0, 1) := by decide +kernel
theorem dX1_deliverPulsesAtOnce_31 : decode cX1_deliverPulsesAtOnce 31 = .ok (.getfield 44, 3) := by decide +kernel
theorem dX1_deliverPulsesAtOnce_34 : decode cX1_deliverPulsesAtOnce 34 = .ok (.iload_n 1, 1) := by decide +kernel
theorem dX1_deliverPulsesAtOnce_35 : decode cX1_deliverPulsesAtOnce 35 = .ok (.iaload, 1) := by decide +kernel
theorem dX1_deliverPulsesAtOnce_36 : decode cX1_deliverPulsesAtOnce 36 = .ok (.iload_n 2, 1) := by decide +kernel
theorem dX1_deliverPulsesAtOnce_37 : decode cX1_deliverPulsesAtOnce 37 = .ok (.invokevirtual 82, 3) := by decide +kernel
theorem dX1_deliverPulsesAtOnce_40 : decode cX1_deliverPulsesAtOnce 40 = .ok (.ifCond .ne 8, 3) := by decide +kernel
theorem dX1_deliverPulsesAtOnce_43 : decode cX1_deliverPulsesAtOnce 43 = .ok (.aload_n 0, 1) := by decide +kernel
theorem dX1_deliverPulsesAtOnce_44 : decode cX1_deliverPulsesAtOnce 44 = .ok (.iload_n 2, 1) := by decide +kernel
theorem dX1_deliverPulsesAtOnce_45 : decode cX1_deliverPulsesAtOnce 45 = .ok (.invokevirtual 127, 3) := by decide +kernel
theorem dX1_deliverPulsesAtOnce_48 : decode cX1_deliverPulsesAtOnce 48 = .ok (.iinc 2 1, 3) := by decide +kernel
theorem dX1_deliverPulsesAtOnce_51 : decode cX1_deliverPulsesAtOnce 51 = .ok (.goto (-30), 3) := by decide +kernel
theorem dX1_deliverPulsesAtOnce_54 : decode cX1_deliverPulsesAtOnce 54 = .ok (.iinc 1 1, 3) := by decide +kernel
theorem dX1_deliverPulsesAtOnce_57 : decode cX1_deliverPulsesAtOnce 57 = .ok (.goto (-55), 3) := by decide +kernel
theorem dX1_deliverPulsesAtOnce_60 : decode cX1_deliverPulsesAtOnce 60 = .ok (.return_, 1) := by decide +kernel
theorem dX1_reach_0 : decode cX1_reach 0 = .ok (.aload_n 0, 1) := by decide +kernel
theorem dX1_reach_1 : decode cX1_reach 1 = .ok (.iload_n 1, 1) := by decide +kernel
theorem dX1_reach_2 : decode cX1_reach 2 = .ok (.invokevirtual 66, 3) := by decide +kernel
theorem dX1_reach_5 : decode cX1_reach 5 = .ok (.ifCond .eq 26, 3) := by decide +kernel
theorem dX1_reach_8 : decode cX1_reach 8 = .ok (.aload_n 0, 1) := by decide +kernel
theorem dX1_reach_9 : decode cX1_reach 9 = .ok (.iload_n 1, 1) := by decide +kernel
theorem dX1_reach_10 : decode cX1_reach 10 = .ok (.invokevirtual 130, 3) := by decide +kernel
theorem dX1_reach_13 : decode cX1_reach 13 = .ok (.ifCond .ne 18, 3) := by decide +kernel
theorem dX1_reach_16 : decode cX1_reach 16 = .ok (.aload_n 0, 1) := by decide +kernel
theorem dX1_reach_17 : decode cX1_reach 17 = .ok (.getfield 26, 3) := by decide +kernel
theorem dX1_reach_20 : decode cX1_reach 20 = .ok (.iload_n 1, 1) := by decide +kernel
theorem dX1_reach_21 : decode cX1_reach 21 = .ok (.iaload, 1) := by decide +kernel
theorem dX1_reach_22 : decode cX1_reach 22 = .ok (.aload_n 0, 1) := by decide +kernel
theorem dX1_reach_23 : decode cX1_reach 23 = .ok (.getfield 15, 3) := by decide +kernel
theorem dX1_reach_26 : decode cX1_reach 26 = .ok (.iconst 0, 1) := by decide +kernel
theorem dX1_reach_27 : decode cX1_reach 27 = .ok (.iaload, 1) := by decide +kernel
theorem dX1_reach_28 : decode cX1_reach 28 = .ok (.if_icmp .ge 4, 3) := by decide +kernel
theorem dX1_reach_31 : decode cX1_reach 31 = .ok (.return_, 1) := by decide +kernel
theorem dX1_reach_32 : decode cX1_reach 32 = .ok (.aload_n 0, 1) := by decide +kernel
theorem dX1_reach_33 : decode cX1_reach 33 = .ok (.getfield 26, 3) := by decide +kernel
theorem dX1_reach_36 : decode cX1_reach 36 = .ok (.iload_n 1, 1) := by decide +kernel
theorem dX1_reach_37 : decode cX1_reach 37 = .ok (.aload_n 0, 1) := by decide +kernel
theorem dX1_reach_38 : decode cX1_reach 38 = .ok (.aload_n 0, 1) := by decide +kernel
theorem dX1_reach_39 : decode cX1_reach 39 = .ok (.getfield 26, 3) := by decide +kernel
theorem dX1_reach_42 : decode cX1_reach 42 = .ok (.iload_n 1, 1) := by decide +kernel
theorem dX1_reach_43 : decode cX1_reach 43 = .ok (.iaload, 1) := by decide +kernel
theorem dX1_reach_44 : decode cX1_reach 44 = .ok (.invokevirtual 133, 3) := by decide +kernel
theorem dX1_reach_47 : decode cX1_reach 47 = .ok (.iastore, 1) := by decide +kernel
theorem dX1_reach_48 : decode cX1_reach 48 = .ok (.aload_n 0, 1) := by decide +kernel
theorem dX1_reach_49 : decode cX1_reach 49 = .ok (.getfield 26, 3) := by decide +kernel
theorem dX1_reach_52 : decode cX1_reach 52 = .ok (.iload_n 1, 1) := by decide +kernel
theorem dX1_reach_53 : decode cX1_reach 53 = .ok (.iaload, 1) := by decide +kernel
theorem dX1_reach_54 : decode cX1_reach 54 = .ok (.aload_n 0, 1) := by decide +kernel
theorem dX1_reach_55 : decode cX1_reach 55 = .ok (.getfield 9, 3) := by decide +kernel
theorem dX1_reach_58 : decode cX1_reach 58 = .ok (.if_icmp .lt 8, 3) := by decide +kernel
theorem dX1_reach_61 : decode cX1_reach 61 = .ok (.aload_n 0, 1) := by decide +kernel
theorem dX1_reach_62 : decode cX1_reach 62 = .ok (.iload_n 1, 1) := by decide +kernel
theorem dX1_reach_63 : decode cX1_reach 63 = .ok (.invokevirtual 120, 3) := by decide +kernel
theorem dX1_reach_66 : decode cX1_reach 66 = .ok (.return_, 1) := by decide +kernel
theorem dX1_movedBy_0 : decode cX1_movedBy 0 = .ok (.aload_n 0, 1) := by decide +kernel
theorem dX1_movedBy_1 : decode cX1_movedBy 1 = .ok (.getfield 15, 3) := by decide +kernel
theorem dX1_movedBy_4 : decode cX1_movedBy 4 = .ok (.iconst 1, 1) := by decide +kernel
theorem dX1_movedBy_5 : decode cX1_movedBy 5 = .ok (.iaload, 1) := by decide +kernel
theorem dX1_movedBy_6 : decode cX1_movedBy 6 = .ok (.istore_n 2, 1) := by decide +kernel
theorem dX1_movedBy_7 : decode cX1_movedBy 7 = .ok (.bipush 16, 2) := by decide +kernel
theorem dX1_movedBy_9 : decode cX1_movedBy 9 = .ok (.aload_n 0, 1) := by decide +kernel
theorem dX1_movedBy_10 : decode cX1_movedBy 10 = .ok (.getfield 9, 3) := by decide +kernel
theorem dX1_movedBy_13 : decode cX1_movedBy 13 = .ok (.imul, 1) := by decide +kernel
theorem dX1_movedBy_14 : decode cX1_movedBy 14 = .ok (.istore_n 3, 1) := by decide +kernel
theorem dX1_movedBy_15 : decode cX1_movedBy 15 = .ok (.aload_n 0, 1) := by decide +kernel
theorem dX1_movedBy_16 : decode cX1_movedBy 16 = .ok (.getfield 15, 3) := by decide +kernel
theorem dX1_movedBy_19 : decode cX1_movedBy 19 = .ok (.iconst 2, 1) := by decide +kernel
theorem dX1_movedBy_20 : decode cX1_movedBy 20 = .ok (.iaload, 1) := by decide +kernel
theorem dX1_movedBy_21 : decode cX1_movedBy 21 = .ok (.lookupswitch 40 #[(0, 27), (1, 36)], 27) := by decide +kernel
theorem dX1_movedBy_48 : decode cX1_movedBy 48 = .ok (.iload_n 1, 1) := by decide +kernel
theorem dX1_movedBy_49 : decode cX1_movedBy 49 = .ok (.iload_n 1, 1) := by decide +kernel
theorem dX1_movedBy_50 : decode cX1_movedBy 50 = .ok (.iload_n 2, 1) := by decide +kernel
theorem dX1_movedBy_51 : decode cX1_movedBy 51 = .ok (.imul, 1) := by decide +kernel
theorem dX1_movedBy_52 : decode cX1_movedBy 52 = .ok (.bipush 16, 2) := by decide +kernel
theorem dX1_movedBy_54 : decode cX1_movedBy 54 = .ok (.idiv, 1) := by decide +kernel
theorem dX1_movedBy_55 : decode cX1_movedBy 55 = .ok (.iadd, 1) := by decide +kernel
theorem dX1_movedBy_56 : decode cX1_movedBy 56 = .ok (.ireturn, 1) := by decide +kernel
theorem dX1_movedBy_57 : decode cX1_movedBy 57 = .ok (.iload_n 1, 1) := by decide +kernel
theorem dX1_movedBy_58 : decode cX1_movedBy 58 = .ok (.iload_n 2, 1) := by decide +kernel
theorem dX1_movedBy_59 : decode cX1_movedBy 59 = .ok (.iadd, 1) := by decide +kernel
theorem dX1_movedBy_60 : decode cX1_movedBy 60 = .ok (.ireturn, 1) := by decide +kernel
theorem dX1_movedBy_61 : decode cX1_movedBy 61 = .ok (.iload_n 3, 1) := by decide +kernel
theorem dX1_movedBy_62 : decode cX1_movedBy 62 = .ok (.ifCond .ne 7, 3) := by decide +kernel
theorem dX1_movedBy_65 : decode cX1_movedBy 65 = .ok (.iload_n 1, 1) := by decide +kernel
theorem dX1_movedBy_66 : decode cX1_movedBy 66 = .ok (.goto 12, 3) := by decide +kernel
theorem dX1_movedBy_69 : decode cX1_movedBy 69 = .ok (.iload_n 1, 1) := by decide +kernel
theorem dX1_movedBy_70 : decode cX1_movedBy 70 = .ok (.iload_n 1, 1) := by decide +kernel
theorem dX1_movedBy_71 : decode cX1_movedBy 71 = .ok (.iload_n 1, 1) := by decide +kernel
theorem dX1_movedBy_72 : decode cX1_movedBy 72 = .ok (.imul, 1) := by decide +kernel
theorem dX1_movedBy_73 : decode cX1_movedBy 73 = .ok (.iload_n 2, 1) := by decide +kernel
theorem dX1_movedBy_74 : decode cX1_movedBy 74 = .ok (.imul, 1) := by decide +kernel
theorem dX1_movedBy_75 : decode cX1_movedBy 75 = .ok (.iload_n 3, 1) := by decide +kernel
theorem dX1_movedBy_76 : decode cX1_movedBy 76 = .ok (.idiv, 1) := by decide +kernel
theorem dX1_movedBy_77 : decode cX1_movedBy 77 = .ok (.iadd, 1) := by decide +kernel
theorem dX1_movedBy_78 : decode cX1_movedBy 78 = .ok (.ireturn, 1) := by decide +kernel
theorem dX1_fire_0 : decode cX1_fire 0 = .ok (.aload_n 0, 1) := by decide +kernel
theorem dX1_fire_1 : decode cX1_fire 1 = .ok (.iload_n 1, 1) := by decide +kernel
theorem dX1_fire_2 : decode cX1_fire 2 = .ok (.invokevirtual 130, 3) := by decide +kernel
theorem dX1_fire_5 : decode cX1_fire 5 = .ok (.ifCond .ne 15, 3) := by decide +kernel
theorem dX1_fire_8 : decode cX1_fire 8 = .ok (.aload_n 0, 1) := by decide +kernel
theorem dX1_fire_9 : decode cX1_fire 9 = .ok (.getfield 96, 3) := by decide +kernel
theorem dX1_fire_12 : decode cX1_fire 12 = .ok (.aload_n 0, 1) := by decide +kernel
theorem dX1_fire_13 : decode cX1_fire 13 = .ok (.getfield 44, 3) := by decide +kernel
theorem dX1_fire_16 : decode cX1_fire 16 = .ok (.arraylength, 1) := by decide +kernel
theorem dX1_fire_17 : decode cX1_fire 17 = .ok (.if_icmp .lt 4, 3) := by decide +kernel
theorem dX1_fire_20 : decode cX1_fire 20 = .ok (.return_, 1) := by decide +kernel
theorem dX1_fire_21 : decode cX1_fire 21 = .ok (.aload_n 0, 1) := by decide +kernel
theorem dX1_fire_22 : decode cX1_fire 22 = .ok (.dup, 1) := by decide +kernel
theorem dX1_fire_23 : decode cX1_fire 23 = .ok (.getfield 59, 3) := by decide +kernel
theorem dX1_fire_26 : decode cX1_fire 26 = .ok (.iconst 1, 1) := by decide +kernel
theorem dX1_fire_27 : decode cX1_fire 27 = .ok (.iload_n 1, 1) := by decide +kernel
theorem dX1_fire_28 : decode cX1_fire 28 = .ok (.ishl, 1) := by decide +kernel
theorem dX1_fire_29 : decode cX1_fire 29 = .ok (.ior, 1) := by decide +kernel
theorem dX1_fire_30 : decode cX1_fire 30 = .ok (.putfield 59, 3) := by decide +kernel
theorem dX1_fire_33 : decode cX1_fire 33 = .ok (.aload_n 0, 1) := by decide +kernel
theorem dX1_fire_34 : decode cX1_fire 34 = .ok (.getfield 44, 3) := by decide +kernel
theorem dX1_fire_37 : decode cX1_fire 37 = .ok (.aload_n 0, 1) := by decide +kernel
theorem dX1_fire_38 : decode cX1_fire 38 = .ok (.getfield 96, 3) := by decide +kernel
theorem dX1_fire_41 : decode cX1_fire 41 = .ok (.iload_n 1, 1) := by decide +kernel
theorem dX1_fire_42 : decode cX1_fire 42 = .ok (.iastore, 1) := by decide +kernel
theorem dX1_fire_43 : decode cX1_fire 43 = .ok (.aload_n 0, 1) := by decide +kernel
theorem dX1_fire_44 : decode cX1_fire 44 = .ok (.dup, 1) := by decide +kernel
theorem dX1_fire_45 : decode cX1_fire 45 = .ok (.getfield 96, 3) := by decide +kernel
theorem dX1_fire_48 : decode cX1_fire 48 = .ok (.iconst 1, 1) := by decide +kernel
theorem dX1_fire_49 : decode cX1_fire 49 = .ok (.iadd, 1) := by decide +kernel
theorem dX1_fire_50 : decode cX1_fire 50 = .ok (.putfield 96, 3) := by decide +kernel
theorem dX1_fire_53 : decode cX1_fire 53 = .ok (.aload_n 0, 1) := by decide +kernel
theorem dX1_fire_54 : decode cX1_fire 54 = .ok (.iload_n 1, 1) := by decide +kernel
theorem dX1_fire_55 : decode cX1_fire 55 = .ok (.invokevirtual 66, 3) := by decide +kernel
theorem dX1_fire_58 : decode cX1_fire 58 = .ok (.ifCond .eq 10, 3) := by decide +kernel
theorem dX1_fire_61 : decode cX1_fire 61 = .ok (.aload_n 0, 1) := by decide +kernel
theorem dX1_fire_62 : decode cX1_fire 62 = .ok (.getfield 26, 3) := by decide +kernel
theorem dX1_fire_65 : decode cX1_fire 65 = .ok (.iload_n 1, 1) := by decide +kernel
theorem dX1_fire_66 : decode cX1_fire 66 = .ok (.iconst 0, 1) := by decide +kernel
theorem dX1_fire_67 : decode cX1_fire 67 = .ok (.iastore, 1) := by decide +kernel
theorem dX1_fire_68 : decode cX1_fire 68 = .ok (.iconst 0, 1) := by decide +kernel
theorem dX1_fire_69 : decode cX1_fire 69 = .ok (.istore_n 2, 1) := by decide +kernel
theorem dX1_fire_70 : decode cX1_fire 70 = .ok (.iload_n 2, 1) := by decide +kernel
theorem dX1_fire_71 : decode cX1_fire 71 = .ok (.aload_n 0, 1) := by decide +kernel
theorem dX1_fire_72 : decode cX1_fire 72 = .ok (.getfield 47, 3) := by decide +kernel
theorem dX1_fire_75 : decode cX1_fire 75 = .ok (.if_icmp .ge 42, 3) := by decide +kernel
theorem dX1_fire_78 : decode cX1_fire 78 = .ok (.aload_n 0, 1) := by decide +kernel
theorem dX1_fire_79 : decode cX1_fire 79 = .ok (.iload_n 1, 1) := by decide +kernel
theorem dX1_fire_80 : decode cX1_fire 80 = .ok (.iload_n 2, 1) := by decide +kernel
theorem dX1_fire_81 : decode cX1_fire 81 = .ok (.invokevirtual 82, 3) := by decide +kernel
theorem dX1_fire_84 : decode cX1_fire 84 = .ok (.istore_n 3, 1) := by decide +kernel
theorem dX1_fire_85 : decode cX1_fire 85 = .ok (.iload_n 3, 1) := by decide +kernel
theorem dX1_fire_86 : decode cX1_fire 86 = .ok (.ifCond .le 25, 3) := by decide +kernel
theorem dX1_fire_89 : decode cX1_fire 89 = .ok (.aload_n 0, 1) := by decide +kernel
theorem dX1_fire_90 : decode cX1_fire 90 = .ok (.getfield 41, 3) := by decide +kernel
theorem dX1_fire_93 : decode cX1_fire 93 = .ok (.aload_n 0, 1) := by decide +kernel
theorem dX1_fire_94 : decode cX1_fire 94 = .ok (.getfield 56, 3) := by decide +kernel
theorem dX1_fire_97 : decode cX1_fire 97 = .ok (.iload_n 3, 1) := by decide +kernel
theorem dX1_fire_98 : decode cX1_fire 98 = .ok (.iadd, 1) := by decide +kernel
theorem dX1_fire_99 : decode cX1_fire 99 = .ok (.invokestatic 124, 3) := by decide +kernel
theorem dX1_fire_102 : decode cX1_fire 102 = .ok (.iload_n 2, 1) := by decide +kernel
theorem dX1_fire_103 : decode cX1_fire 103 = .ok (.iadd, 1) := by decide +kernel
theorem dX1_fire_104 : decode cX1_fire 104 = .ok (.dup2, 1) := by decide +kernel
theorem dX1_fire_105 : decode cX1_fire 105 = .ok (.iaload, 1) := by decide +kernel
theorem dX1_fire_106 : decode cX1_fire 106 = .ok (.iconst 1, 1) := by decide +kernel
theorem dX1_fire_107 : decode cX1_fire 107 = .ok (.iload_n 1, 1) := by decide +kernel
theorem dX1_fire_108 : decode cX1_fire 108 = .ok (.ishl, 1) := by decide +kernel
theorem dX1_fire_109 : decode cX1_fire 109 = .ok (.ior, 1) := by decide +kernel
theorem dX1_fire_110 : decode cX1_fire 110 = .ok (.iastore, 1) := by decide +kernel
theorem dX1_fire_111 : decode cX1_fire 111 = .ok (.iinc 2 1, 3) := by decide +kernel
theorem dX1_fire_114 : decode cX1_fire 114 = .ok (.goto (-44), 3) := by decide +kernel
theorem dX1_fire_117 : decode cX1_fire 117 = .ok (.return_, 1) := by decide +kernel
theorem dX1_noteFires_0 : decode cX1_noteFires 0 = .ok (.iconst 0, 1) := by decide +kernel
theorem dX1_noteFires_1 : decode cX1_noteFires 1 = .ok (.istore_n 1, 1) := by decide +kernel
theorem dX1_noteFires_2 : decode cX1_noteFires 2 = .ok (.iload_n 1, 1) := by decide +kernel
theorem dX1_noteFires_3 : decode cX1_noteFires 3 = .ok (.aload_n 0, 1) := by decide +kernel
theorem dX1_noteFires_4 : decode cX1_noteFires 4 = .ok (.getfield 44, 3) := by decide +kernel
theorem dX1_noteFires_7 : decode cX1_noteFires 7 = .ok (.arraylength, 1) := by decide +kernel
theorem dX1_noteFires_8 : decode cX1_noteFires 8 = .ok (.if_icmp .ge 34, 3) := by decide +kernel
theorem dX1_noteFires_11 : decode cX1_noteFires 11 = .ok (.iload_n 1, 1) := by decide +kernel
theorem dX1_noteFires_12 : decode cX1_noteFires 12 = .ok (.aload_n 0, 1) := by decide +kernel
theorem dX1_noteFires_13 : decode cX1_noteFires 13 = .ok (.getfield 96, 3) := by decide +kernel
theorem dX1_noteFires_16 : decode cX1_noteFires 16 = .ok (.if_icmp .ge 26, 3) := by decide +kernel
theorem dX1_noteFires_19 : decode cX1_noteFires 19 = .ok (.aload_n 0, 1) := by decide +kernel
theorem dX1_noteFires_20 : decode cX1_noteFires 20 = .ok (.getfield 22, 3) := by decide +kernel
theorem dX1_noteFires_23 : decode cX1_noteFires 23 = .ok (.aload_n 0, 1) := by decide +kernel
theorem dX1_noteFires_24 : decode cX1_noteFires 24 = .ok (.getfield 56, 3) := by decide +kernel
theorem dX1_noteFires_27 : decode cX1_noteFires 27 = .ok (.aload_n 0, 1) := by decide +kernel
theorem dX1_noteFires_28 : decode cX1_noteFires 28 = .ok (.getfield 44, 3) := by decide +kernel
theorem dX1_noteFires_31 : decode cX1_noteFires 31 = .ok (.iload_n 1, 1) := by decide +kernel
theorem dX1_noteFires_32 : decode cX1_noteFires 32 = .ok (.iaload, 1) := by decide +kernel
theorem dX1_noteFires_33 : decode cX1_noteFires 33 = .ok (.invokevirtual 136, 3) := by decide +kernel
theorem dX1_noteFires_36 : decode cX1_noteFires 36 = .ok (.iinc 1 1, 3) := by decide +kernel
theorem dX1_noteFires_39 : decode cX1_noteFires 39 = .ok (.goto (-37), 3) := by decide +kernel
theorem dX1_noteFires_42 : decode cX1_noteFires 42 = .ok (.return_, 1) := by decide +kernel
theorem dX1_slotOf_0 : decode cX1_slotOf 0 = .ok (.iload_n 0, 1) := by decide +kernel
theorem dX1_slotOf_1 : decode cX1_slotOf 1 = .ok (.bipush 15, 2) := by decide +kernel
theorem dX1_slotOf_3 : decode cX1_slotOf 3 = .ok (.iand, 1) := by decide +kernel
theorem dX1_slotOf_4 : decode cX1_slotOf 4 = .ok (.bipush 10, 2) := by decide +kernel
theorem dX1_slotOf_6 : decode cX1_slotOf 6 = .ok (.imul, 1) := by decide +kernel
theorem dX1_slotOf_7 : decode cX1_slotOf 7 = .ok (.ireturn, 1) := by decide +kernel
theorem dX1_groupCount_0 : decode cX1_groupCount 0 = .ok (.iconst 0, 1) := by decide +kernel
theorem dX1_groupCount_1 : decode cX1_groupCount 1 = .ok (.istore_n 2, 1) := by decide +kernel
theorem dX1_groupCount_2 : decode cX1_groupCount 2 = .ok (.iconst 0, 1) := by decide +kernel
theorem dX1_groupCount_3 : decode cX1_groupCount 3 = .ok (.istore_n 3, 1) := by decide +kernel
theorem dX1_groupCount_4 : decode cX1_groupCount 4 = .ok (.iload_n 3, 1) := by decide +kernel
theorem dX1_groupCount_5 : decode cX1_groupCount 5 = .ok (.aload_n 0, 1) := by decide +kernel
theorem dX1_groupCount_6 : decode cX1_groupCount 6 = .ok (.getfield 47, 3) := by decide +kernel
theorem dX1_groupCount_9 : decode cX1_groupCount 9 = .ok (.if_icmp .ge 33, 3) := by decide +kernel
theorem dX1_groupCount_12 : decode cX1_groupCount 12 = .ok (.iload_n 2, 1) := by decide +kernel
theorem dX1_groupCount_13 : decode cX1_groupCount 13 = .ok (.iload_n 1, 1) := by decide +kernel
theorem dX1_groupCount_14 : decode cX1_groupCount 14 = .ok (.if_icmp .gt 28, 3) := by decide +kernel
theorem dX1_groupCount_17 : decode cX1_groupCount 17 = .ok (.aload_n 0, 1) := by decide +kernel
theorem dX1_groupCount_18 : decode cX1_groupCount 18 = .ok (.iload_n 3, 1) := by decide +kernel
theorem dX1_groupCount_19 : decode cX1_groupCount 19 = .ok (.invokevirtual 66, 3) := by decide +kernel
theorem dX1_groupCount_22 : decode cX1_groupCount 22 = .ok (.ifCond .eq 14, 3) := by decide +kernel
theorem dX1_groupCount_25 : decode cX1_groupCount 25 = .ok (.aload_n 0, 1) := by decide +kernel
theorem dX1_groupCount_26 : decode cX1_groupCount 26 = .ok (.iload_n 3, 1) := by decide +kernel
theorem dX1_groupCount_27 : decode cX1_groupCount 27 = .ok (.invokevirtual 139, 3) := by decide +kernel
theorem dX1_groupCount_30 : decode cX1_groupCount 30 = .ok (.ifCond .eq 6, 3) := by decide +kernel
theorem dX1_groupCount_33 : decode cX1_groupCount 33 = .ok (.iinc 2 1, 3) := by decide +kernel
theorem dX1_groupCount_36 : decode cX1_groupCount 36 = .ok (.iinc 3 1, 3) := by decide +kernel
theorem dX1_groupCount_39 : decode cX1_groupCount 39 = .ok (.goto (-35), 3) := by decide +kernel
theorem dX1_groupCount_42 : decode cX1_groupCount 42 = .ok (.iload_n 2, 1) := by decide +kernel
theorem dX1_groupCount_43 : decode cX1_groupCount 43 = .ok (.ireturn, 1) := by decide +kernel
theorem dX1_isFirstOfGroup_0 : decode cX1_isFirstOfGroup 0 = .ok (.iconst 0, 1) := by decide +kernel
theorem dX1_isFirstOfGroup_1 : decode cX1_isFirstOfGroup 1 = .ok (.istore_n 2, 1) := by decide +kernel
theorem dX1_isFirstOfGroup_2 : decode cX1_isFirstOfGroup 2 = .ok (.iload_n 2, 1) := by decide +kernel
theorem dX1_isFirstOfGroup_3 : decode cX1_isFirstOfGroup 3 = .ok (.iload_n 1, 1) := by decide +kernel
theorem dX1_isFirstOfGroup_4 : decode cX1_isFirstOfGroup 4 = .ok (.if_icmp .ge 34, 3) := by decide +kernel
theorem dX1_isFirstOfGroup_7 : decode cX1_isFirstOfGroup 7 = .ok (.aload_n 0, 1) := by decide +kernel
theorem dX1_isFirstOfGroup_8 : decode cX1_isFirstOfGroup 8 = .ok (.iload_n 2, 1) := by decide +kernel
theorem dX1_isFirstOfGroup_9 : decode cX1_isFirstOfGroup 9 = .ok (.invokevirtual 66, 3) := by decide +kernel
theorem dX1_isFirstOfGroup_12 : decode cX1_isFirstOfGroup 12 = .ok (.ifCond .eq 20, 3) := by decide +kernel
theorem dX1_isFirstOfGroup_15 : decode cX1_isFirstOfGroup 15 = .ok (.aload_n 0, 1) := by decide +kernel
theorem dX1_isFirstOfGroup_16 : decode cX1_isFirstOfGroup 16 = .ok (.getfield 26, 3) := by decide +kernel
theorem dX1_isFirstOfGroup_19 : decode cX1_isFirstOfGroup 19 = .ok (.iload_n 2, 1) := by decide +kernel
theorem dX1_isFirstOfGroup_20 : decode cX1_isFirstOfGroup 20 = .ok (.iaload, 1) := by decide +kernel
theorem dX1_isFirstOfGroup_21 : decode cX1_isFirstOfGroup 21 = .ok (.aload_n 0, 1) := by decide +kernel
theorem dX1_isFirstOfGroup_22 : decode cX1_isFirstOfGroup 22 = .ok (.getfield 26, 3) := by decide +kernel
theorem dX1_isFirstOfGroup_25 : decode cX1_isFirstOfGroup 25 = .ok (.iload_n 1, 1) := by decide +kernel
theorem dX1_isFirstOfGroup_26 : decode cX1_isFirstOfGroup 26 = .ok (.iaload, 1) := by decide +kernel
theorem dX1_isFirstOfGroup_27 : decode cX1_isFirstOfGroup 27 = .ok (.if_icmp .ne 5, 3) := by decide +kernel
theorem dX1_isFirstOfGroup_30 : decode cX1_isFirstOfGroup 30 = .ok (.iconst 0, 1) := by decide +kernel
theorem dX1_isFirstOfGroup_31 : decode cX1_isFirstOfGroup 31 = .ok (.ireturn, 1) := by decide +kernel
theorem dX1_isFirstOfGroup_32 : decode cX1_isFirstOfGroup 32 = .ok (.iinc 2 1, 3) := by decide +kernel
theorem dX1_isFirstOfGroup_35 : decode cX1_isFirstOfGroup 35 = .ok (.goto (-33), 3) := by decide +kernel
theorem dX1_isFirstOfGroup_38 : decode cX1_isFirstOfGroup 38 = .ok (.iconst 1, 1) := by decide +kernel
theorem dX1_isFirstOfGroup_39 : decode cX1_isFirstOfGroup 39 = .ok (.ireturn, 1) := by decide +kernel
theorem dX1_goodClocksAt_0 : decode cX1_goodClocksAt 0 = .ok (.iconst 0, 1) := by decide +kernel
theorem dX1_goodClocksAt_1 : decode cX1_goodClocksAt 1 = .ok (.istore_n 2, 1) := by decide +kernel
theorem dX1_goodClocksAt_2 : decode cX1_goodClocksAt 2 = .ok (.iconst 0, 1) := by decide +kernel
theorem dX1_goodClocksAt_3 : decode cX1_goodClocksAt 3 = .ok (.istore_n 3, 1) := by decide +kernel
theorem dX1_goodClocksAt_4 : decode cX1_goodClocksAt 4 = .ok (.iload_n 3, 1) := by decide +kernel
theorem dX1_goodClocksAt_5 : decode cX1_goodClocksAt 5 = .ok (.aload_n 0, 1) := by decide +kernel
theorem dX1_goodClocksAt_6 : decode cX1_goodClocksAt 6 = .ok (.getfield 47, 3) := by decide +kernel
theorem dX1_goodClocksAt_9 : decode cX1_goodClocksAt 9 = .ok (.if_icmp .ge 33, 3) := by decide +kernel
theorem dX1_goodClocksAt_12 : decode cX1_goodClocksAt 12 = .ok (.aload_n 0, 1) := by decide +kernel
theorem dX1_goodClocksAt_13 : decode cX1_goodClocksAt 13 = .ok (.iload_n 3, 1) := by decide +kernel
theorem dX1_goodClocksAt_14 : decode cX1_goodClocksAt 14 = .ok (.invokevirtual 66, 3) := by decide +kernel
theorem dX1_goodClocksAt_17 : decode cX1_goodClocksAt 17 = .ok (.ifCond .eq 19, 3) := by decide +kernel
theorem dX1_goodClocksAt_20 : decode cX1_goodClocksAt 20 = .ok (.aload_n 0, 1) := by decide +kernel
theorem dX1_goodClocksAt_21 : decode cX1_goodClocksAt 21 = .ok (.getfield 26, 3) := by decide +kernel
theorem dX1_goodClocksAt_24 : decode cX1_goodClocksAt 24 = .ok (.iload_n 3, 1) := by decide +kernel
theorem dX1_goodClocksAt_25 : decode cX1_goodClocksAt 25 = .ok (.iaload, 1) := by decide +kernel
theorem dX1_goodClocksAt_26 : decode cX1_goodClocksAt 26 = .ok (.iload_n 1, 1) := by decide +kernel
theorem dX1_goodClocksAt_27 : decode cX1_goodClocksAt 27 = .ok (.if_icmp .ne 9, 3) := by decide +kernel
theorem dX1_goodClocksAt_30 : decode cX1_goodClocksAt 30 = .ok (.iload_n 2, 1) := by decide +kernel
theorem dX1_goodClocksAt_31 : decode cX1_goodClocksAt 31 = .ok (.iconst 1, 1) := by decide +kernel
theorem dX1_goodClocksAt_32 : decode cX1_goodClocksAt 32 = .ok (.iload_n 3, 1) := by decide +kernel
theorem dX1_goodClocksAt_33 : decode cX1_goodClocksAt 33 = .ok (.ishl, 1) := by decide +kernel
theorem dX1_goodClocksAt_34 : decode cX1_goodClocksAt 34 = .ok (.ior, 1) := by decide +kernel
theorem dX1_goodClocksAt_35 : decode cX1_goodClocksAt 35 = .ok (.istore_n 2, 1) := by decide +kernel
theorem dX1_goodClocksAt_36 : decode cX1_goodClocksAt 36 = .ok (.iinc 3 1, 3) := by decide +kernel
theorem dX1_goodClocksAt_39 : decode cX1_goodClocksAt 39 = .ok (.goto (-35), 3) := by decide +kernel
theorem dX1_goodClocksAt_42 : decode cX1_goodClocksAt 42 = .ok (.iload_n 2, 1) := by decide +kernel
theorem dX1_goodClocksAt_43 : decode cX1_goodClocksAt 43 = .ok (.ireturn, 1) := by decide +kernel
theorem dX1_phaseOfGroup_0 : decode cX1_phaseOfGroup 0 = .ok (.iconst 0, 1) := by decide +kernel
theorem dX1_phaseOfGroup_1 : decode cX1_phaseOfGroup 1 = .ok (.istore_n 2, 1) := by decide +kernel
theorem dX1_phaseOfGroup_2 : decode cX1_phaseOfGroup 2 = .ok (.iconst 0, 1) := by decide +kernel
theorem dX1_phaseOfGroup_3 : decode cX1_phaseOfGroup 3 = .ok (.istore_n 3, 1) := by decide +kernel
theorem dX1_phaseOfGroup_4 : decode cX1_phaseOfGroup 4 = .ok (.iload_n 3, 1) := by decide +kernel
theorem dX1_phaseOfGroup_5 : decode cX1_phaseOfGroup 5 = .ok (.aload_n 0, 1) := by decide +kernel
theorem dX1_phaseOfGroup_6 : decode cX1_phaseOfGroup 6 = .ok (.getfield 9, 3) := by decide +kernel
theorem dX1_phaseOfGroup_9 : decode cX1_phaseOfGroup 9 = .ok (.if_icmp .ge 27, 3) := by decide +kernel
theorem dX1_phaseOfGroup_12 : decode cX1_phaseOfGroup 12 = .ok (.aload_n 0, 1) := by decide +kernel
theorem dX1_phaseOfGroup_13 : decode cX1_phaseOfGroup 13 = .ok (.iload_n 3, 1) := by decide +kernel
theorem dX1_phaseOfGroup_14 : decode cX1_phaseOfGroup 14 = .ok (.invokevirtual 142, 3) := by decide +kernel
theorem dX1_phaseOfGroup_17 : decode cX1_phaseOfGroup 17 = .ok (.ifCond .eq 13, 3) := by decide +kernel
theorem dX1_phaseOfGroup_20 : decode cX1_phaseOfGroup 20 = .ok (.iload_n 2, 1) := by decide +kernel
theorem dX1_phaseOfGroup_21 : decode cX1_phaseOfGroup 21 = .ok (.iload_n 1, 1) := by decide +kernel
theorem dX1_phaseOfGroup_22 : decode cX1_phaseOfGroup 22 = .ok (.if_icmp .ne 5, 3) := by decide +kernel
theorem dX1_phaseOfGroup_25 : decode cX1_phaseOfGroup 25 = .ok (.iload_n 3, 1) := by decide +kernel
theorem dX1_phaseOfGroup_26 : decode cX1_phaseOfGroup 26 = .ok (.ireturn, 1) := by decide +kernel
theorem dX1_phaseOfGroup_27 : decode cX1_phaseOfGroup 27 = .ok (.iinc 2 1, 3) := by decide +kernel
theorem dX1_phaseOfGroup_30 : decode cX1_phaseOfGroup 30 = .ok (.iinc 3 1, 3) := by decide +kernel
theorem dX1_phaseOfGroup_33 : decode cX1_phaseOfGroup 33 = .ok (.goto (-29), 3) := by decide +kernel
theorem dX1_phaseOfGroup_36 : decode cX1_phaseOfGroup 36 = .ok (.iconst (-1), 1) := by decide +kernel
theorem dX1_phaseOfGroup_37 : decode cX1_phaseOfGroup 37 = .ok (.ireturn, 1) := by decide +kernel
theorem dX1_numberOfGroup_0 : decode cX1_numberOfGroup 0 = .ok (.aload_n 0, 1) := by decide +kernel
theorem dX1_numberOfGroup_1 : decode cX1_numberOfGroup 1 = .ok (.iload_n 1, 1) := by decide +kernel
theorem dX1_numberOfGroup_2 : decode cX1_numberOfGroup 2 = .ok (.invokevirtual 66, 3) := by decide +kernel
theorem dX1_numberOfGroup_5 : decode cX1_numberOfGroup 5 = .ok (.ifCond .ne 5, 3) := by decide +kernel
theorem dX1_numberOfGroup_8 : decode cX1_numberOfGroup 8 = .ok (.iconst (-1), 1) := by decide +kernel
theorem dX1_numberOfGroup_9 : decode cX1_numberOfGroup 9 = .ok (.ireturn, 1) := by decide +kernel
theorem dX1_numberOfGroup_10 : decode cX1_numberOfGroup 10 = .ok (.iconst 0, 1) := by decide +kernel
theorem dX1_numberOfGroup_11 : decode cX1_numberOfGroup 11 = .ok (.istore_n 2, 1) := by decide +kernel
theorem dX1_numberOfGroup_12 : decode cX1_numberOfGroup 12 = .ok (.iconst 0, 1) := by decide +kernel
theorem dX1_numberOfGroup_13 : decode cX1_numberOfGroup 13 = .ok (.istore_n 3, 1) := by decide +kernel
theorem dX1_numberOfGroup_14 : decode cX1_numberOfGroup 14 = .ok (.iload_n 3, 1) := by decide +kernel
theorem dX1_numberOfGroup_15 : decode cX1_numberOfGroup 15 = .ok (.aload_n 0, 1) := by decide +kernel
theorem dX1_numberOfGroup_16 : decode cX1_numberOfGroup 16 = .ok (.getfield 26, 3) := by decide +kernel
theorem dX1_numberOfGroup_19 : decode cX1_numberOfGroup 19 = .ok (.iload_n 1, 1) := by decide +kernel
theorem dX1_numberOfGroup_20 : decode cX1_numberOfGroup 20 = .ok (.iaload, 1) := by decide +kernel
theorem dX1_numberOfGroup_21 : decode cX1_numberOfGroup 21 = .ok (.if_icmp .ge 20, 3) := by decide +kernel
theorem dX1_numberOfGroup_24 : decode cX1_numberOfGroup 24 = .ok (.aload_n 0, 1) := by decide +kernel
theorem dX1_numberOfGroup_25 : decode cX1_numberOfGroup 25 = .ok (.iload_n 3, 1) := by decide +kernel
theorem dX1_numberOfGroup_26 : decode cX1_numberOfGroup 26 = .ok (.invokevirtual 142, 3) := by decide +kernel
theorem dX1_numberOfGroup_29 : decode cX1_numberOfGroup 29 = .ok (.ifCond .eq 6, 3) := by decide +kernel
theorem dX1_numberOfGroup_32 : decode cX1_numberOfGroup 32 = .ok (.iinc 2 1, 3) := by decide +kernel
theorem dX1_numberOfGroup_35 : decode cX1_numberOfGroup 35 = .ok (.iinc 3 1, 3) := by decide +kernel
theorem dX1_numberOfGroup_38 : decode cX1_numberOfGroup 38 = .ok (.goto (-24), 3) := by decide +kernel
theorem dX1_numberOfGroup_41 : decode cX1_numberOfGroup 41 = .ok (.iload_n 2, 1) := by decide +kernel
theorem dX1_numberOfGroup_42 : decode cX1_numberOfGroup 42 = .ok (.ireturn, 1) := by decide +kernel
theorem dX1_spreadOfGood_0 : decode cX1_spreadOfGood 0 = .ok (.iconst (-1), 1) := by decide +kernel
theorem dX1_spreadOfGood_1 : decode cX1_spreadOfGood 1 = .ok (.istore_n 1, 1) := by decide +kernel
theorem dX1_spreadOfGood_2 : decode cX1_spreadOfGood 2 = .ok (.iconst 0, 1) := by decide +kernel
theorem dX1_spreadOfGood_3 : decode cX1_spreadOfGood 3 = .ok (.istore_n 2, 1) := by decide +kernel
theorem dX1_spreadOfGood_4 : decode cX1_spreadOfGood 4 = .ok (.iload_n 2, 1) := by decide +kernel
theorem dX1_spreadOfGood_5 : decode cX1_spreadOfGood 5 = .ok (.aload_n 0, 1) := by decide +kernel
theorem dX1_spreadOfGood_6 : decode cX1_spreadOfGood 6 = .ok (.getfield 47, 3) := by decide +kernel
theorem dX1_spreadOfGood_9 : decode cX1_spreadOfGood 9 = .ok (.if_icmp .ge 43, 3) := by decide +kernel
theorem dX1_spreadOfGood_12 : decode cX1_spreadOfGood 12 = .ok (.aload_n 0, 1) := by decide +kernel
theorem dX1_spreadOfGood_13 : decode cX1_spreadOfGood 13 = .ok (.iload_n 2, 1) := by decide +kernel
theorem dX1_spreadOfGood_14 : decode cX1_spreadOfGood 14 = .ok (.invokevirtual 66, 3) := by decide +kernel
theorem dX1_spreadOfGood_17 : decode cX1_spreadOfGood 17 = .ok (.ifCond .eq 29, 3) := by decide +kernel
theorem dX1_spreadOfGood_20 : decode cX1_spreadOfGood 20 = .ok (.aload_n 0, 1) := by decide +kernel
theorem dX1_spreadOfGood_21 : decode cX1_spreadOfGood 21 = .ok (.aload_n 0, 1) := by decide +kernel
theorem dX1_spreadOfGood_22 : decode cX1_spreadOfGood 22 = .ok (.getfield 26, 3) := by decide +kernel
theorem dX1_spreadOfGood_25 : decode cX1_spreadOfGood 25 = .ok (.iload_n 2, 1) := by decide +kernel
theorem dX1_spreadOfGood_26 : decode cX1_spreadOfGood 26 = .ok (.iaload, 1) := by decide +kernel
theorem dX1_spreadOfGood_27 : decode cX1_spreadOfGood 27 = .ok (.invokevirtual 145, 3) := by decide +kernel
theorem dX1_spreadOfGood_30 : decode cX1_spreadOfGood 30 = .ok (.istore_n 3, 1) := by decide +kernel
theorem dX1_spreadOfGood_31 : decode cX1_spreadOfGood 31 = .ok (.iload_n 1, 1) := by decide +kernel
theorem dX1_spreadOfGood_32 : decode cX1_spreadOfGood 32 = .ok (.iconst (-1), 1) := by decide +kernel
theorem dX1_spreadOfGood_33 : decode cX1_spreadOfGood 33 = .ok (.if_icmp .ne 7, 3) := by decide +kernel
theorem dX1_spreadOfGood_36 : decode cX1_spreadOfGood 36 = .ok (.iload_n 3, 1) := by decide +kernel
theorem dX1_spreadOfGood_37 : decode cX1_spreadOfGood 37 = .ok (.goto 8, 3) := by decide +kernel
theorem dX1_spreadOfGood_40 : decode cX1_spreadOfGood 40 = .ok (.iload_n 1, 1) := by decide +kernel
theorem dX1_spreadOfGood_41 : decode cX1_spreadOfGood 41 = .ok (.iload_n 3, 1) := by decide +kernel
theorem dX1_spreadOfGood_42 : decode cX1_spreadOfGood 42 = .ok (.invokestatic 148, 3) := by decide +kernel
theorem dX1_spreadOfGood_45 : decode cX1_spreadOfGood 45 = .ok (.istore_n 1, 1) := by decide +kernel
theorem dX1_spreadOfGood_46 : decode cX1_spreadOfGood 46 = .ok (.iinc 2 1, 3) := by decide +kernel
theorem dX1_spreadOfGood_49 : decode cX1_spreadOfGood 49 = .ok (.goto (-45), 3) := by decide +kernel
theorem dX1_spreadOfGood_52 : decode cX1_spreadOfGood 52 = .ok (.iload_n 1, 1) := by decide +kernel
theorem dX1_spreadOfGood_53 : decode cX1_spreadOfGood 53 = .ok (.iconst (-1), 1) := by decide +kernel
theorem dX1_spreadOfGood_54 : decode cX1_spreadOfGood 54 = .ok (.if_icmp .ne 7, 3) := by decide +kernel
theorem dX1_spreadOfGood_57 : decode cX1_spreadOfGood 57 = .ok (.iconst 0, 1) := by decide +kernel
theorem dX1_spreadOfGood_58 : decode cX1_spreadOfGood 58 = .ok (.goto 4, 3) := by decide +kernel
theorem dX1_spreadOfGood_61 : decode cX1_spreadOfGood 61 = .ok (.iload_n 1, 1) := by decide +kernel
theorem dX1_spreadOfGood_62 : decode cX1_spreadOfGood 62 = .ok (.ireturn, 1) := by decide +kernel
theorem dX1_stretchFrom_0 : decode cX1_stretchFrom 0 = .ok (.iconst 0, 1) := by decide +kernel
theorem dX1_stretchFrom_1 : decode cX1_stretchFrom 1 = .ok (.istore_n 2, 1) := by decide +kernel
theorem dX1_stretchFrom_2 : decode cX1_stretchFrom 2 = .ok (.iconst 0, 1) := by decide +kernel
theorem dX1_stretchFrom_3 : decode cX1_stretchFrom 3 = .ok (.istore_n 3, 1) := by decide +kernel
theorem dX1_stretchFrom_4 : decode cX1_stretchFrom 4 = .ok (.iload_n 3, 1) := by decide +kernel
theorem dX1_stretchFrom_5 : decode cX1_stretchFrom 5 = .ok (.aload_n 0, 1) := by decide +kernel
theorem dX1_stretchFrom_6 : decode cX1_stretchFrom 6 = .ok (.getfield 47, 3) := by decide +kernel
theorem dX1_stretchFrom_9 : decode cX1_stretchFrom 9 = .ok (.if_icmp .ge 49, 3) := by decide +kernel
theorem dX1_stretchFrom_12 : decode cX1_stretchFrom 12 = .ok (.aload_n 0, 1) := by decide +kernel
theorem dX1_stretchFrom_13 : decode cX1_stretchFrom 13 = .ok (.iload_n 3, 1) := by decide +kernel
theorem dX1_stretchFrom_14 : decode cX1_stretchFrom 14 = .ok (.invokevirtual 66, 3) := by decide +kernel
theorem dX1_stretchFrom_17 : decode cX1_stretchFrom 17 = .ok (.ifCond .eq 35, 3) := by decide +kernel
theorem dX1_stretchFrom_20 : decode cX1_stretchFrom 20 = .ok (.aload_n 0, 1) := by decide +kernel
theorem dX1_stretchFrom_21 : decode cX1_stretchFrom 21 = .ok (.getfield 26, 3) := by decide +kernel
theorem dX1_stretchFrom_24 : decode cX1_stretchFrom 24 = .ok (.iload_n 3, 1) := by decide +kernel
theorem dX1_stretchFrom_25 : decode cX1_stretchFrom 25 = .ok (.iaload, 1) := by decide +kernel
theorem dX1_stretchFrom_26 : decode cX1_stretchFrom 26 = .ok (.iload_n 1, 1) := by decide +kernel
theorem dX1_stretchFrom_27 : decode cX1_stretchFrom 27 = .ok (.isub, 1) := by decide +kernel
theorem dX1_stretchFrom_28 : decode cX1_stretchFrom 28 = .ok (.istore 4, 2) := by decide +kernel
theorem dX1_stretchFrom_30 : decode cX1_stretchFrom 30 = .ok (.iload_n 2, 1) := by decide +kernel
theorem dX1_stretchFrom_31 : decode cX1_stretchFrom 31 = .ok (.iload 4, 2) := by decide +kernel
theorem dX1_stretchFrom_33 : decode cX1_stretchFrom 33 = .ok (.ifCond .lt 8, 3) := by decide +kernel
theorem dX1_stretchFrom_36 : decode cX1_stretchFrom 36 = .ok (.iload 4, 2) := by decide +kernel
theorem dX1_stretchFrom_38 : decode cX1_stretchFrom 38 = .ok (.goto 10, 3) := by decide +kernel
theorem dX1_stretchFrom_41 : decode cX1_stretchFrom 41 = .ok (.iload 4, 2) := by decide +kernel
theorem dX1_stretchFrom_43 : decode cX1_stretchFrom 43 = .ok (.aload_n 0, 1) := by decide +kernel
theorem dX1_stretchFrom_44 : decode cX1_stretchFrom 44 = .ok (.getfield 9, 3) := by decide +kernel
theorem dX1_stretchFrom_47 : decode cX1_stretchFrom 47 = .ok (.iadd, 1) := by decide +kernel
theorem dX1_stretchFrom_48 : decode cX1_stretchFrom 48 = .ok (.invokestatic 153, 3) := by decide +kernel
theorem dX1_stretchFrom_51 : decode cX1_stretchFrom 51 = .ok (.istore_n 2, 1) := by decide +kernel
theorem dX1_stretchFrom_52 : decode cX1_stretchFrom 52 = .ok (.iinc 3 1, 3) := by decide +kernel
theorem dX1_stretchFrom_55 : decode cX1_stretchFrom 55 = .ok (.goto (-51), 3) := by decide +kernel
theorem dX1_stretchFrom_58 : decode cX1_stretchFrom 58 = .ok (.iload_n 2, 1) := by decide +kernel
theorem dX1_stretchFrom_59 : decode cX1_stretchFrom 59 = .ok (.ireturn, 1) := by decide +kernel
theorem dX1_passUntilGroups_0 : decode cX1_passUntilGroups 0 = .ok (.iconst 1, 1) := by decide +kernel
theorem dX1_passUntilGroups_1 : decode cX1_passUntilGroups 1 = .ok (.istore_n 3, 1) := by decide +kernel
theorem dX1_passUntilGroups_2 : decode cX1_passUntilGroups 2 = .ok (.iload_n 3, 1) := by decide +kernel
theorem dX1_passUntilGroups_3 : decode cX1_passUntilGroups 3 = .ok (.iload_n 2, 1) := by decide +kernel
theorem dX1_passUntilGroups_4 : decode cX1_passUntilGroups 4 = .ok (.if_icmp .gt 26, 3) := by decide +kernel
theorem dX1_passUntilGroups_7 : decode cX1_passUntilGroups 7 = .ok (.aload_n 0, 1) := by decide +kernel
theorem dX1_passUntilGroups_8 : decode cX1_passUntilGroups 8 = .ok (.iconst 1, 1) := by decide +kernel
theorem dX1_passUntilGroups_9 : decode cX1_passUntilGroups 9 = .ok (.invokevirtual 156, 3) := by decide +kernel
theorem dX1_passUntilGroups_12 : decode cX1_passUntilGroups 12 = .ok (.pop, 1) := by decide +kernel
theorem dX1_passUntilGroups_13 : decode cX1_passUntilGroups 13 = .ok (.aload_n 0, 1) := by decide +kernel
theorem dX1_passUntilGroups_14 : decode cX1_passUntilGroups 14 = .ok (.iload_n 1, 1) := by decide +kernel
theorem dX1_passUntilGroups_15 : decode cX1_passUntilGroups 15 = .ok (.invokevirtual 159, 3) := by decide +kernel
theorem dX1_passUntilGroups_18 : decode cX1_passUntilGroups 18 = .ok (.iload_n 1, 1) := by decide +kernel
theorem dX1_passUntilGroups_19 : decode cX1_passUntilGroups 19 = .ok (.if_icmp .gt 5, 3) := by decide +kernel
theorem dX1_passUntilGroups_22 : decode cX1_passUntilGroups 22 = .ok (.iload_n 3, 1) := by decide +kernel
theorem dX1_passUntilGroups_23 : decode cX1_passUntilGroups 23 = .ok (.ireturn, 1) := by decide +kernel
theorem dX1_passUntilGroups_24 : decode cX1_passUntilGroups 24 = .ok (.iinc 3 1, 3) := by decide +kernel
theorem dX1_passUntilGroups_27 : decode cX1_passUntilGroups 27 = .ok (.goto (-25), 3) := by decide +kernel
theorem dX1_passUntilGroups_30 : decode cX1_passUntilGroups 30 = .ok (.iconst (-1), 1) := by decide +kernel
theorem dX1_passUntilGroups_31 : decode cX1_passUntilGroups 31 = .ok (.ireturn, 1) := by decide +kernel
theorem dX1_isAlike_0 : decode cX1_isAlike 0 = .ok (.aload_n 0, 1) := by decide +kernel
theorem dX1_isAlike_1 : decode cX1_isAlike 1 = .ok (.getfield 56, 3) := by decide +kernel
theorem dX1_isAlike_4 : decode cX1_isAlike 4 = .ok (.aload_n 1, 1) := by decide +kernel
theorem dX1_isAlike_5 : decode cX1_isAlike 5 = .ok (.getfield 56, 3) := by decide +kernel
theorem dX1_isAlike_8 : decode cX1_isAlike 8 = .ok (.isub, 1) := by decide +kernel
theorem dX1_isAlike_9 : decode cX1_isAlike 9 = .ok (.istore_n 2, 1) := by decide +kernel
theorem dX1_isAlike_10 : decode cX1_isAlike 10 = .ok (.iconst 0, 1) := by decide +kernel
theorem dX1_isAlike_11 : decode cX1_isAlike 11 = .ok (.istore_n 3, 1) := by decide +kernel
theorem dX1_isAlike_12 : decode cX1_isAlike 12 = .ok (.iload_n 3, 1) := by decide +kernel
theorem dX1_isAlike_13 : decode cX1_isAlike 13 = .ok (.aload_n 0, 1) := by decide +kernel
theorem dX1_isAlike_14 : decode cX1_isAlike 14 = .ok (.getfield 47, 3) := by decide +kernel
theorem dX1_isAlike_17 : decode cX1_isAlike 17 = .ok (.if_icmp .ge 63, 3) := by decide +kernel
theorem dX1_isAlike_20 : decode cX1_isAlike 20 = .ok (.aload_n 0, 1) := by decide +kernel
theorem dX1_isAlike_21 : decode cX1_isAlike 21 = .ok (.iload_n 3, 1) := by decide +kernel
theorem dX1_isAlike_22 : decode cX1_isAlike 22 = .ok (.invokevirtual 66, 3) := by decide +kernel
theorem dX1_isAlike_25 : decode cX1_isAlike 25 = .ok (.ifCond .eq 12, 3) := by decide +kernel
theorem dX1_isAlike_28 : decode cX1_isAlike 28 = .ok (.aload_n 0, 1) := by decide +kernel
theorem dX1_isAlike_29 : decode cX1_isAlike 29 = .ok (.getfield 29, 3) := by decide +kernel
theorem dX1_isAlike_32 : decode cX1_isAlike 32 = .ok (.iload_n 3, 1) := by decide +kernel
theorem dX1_isAlike_33 : decode cX1_isAlike 33 = .ok (.iaload, 1) := by decide +kernel
theorem dX1_isAlike_34 : decode cX1_isAlike 34 = .ok (.goto 9, 3) := by decide +kernel
theorem dX1_isAlike_37 : decode cX1_isAlike 37 = .ok (.aload_n 0, 1) := by decide +kernel
theorem dX1_isAlike_38 : decode cX1_isAlike 38 = .ok (.getfield 32, 3) := by decide +kernel
theorem dX1_isAlike_41 : decode cX1_isAlike 41 = .ok (.iload_n 3, 1) := by decide +kernel
theorem dX1_isAlike_42 : decode cX1_isAlike 42 = .ok (.iaload, 1) := by decide +kernel
theorem dX1_isAlike_43 : decode cX1_isAlike 43 = .ok (.istore 4, 2) := by decide +kernel
theorem dX1_isAlike_45 : decode cX1_isAlike 45 = .ok (.aload_n 0, 1) := by decide +kernel
theorem dX1_isAlike_46 : decode cX1_isAlike 46 = .ok (.getfield 26, 3) := by decide +kernel
theorem dX1_isAlike_49 : decode cX1_isAlike 49 = .ok (.iload_n 3, 1) := by decide +kernel
theorem dX1_isAlike_50 : decode cX1_isAlike 50 = .ok (.iaload, 1) := by decide +kernel
theorem dX1_isAlike_51 : decode cX1_isAlike 51 = .ok (.aload_n 1, 1) := by decide +kernel
theorem dX1_isAlike_52 : decode cX1_isAlike 52 = .ok (.getfield 26, 3) := by decide +kernel
theorem dX1_isAlike_55 : decode cX1_isAlike 55 = .ok (.iload_n 3, 1) := by decide +kernel
theorem dX1_isAlike_56 : decode cX1_isAlike 56 = .ok (.iaload, 1) := by decide +kernel
theorem dX1_isAlike_57 : decode cX1_isAlike 57 = .ok (.if_icmp .ne 15, 3) := by decide +kernel
theorem dX1_isAlike_60 : decode cX1_isAlike 60 = .ok (.iload 4, 2) := by decide +kernel
theorem dX1_isAlike_62 : decode cX1_isAlike 62 = .ok (.ifCond .eq 12, 3) := by decide +kernel
theorem dX1_isAlike_65 : decode cX1_isAlike 65 = .ok (.iload_n 2, 1) := by decide +kernel
theorem dX1_isAlike_66 : decode cX1_isAlike 66 = .ok (.iload 4, 2) := by decide +kernel
theorem dX1_isAlike_68 : decode cX1_isAlike 68 = .ok (.irem, 1) := by decide +kernel
theorem dX1_isAlike_69 : decode cX1_isAlike 69 = .ok (.ifCond .eq 5, 3) := by decide +kernel
theorem dX1_isAlike_72 : decode cX1_isAlike 72 = .ok (.iconst 0, 1) := by decide +kernel
theorem dX1_isAlike_73 : decode cX1_isAlike 73 = .ok (.ireturn, 1) := by decide +kernel
theorem dX1_isAlike_74 : decode cX1_isAlike 74 = .ok (.iinc 3 1, 3) := by decide +kernel
theorem dX1_isAlike_77 : decode cX1_isAlike 77 = .ok (.goto (-65), 3) := by decide +kernel
theorem dX1_isAlike_80 : decode cX1_isAlike 80 = .ok (.aload_n 0, 1) := by decide +kernel
theorem dX1_isAlike_81 : decode cX1_isAlike 81 = .ok (.aload_n 1, 1) := by decide +kernel
theorem dX1_isAlike_82 : decode cX1_isAlike 82 = .ok (.invokevirtual 162, 3) := by decide +kernel
theorem dX1_isAlike_85 : decode cX1_isAlike 85 = .ok (.ireturn, 1) := by decide +kernel
theorem dX1_hasSamePulses_0 : decode cX1_hasSamePulses 0 = .ok (.iconst 1, 1) := by decide +kernel
theorem dX1_hasSamePulses_1 : decode cX1_hasSamePulses 1 = .ok (.istore_n 2, 1) := by decide +kernel
theorem dX1_hasSamePulses_2 : decode cX1_hasSamePulses 2 = .ok (.iload_n 2, 1) := by decide +kernel
theorem dX1_hasSamePulses_3 : decode cX1_hasSamePulses 3 = .ok (.bipush 9, 2) := by decide +kernel
theorem dX1_hasSamePulses_5 : decode cX1_hasSamePulses 5 = .ok (.if_icmp .gt 72, 3) := by decide +kernel
theorem dX1_hasSamePulses_8 : decode cX1_hasSamePulses 8 = .ok (.aload_n 0, 1) := by decide +kernel
theorem dX1_hasSamePulses_9 : decode cX1_hasSamePulses 9 = .ok (.getfield 56, 3) := by decide +kernel
theorem dX1_hasSamePulses_12 : decode cX1_hasSamePulses 12 = .ok (.iload_n 2, 1) := by decide +kernel
theorem dX1_hasSamePulses_13 : decode cX1_hasSamePulses 13 = .ok (.iadd, 1) := by decide +kernel
theorem dX1_hasSamePulses_14 : decode cX1_hasSamePulses 14 = .ok (.invokestatic 124, 3) := by decide +kernel
theorem dX1_hasSamePulses_17 : decode cX1_hasSamePulses 17 = .ok (.istore_n 3, 1) := by decide +kernel
theorem dX1_hasSamePulses_18 : decode cX1_hasSamePulses 18 = .ok (.aload_n 1, 1) := by decide +kernel
theorem dX1_hasSamePulses_19 : decode cX1_hasSamePulses 19 = .ok (.getfield 56, 3) := by decide +kernel
theorem dX1_hasSamePulses_22 : decode cX1_hasSamePulses 22 = .ok (.iload_n 2, 1) := by decide +kernel
theorem dX1_hasSamePulses_23 : decode cX1_hasSamePulses 23 = .ok (.iadd, 1) := by decide +kernel
theorem dX1_hasSamePulses_24 : decode cX1_hasSamePulses 24 = .ok (.invokestatic 124, 3) := by decide +kernel
theorem dX1_hasSamePulses_27 : decode cX1_hasSamePulses 27 = .ok (.istore 4, 2) := by decide +kernel
theorem dX1_hasSamePulses_29 : decode cX1_hasSamePulses 29 = .ok (.iconst 0, 1) := by decide +kernel
theorem dX1_hasSamePulses_30 : decode cX1_hasSamePulses 30 = .ok (.istore 5, 2) := by decide +kernel
theorem dX1_hasSamePulses_32 : decode cX1_hasSamePulses 32 = .ok (.iload 5, 2) := by decide +kernel
theorem dX1_hasSamePulses_34 : decode cX1_hasSamePulses 34 = .ok (.aload_n 0, 1) := by decide +kernel
theorem dX1_hasSamePulses_35 : decode cX1_hasSamePulses 35 = .ok (.getfield 47, 3) := by decide +kernel
theorem dX1_hasSamePulses_38 : decode cX1_hasSamePulses 38 = .ok (.if_icmp .ge 33, 3) := by decide +kernel
theorem dX1_hasSamePulses_41 : decode cX1_hasSamePulses 41 = .ok (.aload_n 0, 1) := by decide +kernel
theorem dX1_hasSamePulses_42 : decode cX1_hasSamePulses 42 = .ok (.getfield 41, 3) := by decide +kernel
theorem dX1_hasSamePulses_45 : decode cX1_hasSamePulses 45 = .ok (.iload_n 3, 1) := by decide +kernel
theorem dX1_hasSamePulses_46 : decode cX1_hasSamePulses 46 = .ok (.iload 5, 2) := by decide +kernel
theorem dX1_hasSamePulses_48 : decode cX1_hasSamePulses 48 = .ok (.iadd, 1) := by decide +kernel
theorem dX1_hasSamePulses_49 : decode cX1_hasSamePulses 49 = .ok (.iaload, 1) := by decide +kernel
theorem dX1_hasSamePulses_50 : decode cX1_hasSamePulses 50 = .ok (.aload_n 1, 1) := by decide +kernel
theorem dX1_hasSamePulses_51 : decode cX1_hasSamePulses 51 = .ok (.getfield 41, 3) := by decide +kernel
theorem dX1_hasSamePulses_54 : decode cX1_hasSamePulses 54 = .ok (.iload 4, 2) := by decide +kernel
theorem dX1_hasSamePulses_56 : decode cX1_hasSamePulses 56 = .ok (.iload 5, 2) := by decide +kernel
theorem dX1_hasSamePulses_58 : decode cX1_hasSamePulses 58 = .ok (.iadd, 1) := by decide +kernel
theorem dX1_hasSamePulses_59 : decode cX1_hasSamePulses 59 = .ok (.iaload, 1) := by decide +kernel
theorem dX1_hasSamePulses_60 : decode cX1_hasSamePulses 60 = .ok (.if_icmp .eq 5, 3) := by decide +kernel
theorem dX1_hasSamePulses_63 : decode cX1_hasSamePulses 63 = .ok (.iconst 0, 1) := by decide +kernel
theorem dX1_hasSamePulses_64 : decode cX1_hasSamePulses 64 = .ok (.ireturn, 1) := by decide +kernel
theorem dX1_hasSamePulses_65 : decode cX1_hasSamePulses 65 = .ok (.iinc 5 1, 3) := by decide +kernel
theorem dX1_hasSamePulses_68 : decode cX1_hasSamePulses 68 = .ok (.goto (-36), 3) := by decide +kernel
theorem dX1_hasSamePulses_71 : decode cX1_hasSamePulses 71 = .ok (.iinc 2 1, 3) := by decide +kernel
theorem dX1_hasSamePulses_74 : decode cX1_hasSamePulses 74 = .ok (.goto (-72), 3) := by decide +kernel
theorem dX1_hasSamePulses_77 : decode cX1_hasSamePulses 77 = .ok (.iconst 1, 1) := by decide +kernel
theorem dX1_hasSamePulses_78 : decode cX1_hasSamePulses 78 = .ok (.ireturn, 1) := by decide +kernel
theorem dX2_init_0 : decode cX2_init 0 = .ok (.aload_n 0, 1) := by decide +kernel
theorem dX2_init_1 : decode cX2_init 1 = .ok (.invokespecial 3, 3) := by decide +kernel
theorem dX2_init_4 : decode cX2_init 4 = .ok (.aload_n 0, 1) := by decide +kernel
theorem dX2_init_5 : decode cX2_init 5 = .ok (.iconst 4, 1) := by decide +kernel
theorem dX2_init_6 : decode cX2_init 6 = .ok (.anewarray 9, 3) := by decide +kernel
theorem dX2_init_9 : decode cX2_init 9 = .ok (.putfield 11, 3) := by decide +kernel
theorem dX2_init_12 : decode cX2_init 12 = .ok (.iconst 0, 1) := by decide +kernel
theorem dX2_init_13 : decode cX2_init 13 = .ok (.istore_n 1, 1) := by decide +kernel
theorem dX2_init_14 : decode cX2_init 14 = .ok (.iload_n 1, 1) := by decide +kernel
theorem dX2_init_15 : decode cX2_init 15 = .ok (.iconst 4, 1) := by decide +kernel
theorem dX2_init_16 : decode cX2_init 16 = .ok (.if_icmp .ge 22, 3) := by decide +kernel
theorem dX2_init_19 : decode cX2_init 19 = .ok (.aload_n 0, 1) := by decide +kernel
theorem dX2_init_20 : decode cX2_init 20 = .ok (.getfield 11, 3) := by decide +kernel
theorem dX2_init_23 : decode cX2_init 23 = .ok (.iload_n 1, 1) := by decide +kernel
theorem dX2_init_24 : decode cX2_init 24 = .ok (.new 9, 3) := by decide +kernel
theorem dX2_init_27 : decode cX2_init 27 = .ok (.dup, 1) := by decide +kernel
theorem dX2_init_28 : decode cX2_init 28 = .ok (.invokespecial 17, 3) := by decide +kernel
theorem dX2_init_31 : decode cX2_init 31 = .ok (.aastore, 1) := by decide +kernel
theorem dX2_init_32 : decode cX2_init 32 = .ok (.iinc 1 1, 3) := by decide +kernel
theorem dX2_init_35 : decode cX2_init 35 = .ok (.goto (-21), 3) := by decide +kernel
theorem dX2_init_38 : decode cX2_init 38 = .ok (.return_, 1) := by decide +kernel
theorem dX2_save_0 : decode cX2_save 0 = .ok (.aload_n 0, 1) := by decide +kernel
theorem dX2_save_1 : decode cX2_save 1 = .ok (.getfield 11, 3) := by decide +kernel
theorem dX2_save_4 : decode cX2_save 4 = .ok (.aload_n 0, 1) := by decide +kernel
theorem dX2_save_5 : decode cX2_save 5 = .ok (.getfield 18, 3) := by decide +kernel
theorem dX2_save_8 : decode cX2_save 8 = .ok (.aaload, 1) := by decide +kernel
theorem dX2_save_9 : decode cX2_save 9 = .ok (.aload_n 1, 1) := by decide +kernel
theorem dX2_save_10 : decode cX2_save 10 = .ok (.invokevirtual 22, 3) := by decide +kernel
theorem dX2_save_13 : decode cX2_save 13 = .ok (.aload_n 0, 1) := by decide +kernel
theorem dX2_save_14 : decode cX2_save 14 = .ok (.aload_n 0, 1) := by decide +kernel
theorem dX2_save_15 : decode cX2_save 15 = .ok (.getfield 18, 3) := by decide +kernel
theorem dX2_save_18 : decode cX2_save 18 = .ok (.iconst 1, 1) := by decide +kernel
theorem dX2_save_19 : decode cX2_save 19 = .ok (.iadd, 1) := by decide +kernel
theorem dX2_save_20 : decode cX2_save 20 = .ok (.iconst 4, 1) := by decide +kernel
theorem dX2_save_21 : decode cX2_save 21 = .ok (.if_icmp .ge 12, 3) := by decide +kernel
theorem dX2_save_24 : decode cX2_save 24 = .ok (.aload_n 0, 1) := by decide +kernel
theorem dX2_save_25 : decode cX2_save 25 = .ok (.getfield 18, 3) := by decide +kernel
theorem dX2_save_28 : decode cX2_save 28 = .ok (.iconst 1, 1) := by decide +kernel
theorem dX2_save_29 : decode cX2_save 29 = .ok (.iadd, 1) := by decide +kernel
theorem dX2_save_30 : decode cX2_save 30 = .ok (.goto 4, 3) := by decide +kernel
theorem dX2_save_33 : decode cX2_save 33 = .ok (.iconst 0, 1) := by decide +kernel
theorem dX2_save_34 : decode cX2_save 34 = .ok (.putfield 18, 3) := by decide +kernel
theorem dX2_save_37 : decode cX2_save 37 = .ok (.aload_n 0, 1) := by decide +kernel
theorem dX2_save_38 : decode cX2_save 38 = .ok (.getfield 26, 3) := by decide +kernel
theorem dX2_save_41 : decode cX2_save 41 = .ok (.iconst 4, 1) := by decide +kernel
theorem dX2_save_42 : decode cX2_save 42 = .ok (.if_icmp .ge 13, 3) := by decide +kernel
theorem dX2_save_45 : decode cX2_save 45 = .ok (.aload_n 0, 1) := by decide +kernel
theorem dX2_save_46 : decode cX2_save 46 = .ok (.dup, 1) := by decide +kernel
theorem dX2_save_47 : decode cX2_save 47 = .ok (.getfield 26, 3) := by decide +kernel
theorem dX2_save_50 : decode cX2_save 50 = .ok (.iconst 1, 1) := by decide +kernel
theorem dX2_save_51 : decode cX2_save 51 = .ok (.iadd, 1) := by decide +kernel
theorem dX2_save_52 : decode cX2_save 52 = .ok (.putfield 26, 3) := by decide +kernel
theorem dX2_save_55 : decode cX2_save 55 = .ok (.return_, 1) := by decide +kernel
theorem dX2_restore_0 : decode cX2_restore 0 = .ok (.aload_n 0, 1) := by decide +kernel
theorem dX2_restore_1 : decode cX2_restore 1 = .ok (.aload_n 0, 1) := by decide +kernel
theorem dX2_restore_2 : decode cX2_restore 2 = .ok (.getfield 18, 3) := by decide +kernel
theorem dX2_restore_5 : decode cX2_restore 5 = .ok (.ifCond .le 12, 3) := by decide +kernel
theorem dX2_restore_8 : decode cX2_restore 8 = .ok (.aload_n 0, 1) := by decide +kernel
theorem dX2_restore_9 : decode cX2_restore 9 = .ok (.getfield 18, 3) := by decide +kernel
theorem dX2_restore_12 : decode cX2_restore 12 = .ok (.iconst 1, 1) := by decide +kernel
theorem dX2_restore_13 : decode cX2_restore 13 = .ok (.isub, 1) := by decide +kernel
theorem dX2_restore_14 : decode cX2_restore 14 = .ok (.goto 4, 3) := by decide +kernel
theorem dX2_restore_17 : decode cX2_restore 17 = .ok (.iconst 3, 1) := by decide +kernel
theorem dX2_restore_18 : decode cX2_restore 18 = .ok (.putfield 18, 3) := by decide +kernel
theorem dX2_restore_21 : decode cX2_restore 21 = .ok (.aload_n 1, 1) := by decide +kernel
theorem dX2_restore_22 : decode cX2_restore 22 = .ok (.aload_n 0, 1) := by decide +kernel
theorem dX2_restore_23 : decode cX2_restore 23 = .ok (.getfield 11, 3) := by decide +kernel
theorem dX2_restore_26 : decode cX2_restore 26 = .ok (.aload_n 0, 1) := by decide +kernel
theorem dX2_restore_27 : decode cX2_restore 27 = .ok (.getfield 18, 3) := by decide +kernel
theorem dX2_restore_30 : decode cX2_restore 30 = .ok (.aaload, 1) := by decide +kernel
theorem dX2_restore_31 : decode cX2_restore 31 = .ok (.invokevirtual 22, 3) := by decide +kernel
theorem dX2_restore_34 : decode cX2_restore 34 = .ok (.aload_n 0, 1) := by decide +kernel
theorem dX2_restore_35 : decode cX2_restore 35 = .ok (.dup, 1) := by decide +kernel
theorem dX2_restore_36 : decode cX2_restore 36 = .ok (.getfield 26, 3) := by decide +kernel
theorem dX2_restore_39 : decode cX2_restore 39 = .ok (.iconst 1, 1) := by decide +kernel
theorem dX2_restore_40 : decode cX2_restore 40 = .ok (.isub, 1) := by decide +kernel
theorem dX2_restore_41 : decode cX2_restore 41 = .ok (.putfield 26, 3) := by decide +kernel
theorem dX2_restore_44 : decode cX2_restore 44 = .ok (.return_, 1) := by decide +kernel
theorem dX3_init_0 : decode cX3_init 0 = .ok (.aload_n 0, 1) := by decide +kernel
theorem dX3_init_1 : decode cX3_init 1 = .ok (.invokespecial 3, 3) := by decide +kernel
theorem dX3_init_4 : decode cX3_init 4 = .ok (.aload_n 0, 1) := by decide +kernel
theorem dX3_init_5 : decode cX3_init 5 = .ok (.bipush 100, 2) := by decide +kernel
theorem dX3_init_7 : decode cX3_init 7 = .ok (.newarray .byte, 2) := by decide +kernel
theorem dX3_init_9 : decode cX3_init 9 = .ok (.putfield 9, 3) := by decide +kernel
theorem dX3_init_12 : decode cX3_init 12 = .ok (.aload_n 0, 1) := by decide +kernel
theorem dX3_init_13 : decode cX3_init 13 = .ok (.bipush 34, 2) := by decide +kernel
theorem dX3_init_15 : decode cX3_init 15 = .ok (.newarray .int, 2) := by decide +kernel
theorem dX3_init_17 : decode cX3_init 17 = .ok (.putfield 15, 3) := by decide +kernel
theorem dX3_init_20 : decode cX3_init 20 = .ok (.aload_n 0, 1) := by decide +kernel
theorem dX3_init_21 : decode cX3_init 21 = .ok (.bipush 102, 2) := by decide +kernel
theorem dX3_init_23 : decode cX3_init 23 = .ok (.newarray .int, 2) := by decide +kernel
theorem dX3_init_25 : decode cX3_init 25 = .ok (.putfield 19, 3) := by decide +kernel
theorem dX3_init_28 : decode cX3_init 28 = .ok (.return_, 1) := by decide +kernel
theorem dX3_isFull_0 : decode cX3_isFull 0 = .ok (.aload_n 0, 1) := by decide +kernel
theorem dX3_isFull_1 : decode cX3_isFull 1 = .ok (.getfield 22, 3) := by decide +kernel
theorem dX3_isFull_4 : decode cX3_isFull 4 = .ok (.bipush 100, 2) := by decide +kernel
theorem dX3_isFull_6 : decode cX3_isFull 6 = .ok (.if_icmp .lt 7, 3) := by decide +kernel
theorem dX3_isFull_9 : decode cX3_isFull 9 = .ok (.iconst 1, 1) := by decide +kernel
theorem dX3_isFull_10 : decode cX3_isFull 10 = .ok (.goto 4, 3) := by decide +kernel
theorem dX3_isFull_13 : decode cX3_isFull 13 = .ok (.iconst 0, 1) := by decide +kernel
theorem dX3_isFull_14 : decode cX3_isFull 14 = .ok (.ireturn, 1) := by decide +kernel
theorem dX3_put_0 : decode cX3_put 0 = .ok (.aload_n 0, 1) := by decide +kernel
theorem dX3_put_1 : decode cX3_put 1 = .ok (.getfield 9, 3) := by decide +kernel
theorem dX3_put_4 : decode cX3_put 4 = .ok (.aload_n 0, 1) := by decide +kernel
theorem dX3_put_5 : decode cX3_put 5 = .ok (.getfield 22, 3) := by decide +kernel
theorem dX3_put_8 : decode cX3_put 8 = .ok (.iload_n 1, 1) := by decide +kernel
theorem dX3_put_9 : decode cX3_put 9 = .ok (.i2b, 1) := by decide +kernel
theorem dX3_put_10 : decode cX3_put 10 = .ok (.bastore, 1) := by decide +kernel
theorem dX3_put_11 : decode cX3_put 11 = .ok (.aload_n 0, 1) := by decide +kernel
theorem dX3_put_12 : decode cX3_put 12 = .ok (.dup, 1) := by decide +kernel
theorem dX3_put_13 : decode cX3_put 13 = .ok (.getfield 22, 3) := by decide +kernel
theorem dX3_put_16 : decode cX3_put 16 = .ok (.iconst 1, 1) := by decide +kernel
theorem dX3_put_17 : decode cX3_put 17 = .ok (.iadd, 1) := by decide +kernel
theorem dX3_put_18 : decode cX3_put 18 = .ok (.putfield 22, 3) := by decide +kernel
theorem dX3_put_21 : decode cX3_put 21 = .ok (.return_, 1) := by decide +kernel
theorem dX3_letterOf_0 : decode cX3_letterOf 0 = .ok (.aload_n 0, 1) := by decide +kernel
theorem dX3_letterOf_1 : decode cX3_letterOf 1 = .ok (.getfield 15, 3) := by decide +kernel
theorem dX3_letterOf_4 : decode cX3_letterOf 4 = .ok (.iload_n 1, 1) := by decide +kernel
theorem dX3_letterOf_5 : decode cX3_letterOf 5 = .ok (.iaload, 1) := by decide +kernel
theorem dX3_letterOf_6 : decode cX3_letterOf 6 = .ok (.ireturn, 1) := by decide +kernel
theorem dX3_numberOf_0 : decode cX3_numberOf 0 = .ok (.aload_n 0, 1) := by decide +kernel
theorem dX3_numberOf_1 : decode cX3_numberOf 1 = .ok (.getfield 19, 3) := by decide +kernel
theorem dX3_numberOf_4 : decode cX3_numberOf 4 = .ok (.iload_n 1, 1) := by decide +kernel
theorem dX3_numberOf_5 : decode cX3_numberOf 5 = .ok (.iconst 3, 1) := by decide +kernel
theorem dX3_numberOf_6 : decode cX3_numberOf 6 = .ok (.imul, 1) := by decide +kernel
theorem dX3_numberOf_7 : decode cX3_numberOf 7 = .ok (.iload_n 2, 1) := by decide +kernel
theorem dX3_numberOf_8 : decode cX3_numberOf 8 = .ok (.iadd, 1) := by decide +kernel
theorem dX3_numberOf_9 : decode cX3_numberOf 9 = .ok (.iaload, 1) := by decide +kernel
theorem dX3_numberOf_10 : decode cX3_numberOf 10 = .ok (.ireturn, 1) := by decide +kernel
theorem dX3_parse_0 : decode cX3_parse 0 = .ok (.aload_n 0, 1) := by decide +kernel
theorem dX3_parse_1 : decode cX3_parse 1 = .ok (.iconst 0, 1) := by decide +kernel
theorem dX3_parse_2 : decode cX3_parse 2 = .ok (.putfield 26, 3) := by decide +kernel
theorem dX3_parse_5 : decode cX3_parse 5 = .ok (.aload_n 0, 1) := by decide +kernel
theorem dX3_parse_6 : decode cX3_parse 6 = .ok (.iconst 0, 1) := by decide +kernel
theorem dX3_parse_7 : decode cX3_parse 7 = .ok (.putfield 29, 3) := by decide +kernel
theorem dX3_parse_10 : decode cX3_parse 10 = .ok (.iconst 0, 1) := by decide +kernel
theorem dX3_parse_11 : decode cX3_parse 11 = .ok (.istore_n 1, 1) := by decide +kernel
theorem dX3_parse_12 : decode cX3_parse 12 = .ok (.iload_n 1, 1) := by decide +kernel
theorem dX3_parse_13 : decode cX3_parse 13 = .ok (.bipush 34, 2) := by decide +kernel
theorem dX3_parse_15 : decode cX3_parse 15 = .ok (.if_icmp .ge 29, 3) := by decide +kernel
theorem dX3_parse_18 : decode cX3_parse 18 = .ok (.aload_n 0, 1) := by decide +kernel
theorem dX3_parse_19 : decode cX3_parse 19 = .ok (.getfield 26, 3) := by decide +kernel
theorem dX3_parse_22 : decode cX3_parse 22 = .ok (.aload_n 0, 1) := by decide +kernel
theorem dX3_parse_23 : decode cX3_parse 23 = .ok (.getfield 22, 3) := by decide +kernel
theorem dX3_parse_26 : decode cX3_parse 26 = .ok (.if_icmp .ge 18, 3) := by decide +kernel
theorem dX3_parse_29 : decode cX3_parse 29 = .ok (.aload_n 0, 1) := by decide +kernel
theorem dX3_parse_30 : decode cX3_parse 30 = .ok (.invokevirtual 32, 3) := by decide +kernel
theorem dX3_parse_33 : decode cX3_parse 33 = .ok (.ifCond .ne 5, 3) := by decide +kernel
theorem dX3_parse_36 : decode cX3_parse 36 = .ok (.iconst 0, 1) := by decide +kernel
theorem dX3_parse_37 : decode cX3_parse 37 = .ok (.ireturn, 1) := by decide +kernel
theorem dX3_parse_38 : decode cX3_parse 38 = .ok (.iinc 1 1, 3) := by decide +kernel
theorem dX3_parse_41 : decode cX3_parse 41 = .ok (.goto (-29), 3) := by decide +kernel
theorem dX3_parse_44 : decode cX3_parse 44 = .ok (.iconst 1, 1) := by decide +kernel
theorem dX3_parse_45 : decode cX3_parse 45 = .ok (.ireturn, 1) := by decide +kernel
theorem dX3_readCommand_0 : decode cX3_readCommand 0 = .ok (.aload_n 0, 1) := by decide +kernel
theorem dX3_readCommand_1 : decode cX3_readCommand 1 = .ok (.invokevirtual 36, 3) := by decide +kernel
theorem dX3_readCommand_4 : decode cX3_readCommand 4 = .ok (.istore_n 1, 1) := by decide +kernel
theorem dX3_readCommand_5 : decode cX3_readCommand 5 = .ok (.iload_n 1, 1) := by decide +kernel
theorem dX3_readCommand_6 : decode cX3_readCommand 6 = .ok (.invokestatic 40, 3) := by decide +kernel
theorem dX3_readCommand_9 : decode cX3_readCommand 9 = .ok (.istore_n 2, 1) := by decide +kernel
theorem dX3_readCommand_10 : decode cX3_readCommand 10 = .ok (.iload_n 2, 1) := by decide +kernel
theorem dX3_readCommand_11 : decode cX3_readCommand 11 = .ok (.ifCond .ne 5, 3) := by decide +kernel
theorem dX3_readCommand_14 : decode cX3_readCommand 14 = .ok (.iconst 0, 1) := by decide +kernel
theorem dX3_readCommand_15 : decode cX3_readCommand 15 = .ok (.ireturn, 1) := by decide +kernel
theorem dX3_readCommand_16 : decode cX3_readCommand 16 = .ok (.aload_n 0, 1) := by decide +kernel
theorem dX3_readCommand_17 : decode cX3_readCommand 17 = .ok (.dup, 1) := by decide +kernel
theorem dX3_readCommand_18 : decode cX3_readCommand 18 = .ok (.getfield 26, 3) := by decide +kernel
theorem dX3_readCommand_21 : decode cX3_readCommand 21 = .ok (.iconst 1, 1) := by decide +kernel
theorem dX3_readCommand_22 : decode cX3_readCommand 22 = .ok (.iadd, 1) := by decide +kernel
theorem dX3_readCommand_23 : decode cX3_readCommand 23 = .ok (.putfield 26, 3) := by decide +kernel
theorem dX3_readCommand_26 : decode cX3_readCommand 26 = .ok (.aload_n 0, 1) := by decide +kernel
theorem dX3_readCommand_27 : decode cX3_readCommand 27 = .ok (.getfield 15, 3) := by decide +kernel
theorem dX3_readCommand_30 : decode cX3_readCommand 30 = .ok (.aload_n 0, 1) := by decide +kernel
theorem dX3_readCommand_31 : decode cX3_readCommand 31 = .ok (.getfield 29, 3) := by decide +kernel
theorem dX3_readCommand_34 : decode cX3_readCommand 34 = .ok (.iload_n 1, 1) := by decide +kernel
theorem dX3_readCommand_35 : decode cX3_readCommand 35 = .ok (.iastore, 1) := by decide +kernel
theorem dX3_readCommand_36 : decode cX3_readCommand 36 = .ok (.iconst 0, 1) := by decide +kernel
theorem dX3_readCommand_37 : decode cX3_readCommand 37 = .ok (.istore_n 3, 1) := by decide +kernel
theorem dX3_readCommand_38 : decode cX3_readCommand 38 = .ok (.iload_n 3, 1) := by decide +kernel
theorem dX3_readCommand_39 : decode cX3_readCommand 39 = .ok (.iload_n 2, 1) := by decide +kernel
theorem dX3_readCommand_40 : decode cX3_readCommand 40 = .ok (.if_icmp .ge 40, 3) := by decide +kernel
theorem dX3_readCommand_43 : decode cX3_readCommand 43 = .ok (.aload_n 0, 1) := by decide +kernel
theorem dX3_readCommand_44 : decode cX3_readCommand 44 = .ok (.iload_n 3, 1) := by decide +kernel
theorem dX3_readCommand_45 : decode cX3_readCommand 45 = .ok (.invokevirtual 44, 3) := by decide +kernel
theorem dX3_readCommand_48 : decode cX3_readCommand 48 = .ok (.ifCond .eq 24, 3) := by decide +kernel
theorem dX3_readCommand_51 : decode cX3_readCommand 51 = .ok (.aload_n 0, 1) := by decide +kernel
theorem dX3_readCommand_52 : decode cX3_readCommand 52 = .ok (.iload_n 3, 1) := by decide +kernel
theorem dX3_readCommand_53 : decode cX3_readCommand 53 = .ok (.iconst 1, 1) := by decide +kernel
theorem dX3_readCommand_54 : decode cX3_readCommand 54 = .ok (.iadd, 1) := by decide +kernel
theorem dX3_readCommand_55 : decode cX3_readCommand 55 = .ok (.iload_n 2, 1) := by decide +kernel
theorem dX3_readCommand_56 : decode cX3_readCommand 56 = .ok (.if_icmp .ge 8, 3) := by decide +kernel
theorem dX3_readCommand_59 : decode cX3_readCommand 59 = .ok (.bipush 44, 2) := by decide +kernel
theorem dX3_readCommand_61 : decode cX3_readCommand 61 = .ok (.goto 5, 3) := by decide +kernel
theorem dX3_readCommand_64 : decode cX3_readCommand 64 = .ok (.bipush 59, 2) := by decide +kernel
theorem dX3_readCommand_66 : decode cX3_readCommand 66 = .ok (.invokevirtual 48, 3) := by decide +kernel
theorem dX3_readCommand_69 : decode cX3_readCommand 69 = .ok (.ifCond .ne 5, 3) := by decide +kernel
theorem dX3_readCommand_72 : decode cX3_readCommand 72 = .ok (.iconst 0, 1) := by decide +kernel
theorem dX3_readCommand_73 : decode cX3_readCommand 73 = .ok (.ireturn, 1) := by decide +kernel
theorem dX3_readCommand_74 : decode cX3_readCommand 74 = .ok (.iinc 3 1, 3) := by decide +kernel
theorem dX3_readCommand_77 : decode cX3_readCommand 77 = .ok (.goto (-39), 3) := by decide +kernel
theorem dX3_readCommand_80 : decode cX3_readCommand 80 = .ok (.aload_n 0, 1) := by decide +kernel
theorem dX3_readCommand_81 : decode cX3_readCommand 81 = .ok (.dup, 1) := by decide +kernel
theorem dX3_readCommand_82 : decode cX3_readCommand 82 = .ok (.getfield 29, 3) := by decide +kernel
theorem dX3_readCommand_85 : decode cX3_readCommand 85 = .ok (.iconst 1, 1) := by decide +kernel
theorem dX3_readCommand_86 : decode cX3_readCommand 86 = .ok (.iadd, 1) := by decide +kernel
theorem dX3_readCommand_87 : decode cX3_readCommand 87 = .ok (.putfield 29, 3) := by decide +kernel
theorem dX3_readCommand_90 : decode cX3_readCommand 90 = .ok (.iconst 1, 1) := by decide +kernel
theorem dX3_readCommand_91 : decode cX3_readCommand 91 = .ok (.ireturn, 1) := by decide +kernel
theorem dX3_numbersBehind_0 : decode cX3_numbersBehind 0 = .ok (.iload_n 0, 1) := by decide +kernel
theorem dX3_numbersBehind_1 : decode cX3_numbersBehind 1 = .ok (.lookupswitch 57 #[(97, 51), (98, 55), (108, 55), (112, 53), (116, 51)], 51) := by decide +kernel
theorem dX3_numbersBehind_52 : decode cX3_numbersBehind 52 = .ok (.iconst 1, 1) := by decide +kernel
theorem dX3_numbersBehind_53 : decode cX3_numbersBehind 53 = .ok (.ireturn, 1) := by decide +kernel
theorem dX3_numbersBehind_54 : decode cX3_numbersBehind 54 = .ok (.iconst 2, 1) := by decide +kernel
theorem dX3_numbersBehind_55 : decode cX3_numbersBehind 55 = .ok (.ireturn, 1) := by decide +kernel
theorem dX3_numbersBehind_56 : decode cX3_numbersBehind 56 = .ok (.iconst 3, 1) := by decide +kernel
theorem dX3_numbersBehind_57 : decode cX3_numbersBehind 57 = .ok (.ireturn, 1) := by decide +kernel
theorem dX3_numbersBehind_58 : decode cX3_numbersBehind 58 = .ok (.iconst 0, 1) := by decide +kernel
theorem dX3_numbersBehind_59 : decode cX3_numbersBehind 59 = .ok (.ireturn, 1) := by decide +kernel
theorem dX3_readNumber_0 : decode cX3_readNumber 0 = .ok (.aload_n 0, 1) := by decide +kernel
theorem dX3_readNumber_1 : decode cX3_readNumber 1 = .ok (.invokevirtual 36, 3) := by decide +kernel
theorem dX3_readNumber_4 : decode cX3_readNumber 4 = .ok (.invokestatic 51, 3) := by decide +kernel
theorem dX3_readNumber_7 : decode cX3_readNumber 7 = .ok (.ifCond .ne 5, 3) := by decide +kernel
theorem dX3_readNumber_10 : decode cX3_readNumber 10 = .ok (.iconst 0, 1) := by decide +kernel
theorem dX3_readNumber_11 : decode cX3_readNumber 11 = .ok (.ireturn, 1) := by decide +kernel
theorem dX3_readNumber_12 : decode cX3_readNumber 12 = .ok (.aload_n 0, 1) := by decide +kernel
theorem dX3_readNumber_13 : decode cX3_readNumber 13 = .ok (.invokevirtual 36, 3) := by decide +kernel
theorem dX3_readNumber_16 : decode cX3_readNumber 16 = .ok (.bipush 48, 2) := by decide +kernel
theorem dX3_readNumber_18 : decode cX3_readNumber 18 = .ok (.isub, 1) := by decide +kernel
theorem dX3_readNumber_19 : decode cX3_readNumber 19 = .ok (.istore_n 2, 1) := by decide +kernel
theorem dX3_readNumber_20 : decode cX3_readNumber 20 = .ok (.aload_n 0, 1) := by decide +kernel
theorem dX3_readNumber_21 : decode cX3_readNumber 21 = .ok (.dup, 1) := by decide +kernel
theorem dX3_readNumber_22 : decode cX3_readNumber 22 = .ok (.getfield 26, 3) := by decide +kernel
theorem dX3_readNumber_25 : decode cX3_readNumber 25 = .ok (.iconst 1, 1) := by decide +kernel
theorem dX3_readNumber_26 : decode cX3_readNumber 26 = .ok (.iadd, 1) := by decide +kernel
theorem dX3_readNumber_27 : decode cX3_readNumber 27 = .ok (.putfield 26, 3) := by decide +kernel
theorem dX3_readNumber_30 : decode cX3_readNumber 30 = .ok (.aload_n 0, 1) := by decide +kernel
theorem dX3_readNumber_31 : decode cX3_readNumber 31 = .ok (.invokevirtual 36, 3) := by decide +kernel
theorem dX3_readNumber_34 : decode cX3_readNumber 34 = .ok (.invokestatic 51, 3) := by decide +kernel
theorem dX3_readNumber_37 : decode cX3_readNumber 37 = .ok (.ifCond .eq 26, 3) := by decide +kernel
theorem dX3_readNumber_40 : decode cX3_readNumber 40 = .ok (.bipush 10, 2) := by decide +kernel
theorem dX3_readNumber_42 : decode cX3_readNumber 42 = .ok (.iload_n 2, 1) := by decide +kernel
theorem dX3_readNumber_43 : decode cX3_readNumber 43 = .ok (.imul, 1) := by decide +kernel
theorem dX3_readNumber_44 : decode cX3_readNumber 44 = .ok (.aload_n 0, 1) := by decide +kernel
theorem dX3_readNumber_45 : decode cX3_readNumber 45 = .ok (.invokevirtual 36, 3) := by decide +kernel
theorem dX3_readNumber_48 : decode cX3_readNumber 48 = .ok (.iadd, 1) := by decide +kernel
theorem dX3_readNumber_49 : decode cX3_readNumber 49 = .ok (.bipush 48, 2) := by decide +kernel
theorem dX3_readNumber_51 : decode cX3_readNumber 51 = .ok (.isub, 1) := by decide +kernel
theorem dX3_readNumber_52 : decode cX3_readNumber 52 = .ok (.istore_n 2, 1) := by decide +kernel
theorem dX3_readNumber_53 : decode cX3_readNumber 53 = .ok (.aload_n 0, 1) := by decide +kernel
theorem dX3_readNumber_54 : decode cX3_readNumber 54 = .ok (.dup, 1) := by decide +kernel
theorem dX3_readNumber_55 : decode cX3_readNumber 55 = .ok (.getfield 26, 3) := by decide +kernel
theorem dX3_readNumber_58 : decode cX3_readNumber 58 = .ok (.iconst 1, 1) := by decide +kernel
theorem dX3_readNumber_59 : decode cX3_readNumber 59 = .ok (.iadd, 1) := by decide +kernel
theorem dX3_readNumber_60 : decode cX3_readNumber 60 = .ok (.putfield 26, 3) := by decide +kernel
theorem dX3_readNumber_63 : decode cX3_readNumber 63 = .ok (.aload_n 0, 1) := by decide +kernel
theorem dX3_readNumber_64 : decode cX3_readNumber 64 = .ok (.getfield 19, 3) := by decide +kernel
theorem dX3_readNumber_67 : decode cX3_readNumber 67 = .ok (.aload_n 0, 1) := by decide +kernel
theorem dX3_readNumber_68 : decode cX3_readNumber 68 = .ok (.getfield 29, 3) := by decide +kernel
theorem dX3_readNumber_71 : decode cX3_readNumber 71 = .ok (.iconst 3, 1) := by decide +kernel
theorem dX3_readNumber_72 : decode cX3_readNumber 72 = .ok (.imul, 1) := by decide +kernel
theorem dX3_readNumber_73 : decode cX3_readNumber 73 = .ok (.iload_n 1, 1) := by decide +kernel
theorem dX3_readNumber_74 : decode cX3_readNumber 74 = .ok (.iadd, 1) := by decide +kernel
theorem dX3_readNumber_75 : decode cX3_readNumber 75 = .ok (.iload_n 2, 1) := by decide +kernel
theorem dX3_readNumber_76 : decode cX3_readNumber 76 = .ok (.iastore, 1) := by decide +kernel
theorem dX3_readNumber_77 : decode cX3_readNumber 77 = .ok (.iconst 1, 1) := by decide +kernel
theorem dX3_readNumber_78 : decode cX3_readNumber 78 = .ok (.ireturn, 1) := by decide +kernel
theorem dX3_readSign_0 : decode cX3_readSign 0 = .ok (.aload_n 0, 1) := by decide +kernel
theorem dX3_readSign_1 : decode cX3_readSign 1 = .ok (.invokevirtual 36, 3) := by decide +kernel
theorem dX3_readSign_4 : decode cX3_readSign 4 = .ok (.iload_n 1, 1) := by decide +kernel
theorem dX3_readSign_5 : decode cX3_readSign 5 = .ok (.if_icmp .eq 5, 3) := by decide +kernel
theorem dX3_readSign_8 : decode cX3_readSign 8 = .ok (.iconst 0, 1) := by decide +kernel
theorem dX3_readSign_9 : decode cX3_readSign 9 = .ok (.ireturn, 1) := by decide +kernel
theorem dX3_readSign_10 : decode cX3_readSign 10 = .ok (.aload_n 0, 1) := by decide +kernel
theorem dX3_readSign_11 : decode cX3_readSign 11 = .ok (.dup, 1) := by decide +kernel
theorem dX3_readSign_12 : decode cX3_readSign 12 = .ok (.getfield 26, 3) := by decide +kernel
theorem dX3_readSign_15 : decode cX3_readSign 15 = .ok (.iconst 1, 1) := by decide +kernel
theorem dX3_readSign_16 : decode cX3_readSign 16 = .ok (.iadd, 1) := by decide +kernel
theorem dX3_readSign_17 : decode cX3_readSign 17 = .ok (.putfield 26, 3) := by decide +kernel
theorem dX3_readSign_20 : decode cX3_readSign 20 = .ok (.iconst 1, 1) := by decide +kernel
theorem dX3_readSign_21 : decode cX3_readSign 21 = .ok (.ireturn, 1) := by decide +kernel
theorem dX3_here_0 : decode cX3_here 0 = .ok (.aload_n 0, 1) := by decide +kernel
theorem dX3_here_1 : decode cX3_here 1 = .ok (.getfield 26, 3) := by decide +kernel
theorem dX3_here_4 : decode cX3_here 4 = .ok (.aload_n 0, 1) := by decide +kernel
theorem dX3_here_5 : decode cX3_here 5 = .ok (.getfield 22, 3) := by decide +kernel
theorem dX3_here_8 : decode cX3_here 8 = .ok (.if_icmp .ge 15, 3) := by decide +kernel
theorem dX3_here_11 : decode cX3_here 11 = .ok (.aload_n 0, 1) := by decide +kernel
theorem dX3_here_12 : decode cX3_here 12 = .ok (.getfield 9, 3) := by decide +kernel
theorem dX3_here_15 : decode cX3_here 15 = .ok (.aload_n 0, 1) := by decide +kernel
theorem dX3_here_16 : decode cX3_here 16 = .ok (.getfield 26, 3) := by decide +kernel
theorem dX3_here_19 : decode cX3_here 19 = .ok (.baload, 1) := by decide +kernel
theorem dX3_here_20 : decode cX3_here 20 = .ok (.goto 4, 3) := by decide +kernel
theorem dX3_here_23 : decode cX3_here 23 = .ok (.iconst (-1), 1) := by decide +kernel
theorem dX3_here_24 : decode cX3_here 24 = .ok (.ireturn, 1) := by decide +kernel
theorem dX3_isDigit_0 : decode cX3_isDigit 0 = .ok (.iload_n 0, 1) := by decide +kernel
theorem dX3_isDigit_1 : decode cX3_isDigit 1 = .ok (.bipush 48, 2) := by decide +kernel
theorem dX3_isDigit_3 : decode cX3_isDigit 3 = .ok (.if_icmp .lt 13, 3) := by decide +kernel
theorem dX3_isDigit_6 : decode cX3_isDigit 6 = .ok (.iload_n 0, 1) := by decide +kernel
theorem dX3_isDigit_7 : decode cX3_isDigit 7 = .ok (.bipush 57, 2) := by decide +kernel
theorem dX3_isDigit_9 : decode cX3_isDigit 9 = .ok (.if_icmp .gt 7, 3) := by decide +kernel
theorem dX3_isDigit_12 : decode cX3_isDigit 12 = .ok (.iconst 1, 1) := by decide +kernel
theorem dX3_isDigit_13 : decode cX3_isDigit 13 = .ok (.goto 4, 3) := by decide +kernel
theorem dX3_isDigit_16 : decode cX3_isDigit 16 = .ok (.iconst 0, 1) := by decide +kernel
theorem dX3_isDigit_17 : decode cX3_isDigit 17 = .ok (.ireturn, 1) := by decide +kernel
theorem dX4_init_0 : decode cX4_init 0 = .ok (.aload_n 0, 1) := by decide +kernel
theorem dX4_init_1 : decode cX4_init 1 = .ok (.invokespecial 1, 3) := by decide +kernel
theorem dX4_init_4 : decode cX4_init 4 = .ok (.aload_n 0, 1) := by decide +kernel
theorem dX4_init_5 : decode cX4_init 5 = .ok (.new 7, 3) := by decide +kernel
theorem dX4_init_8 : decode cX4_init 8 = .ok (.dup, 1) := by decide +kernel
theorem dX4_init_9 : decode cX4_init 9 = .ok (.invokespecial 9, 3) := by decide +kernel
theorem dX4_init_12 : decode cX4_init 12 = .ok (.putfield 10, 3) := by decide +kernel
theorem dX4_init_15 : decode cX4_init 15 = .ok (.aload_n 0, 1) := by decide +kernel
theorem dX4_init_16 : decode cX4_init 16 = .ok (.new 7, 3) := by decide +kernel
theorem dX4_init_19 : decode cX4_init 19 = .ok (.dup, 1) := by decide +kernel
theorem dX4_init_20 : decode cX4_init 20 = .ok (.invokespecial 9, 3) := by decide +kernel
theorem dX4_init_23 : decode cX4_init 23 = .ok (.putfield 16, 3) := by decide +kernel
theorem dX4_init_26 : decode cX4_init 26 = .ok (.aload_n 0, 1) := by decide +kernel
theorem dX4_init_27 : decode cX4_init 27 = .ok (.new 7, 3) := by decide +kernel
theorem dX4_init_30 : decode cX4_init 30 = .ok (.dup, 1) := by decide +kernel
theorem dX4_init_31 : decode cX4_init 31 = .ok (.invokespecial 9, 3) := by decide +kernel
theorem dX4_init_34 : decode cX4_init 34 = .ok (.putfield 19, 3) := by decide +kernel
theorem dX4_init_37 : decode cX4_init 37 = .ok (.aload_n 0, 1) := by decide +kernel
theorem dX4_init_38 : decode cX4_init 38 = .ok (.new 22, 3) := by decide +kernel
theorem dX4_init_41 : decode cX4_init 41 = .ok (.dup, 1) := by decide +kernel
theorem dX4_init_42 : decode cX4_init 42 = .ok (.invokespecial 24, 3) := by decide +kernel
theorem dX4_init_45 : decode cX4_init 45 = .ok (.putfield 25, 3) := by decide +kernel
theorem dX4_init_48 : decode cX4_init 48 = .ok (.aload_n 0, 1) := by decide +kernel
theorem dX4_init_49 : decode cX4_init 49 = .ok (.new 29, 3) := by decide +kernel
theorem dX4_init_52 : decode cX4_init 52 = .ok (.dup, 1) := by decide +kernel
theorem dX4_init_53 : decode cX4_init 53 = .ok (.invokespecial 31, 3) := by decide +kernel
theorem dX4_init_56 : decode cX4_init 56 = .ok (.putfield 32, 3) := by decide +kernel
theorem dX4_init_59 : decode cX4_init 59 = .ok (.return_, 1) := by decide +kernel
theorem dX4_add_0 : decode cX4_add 0 = .ok (.aload_n 0, 1) := by decide +kernel
theorem dX4_add_1 : decode cX4_add 1 = .ok (.iload_n 1, 1) := by decide +kernel
theorem dX4_add_2 : decode cX4_add 2 = .ok (.invokevirtual 36, 3) := by decide +kernel
theorem dX4_add_5 : decode cX4_add 5 = .ok (.aload_n 0, 1) := by decide +kernel
theorem dX4_add_6 : decode cX4_add 6 = .ok (.getfield 10, 3) := by decide +kernel
theorem dX4_add_9 : decode cX4_add 9 = .ok (.invokevirtual 40, 3) := by decide +kernel
theorem dX4_add_12 : decode cX4_add 12 = .ok (.ifCond .eq 13, 3) := by decide +kernel
theorem dX4_add_15 : decode cX4_add 15 = .ok (.new 44, 3) := by decide +kernel
theorem dX4_add_18 : decode cX4_add 18 = .ok (.dup, 1) := by decide +kernel
theorem dX4_add_19 : decode cX4_add 19 = .ok (.ldc 46, 2) := by decide +kernel
theorem dX4_add_21 : decode cX4_add 21 = .ok (.invokespecial 48, 3) := by decide +kernel
theorem dX4_add_24 : decode cX4_add 24 = .ok (.athrow, 1) := by decide +kernel
theorem dX4_add_25 : decode cX4_add 25 = .ok (.aload_n 0, 1) := by decide +kernel
theorem dX4_add_26 : decode cX4_add 26 = .ok (.getfield 25, 3) := by decide +kernel
theorem dX4_add_29 : decode cX4_add 29 = .ok (.aload_n 0, 1) := by decide +kernel
theorem dX4_add_30 : decode cX4_add 30 = .ok (.getfield 10, 3) := by decide +kernel
theorem dX4_add_33 : decode cX4_add 33 = .ok (.invokevirtual 51, 3) := by decide +kernel
theorem dX4_add_36 : decode cX4_add 36 = .ok (.aload_n 0, 1) := by decide +kernel
theorem dX4_add_37 : decode cX4_add 37 = .ok (.getfield 10, 3) := by decide +kernel
theorem dX4_add_40 : decode cX4_add 40 = .ok (.iload_n 1, 1) := by decide +kernel
theorem dX4_add_41 : decode cX4_add 41 = .ok (.invokevirtual 55, 3) := by decide +kernel
theorem dX4_add_44 : decode cX4_add 44 = .ok (.ireturn, 1) := by decide +kernel
theorem dX4_setPhase_0 : decode cX4_setPhase 0 = .ok (.aload_n 0, 1) := by decide +kernel
theorem dX4_setPhase_1 : decode cX4_setPhase 1 = .ok (.iload_n 1, 1) := by decide +kernel
theorem dX4_setPhase_2 : decode cX4_setPhase 2 = .ok (.invokevirtual 59, 3) := by decide +kernel
theorem dX4_setPhase_5 : decode cX4_setPhase 5 = .ok (.aload_n 0, 1) := by decide +kernel
theorem dX4_setPhase_6 : decode cX4_setPhase 6 = .ok (.iload_n 2, 1) := by decide +kernel
theorem dX4_setPhase_7 : decode cX4_setPhase 7 = .ok (.invokevirtual 36, 3) := by decide +kernel
theorem dX4_setPhase_10 : decode cX4_setPhase 10 = .ok (.aload_n 0, 1) := by decide +kernel
theorem dX4_setPhase_11 : decode cX4_setPhase 11 = .ok (.getfield 25, 3) := by decide +kernel
theorem dX4_setPhase_14 : decode cX4_setPhase 14 = .ok (.aload_n 0, 1) := by decide +kernel
theorem dX4_setPhase_15 : decode cX4_setPhase 15 = .ok (.getfield 10, 3) := by decide +kernel
theorem dX4_setPhase_18 : decode cX4_setPhase 18 = .ok (.invokevirtual 51, 3) := by decide +kernel
theorem dX4_setPhase_21 : decode cX4_setPhase 21 = .ok (.aload_n 0, 1) := by decide +kernel
theorem dX4_setPhase_22 : decode cX4_setPhase 22 = .ok (.getfield 10, 3) := by decide +kernel
theorem dX4_setPhase_25 : decode cX4_setPhase 25 = .ok (.iload_n 1, 1) := by decide +kernel
theorem dX4_setPhase_26 : decode cX4_setPhase 26 = .ok (.iload_n 2, 1) := by decide +kernel
theorem dX4_setPhase_27 : decode cX4_setPhase 27 = .ok (.invokevirtual 62, 3) := by decide +kernel
theorem dX4_setPhase_30 : decode cX4_setPhase 30 = .ok (.ireturn, 1) := by decide +kernel
theorem dX4_setDrift_0 : decode cX4_setDrift 0 = .ok (.aload_n 0, 1) := by decide +kernel
theorem dX4_setDrift_1 : decode cX4_setDrift 1 = .ok (.iload_n 1, 1) := by decide +kernel
theorem dX4_setDrift_2 : decode cX4_setDrift 2 = .ok (.invokevirtual 59, 3) := by decide +kernel
theorem dX4_setDrift_5 : decode cX4_setDrift 5 = .ok (.iload_n 2, 1) := by decide +kernel
theorem dX4_setDrift_6 : decode cX4_setDrift 6 = .ok (.bipush (-9), 2) := by decide +kernel
theorem dX4_setDrift_8 : decode cX4_setDrift 8 = .ok (.if_icmp .lt 9, 3) := by decide +kernel
theorem dX4_setDrift_11 : decode cX4_setDrift 11 = .ok (.iload_n 2, 1) := by decide +kernel
theorem dX4_setDrift_12 : decode cX4_setDrift 12 = .ok (.bipush 9, 2) := by decide +kernel
theorem dX4_setDrift_14 : decode cX4_setDrift 14 = .ok (.if_icmp .le 13, 3) := by decide +kernel
theorem dX4_setDrift_17 : decode cX4_setDrift 17 = .ok (.new 66, 3) := by decide +kernel
theorem dX4_setDrift_20 : decode cX4_setDrift 20 = .ok (.dup, 1) := by decide +kernel
theorem dX4_setDrift_21 : decode cX4_setDrift 21 = .ok (.ldc 68, 2) := by decide +kernel
theorem dX4_setDrift_23 : decode cX4_setDrift 23 = .ok (.invokespecial 70, 3) := by decide +kernel
theorem dX4_setDrift_26 : decode cX4_setDrift 26 = .ok (.athrow, 1) := by decide +kernel
theorem dX4_setDrift_27 : decode cX4_setDrift 27 = .ok (.aload_n 0, 1) := by decide +kernel
theorem dX4_setDrift_28 : decode cX4_setDrift 28 = .ok (.getfield 25, 3) := by decide +kernel
theorem dX4_setDrift_31 : decode cX4_setDrift 31 = .ok (.aload_n 0, 1) := by decide +kernel
theorem dX4_setDrift_32 : decode cX4_setDrift 32 = .ok (.getfield 10, 3) := by decide +kernel
theorem dX4_setDrift_35 : decode cX4_setDrift 35 = .ok (.invokevirtual 51, 3) := by decide +kernel
theorem dX4_setDrift_38 : decode cX4_setDrift 38 = .ok (.aload_n 0, 1) := by decide +kernel
theorem dX4_setDrift_39 : decode cX4_setDrift 39 = .ok (.getfield 10, 3) := by decide +kernel
theorem dX4_setDrift_42 : decode cX4_setDrift 42 = .ok (.iload_n 1, 1) := by decide +kernel
theorem dX4_setDrift_43 : decode cX4_setDrift 43 = .ok (.iload_n 2, 1) := by decide +kernel
theorem dX4_setDrift_44 : decode cX4_setDrift 44 = .ok (.invokevirtual 71, 3) := by decide +kernel
theorem dX4_setDrift_47 : decode cX4_setDrift 47 = .ok (.ireturn, 1) := by decide +kernel
theorem dX4_blink_0 : decode cX4_blink 0 = .ok (.aload_n 0, 1) := by decide +kernel
theorem dX4_blink_1 : decode cX4_blink 1 = .ok (.iload_n 1, 1) := by decide +kernel
theorem dX4_blink_2 : decode cX4_blink 2 = .ok (.invokevirtual 59, 3) := by decide +kernel
theorem dX4_blink_5 : decode cX4_blink 5 = .ok (.iload_n 2, 1) := by decide +kernel
theorem dX4_blink_6 : decode cX4_blink 6 = .ok (.iload_n 3, 1) := by decide +kernel
theorem dX4_blink_7 : decode cX4_blink 7 = .ok (.invokestatic 74, 3) := by decide +kernel
theorem dX4_blink_10 : decode cX4_blink 10 = .ok (.ifCond .ne 13, 3) := by decide +kernel
theorem dX4_blink_13 : decode cX4_blink 13 = .ok (.new 66, 3) := by decide +kernel
theorem dX4_blink_16 : decode cX4_blink 16 = .ok (.dup, 1) := by decide +kernel
theorem dX4_blink_17 : decode cX4_blink 17 = .ok (.ldc 78, 2) := by decide +kernel
theorem dX4_blink_19 : decode cX4_blink 19 = .ok (.invokespecial 70, 3) := by decide +kernel
theorem dX4_blink_22 : decode cX4_blink 22 = .ok (.athrow, 1) := by decide +kernel
theorem dX4_blink_23 : decode cX4_blink 23 = .ok (.aload_n 0, 1) := by decide +kernel
theorem dX4_blink_24 : decode cX4_blink 24 = .ok (.getfield 25, 3) := by decide +kernel
theorem dX4_blink_27 : decode cX4_blink 27 = .ok (.aload_n 0, 1) := by decide +kernel
theorem dX4_blink_28 : decode cX4_blink 28 = .ok (.getfield 10, 3) := by decide +kernel
theorem dX4_blink_31 : decode cX4_blink 31 = .ok (.invokevirtual 51, 3) := by decide +kernel
theorem dX4_blink_34 : decode cX4_blink 34 = .ok (.aload_n 0, 1) := by decide +kernel
theorem dX4_blink_35 : decode cX4_blink 35 = .ok (.getfield 10, 3) := by decide +kernel
theorem dX4_blink_38 : decode cX4_blink 38 = .ok (.iload_n 1, 1) := by decide +kernel
theorem dX4_blink_39 : decode cX4_blink 39 = .ok (.iload_n 2, 1) := by decide +kernel
theorem dX4_blink_40 : decode cX4_blink 40 = .ok (.iload_n 3, 1) := by decide +kernel
theorem dX4_blink_41 : decode cX4_blink 41 = .ok (.invokevirtual 80, 3) := by decide +kernel
theorem dX4_blink_44 : decode cX4_blink 44 = .ok (.aload_n 0, 1) := by decide +kernel
theorem dX4_blink_45 : decode cX4_blink 45 = .ok (.getfield 10, 3) := by decide +kernel
theorem dX4_blink_48 : decode cX4_blink 48 = .ok (.invokevirtual 84, 3) := by decide +kernel
theorem dX4_blink_51 : decode cX4_blink 51 = .ok (.ireturn, 1) := by decide +kernel
theorem dX4_mend_0 : decode cX4_mend 0 = .ok (.aload_n 0, 1) := by decide +kernel
theorem dX4_mend_1 : decode cX4_mend 1 = .ok (.iload_n 1, 1) := by decide +kernel
theorem dX4_mend_2 : decode cX4_mend 2 = .ok (.invokevirtual 59, 3) := by decide +kernel
theorem dX4_mend_5 : decode cX4_mend 5 = .ok (.aload_n 0, 1) := by decide +kernel
theorem dX4_mend_6 : decode cX4_mend 6 = .ok (.getfield 10, 3) := by decide +kernel
theorem dX4_mend_9 : decode cX4_mend 9 = .ok (.iload_n 1, 1) := by decide +kernel
theorem dX4_mend_10 : decode cX4_mend 10 = .ok (.invokevirtual 88, 3) := by decide +kernel
theorem dX4_mend_13 : decode cX4_mend 13 = .ok (.ifCond .eq 13, 3) := by decide +kernel
theorem dX4_mend_16 : decode cX4_mend 16 = .ok (.new 44, 3) := by decide +kernel
theorem dX4_mend_19 : decode cX4_mend 19 = .ok (.dup, 1) := by decide +kernel
theorem dX4_mend_20 : decode cX4_mend 20 = .ok (.ldc 92, 2) := by decide +kernel
theorem dX4_mend_22 : decode cX4_mend 22 = .ok (.invokespecial 48, 3) := by decide +kernel
theorem dX4_mend_25 : decode cX4_mend 25 = .ok (.athrow, 1) := by decide +kernel
theorem dX4_mend_26 : decode cX4_mend 26 = .ok (.aload_n 0, 1) := by decide +kernel
theorem dX4_mend_27 : decode cX4_mend 27 = .ok (.getfield 25, 3) := by decide +kernel
theorem dX4_mend_30 : decode cX4_mend 30 = .ok (.aload_n 0, 1) := by decide +kernel
theorem dX4_mend_31 : decode cX4_mend 31 = .ok (.getfield 10, 3) := by decide +kernel
theorem dX4_mend_34 : decode cX4_mend 34 = .ok (.invokevirtual 51, 3) := by decide +kernel
theorem dX4_mend_37 : decode cX4_mend 37 = .ok (.aload_n 0, 1) := by decide +kernel
theorem dX4_mend_38 : decode cX4_mend 38 = .ok (.getfield 10, 3) := by decide +kernel
theorem dX4_mend_41 : decode cX4_mend 41 = .ok (.iload_n 1, 1) := by decide +kernel
theorem dX4_mend_42 : decode cX4_mend 42 = .ok (.invokevirtual 94, 3) := by decide +kernel
theorem dX4_mend_45 : decode cX4_mend 45 = .ok (.aload_n 0, 1) := by decide +kernel
theorem dX4_mend_46 : decode cX4_mend 46 = .ok (.getfield 10, 3) := by decide +kernel
theorem dX4_mend_49 : decode cX4_mend 49 = .ok (.invokevirtual 84, 3) := by decide +kernel
theorem dX4_mend_52 : decode cX4_mend 52 = .ok (.ireturn, 1) := by decide +kernel
theorem dX4_link_0 : decode cX4_link 0 = .ok (.aload_n 0, 1) := by decide +kernel
theorem dX4_link_1 : decode cX4_link 1 = .ok (.iload_n 1, 1) := by decide +kernel
theorem dX4_link_2 : decode cX4_link 2 = .ok (.invokevirtual 59, 3) := by decide +kernel
theorem dX4_link_5 : decode cX4_link 5 = .ok (.aload_n 0, 1) := by decide +kernel
theorem dX4_link_6 : decode cX4_link 6 = .ok (.iload_n 2, 1) := by decide +kernel
theorem dX4_link_7 : decode cX4_link 7 = .ok (.invokevirtual 59, 3) := by decide +kernel
theorem dX4_link_10 : decode cX4_link 10 = .ok (.iload_n 1, 1) := by decide +kernel
theorem dX4_link_11 : decode cX4_link 11 = .ok (.iload_n 2, 1) := by decide +kernel
theorem dX4_link_12 : decode cX4_link 12 = .ok (.if_icmp .eq 10, 3) := by decide +kernel
theorem dX4_link_15 : decode cX4_link 15 = .ok (.iload_n 3, 1) := by decide +kernel
theorem dX4_link_16 : decode cX4_link 16 = .ok (.invokestatic 97, 3) := by decide +kernel
theorem dX4_link_19 : decode cX4_link 19 = .ok (.ifCond .ne 13, 3) := by decide +kernel
theorem dX4_link_22 : decode cX4_link 22 = .ok (.new 66, 3) := by decide +kernel
theorem dX4_link_25 : decode cX4_link 25 = .ok (.dup, 1) := by decide +kernel
theorem dX4_link_26 : decode cX4_link 26 = .ok (.ldc 100, 2) := by decide +kernel
theorem dX4_link_28 : decode cX4_link 28 = .ok (.invokespecial 70, 3) := by decide +kernel
theorem dX4_link_31 : decode cX4_link 31 = .ok (.athrow, 1) := by decide +kernel
theorem dX4_link_32 : decode cX4_link 32 = .ok (.aload_n 0, 1) := by decide +kernel
theorem dX4_link_33 : decode cX4_link 33 = .ok (.getfield 25, 3) := by decide +kernel
theorem dX4_link_36 : decode cX4_link 36 = .ok (.aload_n 0, 1) := by decide +kernel
theorem dX4_link_37 : decode cX4_link 37 = .ok (.getfield 10, 3) := by decide +kernel
theorem dX4_link_40 : decode cX4_link 40 = .ok (.invokevirtual 51, 3) := by decide +kernel
theorem dX4_link_43 : decode cX4_link 43 = .ok (.aload_n 0, 1) := by decide +kernel
theorem dX4_link_44 : decode cX4_link 44 = .ok (.getfield 10, 3) := by decide +kernel
theorem dX4_link_47 : decode cX4_link 47 = .ok (.iload_n 1, 1) := by decide +kernel
theorem dX4_link_48 : decode cX4_link 48 = .ok (.iload_n 2, 1) := by decide +kernel
theorem dX4_link_49 : decode cX4_link 49 = .ok (.iload_n 3, 1) := by decide +kernel
theorem dX4_link_50 : decode cX4_link 50 = .ok (.invokevirtual 102, 3) := by decide +kernel
theorem dX4_link_53 : decode cX4_link 53 = .ok (.ireturn, 1) := by decide +kernel
theorem dX4_unlink_0 : decode cX4_unlink 0 = .ok (.aload_n 0, 1) := by decide +kernel
theorem dX4_unlink_1 : decode cX4_unlink 1 = .ok (.iload_n 1, 1) := by decide +kernel
theorem dX4_unlink_2 : decode cX4_unlink 2 = .ok (.invokevirtual 59, 3) := by decide +kernel
theorem dX4_unlink_5 : decode cX4_unlink 5 = .ok (.aload_n 0, 1) := by decide +kernel
theorem dX4_unlink_6 : decode cX4_unlink 6 = .ok (.iload_n 2, 1) := by decide +kernel
theorem dX4_unlink_7 : decode cX4_unlink 7 = .ok (.invokevirtual 59, 3) := by decide +kernel
theorem dX4_unlink_10 : decode cX4_unlink 10 = .ok (.aload_n 0, 1) := by decide +kernel
theorem dX4_unlink_11 : decode cX4_unlink 11 = .ok (.getfield 10, 3) := by decide +kernel
theorem dX4_unlink_14 : decode cX4_unlink 14 = .ok (.iload_n 1, 1) := by decide +kernel
theorem dX4_unlink_15 : decode cX4_unlink 15 = .ok (.iload_n 2, 1) := by decide +kernel
theorem dX4_unlink_16 : decode cX4_unlink 16 = .ok (.invokevirtual 106, 3) := by decide +kernel
theorem dX4_unlink_19 : decode cX4_unlink 19 = .ok (.iconst (-1), 1) := by decide +kernel
theorem dX4_unlink_20 : decode cX4_unlink 20 = .ok (.if_icmp .ne 13, 3) := by decide +kernel
theorem dX4_unlink_23 : decode cX4_unlink 23 = .ok (.new 44, 3) := by decide +kernel
theorem dX4_unlink_26 : decode cX4_unlink 26 = .ok (.dup, 1) := by decide +kernel
theorem dX4_unlink_27 : decode cX4_unlink 27 = .ok (.ldc 109, 2) := by decide +kernel
theorem dX4_unlink_29 : decode cX4_unlink 29 = .ok (.invokespecial 48, 3) := by decide +kernel
theorem dX4_unlink_32 : decode cX4_unlink 32 = .ok (.athrow, 1) := by decide +kernel
theorem dX4_unlink_33 : decode cX4_unlink 33 = .ok (.aload_n 0, 1) := by decide +kernel
theorem dX4_unlink_34 : decode cX4_unlink 34 = .ok (.getfield 25, 3) := by decide +kernel
theorem dX4_unlink_37 : decode cX4_unlink 37 = .ok (.aload_n 0, 1) := by decide +kernel
theorem dX4_unlink_38 : decode cX4_unlink 38 = .ok (.getfield 10, 3) := by decide +kernel
theorem dX4_unlink_41 : decode cX4_unlink 41 = .ok (.invokevirtual 51, 3) := by decide +kernel
theorem dX4_unlink_44 : decode cX4_unlink 44 = .ok (.aload_n 0, 1) := by decide +kernel
theorem dX4_unlink_45 : decode cX4_unlink 45 = .ok (.getfield 10, 3) := by decide +kernel
theorem dX4_unlink_48 : decode cX4_unlink 48 = .ok (.iload_n 1, 1) := by decide +kernel
theorem dX4_unlink_49 : decode cX4_unlink 49 = .ok (.iload_n 2, 1) := by decide +kernel
theorem dX4_unlink_50 : decode cX4_unlink 50 = .ok (.iconst (-1), 1) := by decide +kernel
theorem dX4_unlink_51 : decode cX4_unlink 51 = .ok (.invokevirtual 102, 3) := by decide +kernel
theorem dX4_unlink_54 : decode cX4_unlink 54 = .ok (.pop, 1) := by decide +kernel
theorem dX4_unlink_55 : decode cX4_unlink 55 = .ok (.aload_n 0, 1) := by decide +kernel
theorem dX4_unlink_56 : decode cX4_unlink 56 = .ok (.getfield 10, 3) := by decide +kernel
theorem dX4_unlink_59 : decode cX4_unlink 59 = .ok (.invokevirtual 111, 3) := by decide +kernel
theorem dX4_unlink_62 : decode cX4_unlink 62 = .ok (.ireturn, 1) := by decide +kernel
theorem dX4_setPeriod_0 : decode cX4_setPeriod 0 = .ok (.iload_n 1, 1) := by decide +kernel
theorem dX4_setPeriod_1 : decode cX4_setPeriod 1 = .ok (.bipush 10, 2) := by decide +kernel
theorem dX4_setPeriod_3 : decode cX4_setPeriod 3 = .ok (.if_icmp .lt 9, 3) := by decide +kernel
theorem dX4_setPeriod_6 : decode cX4_setPeriod 6 = .ok (.iload_n 1, 1) := by decide +kernel
theorem dX4_setPeriod_7 : decode cX4_setPeriod 7 = .ok (.bipush 100, 2) := by decide +kernel
theorem dX4_setPeriod_9 : decode cX4_setPeriod 9 = .ok (.if_icmp .le 13, 3) := by decide +kernel
theorem dX4_setPeriod_12 : decode cX4_setPeriod 12 = .ok (.new 66, 3) := by decide +kernel
theorem dX4_setPeriod_15 : decode cX4_setPeriod 15 = .ok (.dup, 1) := by decide +kernel
theorem dX4_setPeriod_16 : decode cX4_setPeriod 16 = .ok (.ldc 114, 2) := by decide +kernel
theorem dX4_setPeriod_18 : decode cX4_setPeriod 18 = .ok (.invokespecial 70, 3) := by decide +kernel
theorem dX4_setPeriod_21 : decode cX4_setPeriod 21 = .ok (.athrow, 1) := by decide +kernel
theorem dX4_setPeriod_22 : decode cX4_setPeriod 22 = .ok (.aload_n 0, 1) := by decide +kernel
theorem dX4_setPeriod_23 : decode cX4_setPeriod 23 = .ok (.getfield 25, 3) := by decide +kernel
theorem dX4_setPeriod_26 : decode cX4_setPeriod 26 = .ok (.aload_n 0, 1) := by decide +kernel
theorem dX4_setPeriod_27 : decode cX4_setPeriod 27 = .ok (.getfield 10, 3) := by decide +kernel
theorem dX4_setPeriod_30 : decode cX4_setPeriod 30 = .ok (.invokevirtual 51, 3) := by decide +kernel
theorem dX4_setPeriod_33 : decode cX4_setPeriod 33 = .ok (.aload_n 0, 1) := by decide +kernel
theorem dX4_setPeriod_34 : decode cX4_setPeriod 34 = .ok (.getfield 10, 3) := by decide +kernel
theorem dX4_setPeriod_37 : decode cX4_setPeriod 37 = .ok (.iload_n 1, 1) := by decide +kernel
theorem dX4_setPeriod_38 : decode cX4_setPeriod 38 = .ok (.invokevirtual 116, 3) := by decide +kernel
theorem dX4_setPeriod_41 : decode cX4_setPeriod 41 = .ok (.ireturn, 1) := by decide +kernel
theorem dX4_setResponse_0 : decode cX4_setResponse 0 = .ok (.iload_n 1, 1) := by decide +kernel
theorem dX4_setResponse_1 : decode cX4_setResponse 1 = .ok (.ifCond .lt 24, 3) := by decide +kernel
theorem dX4_setResponse_4 : decode cX4_setResponse 4 = .ok (.iload_n 1, 1) := by decide +kernel
theorem dX4_setResponse_5 : decode cX4_setResponse 5 = .ok (.getstatic 119, 3) := by decide +kernel
theorem dX4_setResponse_8 : decode cX4_setResponse 8 = .ok (.arraylength, 1) := by decide +kernel
theorem dX4_setResponse_9 : decode cX4_setResponse 9 = .ok (.if_icmp .ge 16, 3) := by decide +kernel
theorem dX4_setResponse_12 : decode cX4_setResponse 12 = .ok (.iload_n 2, 1) := by decide +kernel
theorem dX4_setResponse_13 : decode cX4_setResponse 13 = .ok (.ifCond .lt 12, 3) := by decide +kernel
theorem dX4_setResponse_16 : decode cX4_setResponse 16 = .ok (.iload_n 2, 1) := by decide +kernel
theorem dX4_setResponse_17 : decode cX4_setResponse 17 = .ok (.getstatic 119, 3) := by decide +kernel
theorem dX4_setResponse_20 : decode cX4_setResponse 20 = .ok (.iload_n 1, 1) := by decide +kernel
theorem dX4_setResponse_21 : decode cX4_setResponse 21 = .ok (.iaload, 1) := by decide +kernel
theorem dX4_setResponse_22 : decode cX4_setResponse 22 = .ok (.if_icmp .le 13, 3) := by decide +kernel
theorem dX4_setResponse_25 : decode cX4_setResponse 25 = .ok (.new 66, 3) := by decide +kernel
theorem dX4_setResponse_28 : decode cX4_setResponse 28 = .ok (.dup, 1) := by decide +kernel
theorem dX4_setResponse_29 : decode cX4_setResponse 29 = .ok (.ldc 123, 2) := by decide +kernel
theorem dX4_setResponse_31 : decode cX4_setResponse 31 = .ok (.invokespecial 70, 3) := by decide +kernel
theorem dX4_setResponse_34 : decode cX4_setResponse 34 = .ok (.athrow, 1) := by decide +kernel
theorem dX4_setResponse_35 : decode cX4_setResponse 35 = .ok (.aload_n 0, 1) := by decide +kernel
theorem dX4_setResponse_36 : decode cX4_setResponse 36 = .ok (.getfield 25, 3) := by decide +kernel
theorem dX4_setResponse_39 : decode cX4_setResponse 39 = .ok (.aload_n 0, 1) := by decide +kernel
theorem dX4_setResponse_40 : decode cX4_setResponse 40 = .ok (.getfield 10, 3) := by decide +kernel
theorem dX4_setResponse_43 : decode cX4_setResponse 43 = .ok (.invokevirtual 51, 3) := by decide +kernel
theorem dX4_setResponse_46 : decode cX4_setResponse 46 = .ok (.aload_n 0, 1) := by decide +kernel
theorem dX4_setResponse_47 : decode cX4_setResponse 47 = .ok (.getfield 10, 3) := by decide +kernel
theorem dX4_setResponse_50 : decode cX4_setResponse 50 = .ok (.iload_n 1, 1) := by decide +kernel
theorem dX4_setResponse_51 : decode cX4_setResponse 51 = .ok (.iload_n 2, 1) := by decide +kernel
theorem dX4_setResponse_52 : decode cX4_setResponse 52 = .ok (.invokevirtual 125, 3) := by decide +kernel
theorem dX4_setResponse_55 : decode cX4_setResponse 55 = .ok (.ireturn, 1) := by decide +kernel
theorem dX4_clocks_0 : decode cX4_clocks 0 = .ok (.aload_n 0, 1) := by decide +kernel
theorem dX4_clocks_1 : decode cX4_clocks 1 = .ok (.getfield 10, 3) := by decide +kernel
theorem dX4_clocks_4 : decode cX4_clocks 4 = .ok (.getfield 128, 3) := by decide +kernel
theorem dX4_clocks_7 : decode cX4_clocks 7 = .ok (.ireturn, 1) := by decide +kernel
theorem dX4_clock_0 : decode cX4_clock 0 = .ok (.aload_n 0, 1) := by decide +kernel
theorem dX4_clock_1 : decode cX4_clock 1 = .ok (.iload_n 1, 1) := by decide +kernel
theorem dX4_clock_2 : decode cX4_clock 2 = .ok (.invokevirtual 59, 3) := by decide +kernel
theorem dX4_clock_5 : decode cX4_clock 5 = .ok (.iload_n 2, 1) := by decide +kernel
theorem dX4_clock_6 : decode cX4_clock 6 = .ok (.ifCond .lt 9, 3) := by decide +kernel
theorem dX4_clock_9 : decode cX4_clock 9 = .ok (.iload_n 2, 1) := by decide +kernel
theorem dX4_clock_10 : decode cX4_clock 10 = .ok (.bipush 6, 2) := by decide +kernel
theorem dX4_clock_12 : decode cX4_clock 12 = .ok (.if_icmp .le 13, 3) := by decide +kernel
theorem dX4_clock_15 : decode cX4_clock 15 = .ok (.new 66, 3) := by decide +kernel
theorem dX4_clock_18 : decode cX4_clock 18 = .ok (.dup, 1) := by decide +kernel
theorem dX4_clock_19 : decode cX4_clock 19 = .ok (.ldc 132, 2) := by decide +kernel
theorem dX4_clock_21 : decode cX4_clock 21 = .ok (.invokespecial 70, 3) := by decide +kernel
theorem dX4_clock_24 : decode cX4_clock 24 = .ok (.athrow, 1) := by decide +kernel
theorem dX4_clock_25 : decode cX4_clock 25 = .ok (.aload_n 0, 1) := by decide +kernel
theorem dX4_clock_26 : decode cX4_clock 26 = .ok (.getfield 10, 3) := by decide +kernel
theorem dX4_clock_29 : decode cX4_clock 29 = .ok (.iload_n 1, 1) := by decide +kernel
theorem dX4_clock_30 : decode cX4_clock 30 = .ok (.iload_n 2, 1) := by decide +kernel
theorem dX4_clock_31 : decode cX4_clock 31 = .ok (.invokevirtual 134, 3) := by decide +kernel
theorem dX4_clock_34 : decode cX4_clock 34 = .ok (.ireturn, 1) := by decide +kernel
theorem dX4_linkOf_0 : decode cX4_linkOf 0 = .ok (.aload_n 0, 1) := by decide +kernel
theorem dX4_linkOf_1 : decode cX4_linkOf 1 = .ok (.iload_n 1, 1) := by decide +kernel
theorem dX4_linkOf_2 : decode cX4_linkOf 2 = .ok (.invokevirtual 59, 3) := by decide +kernel
theorem dX4_linkOf_5 : decode cX4_linkOf 5 = .ok (.aload_n 0, 1) := by decide +kernel
theorem dX4_linkOf_6 : decode cX4_linkOf 6 = .ok (.iload_n 2, 1) := by decide +kernel
theorem dX4_linkOf_7 : decode cX4_linkOf 7 = .ok (.invokevirtual 59, 3) := by decide +kernel
theorem dX4_linkOf_10 : decode cX4_linkOf 10 = .ok (.aload_n 0, 1) := by decide +kernel
theorem dX4_linkOf_11 : decode cX4_linkOf 11 = .ok (.getfield 10, 3) := by decide +kernel
theorem dX4_linkOf_14 : decode cX4_linkOf 14 = .ok (.iload_n 1, 1) := by decide +kernel
theorem dX4_linkOf_15 : decode cX4_linkOf 15 = .ok (.iload_n 2, 1) := by decide +kernel
theorem dX4_linkOf_16 : decode cX4_linkOf 16 = .ok (.invokevirtual 106, 3) := by decide +kernel
theorem dX4_linkOf_19 : decode cX4_linkOf 19 = .ok (.ireturn, 1) := by decide +kernel
theorem dX4_distance_0 : decode cX4_distance 0 = .ok (.aload_n 0, 1) := by decide +kernel
theorem dX4_distance_1 : decode cX4_distance 1 = .ok (.iload_n 1, 1) := by decide +kernel
theorem dX4_distance_2 : decode cX4_distance 2 = .ok (.invokevirtual 59, 3) := by decide +kernel
theorem dX4_distance_5 : decode cX4_distance 5 = .ok (.aload_n 0, 1) := by decide +kernel
theorem dX4_distance_6 : decode cX4_distance 6 = .ok (.iload_n 2, 1) := by decide +kernel
theorem dX4_distance_7 : decode cX4_distance 7 = .ok (.invokevirtual 59, 3) := by decide +kernel
theorem dX4_distance_10 : decode cX4_distance 10 = .ok (.aload_n 0, 1) := by decide +kernel
theorem dX4_distance_11 : decode cX4_distance 11 = .ok (.getfield 10, 3) := by decide +kernel
theorem dX4_distance_14 : decode cX4_distance 14 = .ok (.iload_n 1, 1) := by decide +kernel
theorem dX4_distance_15 : decode cX4_distance 15 = .ok (.iload_n 2, 1) := by decide +kernel
theorem dX4_distance_16 : decode cX4_distance 16 = .ok (.invokevirtual 137, 3) := by decide +kernel
theorem dX4_distance_19 : decode cX4_distance 19 = .ok (.ireturn, 1) := by decide +kernel
theorem dX4_components_0 : decode cX4_components 0 = .ok (.aload_n 0, 1) := by decide +kernel
theorem dX4_components_1 : decode cX4_components 1 = .ok (.getfield 10, 3) := by decide +kernel
theorem dX4_components_4 : decode cX4_components 4 = .ok (.aload_n 0, 1) := by decide +kernel
theorem dX4_components_5 : decode cX4_components 5 = .ok (.getfield 10, 3) := by decide +kernel
theorem dX4_components_8 : decode cX4_components 8 = .ok (.invokevirtual 140, 3) := by decide +kernel
theorem dX4_components_11 : decode cX4_components 11 = .ok (.invokevirtual 143, 3) := by decide +kernel
theorem dX4_components_14 : decode cX4_components 14 = .ok (.ireturn, 1) := by decide +kernel
theorem dX4_isNeeded_0 : decode cX4_isNeeded 0 = .ok (.aload_n 0, 1) := by decide +kernel
theorem dX4_isNeeded_1 : decode cX4_isNeeded 1 = .ok (.iload_n 1, 1) := by decide +kernel
theorem dX4_isNeeded_2 : decode cX4_isNeeded 2 = .ok (.invokevirtual 59, 3) := by decide +kernel
theorem dX4_isNeeded_5 : decode cX4_isNeeded 5 = .ok (.aload_n 0, 1) := by decide +kernel
theorem dX4_isNeeded_6 : decode cX4_isNeeded 6 = .ok (.getfield 10, 3) := by decide +kernel
theorem dX4_isNeeded_9 : decode cX4_isNeeded 9 = .ok (.invokevirtual 140, 3) := by decide +kernel
theorem dX4_isNeeded_12 : decode cX4_isNeeded 12 = .ok (.istore_n 2, 1) := by decide +kernel
theorem dX4_isNeeded_13 : decode cX4_isNeeded 13 = .ok (.aload_n 0, 1) := by decide +kernel
theorem dX4_isNeeded_14 : decode cX4_isNeeded 14 = .ok (.getfield 10, 3) := by decide +kernel
theorem dX4_isNeeded_17 : decode cX4_isNeeded 17 = .ok (.iload_n 2, 1) := by decide +kernel
theorem dX4_isNeeded_18 : decode cX4_isNeeded 18 = .ok (.iconst 1, 1) := by decide +kernel
theorem dX4_isNeeded_19 : decode cX4_isNeeded 19 = .ok (.iload_n 1, 1) := by decide +kernel
theorem dX4_isNeeded_20 : decode cX4_isNeeded 20 = .ok (.ishl, 1) := by decide +kernel
theorem dX4_isNeeded_21 : decode cX4_isNeeded 21 = .ok (.iconst (-1), 1) := by decide +kernel
theorem dX4_isNeeded_22 : decode cX4_isNeeded 22 = .ok (.ixor, 1) := by decide +kernel
theorem dX4_isNeeded_23 : decode cX4_isNeeded 23 = .ok (.iand, 1) := by decide +kernel
theorem dX4_isNeeded_24 : decode cX4_isNeeded 24 = .ok (.invokevirtual 143, 3) := by decide +kernel
theorem dX4_isNeeded_27 : decode cX4_isNeeded 27 = .ok (.aload_n 0, 1) := by decide +kernel
theorem dX4_isNeeded_28 : decode cX4_isNeeded 28 = .ok (.getfield 10, 3) := by decide +kernel
theorem dX4_isNeeded_31 : decode cX4_isNeeded 31 = .ok (.iload_n 2, 1) := by decide +kernel
theorem dX4_isNeeded_32 : decode cX4_isNeeded 32 = .ok (.invokevirtual 143, 3) := by decide +kernel
theorem dX4_isNeeded_35 : decode cX4_isNeeded 35 = .ok (.if_icmp .le 7, 3) := by decide +kernel
theorem dX4_isNeeded_38 : decode cX4_isNeeded 38 = .ok (.iconst 1, 1) := by decide +kernel
theorem dX4_isNeeded_39 : decode cX4_isNeeded 39 = .ok (.goto 4, 3) := by decide +kernel
theorem dX4_isNeeded_42 : decode cX4_isNeeded 42 = .ok (.iconst 0, 1) := by decide +kernel
theorem dX4_isNeeded_43 : decode cX4_isNeeded 43 = .ok (.ireturn, 1) := by decide +kernel
theorem dX4_tick_0 : decode cX4_tick 0 = .ok (.iload_n 1, 1) := by decide +kernel
theorem dX4_tick_1 : decode cX4_tick 1 = .ok (.invokestatic 146, 3) := by decide +kernel
theorem dX4_tick_4 : decode cX4_tick 4 = .ok (.ifCond .ne 13, 3) := by decide +kernel
theorem dX4_tick_7 : decode cX4_tick 7 = .ok (.new 66, 3) := by decide +kernel
theorem dX4_tick_10 : decode cX4_tick 10 = .ok (.dup, 1) := by decide +kernel
theorem dX4_tick_11 : decode cX4_tick 11 = .ok (.ldc 149, 2) := by decide +kernel
theorem dX4_tick_13 : decode cX4_tick 13 = .ok (.invokespecial 70, 3) := by decide +kernel
theorem dX4_tick_16 : decode cX4_tick 16 = .ok (.athrow, 1) := by decide +kernel
theorem dX4_tick_17 : decode cX4_tick 17 = .ok (.aload_n 0, 1) := by decide +kernel
theorem dX4_tick_18 : decode cX4_tick 18 = .ok (.getfield 25, 3) := by decide +kernel
theorem dX4_tick_21 : decode cX4_tick 21 = .ok (.aload_n 0, 1) := by decide +kernel
theorem dX4_tick_22 : decode cX4_tick 22 = .ok (.getfield 10, 3) := by decide +kernel
theorem dX4_tick_25 : decode cX4_tick 25 = .ok (.invokevirtual 51, 3) := by decide +kernel
theorem dX4_tick_28 : decode cX4_tick 28 = .ok (.aload_n 0, 1) := by decide +kernel
theorem dX4_tick_29 : decode cX4_tick 29 = .ok (.getfield 10, 3) := by decide +kernel
theorem dX4_tick_32 : decode cX4_tick 32 = .ok (.iload_n 1, 1) := by decide +kernel
theorem dX4_tick_33 : decode cX4_tick 33 = .ok (.invokevirtual 151, 3) := by decide +kernel
theorem dX4_tick_36 : decode cX4_tick 36 = .ok (.ireturn, 1) := by decide +kernel
theorem dX4_now_0 : decode cX4_now 0 = .ok (.aload_n 0, 1) := by decide +kernel
theorem dX4_now_1 : decode cX4_now 1 = .ok (.getfield 10, 3) := by decide +kernel
theorem dX4_now_4 : decode cX4_now 4 = .ok (.getfield 154, 3) := by decide +kernel
theorem dX4_now_7 : decode cX4_now 7 = .ok (.ireturn, 1) := by decide +kernel
theorem dX4_noted_0 : decode cX4_noted 0 = .ok (.aload_n 0, 1) := by decide +kernel
theorem dX4_noted_1 : decode cX4_noted 1 = .ok (.getfield 10, 3) := by decide +kernel
theorem dX4_noted_4 : decode cX4_noted 4 = .ok (.getfield 157, 3) := by decide +kernel
theorem dX4_noted_7 : decode cX4_noted 7 = .ok (.iload_n 1, 1) := by decide +kernel
theorem dX4_noted_8 : decode cX4_noted 8 = .ok (.invokevirtual 161, 3) := by decide +kernel
theorem dX4_noted_11 : decode cX4_noted 11 = .ok (.istore_n 3, 1) := by decide +kernel
theorem dX4_noted_12 : decode cX4_noted 12 = .ok (.iload_n 3, 1) := by decide +kernel
theorem dX4_noted_13 : decode cX4_noted 13 = .ok (.iconst (-1), 1) := by decide +kernel
theorem dX4_noted_14 : decode cX4_noted 14 = .ok (.if_icmp .ne 5, 3) := by decide +kernel
theorem dX4_noted_17 : decode cX4_noted 17 = .ok (.iconst (-1), 1) := by decide +kernel
theorem dX4_noted_18 : decode cX4_noted 18 = .ok (.ireturn, 1) := by decide +kernel
theorem dX4_noted_19 : decode cX4_noted 19 = .ok (.iload_n 2, 1) := by decide +kernel
theorem dX4_noted_20 : decode cX4_noted 20 = .ok (.ifCond .eq 18, 3) := by decide +kernel
theorem dX4_noted_23 : decode cX4_noted 23 = .ok (.aload_n 0, 1) := by decide +kernel
theorem dX4_noted_24 : decode cX4_noted 24 = .ok (.getfield 10, 3) := by decide +kernel
theorem dX4_noted_27 : decode cX4_noted 27 = .ok (.getfield 157, 3) := by decide +kernel
theorem dX4_noted_30 : decode cX4_noted 30 = .ok (.getfield 166, 3) := by decide +kernel
theorem dX4_noted_33 : decode cX4_noted 33 = .ok (.iload_n 3, 1) := by decide +kernel
theorem dX4_noted_34 : decode cX4_noted 34 = .ok (.iaload, 1) := by decide +kernel
theorem dX4_noted_35 : decode cX4_noted 35 = .ok (.goto 15, 3) := by decide +kernel
theorem dX4_noted_38 : decode cX4_noted 38 = .ok (.aload_n 0, 1) := by decide +kernel
theorem dX4_noted_39 : decode cX4_noted 39 = .ok (.getfield 10, 3) := by decide +kernel
theorem dX4_noted_42 : decode cX4_noted 42 = .ok (.getfield 157, 3) := by decide +kernel
theorem dX4_noted_45 : decode cX4_noted 45 = .ok (.getfield 169, 3) := by decide +kernel
theorem dX4_noted_48 : decode cX4_noted 48 = .ok (.iload_n 3, 1) := by decide +kernel
theorem dX4_noted_49 : decode cX4_noted 49 = .ok (.iaload, 1) := by decide +kernel
theorem dX4_noted_50 : decode cX4_noted 50 = .ok (.ireturn, 1) := by decide +kernel
theorem dX4_fired_0 : decode cX4_fired 0 = .ok (.aload_n 0, 1) := by decide +kernel
theorem dX4_fired_1 : decode cX4_fired 1 = .ok (.getfield 10, 3) := by decide +kernel
theorem dX4_fired_4 : decode cX4_fired 4 = .ok (.getfield 172, 3) := by decide +kernel
theorem dX4_fired_7 : decode cX4_fired 7 = .ok (.ireturn, 1) := by decide +kernel
theorem dX4_underWay_0 : decode cX4_underWay 0 = .ok (.aload_n 0, 1) := by decide +kernel
theorem dX4_underWay_1 : decode cX4_underWay 1 = .ok (.getfield 10, 3) := by decide +kernel
theorem dX4_underWay_4 : decode cX4_underWay 4 = .ok (.invokevirtual 175, 3) := by decide +kernel
theorem dX4_underWay_7 : decode cX4_underWay 7 = .ok (.ireturn, 1) := by decide +kernel
theorem dX4_groups_0 : decode cX4_groups 0 = .ok (.aload_n 0, 1) := by decide +kernel
theorem dX4_groups_1 : decode cX4_groups 1 = .ok (.getfield 10, 3) := by decide +kernel
theorem dX4_groups_4 : decode cX4_groups 4 = .ok (.bipush 10, 2) := by decide +kernel
theorem dX4_groups_6 : decode cX4_groups 6 = .ok (.invokevirtual 178, 3) := by decide +kernel
theorem dX4_groups_9 : decode cX4_groups 9 = .ok (.ireturn, 1) := by decide +kernel
theorem dX4_group_0 : decode cX4_group 0 = .ok (.aload_n 0, 1) := by decide +kernel
theorem dX4_group_1 : decode cX4_group 1 = .ok (.getfield 10, 3) := by decide +kernel
theorem dX4_group_4 : decode cX4_group 4 = .ok (.iload_n 1, 1) := by decide +kernel
theorem dX4_group_5 : decode cX4_group 5 = .ok (.invokevirtual 181, 3) := by decide +kernel
theorem dX4_group_8 : decode cX4_group 8 = .ok (.istore_n 3, 1) := by decide +kernel
theorem dX4_group_9 : decode cX4_group 9 = .ok (.iload_n 3, 1) := by decide +kernel
theorem dX4_group_10 : decode cX4_group 10 = .ok (.iconst (-1), 1) := by decide +kernel
theorem dX4_group_11 : decode cX4_group 11 = .ok (.if_icmp .ne 13, 3) := by decide +kernel
theorem dX4_group_14 : decode cX4_group 14 = .ok (.new 184, 3) := by decide +kernel
theorem dX4_group_17 : decode cX4_group 17 = .ok (.dup, 1) := by decide +kernel
theorem dX4_group_18 : decode cX4_group 18 = .ok (.ldc 186, 2) := by decide +kernel
theorem dX4_group_20 : decode cX4_group 20 = .ok (.invokespecial 188, 3) := by decide +kernel
theorem dX4_group_23 : decode cX4_group 23 = .ok (.athrow, 1) := by decide +kernel
theorem dX4_group_24 : decode cX4_group 24 = .ok (.iload_n 2, 1) := by decide +kernel
theorem dX4_group_25 : decode cX4_group 25 = .ok (.ifCond .eq 7, 3) := by decide +kernel
theorem dX4_group_28 : decode cX4_group 28 = .ok (.iload_n 3, 1) := by decide +kernel
theorem dX4_group_29 : decode cX4_group 29 = .ok (.goto 11, 3) := by decide +kernel
theorem dX4_group_32 : decode cX4_group 32 = .ok (.aload_n 0, 1) := by decide +kernel
theorem dX4_group_33 : decode cX4_group 33 = .ok (.getfield 10, 3) := by decide +kernel
theorem dX4_group_36 : decode cX4_group 36 = .ok (.iload_n 3, 1) := by decide +kernel
theorem dX4_group_37 : decode cX4_group 37 = .ok (.invokevirtual 189, 3) := by decide +kernel
theorem dX4_group_40 : decode cX4_group 40 = .ok (.ireturn, 1) := by decide +kernel
theorem dX4_groupOf_0 : decode cX4_groupOf 0 = .ok (.aload_n 0, 1) := by decide +kernel
theorem dX4_groupOf_1 : decode cX4_groupOf 1 = .ok (.iload_n 1, 1) := by decide +kernel
theorem dX4_groupOf_2 : decode cX4_groupOf 2 = .ok (.invokevirtual 59, 3) := by decide +kernel
theorem dX4_groupOf_5 : decode cX4_groupOf 5 = .ok (.aload_n 0, 1) := by decide +kernel
theorem dX4_groupOf_6 : decode cX4_groupOf 6 = .ok (.getfield 10, 3) := by decide +kernel
theorem dX4_groupOf_9 : decode cX4_groupOf 9 = .ok (.iload_n 1, 1) := by decide +kernel
theorem dX4_groupOf_10 : decode cX4_groupOf 10 = .ok (.invokevirtual 192, 3) := by decide +kernel
theorem dX4_groupOf_13 : decode cX4_groupOf 13 = .ok (.ireturn, 1) := by decide +kernel
theorem dX4_spread_0 : decode cX4_spread 0 = .ok (.aload_n 0, 1) := by decide +kernel
theorem dX4_spread_1 : decode cX4_spread 1 = .ok (.getfield 10, 3) := by decide +kernel
theorem dX4_spread_4 : decode cX4_spread 4 = .ok (.invokevirtual 195, 3) := by decide +kernel
theorem dX4_spread_7 : decode cX4_spread 7 = .ok (.ireturn, 1) := by decide +kernel
theorem dX4_ticksUntil_0 : decode cX4_ticksUntil 0 = .ok (.iload_n 1, 1) := by decide +kernel
theorem dX4_ticksUntil_1 : decode cX4_ticksUntil 1 = .ok (.ifCond .lt 9, 3) := by decide +kernel
theorem dX4_ticksUntil_4 : decode cX4_ticksUntil 4 = .ok (.iload_n 1, 1) := by decide +kernel
theorem dX4_ticksUntil_5 : decode cX4_ticksUntil 5 = .ok (.bipush 10, 2) := by decide +kernel
theorem dX4_ticksUntil_7 : decode cX4_ticksUntil 7 = .ok (.if_icmp .le 13, 3) := by decide +kernel
theorem dX4_ticksUntil_10 : decode cX4_ticksUntil 10 = .ok (.new 66, 3) := by decide +kernel
theorem dX4_ticksUntil_13 : decode cX4_ticksUntil 13 = .ok (.dup, 1) := by decide +kernel
theorem dX4_ticksUntil_14 : decode cX4_ticksUntil 14 = .ok (.ldc 198, 2) := by decide +kernel
theorem dX4_ticksUntil_16 : decode cX4_ticksUntil 16 = .ok (.invokespecial 70, 3) := by decide +kernel
theorem dX4_ticksUntil_19 : decode cX4_ticksUntil 19 = .ok (.athrow, 1) := by decide +kernel
theorem dX4_ticksUntil_20 : decode cX4_ticksUntil 20 = .ok (.iload_n 2, 1) := by decide +kernel
theorem dX4_ticksUntil_21 : decode cX4_ticksUntil 21 = .ok (.invokestatic 200, 3) := by decide +kernel
theorem dX4_ticksUntil_24 : decode cX4_ticksUntil 24 = .ok (.aload_n 0, 1) := by decide +kernel
theorem dX4_ticksUntil_25 : decode cX4_ticksUntil 25 = .ok (.getfield 16, 3) := by decide +kernel
theorem dX4_ticksUntil_28 : decode cX4_ticksUntil 28 = .ok (.aload_n 0, 1) := by decide +kernel
theorem dX4_ticksUntil_29 : decode cX4_ticksUntil 29 = .ok (.getfield 10, 3) := by decide +kernel
theorem dX4_ticksUntil_32 : decode cX4_ticksUntil 32 = .ok (.invokevirtual 203, 3) := by decide +kernel
theorem dX4_ticksUntil_35 : decode cX4_ticksUntil 35 = .ok (.aload_n 0, 1) := by decide +kernel
theorem dX4_ticksUntil_36 : decode cX4_ticksUntil 36 = .ok (.getfield 16, 3) := by decide +kernel
theorem dX4_ticksUntil_39 : decode cX4_ticksUntil 39 = .ok (.iload_n 1, 1) := by decide +kernel
theorem dX4_ticksUntil_40 : decode cX4_ticksUntil 40 = .ok (.iload_n 2, 1) := by decide +kernel
theorem dX4_ticksUntil_41 : decode cX4_ticksUntil 41 = .ok (.invokevirtual 206, 3) := by decide +kernel
theorem dX4_ticksUntil_44 : decode cX4_ticksUntil 44 = .ok (.ireturn, 1) := by decide +kernel
theorem dX4_groupsAfter_0 : decode cX4_groupsAfter 0 = .ok (.iload_n 1, 1) := by decide +kernel
theorem dX4_groupsAfter_1 : decode cX4_groupsAfter 1 = .ok (.invokestatic 200, 3) := by decide +kernel
theorem dX4_groupsAfter_4 : decode cX4_groupsAfter 4 = .ok (.aload_n 0, 1) := by decide +kernel
theorem dX4_groupsAfter_5 : decode cX4_groupsAfter 5 = .ok (.getfield 16, 3) := by decide +kernel
theorem dX4_groupsAfter_8 : decode cX4_groupsAfter 8 = .ok (.aload_n 0, 1) := by decide +kernel
theorem dX4_groupsAfter_9 : decode cX4_groupsAfter 9 = .ok (.getfield 10, 3) := by decide +kernel
theorem dX4_groupsAfter_12 : decode cX4_groupsAfter 12 = .ok (.invokevirtual 203, 3) := by decide +kernel
theorem dX4_groupsAfter_15 : decode cX4_groupsAfter 15 = .ok (.aload_n 0, 1) := by decide +kernel
theorem dX4_groupsAfter_16 : decode cX4_groupsAfter 16 = .ok (.getfield 16, 3) := by decide +kernel
theorem dX4_groupsAfter_19 : decode cX4_groupsAfter 19 = .ok (.iload_n 1, 1) := by decide +kernel
theorem dX4_groupsAfter_20 : decode cX4_groupsAfter 20 = .ok (.invokevirtual 151, 3) := by decide +kernel
theorem dX4_groupsAfter_23 : decode cX4_groupsAfter 23 = .ok (.pop, 1) := by decide +kernel
theorem dX4_groupsAfter_24 : decode cX4_groupsAfter 24 = .ok (.aload_n 0, 1) := by decide +kernel
theorem dX4_groupsAfter_25 : decode cX4_groupsAfter 25 = .ok (.getfield 16, 3) := by decide +kernel
theorem dX4_groupsAfter_28 : decode cX4_groupsAfter 28 = .ok (.bipush 10, 2) := by decide +kernel
theorem dX4_groupsAfter_30 : decode cX4_groupsAfter 30 = .ok (.invokevirtual 178, 3) := by decide +kernel
theorem dX4_groupsAfter_33 : decode cX4_groupsAfter 33 = .ok (.ireturn, 1) := by decide +kernel
theorem dX4_repeats_0 : decode cX4_repeats 0 = .ok (.iload_n 1, 1) := by decide +kernel
theorem dX4_repeats_1 : decode cX4_repeats 1 = .ok (.invokestatic 200, 3) := by decide +kernel
theorem dX4_repeats_4 : decode cX4_repeats 4 = .ok (.aload_n 0, 1) := by decide +kernel
theorem dX4_repeats_5 : decode cX4_repeats 5 = .ok (.iload_n 1, 1) := by decide +kernel
theorem dX4_repeats_6 : decode cX4_repeats 6 = .ok (.invokevirtual 209, 3) := by decide +kernel
theorem dX4_repeats_9 : decode cX4_repeats 9 = .ok (.istore_n 3, 1) := by decide +kernel
theorem dX4_repeats_10 : decode cX4_repeats 10 = .ok (.iload_n 3, 1) := by decide +kernel
theorem dX4_repeats_11 : decode cX4_repeats 11 = .ok (.iconst (-1), 1) := by decide +kernel
theorem dX4_repeats_12 : decode cX4_repeats 12 = .ok (.if_icmp .ne 5, 3) := by decide +kernel
theorem dX4_repeats_15 : decode cX4_repeats 15 = .ok (.iconst (-1), 1) := by decide +kernel
theorem dX4_repeats_16 : decode cX4_repeats 16 = .ok (.ireturn, 1) := by decide +kernel
theorem dX4_repeats_17 : decode cX4_repeats 17 = .ok (.aload_n 0, 1) := by decide +kernel
theorem dX4_repeats_18 : decode cX4_repeats 18 = .ok (.iload_n 3, 1) := by decide +kernel
theorem dX4_repeats_19 : decode cX4_repeats 19 = .ok (.iload_n 1, 1) := by decide +kernel
theorem dX4_repeats_20 : decode cX4_repeats 20 = .ok (.invokevirtual 212, 3) := by decide +kernel
theorem dX4_repeats_23 : decode cX4_repeats 23 = .ok (.istore 4, 2) := by decide +kernel
theorem dX4_repeats_25 : decode cX4_repeats 25 = .ok (.iload_n 2, 1) := by decide +kernel
theorem dX4_repeats_26 : decode cX4_repeats 26 = .ok (.ifCond .ne 9, 3) := by decide +kernel
theorem dX4_repeats_29 : decode cX4_repeats 29 = .ok (.iload 4, 2) := by decide +kernel
theorem dX4_repeats_31 : decode cX4_repeats 31 = .ok (.iconst (-1), 1) := by decide +kernel
theorem dX4_repeats_32 : decode cX4_repeats 32 = .ok (.if_icmp .ne 8, 3) := by decide +kernel
theorem dX4_repeats_35 : decode cX4_repeats 35 = .ok (.iload 4, 2) := by decide +kernel
theorem dX4_repeats_37 : decode cX4_repeats 37 = .ok (.goto 4, 3) := by decide +kernel
theorem dX4_repeats_40 : decode cX4_repeats 40 = .ok (.iload_n 3, 1) := by decide +kernel
theorem dX4_repeats_41 : decode cX4_repeats 41 = .ok (.ireturn, 1) := by decide +kernel
theorem dX4_leastStrength_0 : decode cX4_leastStrength 0 = .ok (.iload_n 1, 1) := by decide +kernel
theorem dX4_leastStrength_1 : decode cX4_leastStrength 1 = .ok (.invokestatic 200, 3) := by decide +kernel
theorem dX4_leastStrength_4 : decode cX4_leastStrength 4 = .ok (.iconst 0, 1) := by decide +kernel
theorem dX4_leastStrength_5 : decode cX4_leastStrength 5 = .ok (.istore_n 2, 1) := by decide +kernel
theorem dX4_leastStrength_6 : decode cX4_leastStrength 6 = .ok (.iload_n 2, 1) := by decide +kernel
theorem dX4_leastStrength_7 : decode cX4_leastStrength 7 = .ok (.getstatic 119, 3) := by decide +kernel
theorem dX4_leastStrength_10 : decode cX4_leastStrength 10 = .ok (.iconst 1, 1) := by decide +kernel
theorem dX4_leastStrength_11 : decode cX4_leastStrength 11 = .ok (.iaload, 1) := by decide +kernel
theorem dX4_leastStrength_12 : decode cX4_leastStrength 12 = .ok (.if_icmp .gt 45, 3) := by decide +kernel
theorem dX4_leastStrength_15 : decode cX4_leastStrength 15 = .ok (.aload_n 0, 1) := by decide +kernel
theorem dX4_leastStrength_16 : decode cX4_leastStrength 16 = .ok (.getfield 16, 3) := by decide +kernel
theorem dX4_leastStrength_19 : decode cX4_leastStrength 19 = .ok (.aload_n 0, 1) := by decide +kernel
theorem dX4_leastStrength_20 : decode cX4_leastStrength 20 = .ok (.getfield 10, 3) := by decide +kernel
theorem dX4_leastStrength_23 : decode cX4_leastStrength 23 = .ok (.invokevirtual 203, 3) := by decide +kernel
theorem dX4_leastStrength_26 : decode cX4_leastStrength 26 = .ok (.aload_n 0, 1) := by decide +kernel
theorem dX4_leastStrength_27 : decode cX4_leastStrength 27 = .ok (.getfield 16, 3) := by decide +kernel
theorem dX4_leastStrength_30 : decode cX4_leastStrength 30 = .ok (.iconst 1, 1) := by decide +kernel
theorem dX4_leastStrength_31 : decode cX4_leastStrength 31 = .ok (.iload_n 2, 1) := by decide +kernel
theorem dX4_leastStrength_32 : decode cX4_leastStrength 32 = .ok (.invokevirtual 125, 3) := by decide +kernel
theorem dX4_leastStrength_35 : decode cX4_leastStrength 35 = .ok (.pop, 1) := by decide +kernel
theorem dX4_leastStrength_36 : decode cX4_leastStrength 36 = .ok (.aload_n 0, 1) := by decide +kernel
theorem dX4_leastStrength_37 : decode cX4_leastStrength 37 = .ok (.getfield 16, 3) := by decide +kernel
theorem dX4_leastStrength_40 : decode cX4_leastStrength 40 = .ok (.iconst 1, 1) := by decide +kernel
theorem dX4_leastStrength_41 : decode cX4_leastStrength 41 = .ok (.iload_n 1, 1) := by decide +kernel
theorem dX4_leastStrength_42 : decode cX4_leastStrength 42 = .ok (.invokevirtual 206, 3) := by decide +kernel
theorem dX4_leastStrength_45 : decode cX4_leastStrength 45 = .ok (.iconst (-1), 1) := by decide +kernel
theorem dX4_leastStrength_46 : decode cX4_leastStrength 46 = .ok (.if_icmp .eq 5, 3) := by decide +kernel
theorem dX4_leastStrength_49 : decode cX4_leastStrength 49 = .ok (.iload_n 2, 1) := by decide +kernel
theorem dX4_leastStrength_50 : decode cX4_leastStrength 50 = .ok (.ireturn, 1) := by decide +kernel
theorem dX4_leastStrength_51 : decode cX4_leastStrength 51 = .ok (.iinc 2 1, 3) := by decide +kernel
theorem dX4_leastStrength_54 : decode cX4_leastStrength 54 = .ok (.goto (-48), 3) := by decide +kernel
theorem dX4_leastStrength_57 : decode cX4_leastStrength 57 = .ok (.iconst (-1), 1) := by decide +kernel
theorem dX4_leastStrength_58 : decode cX4_leastStrength 58 = .ok (.ireturn, 1) := by decide +kernel
theorem dX4_basin_0 : decode cX4_basin 0 = .ok (.aload_n 0, 1) := by decide +kernel
theorem dX4_basin_1 : decode cX4_basin 1 = .ok (.iload_n 1, 1) := by decide +kernel
theorem dX4_basin_2 : decode cX4_basin 2 = .ok (.invokevirtual 59, 3) := by decide +kernel
theorem dX4_basin_5 : decode cX4_basin 5 = .ok (.iload_n 2, 1) := by decide +kernel
theorem dX4_basin_6 : decode cX4_basin 6 = .ok (.invokestatic 200, 3) := by decide +kernel
theorem dX4_basin_9 : decode cX4_basin 9 = .ok (.iconst 0, 1) := by decide +kernel
theorem dX4_basin_10 : decode cX4_basin 10 = .ok (.istore_n 3, 1) := by decide +kernel
theorem dX4_basin_11 : decode cX4_basin 11 = .ok (.iconst 0, 1) := by decide +kernel
theorem dX4_basin_12 : decode cX4_basin 12 = .ok (.istore 4, 2) := by decide +kernel
theorem dX4_basin_14 : decode cX4_basin 14 = .ok (.iload 4, 2) := by decide +kernel
theorem dX4_basin_16 : decode cX4_basin 16 = .ok (.aload_n 0, 1) := by decide +kernel
theorem dX4_basin_17 : decode cX4_basin 17 = .ok (.getfield 10, 3) := by decide +kernel
theorem dX4_basin_20 : decode cX4_basin 20 = .ok (.getfield 215, 3) := by decide +kernel
theorem dX4_basin_23 : decode cX4_basin 23 = .ok (.if_icmp .ge 32, 3) := by decide +kernel
theorem dX4_basin_26 : decode cX4_basin 26 = .ok (.aload_n 0, 1) := by decide +kernel
theorem dX4_basin_27 : decode cX4_basin 27 = .ok (.iload_n 1, 1) := by decide +kernel
theorem dX4_basin_28 : decode cX4_basin 28 = .ok (.iload 4, 2) := by decide +kernel
theorem dX4_basin_30 : decode cX4_basin 30 = .ok (.invokevirtual 218, 3) := by decide +kernel
theorem dX4_basin_33 : decode cX4_basin 33 = .ok (.aload_n 0, 1) := by decide +kernel
theorem dX4_basin_34 : decode cX4_basin 34 = .ok (.getfield 16, 3) := by decide +kernel
theorem dX4_basin_37 : decode cX4_basin 37 = .ok (.iconst 1, 1) := by decide +kernel
theorem dX4_basin_38 : decode cX4_basin 38 = .ok (.iload_n 2, 1) := by decide +kernel
theorem dX4_basin_39 : decode cX4_basin 39 = .ok (.invokevirtual 206, 3) := by decide +kernel
theorem dX4_basin_42 : decode cX4_basin 42 = .ok (.iconst (-1), 1) := by decide +kernel
theorem dX4_basin_43 : decode cX4_basin 43 = .ok (.if_icmp .eq 6, 3) := by decide +kernel
theorem dX4_basin_46 : decode cX4_basin 46 = .ok (.iinc 3 1, 3) := by decide +kernel
theorem dX4_basin_49 : decode cX4_basin 49 = .ok (.iinc 4 1, 3) := by decide +kernel
theorem dX4_basin_52 : decode cX4_basin 52 = .ok (.goto (-38), 3) := by decide +kernel
theorem dX4_basin_55 : decode cX4_basin 55 = .ok (.iload_n 3, 1) := by decide +kernel
theorem dX4_basin_56 : decode cX4_basin 56 = .ok (.ireturn, 1) := by decide +kernel
theorem dX4_worstPhase_0 : decode cX4_worstPhase 0 = .ok (.aload_n 0, 1) := by decide +kernel
theorem dX4_worstPhase_1 : decode cX4_worstPhase 1 = .ok (.iload_n 1, 1) := by decide +kernel
theorem dX4_worstPhase_2 : decode cX4_worstPhase 2 = .ok (.invokevirtual 59, 3) := by decide +kernel
theorem dX4_worstPhase_5 : decode cX4_worstPhase 5 = .ok (.iload_n 2, 1) := by decide +kernel
theorem dX4_worstPhase_6 : decode cX4_worstPhase 6 = .ok (.invokestatic 200, 3) := by decide +kernel
theorem dX4_worstPhase_9 : decode cX4_worstPhase 9 = .ok (.iconst 0, 1) := by decide +kernel
theorem dX4_worstPhase_10 : decode cX4_worstPhase 10 = .ok (.istore_n 3, 1) := by decide +kernel
theorem dX4_worstPhase_11 : decode cX4_worstPhase 11 = .ok (.iconst 0, 1) := by decide +kernel
theorem dX4_worstPhase_12 : decode cX4_worstPhase 12 = .ok (.istore 4, 2) := by decide +kernel
theorem dX4_worstPhase_14 : decode cX4_worstPhase 14 = .ok (.iconst 0, 1) := by decide +kernel
theorem dX4_worstPhase_15 : decode cX4_worstPhase 15 = .ok (.istore 5, 2) := by decide +kernel
theorem dX4_worstPhase_17 : decode cX4_worstPhase 17 = .ok (.iload 5, 2) := by decide +kernel
theorem dX4_worstPhase_19 : decode cX4_worstPhase 19 = .ok (.aload_n 0, 1) := by decide +kernel
theorem dX4_worstPhase_20 : decode cX4_worstPhase 20 = .ok (.getfield 10, 3) := by decide +kernel
theorem dX4_worstPhase_23 : decode cX4_worstPhase 23 = .ok (.getfield 215, 3) := by decide +kernel
theorem dX4_worstPhase_26 : decode cX4_worstPhase 26 = .ok (.if_icmp .ge 50, 3) := by decide +kernel
theorem dX4_worstPhase_29 : decode cX4_worstPhase 29 = .ok (.aload_n 0, 1) := by decide +kernel
theorem dX4_worstPhase_30 : decode cX4_worstPhase 30 = .ok (.iload_n 1, 1) := by decide +kernel
theorem dX4_worstPhase_31 : decode cX4_worstPhase 31 = .ok (.iload 5, 2) := by decide +kernel
theorem dX4_worstPhase_33 : decode cX4_worstPhase 33 = .ok (.invokevirtual 218, 3) := by decide +kernel
theorem dX4_worstPhase_36 : decode cX4_worstPhase 36 = .ok (.aload_n 0, 1) := by decide +kernel
theorem dX4_worstPhase_37 : decode cX4_worstPhase 37 = .ok (.getfield 16, 3) := by decide +kernel
theorem dX4_worstPhase_40 : decode cX4_worstPhase 40 = .ok (.iconst 1, 1) := by decide +kernel
theorem dX4_worstPhase_41 : decode cX4_worstPhase 41 = .ok (.iload_n 2, 1) := by decide +kernel
theorem dX4_worstPhase_42 : decode cX4_worstPhase 42 = .ok (.invokevirtual 206, 3) := by decide +kernel
theorem dX4_worstPhase_45 : decode cX4_worstPhase 45 = .ok (.istore 6, 2) := by decide +kernel
theorem dX4_worstPhase_47 : decode cX4_worstPhase 47 = .ok (.iload 6, 2) := by decide +kernel
theorem dX4_worstPhase_49 : decode cX4_worstPhase 49 = .ok (.iconst (-1), 1) := by decide +kernel
theorem dX4_worstPhase_50 : decode cX4_worstPhase 50 = .ok (.if_icmp .ne 6, 3) := by decide +kernel
theorem dX4_worstPhase_53 : decode cX4_worstPhase 53 = .ok (.iload 5, 2) := by decide +kernel
theorem dX4_worstPhase_55 : decode cX4_worstPhase 55 = .ok (.ireturn, 1) := by decide +kernel
theorem dX4_worstPhase_56 : decode cX4_worstPhase 56 = .ok (.iload 6, 2) := by decide +kernel
theorem dX4_worstPhase_58 : decode cX4_worstPhase 58 = .ok (.iload 4, 2) := by decide +kernel
theorem dX4_worstPhase_60 : decode cX4_worstPhase 60 = .ok (.if_icmp .le 10, 3) := by decide +kernel
theorem dX4_worstPhase_63 : decode cX4_worstPhase 63 = .ok (.iload 6, 2) := by decide +kernel
theorem dX4_worstPhase_65 : decode cX4_worstPhase 65 = .ok (.istore 4, 2) := by decide +kernel
theorem dX4_worstPhase_67 : decode cX4_worstPhase 67 = .ok (.iload 5, 2) := by decide +kernel
theorem dX4_worstPhase_69 : decode cX4_worstPhase 69 = .ok (.istore_n 3, 1) := by decide +kernel
theorem dX4_worstPhase_70 : decode cX4_worstPhase 70 = .ok (.iinc 5 1, 3) := by decide +kernel
theorem dX4_worstPhase_73 : decode cX4_worstPhase 73 = .ok (.goto (-56), 3) := by decide +kernel
theorem dX4_worstPhase_76 : decode cX4_worstPhase 76 = .ok (.iload_n 3, 1) := by decide +kernel
theorem dX4_worstPhase_77 : decode cX4_worstPhase 77 = .ok (.ireturn, 1) := by decide +kernel
theorem dX4_blamed_0 : decode cX4_blamed 0 = .ok (.iload_n 1, 1) := by decide +kernel
theorem dX4_blamed_1 : decode cX4_blamed 1 = .ok (.invokestatic 200, 3) := by decide +kernel
theorem dX4_blamed_4 : decode cX4_blamed 4 = .ok (.iconst 0, 1) := by decide +kernel
theorem dX4_blamed_5 : decode cX4_blamed 5 = .ok (.istore_n 2, 1) := by decide +kernel
theorem dX4_blamed_6 : decode cX4_blamed 6 = .ok (.iload_n 2, 1) := by decide +kernel
theorem dX4_blamed_7 : decode cX4_blamed 7 = .ok (.aload_n 0, 1) := by decide +kernel
theorem dX4_blamed_8 : decode cX4_blamed 8 = .ok (.getfield 10, 3) := by decide +kernel
theorem dX4_blamed_11 : decode cX4_blamed 11 = .ok (.getfield 128, 3) := by decide +kernel
theorem dX4_blamed_14 : decode cX4_blamed 14 = .ok (.if_icmp .ge 54, 3) := by decide +kernel
theorem dX4_blamed_17 : decode cX4_blamed 17 = .ok (.aload_n 0, 1) := by decide +kernel
theorem dX4_blamed_18 : decode cX4_blamed 18 = .ok (.getfield 10, 3) := by decide +kernel
theorem dX4_blamed_21 : decode cX4_blamed 21 = .ok (.iload_n 2, 1) := by decide +kernel
theorem dX4_blamed_22 : decode cX4_blamed 22 = .ok (.invokevirtual 88, 3) := by decide +kernel
theorem dX4_blamed_25 : decode cX4_blamed 25 = .ok (.ifCond .ne 37, 3) := by decide +kernel
theorem dX4_blamed_28 : decode cX4_blamed 28 = .ok (.aload_n 0, 1) := by decide +kernel
theorem dX4_blamed_29 : decode cX4_blamed 29 = .ok (.getfield 16, 3) := by decide +kernel
theorem dX4_blamed_32 : decode cX4_blamed 32 = .ok (.aload_n 0, 1) := by decide +kernel
theorem dX4_blamed_33 : decode cX4_blamed 33 = .ok (.getfield 10, 3) := by decide +kernel
theorem dX4_blamed_36 : decode cX4_blamed 36 = .ok (.invokevirtual 203, 3) := by decide +kernel
theorem dX4_blamed_39 : decode cX4_blamed 39 = .ok (.aload_n 0, 1) := by decide +kernel
theorem dX4_blamed_40 : decode cX4_blamed 40 = .ok (.getfield 16, 3) := by decide +kernel
theorem dX4_blamed_43 : decode cX4_blamed 43 = .ok (.iload_n 2, 1) := by decide +kernel
theorem dX4_blamed_44 : decode cX4_blamed 44 = .ok (.invokevirtual 94, 3) := by decide +kernel
theorem dX4_blamed_47 : decode cX4_blamed 47 = .ok (.aload_n 0, 1) := by decide +kernel
theorem dX4_blamed_48 : decode cX4_blamed 48 = .ok (.getfield 16, 3) := by decide +kernel
theorem dX4_blamed_51 : decode cX4_blamed 51 = .ok (.iconst 1, 1) := by decide +kernel
theorem dX4_blamed_52 : decode cX4_blamed 52 = .ok (.iload_n 1, 1) := by decide +kernel
theorem dX4_blamed_53 : decode cX4_blamed 53 = .ok (.invokevirtual 206, 3) := by decide +kernel
theorem dX4_blamed_56 : decode cX4_blamed 56 = .ok (.iconst (-1), 1) := by decide +kernel
theorem dX4_blamed_57 : decode cX4_blamed 57 = .ok (.if_icmp .eq 5, 3) := by decide +kernel
theorem dX4_blamed_60 : decode cX4_blamed 60 = .ok (.iload_n 2, 1) := by decide +kernel
theorem dX4_blamed_61 : decode cX4_blamed 61 = .ok (.ireturn, 1) := by decide +kernel
theorem dX4_blamed_62 : decode cX4_blamed 62 = .ok (.iinc 2 1, 3) := by decide +kernel
theorem dX4_blamed_65 : decode cX4_blamed 65 = .ok (.goto (-59), 3) := by decide +kernel
theorem dX4_blamed_68 : decode cX4_blamed 68 = .ok (.iconst (-1), 1) := by decide +kernel
theorem dX4_blamed_69 : decode cX4_blamed 69 = .ok (.ireturn, 1) := by decide +kernel
theorem dX4_firesIn_0 : decode cX4_firesIn 0 = .ok (.aload_n 0, 1) := by decide +kernel
theorem dX4_firesIn_1 : decode cX4_firesIn 1 = .ok (.iload_n 1, 1) := by decide +kernel
theorem dX4_firesIn_2 : decode cX4_firesIn 2 = .ok (.invokevirtual 59, 3) := by decide +kernel
theorem dX4_firesIn_5 : decode cX4_firesIn 5 = .ok (.iload_n 2, 1) := by decide +kernel
theorem dX4_firesIn_6 : decode cX4_firesIn 6 = .ok (.invokestatic 200, 3) := by decide +kernel
theorem dX4_firesIn_9 : decode cX4_firesIn 9 = .ok (.aload_n 0, 1) := by decide +kernel
theorem dX4_firesIn_10 : decode cX4_firesIn 10 = .ok (.getfield 16, 3) := by decide +kernel
theorem dX4_firesIn_13 : decode cX4_firesIn 13 = .ok (.aload_n 0, 1) := by decide +kernel
theorem dX4_firesIn_14 : decode cX4_firesIn 14 = .ok (.getfield 10, 3) := by decide +kernel
theorem dX4_firesIn_17 : decode cX4_firesIn 17 = .ok (.invokevirtual 203, 3) := by decide +kernel
theorem dX4_firesIn_20 : decode cX4_firesIn 20 = .ok (.iconst 1, 1) := by decide +kernel
theorem dX4_firesIn_21 : decode cX4_firesIn 21 = .ok (.istore_n 3, 1) := by decide +kernel
theorem dX4_firesIn_22 : decode cX4_firesIn 22 = .ok (.iload_n 3, 1) := by decide +kernel
theorem dX4_firesIn_23 : decode cX4_firesIn 23 = .ok (.iload_n 2, 1) := by decide +kernel
theorem dX4_firesIn_24 : decode cX4_firesIn 24 = .ok (.if_icmp .gt 31, 3) := by decide +kernel
theorem dX4_firesIn_27 : decode cX4_firesIn 27 = .ok (.aload_n 0, 1) := by decide +kernel
theorem dX4_firesIn_28 : decode cX4_firesIn 28 = .ok (.getfield 16, 3) := by decide +kernel
theorem dX4_firesIn_31 : decode cX4_firesIn 31 = .ok (.iconst 1, 1) := by decide +kernel
theorem dX4_firesIn_32 : decode cX4_firesIn 32 = .ok (.invokevirtual 151, 3) := by decide +kernel
theorem dX4_firesIn_35 : decode cX4_firesIn 35 = .ok (.pop, 1) := by decide +kernel
theorem dX4_firesIn_36 : decode cX4_firesIn 36 = .ok (.aload_n 0, 1) := by decide +kernel
theorem dX4_firesIn_37 : decode cX4_firesIn 37 = .ok (.getfield 16, 3) := by decide +kernel
theorem dX4_firesIn_40 : decode cX4_firesIn 40 = .ok (.iload_n 1, 1) := by decide +kernel
theorem dX4_firesIn_41 : decode cX4_firesIn 41 = .ok (.invokevirtual 222, 3) := by decide +kernel
theorem dX4_firesIn_44 : decode cX4_firesIn 44 = .ok (.ifCond .eq 5, 3) := by decide +kernel
theorem dX4_firesIn_47 : decode cX4_firesIn 47 = .ok (.iload_n 3, 1) := by decide +kernel
theorem dX4_firesIn_48 : decode cX4_firesIn 48 = .ok (.ireturn, 1) := by decide +kernel
theorem dX4_firesIn_49 : decode cX4_firesIn 49 = .ok (.iinc 3 1, 3) := by decide +kernel
theorem dX4_firesIn_52 : decode cX4_firesIn 52 = .ok (.goto (-30), 3) := by decide +kernel
theorem dX4_firesIn_55 : decode cX4_firesIn 55 = .ok (.iconst (-1), 1) := by decide +kernel
theorem dX4_firesIn_56 : decode cX4_firesIn 56 = .ok (.ireturn, 1) := by decide +kernel
theorem dX4_append_0 : decode cX4_append 0 = .ok (.iload_n 1, 1) := by decide +kernel
theorem dX4_append_1 : decode cX4_append 1 = .ok (.ifCond .lt 9, 3) := by decide +kernel
theorem dX4_append_4 : decode cX4_append 4 = .ok (.iload_n 1, 1) := by decide +kernel
theorem dX4_append_5 : decode cX4_append 5 = .ok (.bipush 127, 2) := by decide +kernel
theorem dX4_append_7 : decode cX4_append 7 = .ok (.if_icmp .le 13, 3) := by decide +kernel
theorem dX4_append_10 : decode cX4_append 10 = .ok (.new 66, 3) := by decide +kernel
theorem dX4_append_13 : decode cX4_append 13 = .ok (.dup, 1) := by decide +kernel
theorem dX4_append_14 : decode cX4_append 14 = .ok (.ldc 225, 2) := by decide +kernel
theorem dX4_append_16 : decode cX4_append 16 = .ok (.invokespecial 70, 3) := by decide +kernel
theorem dX4_append_19 : decode cX4_append 19 = .ok (.athrow, 1) := by decide +kernel
theorem dX4_append_20 : decode cX4_append 20 = .ok (.aload_n 0, 1) := by decide +kernel
theorem dX4_append_21 : decode cX4_append 21 = .ok (.getfield 32, 3) := by decide +kernel
theorem dX4_append_24 : decode cX4_append 24 = .ok (.invokevirtual 227, 3) := by decide +kernel
theorem dX4_append_27 : decode cX4_append 27 = .ok (.ifCond .eq 13, 3) := by decide +kernel
theorem dX4_append_30 : decode cX4_append 30 = .ok (.new 44, 3) := by decide +kernel
theorem dX4_append_33 : decode cX4_append 33 = .ok (.dup, 1) := by decide +kernel
theorem dX4_append_34 : decode cX4_append 34 = .ok (.ldc 228, 2) := by decide +kernel
theorem dX4_append_36 : decode cX4_append 36 = .ok (.invokespecial 48, 3) := by decide +kernel
theorem dX4_append_39 : decode cX4_append 39 = .ok (.athrow, 1) := by decide +kernel
theorem dX4_append_40 : decode cX4_append 40 = .ok (.aload_n 0, 1) := by decide +kernel
theorem dX4_append_41 : decode cX4_append 41 = .ok (.getfield 32, 3) := by decide +kernel
theorem dX4_append_44 : decode cX4_append 44 = .ok (.iload_n 1, 1) := by decide +kernel
theorem dX4_append_45 : decode cX4_append 45 = .ok (.invokevirtual 230, 3) := by decide +kernel
theorem dX4_append_48 : decode cX4_append 48 = .ok (.aload_n 0, 1) := by decide +kernel
theorem dX4_append_49 : decode cX4_append 49 = .ok (.getfield 32, 3) := by decide +kernel
theorem dX4_append_52 : decode cX4_append 52 = .ok (.getfield 233, 3) := by decide +kernel
theorem dX4_append_55 : decode cX4_append 55 = .ok (.ireturn, 1) := by decide +kernel
theorem dX4_clearText_0 : decode cX4_clearText 0 = .ok (.aload_n 0, 1) := by decide +kernel
theorem dX4_clearText_1 : decode cX4_clearText 1 = .ok (.getfield 32, 3) := by decide +kernel
theorem dX4_clearText_4 : decode cX4_clearText 4 = .ok (.getfield 233, 3) := by decide +kernel
theorem dX4_clearText_7 : decode cX4_clearText 7 = .ok (.istore_n 1, 1) := by decide +kernel
theorem dX4_clearText_8 : decode cX4_clearText 8 = .ok (.aload_n 0, 1) := by decide +kernel
theorem dX4_clearText_9 : decode cX4_clearText 9 = .ok (.getfield 32, 3) := by decide +kernel
theorem dX4_clearText_12 : decode cX4_clearText 12 = .ok (.iconst 0, 1) := by decide +kernel
theorem dX4_clearText_13 : decode cX4_clearText 13 = .ok (.putfield 233, 3) := by decide +kernel
theorem dX4_clearText_16 : decode cX4_clearText 16 = .ok (.iload_n 1, 1) := by decide +kernel
theorem dX4_clearText_17 : decode cX4_clearText 17 = .ok (.ireturn, 1) := by decide +kernel
theorem dX4_execute_0 : decode cX4_execute 0 = .ok (.aload_n 0, 1) := by decide +kernel
theorem dX4_execute_1 : decode cX4_execute 1 = .ok (.getfield 32, 3) := by decide +kernel
theorem dX4_execute_4 : decode cX4_execute 4 = .ok (.invokevirtual 236, 3) := by decide +kernel
theorem dX4_execute_7 : decode cX4_execute 7 = .ok (.ifCond .ne 14, 3) := by decide +kernel
theorem dX4_execute_10 : decode cX4_execute 10 = .ok (.bipush (-10), 2) := by decide +kernel
theorem dX4_execute_12 : decode cX4_execute 12 = .ok (.aload_n 0, 1) := by decide +kernel
theorem dX4_execute_13 : decode cX4_execute 13 = .ok (.getfield 32, 3) := by decide +kernel
theorem dX4_execute_16 : decode cX4_execute 16 = .ok (.getfield 239, 3) := by decide +kernel
theorem dX4_execute_19 : decode cX4_execute 19 = .ok (.isub, 1) := by decide +kernel
theorem dX4_execute_20 : decode cX4_execute 20 = .ok (.ireturn, 1) := by decide +kernel
theorem dX4_execute_21 : decode cX4_execute 21 = .ok (.aload_n 0, 1) := by decide +kernel
theorem dX4_execute_22 : decode cX4_execute 22 = .ok (.getfield 16, 3) := by decide +kernel
theorem dX4_execute_25 : decode cX4_execute 25 = .ok (.aload_n 0, 1) := by decide +kernel
theorem dX4_execute_26 : decode cX4_execute 26 = .ok (.getfield 10, 3) := by decide +kernel
theorem dX4_execute_29 : decode cX4_execute 29 = .ok (.invokevirtual 203, 3) := by decide +kernel
theorem dX4_execute_32 : decode cX4_execute 32 = .ok (.iconst 0, 1) := by decide +kernel
theorem dX4_execute_33 : decode cX4_execute 33 = .ok (.istore_n 1, 1) := by decide +kernel
theorem dX4_execute_34 : decode cX4_execute 34 = .ok (.iload_n 1, 1) := by decide +kernel
theorem dX4_execute_35 : decode cX4_execute 35 = .ok (.aload_n 0, 1) := by decide +kernel
theorem dX4_execute_36 : decode cX4_execute 36 = .ok (.getfield 32, 3) := by decide +kernel
theorem dX4_execute_39 : decode cX4_execute 39 = .ok (.getfield 242, 3) := by decide +kernel
theorem dX4_execute_42 : decode cX4_execute 42 = .ok (.if_icmp .ge 23, 3) := by decide +kernel
theorem dX4_execute_45 : decode cX4_execute 45 = .ok (.aload_n 0, 1) := by decide +kernel
theorem dX4_execute_46 : decode cX4_execute 46 = .ok (.iload_n 1, 1) := by decide +kernel
theorem dX4_execute_47 : decode cX4_execute 47 = .ok (.invokevirtual 245, 3) := by decide +kernel
theorem dX4_execute_50 : decode cX4_execute 50 = .ok (.ifCond .ne 9, 3) := by decide +kernel
theorem dX4_execute_53 : decode cX4_execute 53 = .ok (.sipush (-1000), 3) := by decide +kernel
theorem dX4_execute_56 : decode cX4_execute 56 = .ok (.iload_n 1, 1) := by decide +kernel
theorem dX4_execute_57 : decode cX4_execute 57 = .ok (.isub, 1) := by decide +kernel
theorem dX4_execute_58 : decode cX4_execute 58 = .ok (.ireturn, 1) := by decide +kernel
theorem dX4_execute_59 : decode cX4_execute 59 = .ok (.iinc 1 1, 3) := by decide +kernel
theorem dX4_execute_62 : decode cX4_execute 62 = .ok (.goto (-28), 3) := by decide +kernel
theorem dX4_execute_65 : decode cX4_execute 65 = .ok (.aload_n 0, 1) := by decide +kernel
theorem dX4_execute_66 : decode cX4_execute 66 = .ok (.getfield 25, 3) := by decide +kernel
theorem dX4_execute_69 : decode cX4_execute 69 = .ok (.aload_n 0, 1) := by decide +kernel
theorem dX4_execute_70 : decode cX4_execute 70 = .ok (.getfield 10, 3) := by decide +kernel
theorem dX4_execute_73 : decode cX4_execute 73 = .ok (.invokevirtual 51, 3) := by decide +kernel
theorem dX4_execute_76 : decode cX4_execute 76 = .ok (.aload_n 0, 1) := by decide +kernel
theorem dX4_execute_77 : decode cX4_execute 77 = .ok (.getfield 10, 3) := by decide +kernel
theorem dX4_execute_80 : decode cX4_execute 80 = .ok (.aload_n 0, 1) := by decide +kernel
theorem dX4_execute_81 : decode cX4_execute 81 = .ok (.getfield 16, 3) := by decide +kernel
theorem dX4_execute_84 : decode cX4_execute 84 = .ok (.invokevirtual 203, 3) := by decide +kernel
theorem dX4_execute_87 : decode cX4_execute 87 = .ok (.aload_n 0, 1) := by decide +kernel
theorem dX4_execute_88 : decode cX4_execute 88 = .ok (.getfield 32, 3) := by decide +kernel
theorem dX4_execute_91 : decode cX4_execute 91 = .ok (.getfield 242, 3) := by decide +kernel
theorem dX4_execute_94 : decode cX4_execute 94 = .ok (.ireturn, 1) := by decide +kernel
theorem dX4_undo_0 : decode cX4_undo 0 = .ok (.aload_n 0, 1) := by decide +kernel
theorem dX4_undo_1 : decode cX4_undo 1 = .ok (.getfield 25, 3) := by decide +kernel
theorem dX4_undo_4 : decode cX4_undo 4 = .ok (.getfield 248, 3) := by decide +kernel
theorem dX4_undo_7 : decode cX4_undo 7 = .ok (.ifCond .ne 13, 3) := by decide +kernel
theorem dX4_undo_10 : decode cX4_undo 10 = .ok (.new 44, 3) := by decide +kernel
theorem dX4_undo_13 : decode cX4_undo 13 = .ok (.dup, 1) := by decide +kernel
theorem dX4_undo_14 : decode cX4_undo 14 = .ok (.ldc 251, 2) := by decide +kernel
theorem dX4_undo_16 : decode cX4_undo 16 = .ok (.invokespecial 48, 3) := by decide +kernel
theorem dX4_undo_19 : decode cX4_undo 19 = .ok (.athrow, 1) := by decide +kernel
theorem dX4_undo_20 : decode cX4_undo 20 = .ok (.aload_n 0, 1) := by decide +kernel
theorem dX4_undo_21 : decode cX4_undo 21 = .ok (.getfield 25, 3) := by decide +kernel
theorem dX4_undo_24 : decode cX4_undo 24 = .ok (.aload_n 0, 1) := by decide +kernel
theorem dX4_undo_25 : decode cX4_undo 25 = .ok (.getfield 10, 3) := by decide +kernel
theorem dX4_undo_28 : decode cX4_undo 28 = .ok (.invokevirtual 253, 3) := by decide +kernel
theorem dX4_undo_31 : decode cX4_undo 31 = .ok (.aload_n 0, 1) := by decide +kernel
theorem dX4_undo_32 : decode cX4_undo 32 = .ok (.getfield 25, 3) := by decide +kernel
theorem dX4_undo_35 : decode cX4_undo 35 = .ok (.getfield 248, 3) := by decide +kernel
theorem dX4_undo_38 : decode cX4_undo 38 = .ok (.ireturn, 1) := by decide +kernel
theorem dX4_digest_0 : decode cX4_digest 0 = .ok (.ldc2_w 256, 3) := by decide +kernel
theorem dX4_digest_3 : decode cX4_digest 3 = .ok (.lstore_n 1, 1) := by decide +kernel
theorem dX4_digest_4 : decode cX4_digest 4 = .ok (.lload_n 1, 1) := by decide +kernel
theorem dX4_digest_5 : decode cX4_digest 5 = .ok (.aload_n 0, 1) := by decide +kernel
theorem dX4_digest_6 : decode cX4_digest 6 = .ok (.getfield 10, 3) := by decide +kernel
theorem dX4_digest_9 : decode cX4_digest 9 = .ok (.getfield 215, 3) := by decide +kernel
theorem dX4_digest_12 : decode cX4_digest 12 = .ok (.invokestatic 258, 3) := by decide +kernel
theorem dX4_digest_15 : decode cX4_digest 15 = .ok (.lstore_n 1, 1) := by decide +kernel
theorem dX4_digest_16 : decode cX4_digest 16 = .ok (.lload_n 1, 1) := by decide +kernel
theorem dX4_digest_17 : decode cX4_digest 17 = .ok (.aload_n 0, 1) := by decide +kernel
theorem dX4_digest_18 : decode cX4_digest 18 = .ok (.getfield 10, 3) := by decide +kernel
theorem dX4_digest_21 : decode cX4_digest 21 = .ok (.getfield 262, 3) := by decide +kernel
theorem dX4_digest_24 : decode cX4_digest 24 = .ok (.iconst 0, 1) := by decide +kernel
theorem dX4_digest_25 : decode cX4_digest 25 = .ok (.iaload, 1) := by decide +kernel
theorem dX4_digest_26 : decode cX4_digest 26 = .ok (.invokestatic 258, 3) := by decide +kernel
theorem dX4_digest_29 : decode cX4_digest 29 = .ok (.lstore_n 1, 1) := by decide +kernel
theorem dX4_digest_30 : decode cX4_digest 30 = .ok (.lload_n 1, 1) := by decide +kernel
theorem dX4_digest_31 : decode cX4_digest 31 = .ok (.aload_n 0, 1) := by decide +kernel
theorem dX4_digest_32 : decode cX4_digest 32 = .ok (.getfield 10, 3) := by decide +kernel
theorem dX4_digest_35 : decode cX4_digest 35 = .ok (.getfield 262, 3) := by decide +kernel
theorem dX4_digest_38 : decode cX4_digest 38 = .ok (.iconst 1, 1) := by decide +kernel
theorem dX4_digest_39 : decode cX4_digest 39 = .ok (.iaload, 1) := by decide +kernel
theorem dX4_digest_40 : decode cX4_digest 40 = .ok (.invokestatic 258, 3) := by decide +kernel
theorem dX4_digest_43 : decode cX4_digest 43 = .ok (.lstore_n 1, 1) := by decide +kernel
theorem dX4_digest_44 : decode cX4_digest 44 = .ok (.lload_n 1, 1) := by decide +kernel
theorem dX4_digest_45 : decode cX4_digest 45 = .ok (.aload_n 0, 1) := by decide +kernel
theorem dX4_digest_46 : decode cX4_digest 46 = .ok (.getfield 10, 3) := by decide +kernel
theorem dX4_digest_49 : decode cX4_digest 49 = .ok (.getfield 262, 3) := by decide +kernel
theorem dX4_digest_52 : decode cX4_digest 52 = .ok (.iconst 2, 1) := by decide +kernel
theorem dX4_digest_53 : decode cX4_digest 53 = .ok (.iaload, 1) := by decide +kernel
theorem dX4_digest_54 : decode cX4_digest 54 = .ok (.invokestatic 258, 3) := by decide +kernel
theorem dX4_digest_57 : decode cX4_digest 57 = .ok (.lstore_n 1, 1) := by decide +kernel
theorem dX4_digest_58 : decode cX4_digest 58 = .ok (.lload_n 1, 1) := by decide +kernel
theorem dX4_digest_59 : decode cX4_digest 59 = .ok (.aload_n 0, 1) := by decide +kernel
theorem dX4_digest_60 : decode cX4_digest 60 = .ok (.getfield 10, 3) := by decide +kernel
theorem dX4_digest_63 : decode cX4_digest 63 = .ok (.getfield 154, 3) := by decide +kernel
theorem dX4_digest_66 : decode cX4_digest 66 = .ok (.invokestatic 258, 3) := by decide +kernel
theorem dX4_digest_69 : decode cX4_digest 69 = .ok (.lstore_n 1, 1) := by decide +kernel
theorem dX4_digest_70 : decode cX4_digest 70 = .ok (.aload_n 0, 1) := by decide +kernel
theorem dX4_digest_71 : decode cX4_digest 71 = .ok (.lload_n 1, 1) := by decide +kernel
theorem dX4_digest_72 : decode cX4_digest 72 = .ok (.invokevirtual 265, 3) := by decide +kernel
theorem dX4_digest_75 : decode cX4_digest 75 = .ok (.lstore_n 1, 1) := by decide +kernel
theorem dX4_digest_76 : decode cX4_digest 76 = .ok (.lload_n 1, 1) := by decide +kernel
theorem dX4_digest_77 : decode cX4_digest 77 = .ok (.aload_n 0, 1) := by decide +kernel
theorem dX4_digest_78 : decode cX4_digest 78 = .ok (.getfield 10, 3) := by decide +kernel
theorem dX4_digest_81 : decode cX4_digest 81 = .ok (.getfield 172, 3) := by decide +kernel
theorem dX4_digest_84 : decode cX4_digest 84 = .ok (.invokestatic 258, 3) := by decide +kernel
theorem dX4_digest_87 : decode cX4_digest 87 = .ok (.lstore_n 1, 1) := by decide +kernel
theorem dX4_digest_88 : decode cX4_digest 88 = .ok (.lload_n 1, 1) := by decide +kernel
theorem dX4_digest_89 : decode cX4_digest 89 = .ok (.aload_n 0, 1) := by decide +kernel
theorem dX4_digest_90 : decode cX4_digest 90 = .ok (.getfield 10, 3) := by decide +kernel
theorem dX4_digest_93 : decode cX4_digest 93 = .ok (.invokevirtual 175, 3) := by decide +kernel
theorem dX4_digest_96 : decode cX4_digest 96 = .ok (.invokestatic 258, 3) := by decide +kernel
theorem dX4_digest_99 : decode cX4_digest 99 = .ok (.lstore_n 1, 1) := by decide +kernel
theorem dX4_digest_100 : decode cX4_digest 100 = .ok (.aload_n 0, 1) := by decide +kernel
theorem dX4_digest_101 : decode cX4_digest 101 = .ok (.lload_n 1, 1) := by decide +kernel
theorem dX4_digest_102 : decode cX4_digest 102 = .ok (.invokevirtual 269, 3) := by decide +kernel
theorem dX4_digest_105 : decode cX4_digest 105 = .ok (.lstore_n 1, 1) := by decide +kernel
theorem dX4_digest_106 : decode cX4_digest 106 = .ok (.lload_n 1, 1) := by decide +kernel
theorem dX4_digest_107 : decode cX4_digest 107 = .ok (.aload_n 0, 1) := by decide +kernel
theorem dX4_digest_108 : decode cX4_digest 108 = .ok (.getfield 10, 3) := by decide +kernel
theorem dX4_digest_111 : decode cX4_digest 111 = .ok (.invokevirtual 195, 3) := by decide +kernel
theorem dX4_digest_114 : decode cX4_digest 114 = .ok (.invokestatic 258, 3) := by decide +kernel
theorem dX4_digest_117 : decode cX4_digest 117 = .ok (.lstore_n 1, 1) := by decide +kernel
theorem dX4_digest_118 : decode cX4_digest 118 = .ok (.aload_n 0, 1) := by decide +kernel
theorem dX4_digest_119 : decode cX4_digest 119 = .ok (.lload_n 1, 1) := by decide +kernel
theorem dX4_digest_120 : decode cX4_digest 120 = .ok (.invokevirtual 272, 3) := by decide +kernel
theorem dX4_digest_123 : decode cX4_digest 123 = .ok (.lstore_n 1, 1) := by decide +kernel
theorem dX4_digest_124 : decode cX4_digest 124 = .ok (.lload_n 1, 1) := by decide +kernel
theorem dX4_digest_125 : decode cX4_digest 125 = .ok (.aload_n 0, 1) := by decide +kernel
theorem dX4_digest_126 : decode cX4_digest 126 = .ok (.getfield 32, 3) := by decide +kernel
theorem dX4_digest_129 : decode cX4_digest 129 = .ok (.getfield 233, 3) := by decide +kernel
theorem dX4_digest_132 : decode cX4_digest 132 = .ok (.invokestatic 258, 3) := by decide +kernel
theorem dX4_digest_135 : decode cX4_digest 135 = .ok (.lstore_n 1, 1) := by decide +kernel
theorem dX4_digest_136 : decode cX4_digest 136 = .ok (.lload_n 1, 1) := by decide +kernel
theorem dX4_digest_137 : decode cX4_digest 137 = .ok (.aload_n 0, 1) := by decide +kernel
theorem dX4_digest_138 : decode cX4_digest 138 = .ok (.getfield 25, 3) := by decide +kernel
theorem dX4_digest_141 : decode cX4_digest 141 = .ok (.getfield 248, 3) := by decide +kernel
theorem dX4_digest_144 : decode cX4_digest 144 = .ok (.invokestatic 258, 3) := by decide +kernel
theorem dX4_digest_147 : decode cX4_digest 147 = .ok (.lreturn, 1) := by decide +kernel
theorem dX4_requireClock_0 : decode cX4_requireClock 0 = .ok (.aload_n 0, 1) := by decide +kernel
theorem dX4_requireClock_1 : decode cX4_requireClock 1 = .ok (.getfield 10, 3) := by decide +kernel
theorem dX4_requireClock_4 : decode cX4_requireClock 4 = .ok (.iload_n 1, 1) := by decide +kernel
theorem dX4_requireClock_5 : decode cX4_requireClock 5 = .ok (.invokevirtual 275, 3) := by decide +kernel
theorem dX4_requireClock_8 : decode cX4_requireClock 8 = .ok (.ifCond .ne 14, 3) := by decide +kernel
theorem dX4_requireClock_11 : decode cX4_requireClock 11 = .ok (.new 184, 3) := by decide +kernel
theorem dX4_requireClock_14 : decode cX4_requireClock 14 = .ok (.dup, 1) := by decide +kernel
theorem dX4_requireClock_15 : decode cX4_requireClock 15 = .ok (.ldc_w 278, 3) := by decide +kernel
theorem dX4_requireClock_18 : decode cX4_requireClock 18 = .ok (.invokespecial 188, 3) := by decide +kernel
theorem dX4_requireClock_21 : decode cX4_requireClock 21 = .ok (.athrow, 1) := by decide +kernel
theorem dX4_requireClock_22 : decode cX4_requireClock 22 = .ok (.return_, 1) := by decide +kernel
theorem dX4_requirePhase_0 : decode cX4_requirePhase 0 = .ok (.aload_n 0, 1) := by decide +kernel
theorem dX4_requirePhase_1 : decode cX4_requirePhase 1 = .ok (.getfield 10, 3) := by decide +kernel
theorem dX4_requirePhase_4 : decode cX4_requirePhase 4 = .ok (.iload_n 1, 1) := by decide +kernel
theorem dX4_requirePhase_5 : decode cX4_requirePhase 5 = .ok (.invokevirtual 280, 3) := by decide +kernel
theorem dX4_requirePhase_8 : decode cX4_requirePhase 8 = .ok (.ifCond .ne 14, 3) := by decide +kernel
theorem dX4_requirePhase_11 : decode cX4_requirePhase 11 = .ok (.new 66, 3) := by decide +kernel
theorem dX4_requirePhase_14 : decode cX4_requirePhase 14 = .ok (.dup, 1) := by decide +kernel
theorem dX4_requirePhase_15 : decode cX4_requirePhase 15 = .ok (.ldc_w 283, 3) := by decide +kernel
theorem dX4_requirePhase_18 : decode cX4_requirePhase 18 = .ok (.invokespecial 70, 3) := by decide +kernel
theorem dX4_requirePhase_21 : decode cX4_requirePhase 21 = .ok (.athrow, 1) := by decide +kernel
theorem dX4_requirePhase_22 : decode cX4_requirePhase 22 = .ok (.return_, 1) := by decide +kernel
theorem dX4_requireLimit_0 : decode cX4_requireLimit 0 = .ok (.iload_n 0, 1) := by decide +kernel
theorem dX4_requireLimit_1 : decode cX4_requireLimit 1 = .ok (.iconst 1, 1) := by decide +kernel
theorem dX4_requireLimit_2 : decode cX4_requireLimit 2 = .ok (.if_icmp .lt 10, 3) := by decide +kernel
theorem dX4_requireLimit_5 : decode cX4_requireLimit 5 = .ok (.iload_n 0, 1) := by decide +kernel
theorem dX4_requireLimit_6 : decode cX4_requireLimit 6 = .ok (.sipush 400, 3) := by decide +kernel
theorem dX4_requireLimit_9 : decode cX4_requireLimit 9 = .ok (.if_icmp .le 14, 3) := by decide +kernel
theorem dX4_requireLimit_12 : decode cX4_requireLimit 12 = .ok (.new 66, 3) := by decide +kernel
theorem dX4_requireLimit_15 : decode cX4_requireLimit 15 = .ok (.dup, 1) := by decide +kernel
theorem dX4_requireLimit_16 : decode cX4_requireLimit 16 = .ok (.ldc_w 285, 3) := by decide +kernel
theorem dX4_requireLimit_19 : decode cX4_requireLimit 19 = .ok (.invokespecial 70, 3) := by decide +kernel
theorem dX4_requireLimit_22 : decode cX4_requireLimit 22 = .ok (.athrow, 1) := by decide +kernel
theorem dX4_requireLimit_23 : decode cX4_requireLimit 23 = .ok (.return_, 1) := by decide +kernel
theorem dX4_isBlinking_0 : decode cX4_isBlinking 0 = .ok (.iload_n 0, 1) := by decide +kernel
theorem dX4_isBlinking_1 : decode cX4_isBlinking 1 = .ok (.iconst 1, 1) := by decide +kernel
theorem dX4_isBlinking_2 : decode cX4_isBlinking 2 = .ok (.if_icmp .lt 23, 3) := by decide +kernel
theorem dX4_isBlinking_5 : decode cX4_isBlinking 5 = .ok (.iload_n 0, 1) := by decide +kernel
theorem dX4_isBlinking_6 : decode cX4_isBlinking 6 = .ok (.bipush 99, 2) := by decide +kernel
theorem dX4_isBlinking_8 : decode cX4_isBlinking 8 = .ok (.if_icmp .gt 17, 3) := by decide +kernel
theorem dX4_isBlinking_11 : decode cX4_isBlinking 11 = .ok (.iload_n 1, 1) := by decide +kernel
theorem dX4_isBlinking_12 : decode cX4_isBlinking 12 = .ok (.ifCond .lt 13, 3) := by decide +kernel
theorem dX4_isBlinking_15 : decode cX4_isBlinking 15 = .ok (.iload_n 1, 1) := by decide +kernel
theorem dX4_isBlinking_16 : decode cX4_isBlinking 16 = .ok (.bipush 98, 2) := by decide +kernel
theorem dX4_isBlinking_18 : decode cX4_isBlinking 18 = .ok (.if_icmp .gt 7, 3) := by decide +kernel
theorem dX4_isBlinking_21 : decode cX4_isBlinking 21 = .ok (.iconst 1, 1) := by decide +kernel
theorem dX4_isBlinking_22 : decode cX4_isBlinking 22 = .ok (.goto 4, 3) := by decide +kernel
theorem dX4_isBlinking_25 : decode cX4_isBlinking 25 = .ok (.iconst 0, 1) := by decide +kernel
theorem dX4_isBlinking_26 : decode cX4_isBlinking 26 = .ok (.ireturn, 1) := by decide +kernel
theorem dX4_isDelay_0 : decode cX4_isDelay 0 = .ok (.iload_n 0, 1) := by decide +kernel
theorem dX4_isDelay_1 : decode cX4_isDelay 1 = .ok (.ifCond .lt 13, 3) := by decide +kernel
theorem dX4_isDelay_4 : decode cX4_isDelay 4 = .ok (.iload_n 0, 1) := by decide +kernel
theorem dX4_isDelay_5 : decode cX4_isDelay 5 = .ok (.bipush 9, 2) := by decide +kernel
theorem dX4_isDelay_7 : decode cX4_isDelay 7 = .ok (.if_icmp .gt 7, 3) := by decide +kernel
theorem dX4_isDelay_10 : decode cX4_isDelay 10 = .ok (.iconst 1, 1) := by decide +kernel
theorem dX4_isDelay_11 : decode cX4_isDelay 11 = .ok (.goto 4, 3) := by decide +kernel
theorem dX4_isDelay_14 : decode cX4_isDelay 14 = .ok (.iconst 0, 1) := by decide +kernel
theorem dX4_isDelay_15 : decode cX4_isDelay 15 = .ok (.ireturn, 1) := by decide +kernel
theorem dX4_isTickNumber_0 : decode cX4_isTickNumber 0 = .ok (.iload_n 0, 1) := by decide +kernel
theorem dX4_isTickNumber_1 : decode cX4_isTickNumber 1 = .ok (.iconst 1, 1) := by decide +kernel
theorem dX4_isTickNumber_2 : decode cX4_isTickNumber 2 = .ok (.if_icmp .lt 13, 3) := by decide +kernel
theorem dX4_isTickNumber_5 : decode cX4_isTickNumber 5 = .ok (.iload_n 0, 1) := by decide +kernel
theorem dX4_isTickNumber_6 : decode cX4_isTickNumber 6 = .ok (.bipush 99, 2) := by decide +kernel
theorem dX4_isTickNumber_8 : decode cX4_isTickNumber 8 = .ok (.if_icmp .gt 7, 3) := by decide +kernel
theorem dX4_isTickNumber_11 : decode cX4_isTickNumber 11 = .ok (.iconst 1, 1) := by decide +kernel
theorem dX4_isTickNumber_12 : decode cX4_isTickNumber 12 = .ok (.goto 4, 3) := by decide +kernel
theorem dX4_isTickNumber_15 : decode cX4_isTickNumber 15 = .ok (.iconst 0, 1) := by decide +kernel
theorem dX4_isTickNumber_16 : decode cX4_isTickNumber 16 = .ok (.ireturn, 1) := by decide +kernel
theorem dX4_imaginePhase_0 : decode cX4_imaginePhase 0 = .ok (.aload_n 0, 1) := by decide +kernel
theorem dX4_imaginePhase_1 : decode cX4_imaginePhase 1 = .ok (.getfield 16, 3) := by decide +kernel
theorem dX4_imaginePhase_4 : decode cX4_imaginePhase 4 = .ok (.aload_n 0, 1) := by decide +kernel
theorem dX4_imaginePhase_5 : decode cX4_imaginePhase 5 = .ok (.getfield 10, 3) := by decide +kernel
theorem dX4_imaginePhase_8 : decode cX4_imaginePhase 8 = .ok (.invokevirtual 203, 3) := by decide +kernel
theorem dX4_imaginePhase_11 : decode cX4_imaginePhase 11 = .ok (.aload_n 0, 1) := by decide +kernel
theorem dX4_imaginePhase_12 : decode cX4_imaginePhase 12 = .ok (.getfield 16, 3) := by decide +kernel
theorem dX4_imaginePhase_15 : decode cX4_imaginePhase 15 = .ok (.iload_n 1, 1) := by decide +kernel
theorem dX4_imaginePhase_16 : decode cX4_imaginePhase 16 = .ok (.iload_n 2, 1) := by decide +kernel
theorem dX4_imaginePhase_17 : decode cX4_imaginePhase 17 = .ok (.invokevirtual 62, 3) := by decide +kernel
theorem dX4_imaginePhase_20 : decode cX4_imaginePhase 20 = .ok (.pop, 1) := by decide +kernel
theorem dX4_imaginePhase_21 : decode cX4_imaginePhase 21 = .ok (.return_, 1) := by decide +kernel
theorem dX4_lengthOfCycle_0 : decode cX4_lengthOfCycle 0 = .ok (.aload_n 0, 1) := by decide +kernel
theorem dX4_lengthOfCycle_1 : decode cX4_lengthOfCycle 1 = .ok (.getfield 19, 3) := by decide +kernel
theorem dX4_lengthOfCycle_4 : decode cX4_lengthOfCycle 4 = .ok (.aload_n 0, 1) := by decide +kernel
theorem dX4_lengthOfCycle_5 : decode cX4_lengthOfCycle 5 = .ok (.getfield 10, 3) := by decide +kernel
theorem dX4_lengthOfCycle_8 : decode cX4_lengthOfCycle 8 = .ok (.invokevirtual 203, 3) := by decide +kernel
theorem dX4_lengthOfCycle_11 : decode cX4_lengthOfCycle 11 = .ok (.aload_n 0, 1) := by decide +kernel
theorem dX4_lengthOfCycle_12 : decode cX4_lengthOfCycle 12 = .ok (.getfield 19, 3) := by decide +kernel
theorem dX4_lengthOfCycle_15 : decode cX4_lengthOfCycle 15 = .ok (.iload_n 1, 1) := by decide +kernel
theorem dX4_lengthOfCycle_16 : decode cX4_lengthOfCycle 16 = .ok (.invokevirtual 151, 3) := by decide +kernel
theorem dX4_lengthOfCycle_19 : decode cX4_lengthOfCycle 19 = .ok (.pop, 1) := by decide +kernel
theorem dX4_lengthOfCycle_20 : decode cX4_lengthOfCycle 20 = .ok (.aload_n 0, 1) := by decide +kernel
theorem dX4_lengthOfCycle_21 : decode cX4_lengthOfCycle 21 = .ok (.getfield 16, 3) := by decide +kernel
theorem dX4_lengthOfCycle_24 : decode cX4_lengthOfCycle 24 = .ok (.aload_n 0, 1) := by decide +kernel
theorem dX4_lengthOfCycle_25 : decode cX4_lengthOfCycle 25 = .ok (.getfield 19, 3) := by decide +kernel
theorem dX4_lengthOfCycle_28 : decode cX4_lengthOfCycle 28 = .ok (.invokevirtual 203, 3) := by decide +kernel
theorem dX4_lengthOfCycle_31 : decode cX4_lengthOfCycle 31 = .ok (.iconst 1, 1) := by decide +kernel
theorem dX4_lengthOfCycle_32 : decode cX4_lengthOfCycle 32 = .ok (.istore_n 2, 1) := by decide +kernel
theorem dX4_lengthOfCycle_33 : decode cX4_lengthOfCycle 33 = .ok (.iload_n 2, 1) := by decide +kernel
theorem dX4_lengthOfCycle_34 : decode cX4_lengthOfCycle 34 = .ok (.iload_n 1, 1) := by decide +kernel
theorem dX4_lengthOfCycle_35 : decode cX4_lengthOfCycle 35 = .ok (.if_icmp .gt 34, 3) := by decide +kernel
theorem dX4_lengthOfCycle_38 : decode cX4_lengthOfCycle 38 = .ok (.aload_n 0, 1) := by decide +kernel
theorem dX4_lengthOfCycle_39 : decode cX4_lengthOfCycle 39 = .ok (.getfield 16, 3) := by decide +kernel
theorem dX4_lengthOfCycle_42 : decode cX4_lengthOfCycle 42 = .ok (.iconst 1, 1) := by decide +kernel
theorem dX4_lengthOfCycle_43 : decode cX4_lengthOfCycle 43 = .ok (.invokevirtual 151, 3) := by decide +kernel
theorem dX4_lengthOfCycle_46 : decode cX4_lengthOfCycle 46 = .ok (.pop, 1) := by decide +kernel
theorem dX4_lengthOfCycle_47 : decode cX4_lengthOfCycle 47 = .ok (.aload_n 0, 1) := by decide +kernel
theorem dX4_lengthOfCycle_48 : decode cX4_lengthOfCycle 48 = .ok (.getfield 16, 3) := by decide +kernel
theorem dX4_lengthOfCycle_51 : decode cX4_lengthOfCycle 51 = .ok (.aload_n 0, 1) := by decide +kernel
theorem dX4_lengthOfCycle_52 : decode cX4_lengthOfCycle 52 = .ok (.getfield 19, 3) := by decide +kernel
theorem dX4_lengthOfCycle_55 : decode cX4_lengthOfCycle 55 = .ok (.invokevirtual 287, 3) := by decide +kernel
theorem dX4_lengthOfCycle_58 : decode cX4_lengthOfCycle 58 = .ok (.ifCond .eq 5, 3) := by decide +kernel
theorem dX4_lengthOfCycle_61 : decode cX4_lengthOfCycle 61 = .ok (.iload_n 2, 1) := by decide +kernel
theorem dX4_lengthOfCycle_62 : decode cX4_lengthOfCycle 62 = .ok (.ireturn, 1) := by decide +kernel
theorem dX4_lengthOfCycle_63 : decode cX4_lengthOfCycle 63 = .ok (.iinc 2 1, 3) := by decide +kernel
theorem dX4_lengthOfCycle_66 : decode cX4_lengthOfCycle 66 = .ok (.goto (-33), 3) := by decide +kernel
theorem dX4_lengthOfCycle_69 : decode cX4_lengthOfCycle 69 = .ok (.iconst (-1), 1) := by decide +kernel
theorem dX4_lengthOfCycle_70 : decode cX4_lengthOfCycle 70 = .ok (.ireturn, 1) := by decide +kernel
theorem dX4_startOfCycle_0 : decode cX4_startOfCycle 0 = .ok (.aload_n 0, 1) := by decide +kernel
theorem dX4_startOfCycle_1 : decode cX4_startOfCycle 1 = .ok (.getfield 16, 3) := by decide +kernel
theorem dX4_startOfCycle_4 : decode cX4_startOfCycle 4 = .ok (.aload_n 0, 1) := by decide +kernel
theorem dX4_startOfCycle_5 : decode cX4_startOfCycle 5 = .ok (.getfield 10, 3) := by decide +kernel
theorem dX4_startOfCycle_8 : decode cX4_startOfCycle 8 = .ok (.invokevirtual 203, 3) := by decide +kernel
theorem dX4_startOfCycle_11 : decode cX4_startOfCycle 11 = .ok (.aload_n 0, 1) := by decide +kernel
theorem dX4_startOfCycle_12 : decode cX4_startOfCycle 12 = .ok (.getfield 19, 3) := by decide +kernel
theorem dX4_startOfCycle_15 : decode cX4_startOfCycle 15 = .ok (.aload_n 0, 1) := by decide +kernel
theorem dX4_startOfCycle_16 : decode cX4_startOfCycle 16 = .ok (.getfield 10, 3) := by decide +kernel
theorem dX4_startOfCycle_19 : decode cX4_startOfCycle 19 = .ok (.invokevirtual 203, 3) := by decide +kernel
theorem dX4_startOfCycle_22 : decode cX4_startOfCycle 22 = .ok (.aload_n 0, 1) := by decide +kernel
theorem dX4_startOfCycle_23 : decode cX4_startOfCycle 23 = .ok (.getfield 19, 3) := by decide +kernel
theorem dX4_startOfCycle_26 : decode cX4_startOfCycle 26 = .ok (.iload_n 1, 1) := by decide +kernel
theorem dX4_startOfCycle_27 : decode cX4_startOfCycle 27 = .ok (.invokevirtual 151, 3) := by decide +kernel
theorem dX4_startOfCycle_30 : decode cX4_startOfCycle 30 = .ok (.pop, 1) := by decide +kernel
theorem dX4_startOfCycle_31 : decode cX4_startOfCycle 31 = .ok (.iconst 0, 1) := by decide +kernel
theorem dX4_startOfCycle_32 : decode cX4_startOfCycle 32 = .ok (.istore_n 3, 1) := by decide +kernel
theorem dX4_startOfCycle_33 : decode cX4_startOfCycle 33 = .ok (.iload_n 3, 1) := by decide +kernel
theorem dX4_startOfCycle_34 : decode cX4_startOfCycle 34 = .ok (.iload_n 2, 1) := by decide +kernel
theorem dX4_startOfCycle_35 : decode cX4_startOfCycle 35 = .ok (.iload_n 1, 1) := by decide +kernel
theorem dX4_startOfCycle_36 : decode cX4_startOfCycle 36 = .ok (.isub, 1) := by decide +kernel
theorem dX4_startOfCycle_37 : decode cX4_startOfCycle 37 = .ok (.if_icmp .gt 43, 3) := by decide +kernel
theorem dX4_startOfCycle_40 : decode cX4_startOfCycle 40 = .ok (.aload_n 0, 1) := by decide +kernel
theorem dX4_startOfCycle_41 : decode cX4_startOfCycle 41 = .ok (.getfield 16, 3) := by decide +kernel
theorem dX4_startOfCycle_44 : decode cX4_startOfCycle 44 = .ok (.aload_n 0, 1) := by decide +kernel
theorem dX4_startOfCycle_45 : decode cX4_startOfCycle 45 = .ok (.getfield 19, 3) := by decide +kernel
theorem dX4_startOfCycle_48 : decode cX4_startOfCycle 48 = .ok (.invokevirtual 287, 3) := by decide +kernel
theorem dX4_startOfCycle_51 : decode cX4_startOfCycle 51 = .ok (.ifCond .eq 5, 3) := by decide +kernel
theorem dX4_startOfCycle_54 : decode cX4_startOfCycle 54 = .ok (.iload_n 3, 1) := by decide +kernel
theorem dX4_startOfCycle_55 : decode cX4_startOfCycle 55 = .ok (.ireturn, 1) := by decide +kernel
theorem dX4_startOfCycle_56 : decode cX4_startOfCycle 56 = .ok (.aload_n 0, 1) := by decide +kernel
theorem dX4_startOfCycle_57 : decode cX4_startOfCycle 57 = .ok (.getfield 16, 3) := by decide +kernel
theorem dX4_startOfCycle_60 : decode cX4_startOfCycle 60 = .ok (.iconst 1, 1) := by decide +kernel
theorem dX4_startOfCycle_61 : decode cX4_startOfCycle 61 = .ok (.invokevirtual 151, 3) := by decide +kernel
theorem dX4_startOfCycle_64 : decode cX4_startOfCycle 64 = .ok (.pop, 1) := by decide +kernel
theorem dX4_startOfCycle_65 : decode cX4_startOfCycle 65 = .ok (.aload_n 0, 1) := by decide +kernel
theorem dX4_startOfCycle_66 : decode cX4_startOfCycle 66 = .ok (.getfield 19, 3) := by decide +kernel
theorem dX4_startOfCycle_69 : decode cX4_startOfCycle 69 = .ok (.iconst 1, 1) := by decide +kernel
theorem dX4_startOfCycle_70 : decode cX4_startOfCycle 70 = .ok (.invokevirtual 151, 3) := by decide +kernel
theorem dX4_startOfCycle_73 : decode cX4_startOfCycle 73 = .ok (.pop, 1) := by decide +kernel
theorem dX4_startOfCycle_74 : decode cX4_startOfCycle 74 = .ok (.iinc 3 1, 3) := by decide +kernel
theorem dX4_startOfCycle_77 : decode cX4_startOfCycle 77 = .ok (.goto (-44), 3) := by decide +kernel
theorem dX4_startOfCycle_80 : decode cX4_startOfCycle 80 = .ok (.iconst (-1), 1) := by decide +kernel
theorem dX4_startOfCycle_81 : decode cX4_startOfCycle 81 = .ok (.ireturn, 1) := by decide +kernel
theorem dX4_runInThought_0 : decode cX4_runInThought 0 = .ok (.aload_n 0, 1) := by decide +kernel
theorem dX4_runInThought_1 : decode cX4_runInThought 1 = .ok (.getfield 32, 3) := by decide +kernel
theorem dX4_runInThought_4 : decode cX4_runInThought 4 = .ok (.iload_n 1, 1) := by decide +kernel
theorem dX4_runInThought_5 : decode cX4_runInThought 5 = .ok (.iconst 0, 1) := by decide +kernel
theorem dX4_runInThought_6 : decode cX4_runInThought 6 = .ok (.invokevirtual 291, 3) := by decide +kernel
theorem dX4_runInThought_9 : decode cX4_runInThought 9 = .ok (.istore_n 2, 1) := by decide +kernel
theorem dX4_runInThought_10 : decode cX4_runInThought 10 = .ok (.aload_n 0, 1) := by decide +kernel
theorem dX4_runInThought_11 : decode cX4_runInThought 11 = .ok (.getfield 32, 3) := by decide +kernel
theorem dX4_runInThought_14 : decode cX4_runInThought 14 = .ok (.iload_n 1, 1) := by decide +kernel
theorem dX4_runInThought_15 : decode cX4_runInThought 15 = .ok (.iconst 1, 1) := by decide +kernel
theorem dX4_runInThought_16 : decode cX4_runInThought 16 = .ok (.invokevirtual 291, 3) := by decide +kernel
theorem dX4_runInThought_19 : decode cX4_runInThought 19 = .ok (.istore_n 3, 1) := by decide +kernel
theorem dX4_runInThought_20 : decode cX4_runInThought 20 = .ok (.aload_n 0, 1) := by decide +kernel
theorem dX4_runInThought_21 : decode cX4_runInThought 21 = .ok (.getfield 32, 3) := by decide +kernel
theorem dX4_runInThought_24 : decode cX4_runInThought 24 = .ok (.iload_n 1, 1) := by decide +kernel
theorem dX4_runInThought_25 : decode cX4_runInThought 25 = .ok (.iconst 2, 1) := by decide +kernel
theorem dX4_runInThought_26 : decode cX4_runInThought 26 = .ok (.invokevirtual 291, 3) := by decide +kernel
theorem dX4_runInThought_29 : decode cX4_runInThought 29 = .ok (.istore 4, 2) := by decide +kernel
theorem dX4_runInThought_31 : decode cX4_runInThought 31 = .ok (.aload_n 0, 1) := by decide +kernel
theorem dX4_runInThought_32 : decode cX4_runInThought 32 = .ok (.getfield 32, 3) := by decide +kernel
theorem dX4_runInThought_35 : decode cX4_runInThought 35 = .ok (.iload_n 1, 1) := by decide +kernel
theorem dX4_runInThought_36 : decode cX4_runInThought 36 = .ok (.invokevirtual 294, 3) := by decide +kernel
theorem dX4_runInThought_39 : decode cX4_runInThought 39 = .ok (.lookupswitch 100 #[(97, 49), (98, 71), (108, 62), (112, 55), (116, 80)], 49) := by decide +kernel
theorem dX4_runInThought_88 : decode cX4_runInThought 88 = .ok (.aload_n 0, 1) := by decide +kernel
theorem dX4_runInThought_89 : decode cX4_runInThought 89 = .ok (.iload_n 2, 1) := by decide +kernel
theorem dX4_runInThought_90 : decode cX4_runInThought 90 = .ok (.invokevirtual 297, 3) := by decide +kernel
theorem dX4_runInThought_93 : decode cX4_runInThought 93 = .ok (.ireturn, 1) := by decide +kernel
theorem dX4_runInThought_94 : decode cX4_runInThought 94 = .ok (.aload_n 0, 1) := by decide +kernel
theorem dX4_runInThought_95 : decode cX4_runInThought 95 = .ok (.iload_n 2, 1) := by decide +kernel
theorem dX4_runInThought_96 : decode cX4_runInThought 96 = .ok (.iload_n 3, 1) := by decide +kernel
theorem dX4_runInThought_97 : decode cX4_runInThought 97 = .ok (.invokevirtual 300, 3) := by decide +kernel
theorem dX4_runInThought_100 : decode cX4_runInThought 100 = .ok (.ireturn, 1) := by decide +kernel
theorem dX4_runInThought_101 : decode cX4_runInThought 101 = .ok (.aload_n 0, 1) := by decide +kernel
theorem dX4_runInThought_102 : decode cX4_runInThought 102 = .ok (.iload_n 2, 1) := by decide +kernel
theorem dX4_runInThought_103 : decode cX4_runInThought 103 = .ok (.iload_n 3, 1) := by decide +kernel
theorem dX4_runInThought_104 : decode cX4_runInThought 104 = .ok (.iload 4, 2) := by decide +kernel
theorem dX4_runInThought_106 : decode cX4_runInThought 106 = .ok (.invokevirtual 303, 3) := by decide +kernel
theorem dX4_runInThought_109 : decode cX4_runInThought 109 = .ok (.ireturn, 1) := by decide +kernel
theorem dX4_runInThought_110 : decode cX4_runInThought 110 = .ok (.aload_n 0, 1) := by decide +kernel
theorem dX4_runInThought_111 : decode cX4_runInThought 111 = .ok (.iload_n 2, 1) := by decide +kernel
theorem dX4_runInThought_112 : decode cX4_runInThought 112 = .ok (.iload_n 3, 1) := by decide +kernel
theorem dX4_runInThought_113 : decode cX4_runInThought 113 = .ok (.iload 4, 2) := by decide +kernel
theorem dX4_runInThought_115 : decode cX4_runInThought 115 = .ok (.invokevirtual 307, 3) := by decide +kernel
theorem dX4_runInThought_118 : decode cX4_runInThought 118 = .ok (.ireturn, 1) := by decide +kernel
theorem dX4_runInThought_119 : decode cX4_runInThought 119 = .ok (.iload_n 2, 1) := by decide +kernel
theorem dX4_runInThought_120 : decode cX4_runInThought 120 = .ok (.invokestatic 146, 3) := by decide +kernel
theorem dX4_runInThought_123 : decode cX4_runInThought 123 = .ok (.ifCond .ne 5, 3) := by decide +kernel
theorem dX4_runInThought_126 : decode cX4_runInThought 126 = .ok (.iconst 0, 1) := by decide +kernel
theorem dX4_runInThought_127 : decode cX4_runInThought 127 = .ok (.ireturn, 1) := by decide +kernel
theorem dX4_runInThought_128 : decode cX4_runInThought 128 = .ok (.aload_n 0, 1) := by decide +kernel
theorem dX4_runInThought_129 : decode cX4_runInThought 129 = .ok (.getfield 16, 3) := by decide +kernel
theorem dX4_runInThought_132 : decode cX4_runInThought 132 = .ok (.iload_n 2, 1) := by decide +kernel
theorem dX4_runInThought_133 : decode cX4_runInThought 133 = .ok (.invokevirtual 151, 3) := by decide +kernel
theorem dX4_runInThought_136 : decode cX4_runInThought 136 = .ok (.pop, 1) := by decide +kernel
theorem dX4_runInThought_137 : decode cX4_runInThought 137 = .ok (.iconst 1, 1) := by decide +kernel
theorem dX4_runInThought_138 : decode cX4_runInThought 138 = .ok (.ireturn, 1) := by decide +kernel
theorem dX4_runInThought_139 : decode cX4_runInThought 139 = .ok (.iconst 0, 1) := by decide +kernel
theorem dX4_runInThought_140 : decode cX4_runInThought 140 = .ok (.ireturn, 1) := by decide +kernel
theorem dX4_addInThought_0 : decode cX4_addInThought 0 = .ok (.aload_n 0, 1) := by decide +kernel
theorem dX4_addInThought_1 : decode cX4_addInThought 1 = .ok (.getfield 16, 3) := by decide +kernel
theorem dX4_addInThought_4 : decode cX4_addInThought 4 = .ok (.iload_n 1, 1) := by decide +kernel
theorem dX4_addInThought_5 : decode cX4_addInThought 5 = .ok (.invokevirtual 280, 3) := by decide +kernel
theorem dX4_addInThought_8 : decode cX4_addInThought 8 = .ok (.ifCond .eq 13, 3) := by decide +kernel
theorem dX4_addInThought_11 : decode cX4_addInThought 11 = .ok (.aload_n 0, 1) := by decide +kernel
theorem dX4_addInThought_12 : decode cX4_addInThought 12 = .ok (.getfield 16, 3) := by decide +kernel
theorem dX4_addInThought_15 : decode cX4_addInThought 15 = .ok (.invokevirtual 40, 3) := by decide +kernel
theorem dX4_addInThought_18 : decode cX4_addInThought 18 = .ok (.ifCond .eq 5, 3) := by decide +kernel
theorem dX4_addInThought_21 : decode cX4_addInThought 21 = .ok (.iconst 0, 1) := by decide +kernel
theorem dX4_addInThought_22 : decode cX4_addInThought 22 = .ok (.ireturn, 1) := by decide +kernel
theorem dX4_addInThought_23 : decode cX4_addInThought 23 = .ok (.aload_n 0, 1) := by decide +kernel
theorem dX4_addInThought_24 : decode cX4_addInThought 24 = .ok (.getfield 16, 3) := by decide +kernel
theorem dX4_addInThought_27 : decode cX4_addInThought 27 = .ok (.iload_n 1, 1) := by decide +kernel
theorem dX4_addInThought_28 : decode cX4_addInThought 28 = .ok (.invokevirtual 55, 3) := by decide +kernel
theorem dX4_addInThought_31 : decode cX4_addInThought 31 = .ok (.pop, 1) := by decide +kernel
theorem dX4_addInThought_32 : decode cX4_addInThought 32 = .ok (.iconst 1, 1) := by decide +kernel
theorem dX4_addInThought_33 : decode cX4_addInThought 33 = .ok (.ireturn, 1) := by decide +kernel
theorem dX4_setPhaseInThought_0 : decode cX4_setPhaseInThought 0 = .ok (.aload_n 0, 1) := by decide +kernel
theorem dX4_setPhaseInThought_1 : decode cX4_setPhaseInThought 1 = .ok (.getfield 16, 3) := by decide +kernel
theorem dX4_setPhaseInThought_4 : decode cX4_setPhaseInThought 4 = .ok (.iload_n 1, 1) := by decide +kernel
theorem dX4_setPhaseInThought_5 : decode cX4_setPhaseInThought 5 = .ok (.invokevirtual 275, 3) := by decide +kernel
theorem dX4_setPhaseInThought_8 : decode cX4_setPhaseInThought 8 = .ok (.ifCond .eq 14, 3) := by decide +kernel
theorem dX4_setPhaseInThought_11 : decode cX4_setPhaseInThought 11 = .ok (.aload_n 0, 1) := by decide +kernel
theorem dX4_setPhaseInThought_12 : decode cX4_setPhaseInThought 12 = .ok (.getfield 16, 3) := by decide +kernel
theorem dX4_setPhaseInThought_15 : decode cX4_setPhaseInThought 15 = .ok (.iload_n 2, 1) := by decide +kernel
theorem dX4_setPhaseInThought_16 : decode cX4_setPhaseInThought 16 = .ok (.invokevirtual 280, 3) := by decide +kernel
theorem dX4_setPhaseInThought_19 : decode cX4_setPhaseInThought 19 = .ok (.ifCond .ne 5, 3) := by decide +kernel
theorem dX4_setPhaseInThought_22 : decode cX4_setPhaseInThought 22 = .ok (.iconst 0, 1) := by decide +kernel
theorem dX4_setPhaseInThought_23 : decode cX4_setPhaseInThought 23 = .ok (.ireturn, 1) := by decide +kernel
theorem dX4_setPhaseInThought_24 : decode cX4_setPhaseInThought 24 = .ok (.aload_n 0, 1) := by decide +kernel
theorem dX4_setPhaseInThought_25 : decode cX4_setPhaseInThought 25 = .ok (.getfield 16, 3) := by decide +kernel
theorem dX4_setPhaseInThought_28 : decode cX4_setPhaseInThought 28 = .ok (.iload_n 1, 1) := by decide +kernel
theorem dX4_setPhaseInThought_29 : decode cX4_setPhaseInThought 29 = .ok (.iload_n 2, 1) := by decide +kernel
theorem dX4_setPhaseInThought_30 : decode cX4_setPhaseInThought 30 = .ok (.invokevirtual 62, 3) := by decide +kernel
theorem dX4_setPhaseInThought_33 : decode cX4_setPhaseInThought 33 = .ok (.pop, 1) := by decide +kernel
theorem dX4_setPhaseInThought_34 : decode cX4_setPhaseInThought 34 = .ok (.iconst 1, 1) := by decide +kernel
theorem dX4_setPhaseInThought_35 : decode cX4_setPhaseInThought 35 = .ok (.ireturn, 1) := by decide +kernel
theorem dX4_linkInThought_0 : decode cX4_linkInThought 0 = .ok (.aload_n 0, 1) := by decide +kernel
theorem dX4_linkInThought_1 : decode cX4_linkInThought 1 = .ok (.getfield 16, 3) := by decide +kernel
theorem dX4_linkInThought_4 : decode cX4_linkInThought 4 = .ok (.iload_n 1, 1) := by decide +kernel
theorem dX4_linkInThought_5 : decode cX4_linkInThought 5 = .ok (.invokevirtual 275, 3) := by decide +kernel
theorem dX4_linkInThought_8 : decode cX4_linkInThought 8 = .ok (.ifCond .eq 26, 3) := by decide +kernel
theorem dX4_linkInThought_11 : decode cX4_linkInThought 11 = .ok (.aload_n 0, 1) := by decide +kernel
theorem dX4_linkInThought_12 : decode cX4_linkInThought 12 = .ok (.getfield 16, 3) := by decide +kernel
theorem dX4_linkInThought_15 : decode cX4_linkInThought 15 = .ok (.iload_n 2, 1) := by decide +kernel
theorem dX4_linkInThought_16 : decode cX4_linkInThought 16 = .ok (.invokevirtual 275, 3) := by decide +kernel
theorem dX4_linkInThought_19 : decode cX4_linkInThought 19 = .ok (.ifCond .eq 15, 3) := by decide +kernel
theorem dX4_linkInThought_22 : decode cX4_linkInThought 22 = .ok (.iload_n 1, 1) := by decide +kernel
theorem dX4_linkInThought_23 : decode cX4_linkInThought 23 = .ok (.iload_n 2, 1) := by decide +kernel
theorem dX4_linkInThought_24 : decode cX4_linkInThought 24 = .ok (.if_icmp .eq 10, 3) := by decide +kernel
theorem dX4_linkInThought_27 : decode cX4_linkInThought 27 = .ok (.iload_n 3, 1) := by decide +kernel
theorem dX4_linkInThought_28 : decode cX4_linkInThought 28 = .ok (.invokestatic 97, 3) := by decide +kernel
theorem dX4_linkInThought_31 : decode cX4_linkInThought 31 = .ok (.ifCond .ne 5, 3) := by decide +kernel
theorem dX4_linkInThought_34 : decode cX4_linkInThought 34 = .ok (.iconst 0, 1) := by decide +kernel
theorem dX4_linkInThought_35 : decode cX4_linkInThought 35 = .ok (.ireturn, 1) := by decide +kernel
theorem dX4_linkInThought_36 : decode cX4_linkInThought 36 = .ok (.aload_n 0, 1) := by decide +kernel
theorem dX4_linkInThought_37 : decode cX4_linkInThought 37 = .ok (.getfield 16, 3) := by decide +kernel
theorem dX4_linkInThought_40 : decode cX4_linkInThought 40 = .ok (.iload_n 1, 1) := by decide +kernel
theorem dX4_linkInThought_41 : decode cX4_linkInThought 41 = .ok (.iload_n 2, 1) := by decide +kernel
theorem dX4_linkInThought_42 : decode cX4_linkInThought 42 = .ok (.iload_n 3, 1) := by decide +kernel
theorem dX4_linkInThought_43 : decode cX4_linkInThought 43 = .ok (.invokevirtual 102, 3) := by decide +kernel
theorem dX4_linkInThought_46 : decode cX4_linkInThought 46 = .ok (.pop, 1) := by decide +kernel
theorem dX4_linkInThought_47 : decode cX4_linkInThought 47 = .ok (.iconst 1, 1) := by decide +kernel
theorem dX4_linkInThought_48 : decode cX4_linkInThought 48 = .ok (.ireturn, 1) := by decide +kernel
theorem dX4_blinkInThought_0 : decode cX4_blinkInThought 0 = .ok (.aload_n 0, 1) := by decide +kernel
theorem dX4_blinkInThought_1 : decode cX4_blinkInThought 1 = .ok (.getfield 16, 3) := by decide +kernel
theorem dX4_blinkInThought_4 : decode cX4_blinkInThought 4 = .ok (.iload_n 1, 1) := by decide +kernel
theorem dX4_blinkInThought_5 : decode cX4_blinkInThought 5 = .ok (.invokevirtual 275, 3) := by decide +kernel
theorem dX4_blinkInThought_8 : decode cX4_blinkInThought 8 = .ok (.ifCond .eq 11, 3) := by decide +kernel
theorem dX4_blinkInThought_11 : decode cX4_blinkInThought 11 = .ok (.iload_n 2, 1) := by decide +kernel
theorem dX4_blinkInThought_12 : decode cX4_blinkInThought 12 = .ok (.iload_n 3, 1) := by decide +kernel
theorem dX4_blinkInThought_13 : decode cX4_blinkInThought 13 = .ok (.invokestatic 74, 3) := by decide +kernel
theorem dX4_blinkInThought_16 : decode cX4_blinkInThought 16 = .ok (.ifCond .ne 5, 3) := by decide +kernel
theorem dX4_blinkInThought_19 : decode cX4_blinkInThought 19 = .ok (.iconst 0, 1) := by decide +kernel
theorem dX4_blinkInThought_20 : decode cX4_blinkInThought 20 = .ok (.ireturn, 1) := by decide +kernel
theorem dX4_blinkInThought_21 : decode cX4_blinkInThought 21 = .ok (.aload_n 0, 1) := by decide +kernel
theorem dX4_blinkInThought_22 : decode cX4_blinkInThought 22 = .ok (.getfield 16, 3) := by decide +kernel
theorem dX4_blinkInThought_25 : decode cX4_blinkInThought 25 = .ok (.iload_n 1, 1) := by decide +kernel
theorem dX4_blinkInThought_26 : decode cX4_blinkInThought 26 = .ok (.iload_n 2, 1) := by decide +kernel
theorem dX4_blinkInThought_27 : decode cX4_blinkInThought 27 = .ok (.iload_n 3, 1) := by decide +kernel
theorem dX4_blinkInThought_28 : decode cX4_blinkInThought 28 = .ok (.invokevirtual 80, 3) := by decide +kernel
theorem dX4_blinkInThought_31 : decode cX4_blinkInThought 31 = .ok (.iconst 1, 1) := by decide +kernel
theorem dX4_blinkInThought_32 : decode cX4_blinkInThought 32 = .ok (.ireturn, 1) := by decide +kernel
theorem dX4_mix_0 : decode cX4_mix 0 = .ok (.ldc2_w 310, 3) := by decide +kernel
theorem dX4_mix_3 : decode cX4_mix 3 = .ok (.lload_n 0, 1) := by decide +kernel
theorem dX4_mix_4 : decode cX4_mix 4 = .ok (.lmul, 1) := by decide +kernel
theorem dX4_mix_5 : decode cX4_mix 5 = .ok (.iload_n 2, 1) := by decide +kernel
theorem dX4_mix_6 : decode cX4_mix 6 = .ok (.i2l, 1) := by decide +kernel
theorem dX4_mix_7 : decode cX4_mix 7 = .ok (.ladd, 1) := by decide +kernel
theorem dX4_mix_8 : decode cX4_mix 8 = .ok (.lreturn, 1) := by decide +kernel
theorem dX4_mixClocks_0 : decode cX4_mixClocks 0 = .ok (.aload_n 0, 1) := by decide +kernel
theorem dX4_mixClocks_1 : decode cX4_mixClocks 1 = .ok (.getfield 10, 3) := by decide +kernel
theorem dX4_mixClocks_4 : decode cX4_mixClocks 4 = .ok (.getfield 128, 3) := by decide +kernel
theorem dX4_mixClocks_7 : decode cX4_mixClocks 7 = .ok (.istore_n 3, 1) := by decide +kernel
theorem dX4_mixClocks_8 : decode cX4_mixClocks 8 = .ok (.lload_n 1, 1) := by decide +kernel
theorem dX4_mixClocks_9 : decode cX4_mixClocks 9 = .ok (.iload_n 3, 1) := by decide +kernel
theorem dX4_mixClocks_10 : decode cX4_mixClocks 10 = .ok (.invokestatic 258, 3) := by decide +kernel
theorem dX4_mixClocks_13 : decode cX4_mixClocks 13 = .ok (.lstore 4, 2) := by decide +kernel
theorem dX4_mixClocks_15 : decode cX4_mixClocks 15 = .ok (.iconst 0, 1) := by decide +kernel
theorem dX4_mixClocks_16 : decode cX4_mixClocks 16 = .ok (.istore 6, 2) := by decide +kernel
theorem dX4_mixClocks_18 : decode cX4_mixClocks 18 = .ok (.iload 6, 2) := by decide +kernel
theorem dX4_mixClocks_20 : decode cX4_mixClocks 20 = .ok (.iload_n 3, 1) := by decide +kernel
theorem dX4_mixClocks_21 : decode cX4_mixClocks 21 = .ok (.if_icmp .ge 76, 3) := by decide +kernel
theorem dX4_mixClocks_24 : decode cX4_mixClocks 24 = .ok (.iconst 0, 1) := by decide +kernel
theorem dX4_mixClocks_25 : decode cX4_mixClocks 25 = .ok (.istore 7, 2) := by decide +kernel
theorem dX4_mixClocks_27 : decode cX4_mixClocks 27 = .ok (.iload 7, 2) := by decide +kernel
theorem dX4_mixClocks_29 : decode cX4_mixClocks 29 = .ok (.bipush 6, 2) := by decide +kernel
theorem dX4_mixClocks_31 : decode cX4_mixClocks 31 = .ok (.if_icmp .gt 27, 3) := by decide +kernel
theorem dX4_mixClocks_34 : decode cX4_mixClocks 34 = .ok (.lload 4, 2) := by decide +kernel
theorem dX4_mixClocks_36 : decode cX4_mixClocks 36 = .ok (.aload_n 0, 1) := by decide +kernel
theorem dX4_mixClocks_37 : decode cX4_mixClocks 37 = .ok (.getfield 10, 3) := by decide +kernel
theorem dX4_mixClocks_40 : decode cX4_mixClocks 40 = .ok (.iload 6, 2) := by decide +kernel
theorem dX4_mixClocks_42 : decode cX4_mixClocks 42 = .ok (.iload 7, 2) := by decide +kernel
theorem dX4_mixClocks_44 : decode cX4_mixClocks 44 = .ok (.invokevirtual 134, 3) := by decide +kernel
theorem dX4_mixClocks_47 : decode cX4_mixClocks 47 = .ok (.invokestatic 258, 3) := by decide +kernel
theorem dX4_mixClocks_50 : decode cX4_mixClocks 50 = .ok (.lstore 4, 2) := by decide +kernel
theorem dX4_mixClocks_52 : decode cX4_mixClocks 52 = .ok (.iinc 7 1, 3) := by decide +kernel
theorem dX4_mixClocks_55 : decode cX4_mixClocks 55 = .ok (.goto (-28), 3) := by decide +kernel
theorem dX4_mixClocks_58 : decode cX4_mixClocks 58 = .ok (.iconst 0, 1) := by decide +kernel
theorem dX4_mixClocks_59 : decode cX4_mixClocks 59 = .ok (.istore 7, 2) := by decide +kernel
theorem dX4_mixClocks_61 : decode cX4_mixClocks 61 = .ok (.iload 7, 2) := by decide +kernel
theorem dX4_mixClocks_63 : decode cX4_mixClocks 63 = .ok (.iload_n 3, 1) := by decide +kernel
theorem dX4_mixClocks_64 : decode cX4_mixClocks 64 = .ok (.if_icmp .ge 27, 3) := by decide +kernel
theorem dX4_mixClocks_67 : decode cX4_mixClocks 67 = .ok (.lload 4, 2) := by decide +kernel
theorem dX4_mixClocks_69 : decode cX4_mixClocks 69 = .ok (.aload_n 0, 1) := by decide +kernel
theorem dX4_mixClocks_70 : decode cX4_mixClocks 70 = .ok (.getfield 10, 3) := by decide +kernel
theorem dX4_mixClocks_73 : decode cX4_mixClocks 73 = .ok (.iload 6, 2) := by decide +kernel
theorem dX4_mixClocks_75 : decode cX4_mixClocks 75 = .ok (.iload 7, 2) := by decide +kernel
theorem dX4_mixClocks_77 : decode cX4_mixClocks 77 = .ok (.invokevirtual 106, 3) := by decide +kernel
theorem dX4_mixClocks_80 : decode cX4_mixClocks 80 = .ok (.invokestatic 258, 3) := by decide +kernel
theorem dX4_mixClocks_83 : decode cX4_mixClocks 83 = .ok (.lstore 4, 2) := by decide +kernel
theorem dX4_mixClocks_85 : decode cX4_mixClocks 85 = .ok (.iinc 7 1, 3) := by decide +kernel
theorem dX4_mixClocks_88 : decode cX4_mixClocks 88 = .ok (.goto (-27), 3) := by decide +kernel
theorem dX4_mixClocks_91 : decode cX4_mixClocks 91 = .ok (.iinc 6 1, 3) := by decide +kernel
theorem dX4_mixClocks_94 : decode cX4_mixClocks 94 = .ok (.goto (-76), 3) := by decide +kernel
theorem dX4_mixClocks_97 : decode cX4_mixClocks 97 = .ok (.lload 4, 2) := by decide +kernel
theorem dX4_mixClocks_99 : decode cX4_mixClocks 99 = .ok (.lreturn, 1) := by decide +kernel
theorem dX4_mixGroups_0 : decode cX4_mixGroups 0 = .ok (.lload_n 1, 1) := by decide +kernel
theorem dX4_mixGroups_1 : decode cX4_mixGroups 1 = .ok (.aload_n 0, 1) := by decide +kernel
theorem dX4_mixGroups_2 : decode cX4_mixGroups 2 = .ok (.getfield 10, 3) := by decide +kernel
theorem dX4_mixGroups_5 : decode cX4_mixGroups 5 = .ok (.bipush 10, 2) := by decide +kernel
theorem dX4_mixGroups_7 : decode cX4_mixGroups 7 = .ok (.invokevirtual 178, 3) := by decide +kernel
theorem dX4_mixGroups_10 : decode cX4_mixGroups 10 = .ok (.invokestatic 258, 3) := by decide +kernel
theorem dX4_mixGroups_13 : decode cX4_mixGroups 13 = .ok (.lstore_n 3, 1) := by decide +kernel
theorem dX4_mixGroups_14 : decode cX4_mixGroups 14 = .ok (.iconst 0, 1) := by decide +kernel
theorem dX4_mixGroups_15 : decode cX4_mixGroups 15 = .ok (.istore 5, 2) := by decide +kernel
theorem dX4_mixGroups_17 : decode cX4_mixGroups 17 = .ok (.iload 5, 2) := by decide +kernel
theorem dX4_mixGroups_19 : decode cX4_mixGroups 19 = .ok (.aload_n 0, 1) := by decide +kernel
theorem dX4_mixGroups_20 : decode cX4_mixGroups 20 = .ok (.getfield 10, 3) := by decide +kernel
theorem dX4_mixGroups_23 : decode cX4_mixGroups 23 = .ok (.getfield 215, 3) := by decide +kernel
theorem dX4_mixGroups_26 : decode cX4_mixGroups 26 = .ok (.if_icmp .ge 39, 3) := by decide +kernel
theorem dX4_mixGroups_29 : decode cX4_mixGroups 29 = .ok (.aload_n 0, 1) := by decide +kernel
theorem dX4_mixGroups_30 : decode cX4_mixGroups 30 = .ok (.getfield 10, 3) := by decide +kernel
theorem dX4_mixGroups_33 : decode cX4_mixGroups 33 = .ok (.iload 5, 2) := by decide +kernel
theorem dX4_mixGroups_35 : decode cX4_mixGroups 35 = .ok (.invokevirtual 189, 3) := by decide +kernel
theorem dX4_mixGroups_38 : decode cX4_mixGroups 38 = .ok (.istore 6, 2) := by decide +kernel
theorem dX4_mixGroups_40 : decode cX4_mixGroups 40 = .ok (.iload 6, 2) := by decide +kernel
theorem dX4_mixGroups_42 : decode cX4_mixGroups 42 = .ok (.ifCond .eq 17, 3) := by decide +kernel
theorem dX4_mixGroups_45 : decode cX4_mixGroups 45 = .ok (.lload_n 3, 1) := by decide +kernel
theorem dX4_mixGroups_46 : decode cX4_mixGroups 46 = .ok (.iload 5, 2) := by decide +kernel
theorem dX4_mixGroups_48 : decode cX4_mixGroups 48 = .ok (.invokestatic 258, 3) := by decide +kernel
theorem dX4_mixGroups_51 : decode cX4_mixGroups 51 = .ok (.lstore_n 3, 1) := by decide +kernel
theorem dX4_mixGroups_52 : decode cX4_mixGroups 52 = .ok (.lload_n 3, 1) := by decide +kernel
theorem dX4_mixGroups_53 : decode cX4_mixGroups 53 = .ok (.iload 6, 2) := by decide +kernel
theorem dX4_mixGroups_55 : decode cX4_mixGroups 55 = .ok (.invokestatic 258, 3) := by decide +kernel
theorem dX4_mixGroups_58 : decode cX4_mixGroups 58 = .ok (.lstore_n 3, 1) := by decide +kernel
theorem dX4_mixGroups_59 : decode cX4_mixGroups 59 = .ok (.iinc 5 1, 3) := by decide +kernel
theorem dX4_mixGroups_62 : decode cX4_mixGroups 62 = .ok (.goto (-45), 3) := by decide +kernel
theorem dX4_mixGroups_65 : decode cX4_mixGroups 65 = .ok (.lload_n 3, 1) := by decide +kernel
theorem dX4_mixGroups_66 : decode cX4_mixGroups 66 = .ok (.lreturn, 1) := by decide +kernel
theorem dX4_mixNotes_0 : decode cX4_mixNotes 0 = .ok (.lload_n 1, 1) := by decide +kernel
theorem dX4_mixNotes_1 : decode cX4_mixNotes 1 = .ok (.lstore_n 3, 1) := by decide +kernel
theorem dX4_mixNotes_2 : decode cX4_mixNotes 2 = .ok (.iconst 0, 1) := by decide +kernel
theorem dX4_mixNotes_3 : decode cX4_mixNotes 3 = .ok (.istore 5, 2) := by decide +kernel
theorem dX4_mixNotes_5 : decode cX4_mixNotes 5 = .ok (.iload 5, 2) := by decide +kernel
theorem dX4_mixNotes_7 : decode cX4_mixNotes 7 = .ok (.aload_n 0, 1) := by decide +kernel
theorem dX4_mixNotes_8 : decode cX4_mixNotes 8 = .ok (.getfield 10, 3) := by decide +kernel
theorem dX4_mixNotes_11 : decode cX4_mixNotes 11 = .ok (.getfield 157, 3) := by decide +kernel
theorem dX4_mixNotes_14 : decode cX4_mixNotes 14 = .ok (.getfield 312, 3) := by decide +kernel
theorem dX4_mixNotes_17 : decode cX4_mixNotes 17 = .ok (.if_icmp .ge 65, 3) := by decide +kernel
theorem dX4_mixNotes_20 : decode cX4_mixNotes 20 = .ok (.aload_n 0, 1) := by decide +kernel
theorem dX4_mixNotes_21 : decode cX4_mixNotes 21 = .ok (.getfield 10, 3) := by decide +kernel
theorem dX4_mixNotes_24 : decode cX4_mixNotes 24 = .ok (.getfield 157, 3) := by decide +kernel
theorem dX4_mixNotes_27 : decode cX4_mixNotes 27 = .ok (.iload 5, 2) := by decide +kernel
theorem dX4_mixNotes_29 : decode cX4_mixNotes 29 = .ok (.invokevirtual 161, 3) := by decide +kernel
theorem dX4_mixNotes_32 : decode cX4_mixNotes 32 = .ok (.istore 6, 2) := by decide +kernel
theorem dX4_mixNotes_34 : decode cX4_mixNotes 34 = .ok (.iload 6, 2) := by decide +kernel
theorem dX4_mixNotes_36 : decode cX4_mixNotes 36 = .ok (.iconst (-1), 1) := by decide +kernel
theorem dX4_mixNotes_37 : decode cX4_mixNotes 37 = .ok (.if_icmp .eq 39, 3) := by decide +kernel
theorem dX4_mixNotes_40 : decode cX4_mixNotes 40 = .ok (.lload_n 3, 1) := by decide +kernel
theorem dX4_mixNotes_41 : decode cX4_mixNotes 41 = .ok (.aload_n 0, 1) := by decide +kernel
theorem dX4_mixNotes_42 : decode cX4_mixNotes 42 = .ok (.getfield 10, 3) := by decide +kernel
theorem dX4_mixNotes_45 : decode cX4_mixNotes 45 = .ok (.getfield 157, 3) := by decide +kernel
theorem dX4_mixNotes_48 : decode cX4_mixNotes 48 = .ok (.getfield 166, 3) := by decide +kernel
theorem dX4_mixNotes_51 : decode cX4_mixNotes 51 = .ok (.iload 6, 2) := by decide +kernel
theorem dX4_mixNotes_53 : decode cX4_mixNotes 53 = .ok (.iaload, 1) := by decide +kernel
theorem dX4_mixNotes_54 : decode cX4_mixNotes 54 = .ok (.invokestatic 258, 3) := by decide +kernel
theorem dX4_mixNotes_57 : decode cX4_mixNotes 57 = .ok (.lstore_n 3, 1) := by decide +kernel
theorem dX4_mixNotes_58 : decode cX4_mixNotes 58 = .ok (.lload_n 3, 1) := by decide +kernel
theorem dX4_mixNotes_59 : decode cX4_mixNotes 59 = .ok (.aload_n 0, 1) := by decide +kernel
theorem dX4_mixNotes_60 : decode cX4_mixNotes 60 = .ok (.getfield 10, 3) := by decide +kernel
theorem dX4_mixNotes_63 : decode cX4_mixNotes 63 = .ok (.getfield 157, 3) := by decide +kernel
theorem dX4_mixNotes_66 : decode cX4_mixNotes 66 = .ok (.getfield 169, 3) := by decide +kernel
theorem dX4_mixNotes_69 : decode cX4_mixNotes 69 = .ok (.iload 6, 2) := by decide +kernel
theorem dX4_mixNotes_71 : decode cX4_mixNotes 71 = .ok (.iaload, 1) := by decide +kernel
theorem dX4_mixNotes_72 : decode cX4_mixNotes 72 = .ok (.invokestatic 258, 3) := by decide +kernel
theorem dX4_mixNotes_75 : decode cX4_mixNotes 75 = .ok (.lstore_n 3, 1) := by decide +kernel
theorem dX4_mixNotes_76 : decode cX4_mixNotes 76 = .ok (.iinc 5 1, 3) := by decide +kernel
theorem dX4_mixNotes_79 : decode cX4_mixNotes 79 = .ok (.goto (-74), 3) := by decide +kernel
theorem dX4_mixNotes_82 : decode cX4_mixNotes 82 = .ok (.lload_n 3, 1) := by decide +kernel
theorem dX4_mixNotes_83 : decode cX4_mixNotes 83 = .ok (.lreturn, 1) := by decide +kernel
theorem dJ6_bitCount_0f7a4_0 : decode cJ6_bitCount_0f7a4 0 = .ok (.iload_n 0, 1) := by decide +kernel
theorem dJ6_bitCount_0f7a4_1 : decode cJ6_bitCount_0f7a4 1 = .ok (.iload_n 0, 1) := by decide +kernel
theorem dJ6_bitCount_0f7a4_2 : decode cJ6_bitCount_0f7a4 2 = .ok (.iconst 1, 1) := by decide +kernel
theorem dJ6_bitCount_0f7a4_3 : decode cJ6_bitCount_0f7a4 3 = .ok (.iushr, 1) := by decide +kernel
theorem dJ6_bitCount_0f7a4_4 : decode cJ6_bitCount_0f7a4 4 = .ok (.ldc_w 265, 3) := by decide +kernel
theorem dJ6_bitCount_0f7a4_7 : decode cJ6_bitCount_0f7a4 7 = .ok (.iand, 1) := by decide +kernel
theorem dJ6_bitCount_0f7a4_8 : decode cJ6_bitCount_0f7a4 8 = .ok (.isub, 1) := by decide +kernel
theorem dJ6_bitCount_0f7a4_9 : decode cJ6_bitCount_0f7a4 9 = .ok (.istore_n 0, 1) := by decide +kernel
theorem dJ6_bitCount_0f7a4_10 : decode cJ6_bitCount_0f7a4 10 = .ok (.iload_n 0, 1) := by decide +kernel
theorem dJ6_bitCount_0f7a4_11 : decode cJ6_bitCount_0f7a4 11 = .ok (.ldc_w 266, 3) := by decide +kernel
theorem dJ6_bitCount_0f7a4_14 : decode cJ6_bitCount_0f7a4 14 = .ok (.iand, 1) := by decide +kernel
theorem dJ6_bitCount_0f7a4_15 : decode cJ6_bitCount_0f7a4 15 = .ok (.iload_n 0, 1) := by decide +kernel
theorem dJ6_bitCount_0f7a4_16 : decode cJ6_bitCount_0f7a4 16 = .ok (.iconst 2, 1) := by decide +kernel
theorem dJ6_bitCount_0f7a4_17 : decode cJ6_bitCount_0f7a4 17 = .ok (.iushr, 1) := by decide +kernel
theorem dJ6_bitCount_0f7a4_18 : decode cJ6_bitCount_0f7a4 18 = .ok (.ldc_w 266, 3) := by decide +kernel
theorem dJ6_bitCount_0f7a4_21 : decode cJ6_bitCount_0f7a4 21 = .ok (.iand, 1) := by decide +kernel
theorem dJ6_bitCount_0f7a4_22 : decode cJ6_bitCount_0f7a4 22 = .ok (.iadd, 1) := by decide +kernel
theorem dJ6_bitCount_0f7a4_23 : decode cJ6_bitCount_0f7a4 23 = .ok (.istore_n 0, 1) := by decide +kernel
theorem dJ6_bitCount_0f7a4_24 : decode cJ6_bitCount_0f7a4 24 = .ok (.iload_n 0, 1) := by decide +kernel
theorem dJ6_bitCount_0f7a4_25 : decode cJ6_bitCount_0f7a4 25 = .ok (.iload_n 0, 1) := by decide +kernel
theorem dJ6_bitCount_0f7a4_26 : decode cJ6_bitCount_0f7a4 26 = .ok (.iconst 4, 1) := by decide +kernel
theorem dJ6_bitCount_0f7a4_27 : decode cJ6_bitCount_0f7a4 27 = .ok (.iushr, 1) := by decide +kernel
theorem dJ6_bitCount_0f7a4_28 : decode cJ6_bitCount_0f7a4 28 = .ok (.iadd, 1) := by decide +kernel
theorem dJ6_bitCount_0f7a4_29 : decode cJ6_bitCount_0f7a4 29 = .ok (.ldc_w 267, 3) := by decide +kernel
theorem dJ6_bitCount_0f7a4_32 : decode cJ6_bitCount_0f7a4 32 = .ok (.iand, 1) := by decide +kernel
theorem dJ6_bitCount_0f7a4_33 : decode cJ6_bitCount_0f7a4 33 = .ok (.istore_n 0, 1) := by decide +kernel
theorem dJ6_bitCount_0f7a4_34 : decode cJ6_bitCount_0f7a4 34 = .ok (.iload_n 0, 1) := by decide +kernel
theorem dJ6_bitCount_0f7a4_35 : decode cJ6_bitCount_0f7a4 35 = .ok (.iload_n 0, 1) := by decide +kernel
theorem dJ6_bitCount_0f7a4_36 : decode cJ6_bitCount_0f7a4 36 = .ok (.bipush 8, 2) := by decide +kernel
theorem dJ6_bitCount_0f7a4_38 : decode cJ6_bitCount_0f7a4 38 = .ok (.iushr, 1) := by decide +kernel
theorem dJ6_bitCount_0f7a4_39 : decode cJ6_bitCount_0f7a4 39 = .ok (.iadd, 1) := by decide +kernel
theorem dJ6_bitCount_0f7a4_40 : decode cJ6_bitCount_0f7a4 40 = .ok (.istore_n 0, 1) := by decide +kernel
theorem dJ6_bitCount_0f7a4_41 : decode cJ6_bitCount_0f7a4 41 = .ok (.iload_n 0, 1) := by decide +kernel
theorem dJ6_bitCount_0f7a4_42 : decode cJ6_bitCount_0f7a4 42 = .ok (.iload_n 0, 1) := by decide +kernel
theorem dJ6_bitCount_0f7a4_43 : decode cJ6_bitCount_0f7a4 43 = .ok (.bipush 16, 2) := by decide +kernel
theorem dJ6_bitCount_0f7a4_45 : decode cJ6_bitCount_0f7a4 45 = .ok (.iushr, 1) := by decide +kernel
theorem dJ6_bitCount_0f7a4_46 : decode cJ6_bitCount_0f7a4 46 = .ok (.iadd, 1) := by decide +kernel
theorem dJ6_bitCount_0f7a4_47 : decode cJ6_bitCount_0f7a4 47 = .ok (.istore_n 0, 1) := by decide +kernel
theorem dJ6_bitCount_0f7a4_48 : decode cJ6_bitCount_0f7a4 48 = .ok (.iload_n 0, 1) := by decide +kernel
theorem dJ6_bitCount_0f7a4_49 : decode cJ6_bitCount_0f7a4 49 = .ok (.bipush 63, 2) := by decide +kernel
theorem dJ6_bitCount_0f7a4_51 : decode cJ6_bitCount_0f7a4 51 = .ok (.iand, 1) := by decide +kernel
theorem dJ6_bitCount_0f7a4_52 : decode cJ6_bitCount_0f7a4 52 = .ok (.ireturn, 1) := by decide +kernel
theorem dJ9_max_7cf53_0 : decode cJ9_max_7cf53 0 = .ok (.iload_n 0, 1) := by decide +kernel
theorem dJ9_max_7cf53_1 : decode cJ9_max_7cf53 1 = .ok (.iload_n 1, 1) := by decide +kernel
theorem dJ9_max_7cf53_2 : decode cJ9_max_7cf53 2 = .ok (.if_icmp .lt 7, 3) := by decide +kernel
theorem dJ9_max_7cf53_5 : decode cJ9_max_7cf53 5 = .ok (.iload_n 0, 1) := by decide +kernel
theorem dJ9_max_7cf53_6 : decode cJ9_max_7cf53 6 = .ok (.goto 4, 3) := by decide +kernel
theorem dJ9_max_7cf53_9 : decode cJ9_max_7cf53 9 = .ok (.iload_n 1, 1) := by decide +kernel
theorem dJ9_max_7cf53_10 : decode cJ9_max_7cf53 10 = .ok (.ireturn, 1) := by decide +kernel
theorem dJ9_min_7cf53_0 : decode cJ9_min_7cf53 0 = .ok (.iload_n 0, 1) := by decide +kernel
theorem dJ9_min_7cf53_1 : decode cJ9_min_7cf53 1 = .ok (.iload_n 1, 1) := by decide +kernel
theorem dJ9_min_7cf53_2 : decode cJ9_min_7cf53 2 = .ok (.if_icmp .gt 7, 3) := by decide +kernel
theorem dJ9_min_7cf53_5 : decode cJ9_min_7cf53 5 = .ok (.iload_n 0, 1) := by decide +kernel
theorem dJ9_min_7cf53_6 : decode cJ9_min_7cf53 6 = .ok (.goto 4, 3) := by decide +kernel
theorem dJ9_min_7cf53_9 : decode cJ9_min_7cf53 9 = .ok (.iload_n 1, 1) := by decide +kernel
theorem dJ9_min_7cf53_10 : decode cJ9_min_7cf53 10 = .ok (.ireturn, 1) := by decide +kernel
