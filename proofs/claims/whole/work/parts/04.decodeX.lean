theorem dX0_init_0 : decode cX0_init 0 = .ok (.aload_n 0, 1) := by decide +kernel
theorem dX0_init_1 : decode cX0_init 1 = .ok (.invokespecial 3, 3) := by decide +kernel
theorem dX0_init_4 : decode cX0_init 4 = .ok (.aload_n 0, 1) := by decide +kernel
theorem dX0_init_5 : decode cX0_init 5 = .ok (.bipush 32, 2) := by decide +kernel
theorem dX0_init_7 : decode cX0_init 7 = .ok (.newarray .int, 2) := by decide +kernel
theorem dX0_init_9 : decode cX0_init 9 = .ok (.putfield 9, 3) := by decide +kernel
theorem dX0_init_12 : decode cX0_init 12 = .ok (.aload_n 0, 1) := by decide +kernel
theorem dX0_init_13 : decode cX0_init 13 = .ok (.iconst 0, 1) := by decide +kernel
theorem dX0_init_14 : decode cX0_init 14 = .ok (.putfield 15, 3) := by decide +kernel
theorem dX0_init_17 : decode cX0_init 17 = .ok (.aload_n 0, 1) := by decide +kernel
theorem dX0_init_18 : decode cX0_init 18 = .ok (.iconst 0, 1) := by decide +kernel
theorem dX0_init_19 : decode cX0_init 19 = .ok (.putfield 19, 3) := by decide +kernel
theorem dX0_init_22 : decode cX0_init 22 = .ok (.return_, 1) := by decide +kernel
theorem dX0_clear_0 : decode cX0_clear 0 = .ok (.aload_n 0, 1) := by decide +kernel
theorem dX0_clear_1 : decode cX0_clear 1 = .ok (.iconst 0, 1) := by decide +kernel
theorem dX0_clear_2 : decode cX0_clear 2 = .ok (.putfield 19, 3) := by decide +kernel
theorem dX0_clear_5 : decode cX0_clear 5 = .ok (.return_, 1) := by decide +kernel
theorem dX0_note_0 : decode cX0_note 0 = .ok (.aload_n 0, 1) := by decide +kernel
theorem dX0_note_1 : decode cX0_note 1 = .ok (.getfield 9, 3) := by decide +kernel
theorem dX0_note_4 : decode cX0_note 4 = .ok (.aload_n 0, 1) := by decide +kernel
theorem dX0_note_5 : decode cX0_note 5 = .ok (.getfield 15, 3) := by decide +kernel
theorem dX0_note_8 : decode cX0_note 8 = .ok (.sipush 128, 3) := by decide +kernel
theorem dX0_note_11 : decode cX0_note 11 = .ok (.iload_n 1, 1) := by decide +kernel
theorem dX0_note_12 : decode cX0_note 12 = .ok (.imul, 1) := by decide +kernel
theorem dX0_note_13 : decode cX0_note 13 = .ok (.iconst 4, 1) := by decide +kernel
theorem dX0_note_14 : decode cX0_note 14 = .ok (.iload_n 2, 1) := by decide +kernel
theorem dX0_note_15 : decode cX0_note 15 = .ok (.imul, 1) := by decide +kernel
theorem dX0_note_16 : decode cX0_note 16 = .ok (.iadd, 1) := by decide +kernel
theorem dX0_note_17 : decode cX0_note 17 = .ok (.iload_n 3, 1) := by decide +kernel
theorem dX0_note_18 : decode cX0_note 18 = .ok (.iadd, 1) := by decide +kernel
theorem dX0_note_19 : decode cX0_note 19 = .ok (.iastore, 1) := by decide +kernel
theorem dX0_note_20 : decode cX0_note 20 = .ok (.aload_n 0, 1) := by decide +kernel
theorem dX0_note_21 : decode cX0_note 21 = .ok (.aload_n 0, 1) := by decide +kernel
theorem dX0_note_22 : decode cX0_note 22 = .ok (.getfield 15, 3) := by decide +kernel
theorem dX0_note_25 : decode cX0_note 25 = .ok (.iconst 1, 1) := by decide +kernel
theorem dX0_note_26 : decode cX0_note 26 = .ok (.iadd, 1) := by decide +kernel
theorem dX0_note_27 : decode cX0_note 27 = .ok (.bipush 32, 2) := by decide +kernel
theorem dX0_note_29 : decode cX0_note 29 = .ok (.irem, 1) := by decide +kernel
theorem dX0_note_30 : decode cX0_note 30 = .ok (.putfield 15, 3) := by decide +kernel
theorem dX0_note_33 : decode cX0_note 33 = .ok (.aload_n 0, 1) := by decide +kernel
theorem dX0_note_34 : decode cX0_note 34 = .ok (.aload_n 0, 1) := by decide +kernel
theorem dX0_note_35 : decode cX0_note 35 = .ok (.getfield 19, 3) := by decide +kernel
theorem dX0_note_38 : decode cX0_note 38 = .ok (.iconst 1, 1) := by decide +kernel
theorem dX0_note_39 : decode cX0_note 39 = .ok (.iadd, 1) := by decide +kernel
theorem dX0_note_40 : decode cX0_note 40 = .ok (.bipush 32, 2) := by decide +kernel
theorem dX0_note_42 : decode cX0_note 42 = .ok (.invokestatic 22, 3) := by decide +kernel
theorem dX0_note_45 : decode cX0_note 45 = .ok (.putfield 19, 3) := by decide +kernel
theorem dX0_note_48 : decode cX0_note 48 = .ok (.return_, 1) := by decide +kernel
theorem dX0_fromLatest_0 : decode cX0_fromLatest 0 = .ok (.iload_n 1, 1) := by decide +kernel
theorem dX0_fromLatest_1 : decode cX0_fromLatest 1 = .ok (.ifCond .lt 11, 3) := by decide +kernel
theorem dX0_fromLatest_4 : decode cX0_fromLatest 4 = .ok (.iload_n 1, 1) := by decide +kernel
theorem dX0_fromLatest_5 : decode cX0_fromLatest 5 = .ok (.aload_n 0, 1) := by decide +kernel
theorem dX0_fromLatest_6 : decode cX0_fromLatest 6 = .ok (.getfield 19, 3) := by decide +kernel
theorem dX0_fromLatest_9 : decode cX0_fromLatest 9 = .ok (.if_icmp .lt 5, 3) := by decide +kernel
theorem dX0_fromLatest_12 : decode cX0_fromLatest 12 = .ok (.iconst (-1), 1) := by decide +kernel
theorem dX0_fromLatest_13 : decode cX0_fromLatest 13 = .ok (.ireturn, 1) := by decide +kernel
theorem dX0_fromLatest_14 : decode cX0_fromLatest 14 = .ok (.aload_n 0, 1) := by decide +kernel
theorem dX0_fromLatest_15 : decode cX0_fromLatest 15 = .ok (.getfield 9, 3) := by decide +kernel
theorem dX0_fromLatest_18 : decode cX0_fromLatest 18 = .ok (.aload_n 0, 1) := by decide +kernel
theorem dX0_fromLatest_19 : decode cX0_fromLatest 19 = .ok (.getfield 15, 3) := by decide +kernel
theorem dX0_fromLatest_22 : decode cX0_fromLatest 22 = .ok (.bipush 32, 2) := by decide +kernel
theorem dX0_fromLatest_24 : decode cX0_fromLatest 24 = .ok (.iadd, 1) := by decide +kernel
theorem dX0_fromLatest_25 : decode cX0_fromLatest 25 = .ok (.iconst 1, 1) := by decide +kernel
theorem dX0_fromLatest_26 : decode cX0_fromLatest 26 = .ok (.isub, 1) := by decide +kernel
theorem dX0_fromLatest_27 : decode cX0_fromLatest 27 = .ok (.iload_n 1, 1) := by decide +kernel
theorem dX0_fromLatest_28 : decode cX0_fromLatest 28 = .ok (.isub, 1) := by decide +kernel
theorem dX0_fromLatest_29 : decode cX0_fromLatest 29 = .ok (.bipush 32, 2) := by decide +kernel
theorem dX0_fromLatest_31 : decode cX0_fromLatest 31 = .ok (.irem, 1) := by decide +kernel
theorem dX0_fromLatest_32 : decode cX0_fromLatest 32 = .ok (.iaload, 1) := by decide +kernel
theorem dX0_fromLatest_33 : decode cX0_fromLatest 33 = .ok (.ireturn, 1) := by decide +kernel
theorem dX1_init_0 : decode cX1_init 0 = .ok (.aload_n 0, 1) := by decide +kernel
theorem dX1_init_1 : decode cX1_init 1 = .ok (.invokespecial 3, 3) := by decide +kernel
theorem dX1_init_4 : decode cX1_init 4 = .ok (.aload_n 0, 1) := by decide +kernel
theorem dX1_init_5 : decode cX1_init 5 = .ok (.bipush 24, 2) := by decide +kernel
theorem dX1_init_7 : decode cX1_init 7 = .ok (.newarray .int, 2) := by decide +kernel
theorem dX1_init_9 : decode cX1_init 9 = .ok (.putfield 9, 3) := by decide +kernel
theorem dX1_init_12 : decode cX1_init 12 = .ok (.return_, 1) := by decide +kernel
theorem dX1_workOut_0 : decode cX1_workOut 0 = .ok (.iconst 0, 1) := by decide +kernel
theorem dX1_workOut_1 : decode cX1_workOut 1 = .ok (.istore_n 2, 1) := by decide +kernel
theorem dX1_workOut_2 : decode cX1_workOut 2 = .ok (.iload_n 2, 1) := by decide +kernel
theorem dX1_workOut_3 : decode cX1_workOut 3 = .ok (.aload_n 1, 1) := by decide +kernel
theorem dX1_workOut_4 : decode cX1_workOut 4 = .ok (.getfield 15, 3) := by decide +kernel
theorem dX1_workOut_7 : decode cX1_workOut 7 = .ok (.if_icmp .ge 16, 3) := by decide +kernel
theorem dX1_workOut_10 : decode cX1_workOut 10 = .ok (.aload_n 0, 1) := by decide +kernel
theorem dX1_workOut_11 : decode cX1_workOut 11 = .ok (.getfield 9, 3) := by decide +kernel
theorem dX1_workOut_14 : decode cX1_workOut 14 = .ok (.iload_n 2, 1) := by decide +kernel
theorem dX1_workOut_15 : decode cX1_workOut 15 = .ok (.iload_n 2, 1) := by decide +kernel
theorem dX1_workOut_16 : decode cX1_workOut 16 = .ok (.iastore, 1) := by decide +kernel
theorem dX1_workOut_17 : decode cX1_workOut 17 = .ok (.iinc 2 1, 3) := by decide +kernel
theorem dX1_workOut_20 : decode cX1_workOut 20 = .ok (.goto (-18), 3) := by decide +kernel
theorem dX1_workOut_23 : decode cX1_workOut 23 = .ok (.iconst 1, 1) := by decide +kernel
theorem dX1_workOut_24 : decode cX1_workOut 24 = .ok (.istore_n 2, 1) := by decide +kernel
theorem dX1_workOut_25 : decode cX1_workOut 25 = .ok (.iconst 0, 1) := by decide +kernel
theorem dX1_workOut_26 : decode cX1_workOut 26 = .ok (.istore_n 3, 1) := by decide +kernel
theorem dX1_workOut_27 : decode cX1_workOut 27 = .ok (.iload_n 2, 1) := by decide +kernel
theorem dX1_workOut_28 : decode cX1_workOut 28 = .ok (.ifCond .eq 21, 3) := by decide +kernel
theorem dX1_workOut_31 : decode cX1_workOut 31 = .ok (.iload_n 3, 1) := by decide +kernel
theorem dX1_workOut_32 : decode cX1_workOut 32 = .ok (.bipush 24, 2) := by decide +kernel
theorem dX1_workOut_34 : decode cX1_workOut 34 = .ok (.if_icmp .ge 15, 3) := by decide +kernel
theorem dX1_workOut_37 : decode cX1_workOut 37 = .ok (.aload_n 0, 1) := by decide +kernel
theorem dX1_workOut_38 : decode cX1_workOut 38 = .ok (.aload_n 1, 1) := by decide +kernel
theorem dX1_workOut_39 : decode cX1_workOut 39 = .ok (.invokevirtual 21, 3) := by decide +kernel
theorem dX1_workOut_42 : decode cX1_workOut 42 = .ok (.istore_n 2, 1) := by decide +kernel
theorem dX1_workOut_43 : decode cX1_workOut 43 = .ok (.iinc 3 1, 3) := by decide +kernel
theorem dX1_workOut_46 : decode cX1_workOut 46 = .ok (.goto (-19), 3) := by decide +kernel
theorem dX1_workOut_49 : decode cX1_workOut 49 = .ok (.return_, 1) := by decide +kernel
theorem dX1_lowerOnce_0 : decode cX1_lowerOnce 0 = .ok (.iconst 0, 1) := by decide +kernel
theorem dX1_lowerOnce_1 : decode cX1_lowerOnce 1 = .ok (.istore_n 2, 1) := by decide +kernel
theorem dX1_lowerOnce_2 : decode cX1_lowerOnce 2 = .ok (.iconst 0, 1) := by decide +kernel
theorem dX1_lowerOnce_3 : decode cX1_lowerOnce 3 = .ok (.istore_n 3, 1) := by decide +kernel
theorem dX1_lowerOnce_4 : decode cX1_lowerOnce 4 = .ok (.iload_n 3, 1) := by decide +kernel
theorem dX1_lowerOnce_5 : decode cX1_lowerOnce 5 = .ok (.aload_n 1, 1) := by decide +kernel
theorem dX1_lowerOnce_6 : decode cX1_lowerOnce 6 = .ok (.getfield 25, 3) := by decide +kernel
theorem dX1_lowerOnce_9 : decode cX1_lowerOnce 9 = .ok (.if_icmp .ge 99, 3) := by decide +kernel
theorem dX1_lowerOnce_12 : decode cX1_lowerOnce 12 = .ok (.aload_n 1, 1) := by decide +kernel
theorem dX1_lowerOnce_13 : decode cX1_lowerOnce 13 = .ok (.getfield 28, 3) := by decide +kernel
theorem dX1_lowerOnce_16 : decode cX1_lowerOnce 16 = .ok (.iload_n 3, 1) := by decide +kernel
theorem dX1_lowerOnce_17 : decode cX1_lowerOnce 17 = .ok (.iaload, 1) := by decide +kernel
theorem dX1_lowerOnce_18 : decode cX1_lowerOnce 18 = .ok (.istore 4, 2) := by decide +kernel
theorem dX1_lowerOnce_20 : decode cX1_lowerOnce 20 = .ok (.aload_n 1, 1) := by decide +kernel
theorem dX1_lowerOnce_21 : decode cX1_lowerOnce 21 = .ok (.getfield 31, 3) := by decide +kernel
theorem dX1_lowerOnce_24 : decode cX1_lowerOnce 24 = .ok (.iload_n 3, 1) := by decide +kernel
theorem dX1_lowerOnce_25 : decode cX1_lowerOnce 25 = .ok (.iaload, 1) := by decide +kernel
theorem dX1_lowerOnce_26 : decode cX1_lowerOnce 26 = .ok (.istore 5, 2) := by decide +kernel
theorem dX1_lowerOnce_28 : decode cX1_lowerOnce 28 = .ok (.aload_n 1, 1) := by decide +kernel
theorem dX1_lowerOnce_29 : decode cX1_lowerOnce 29 = .ok (.iload 4, 2) := by decide +kernel
theorem dX1_lowerOnce_31 : decode cX1_lowerOnce 31 = .ok (.invokevirtual 34, 3) := by decide +kernel
theorem dX1_lowerOnce_34 : decode cX1_lowerOnce 34 = .ok (.ifCond .ne 68, 3) := by decide +kernel
theorem dX1_lowerOnce_37 : decode cX1_lowerOnce 37 = .ok (.aload_n 1, 1) := by decide +kernel
theorem dX1_lowerOnce_38 : decode cX1_lowerOnce 38 = .ok (.iload 5, 2) := by decide +kernel
theorem dX1_lowerOnce_40 : decode cX1_lowerOnce 40 = .ok (.invokevirtual 34, 3) := by decide +kernel
theorem dX1_lowerOnce_43 : decode cX1_lowerOnce 43 = .ok (.ifCond .ne 59, 3) := by decide +kernel
theorem dX1_lowerOnce_46 : decode cX1_lowerOnce 46 = .ok (.aload_n 0, 1) := by decide +kernel
theorem dX1_lowerOnce_47 : decode cX1_lowerOnce 47 = .ok (.getfield 9, 3) := by decide +kernel
theorem dX1_lowerOnce_50 : decode cX1_lowerOnce 50 = .ok (.iload 4, 2) := by decide +kernel
theorem dX1_lowerOnce_52 : decode cX1_lowerOnce 52 = .ok (.iaload, 1) := by decide +kernel
theorem dX1_lowerOnce_53 : decode cX1_lowerOnce 53 = .ok (.aload_n 0, 1) := by decide +kernel
theorem dX1_lowerOnce_54 : decode cX1_lowerOnce 54 = .ok (.getfield 9, 3) := by decide +kernel
theorem dX1_lowerOnce_57 : decode cX1_lowerOnce 57 = .ok (.iload 5, 2) := by decide +kernel
theorem dX1_lowerOnce_59 : decode cX1_lowerOnce 59 = .ok (.iaload, 1) := by decide +kernel
theorem dX1_lowerOnce_60 : decode cX1_lowerOnce 60 = .ok (.if_icmp .eq 42, 3) := by decide +kernel
theorem dX1_lowerOnce_63 : decode cX1_lowerOnce 63 = .ok (.aload_n 0, 1) := by decide +kernel
theorem dX1_lowerOnce_64 : decode cX1_lowerOnce 64 = .ok (.getfield 9, 3) := by decide +kernel
theorem dX1_lowerOnce_67 : decode cX1_lowerOnce 67 = .ok (.iload 4, 2) := by decide +kernel
theorem dX1_lowerOnce_69 : decode cX1_lowerOnce 69 = .ok (.iaload, 1) := by decide +kernel
theorem dX1_lowerOnce_70 : decode cX1_lowerOnce 70 = .ok (.aload_n 0, 1) := by decide +kernel
theorem dX1_lowerOnce_71 : decode cX1_lowerOnce 71 = .ok (.getfield 9, 3) := by decide +kernel
theorem dX1_lowerOnce_74 : decode cX1_lowerOnce 74 = .ok (.iload 5, 2) := by decide +kernel
theorem dX1_lowerOnce_76 : decode cX1_lowerOnce 76 = .ok (.iaload, 1) := by decide +kernel
theorem dX1_lowerOnce_77 : decode cX1_lowerOnce 77 = .ok (.invokestatic 38, 3) := by decide +kernel
theorem dX1_lowerOnce_80 : decode cX1_lowerOnce 80 = .ok (.istore 6, 2) := by decide +kernel
theorem dX1_lowerOnce_82 : decode cX1_lowerOnce 82 = .ok (.aload_n 0, 1) := by decide +kernel
theorem dX1_lowerOnce_83 : decode cX1_lowerOnce 83 = .ok (.getfield 9, 3) := by decide +kernel
theorem dX1_lowerOnce_86 : decode cX1_lowerOnce 86 = .ok (.iload 4, 2) := by decide +kernel
theorem dX1_lowerOnce_88 : decode cX1_lowerOnce 88 = .ok (.iload 6, 2) := by decide +kernel
theorem dX1_lowerOnce_90 : decode cX1_lowerOnce 90 = .ok (.iastore, 1) := by decide +kernel
theorem dX1_lowerOnce_91 : decode cX1_lowerOnce 91 = .ok (.aload_n 0, 1) := by decide +kernel
theorem dX1_lowerOnce_92 : decode cX1_lowerOnce 92 = .ok (.getfield 9, 3) := by decide +kernel
theorem dX1_lowerOnce_95 : decode cX1_lowerOnce 95 = .ok (.iload 5, 2) := by decide +kernel
theorem dX1_lowerOnce_97 : decode cX1_lowerOnce 97 = .ok (.iload 6, 2) := by decide +kernel
theorem dX1_lowerOnce_99 : decode cX1_lowerOnce 99 = .ok (.iastore, 1) := by decide +kernel
theorem dX1_lowerOnce_100 : decode cX1_lowerOnce 100 = .ok (.iconst 1, 1) := by decide +kernel
theorem dX1_lowerOnce_101 : decode cX1_lowerOnce 101 = .ok (.istore_n 2, 1) := by decide +kernel
theorem dX1_lowerOnce_102 : decode cX1_lowerOnce 102 = .ok (.iinc 3 1, 3) := by decide +kernel
theorem dX1_lowerOnce_105 : decode cX1_lowerOnce 105 = .ok (.goto (-101), 3) := by decide +kernel
theorem dX1_lowerOnce_108 : decode cX1_lowerOnce 108 = .ok (.iload_n 2, 1) := by decide +kernel
theorem dX1_lowerOnce_109 : decode cX1_lowerOnce 109 = .ok (.ireturn, 1) := by decide +kernel
theorem dX2_init_0 : decode cX2_init 0 = .ok (.aload_n 0, 1) := by decide +kernel
theorem dX2_init_1 : decode cX2_init 1 = .ok (.invokespecial 3, 3) := by decide +kernel
theorem dX2_init_4 : decode cX2_init 4 = .ok (.aload_n 0, 1) := by decide +kernel
theorem dX2_init_5 : decode cX2_init 5 = .ok (.bipush 24, 2) := by decide +kernel
theorem dX2_init_7 : decode cX2_init 7 = .ok (.newarray .int, 2) := by decide +kernel
theorem dX2_init_9 : decode cX2_init 9 = .ok (.putfield 9, 3) := by decide +kernel
theorem dX2_init_12 : decode cX2_init 12 = .ok (.aload_n 0, 1) := by decide +kernel
theorem dX2_init_13 : decode cX2_init 13 = .ok (.bipush 24, 2) := by decide +kernel
theorem dX2_init_15 : decode cX2_init 15 = .ok (.newarray .int, 2) := by decide +kernel
theorem dX2_init_17 : decode cX2_init 17 = .ok (.putfield 15, 3) := by decide +kernel
theorem dX2_init_20 : decode cX2_init 20 = .ok (.aload_n 0, 1) := by decide +kernel
theorem dX2_init_21 : decode cX2_init 21 = .ok (.bipush 24, 2) := by decide +kernel
theorem dX2_init_23 : decode cX2_init 23 = .ok (.newarray .int, 2) := by decide +kernel
theorem dX2_init_25 : decode cX2_init 25 = .ok (.putfield 18, 3) := by decide +kernel
theorem dX2_init_28 : decode cX2_init 28 = .ok (.aload_n 0, 1) := by decide +kernel
theorem dX2_init_29 : decode cX2_init 29 = .ok (.bipush 24, 2) := by decide +kernel
theorem dX2_init_31 : decode cX2_init 31 = .ok (.newarray .int, 2) := by decide +kernel
theorem dX2_init_33 : decode cX2_init 33 = .ok (.putfield 21, 3) := by decide +kernel
theorem dX2_init_36 : decode cX2_init 36 = .ok (.aload_n 0, 1) := by decide +kernel
theorem dX2_init_37 : decode cX2_init 37 = .ok (.bipush 30, 2) := by decide +kernel
theorem dX2_init_39 : decode cX2_init 39 = .ok (.newarray .int, 2) := by decide +kernel
theorem dX2_init_41 : decode cX2_init 41 = .ok (.putfield 24, 3) := by decide +kernel
theorem dX2_init_44 : decode cX2_init 44 = .ok (.return_, 1) := by decide +kernel
theorem dX2_workOut_0 : decode cX2_workOut 0 = .ok (.iconst 0, 1) := by decide +kernel
theorem dX2_workOut_1 : decode cX2_workOut 1 = .ok (.istore_n 2, 1) := by decide +kernel
theorem dX2_workOut_2 : decode cX2_workOut 2 = .ok (.iload_n 2, 1) := by decide +kernel
theorem dX2_workOut_3 : decode cX2_workOut 3 = .ok (.aload_n 1, 1) := by decide +kernel
theorem dX2_workOut_4 : decode cX2_workOut 4 = .ok (.getfield 27, 3) := by decide +kernel
theorem dX2_workOut_7 : decode cX2_workOut 7 = .ok (.if_icmp .ge 20, 3) := by decide +kernel
theorem dX2_workOut_10 : decode cX2_workOut 10 = .ok (.aload_n 0, 1) := by decide +kernel
theorem dX2_workOut_11 : decode cX2_workOut 11 = .ok (.getfield 24, 3) := by decide +kernel
theorem dX2_workOut_14 : decode cX2_workOut 14 = .ok (.iload_n 2, 1) := by decide +kernel
theorem dX2_workOut_15 : decode cX2_workOut 15 = .ok (.aload_n 1, 1) := by decide +kernel
theorem dX2_workOut_16 : decode cX2_workOut 16 = .ok (.iload_n 2, 1) := by decide +kernel
theorem dX2_workOut_17 : decode cX2_workOut 17 = .ok (.invokevirtual 33, 3) := by decide +kernel
theorem dX2_workOut_20 : decode cX2_workOut 20 = .ok (.iastore, 1) := by decide +kernel
theorem dX2_workOut_21 : decode cX2_workOut 21 = .ok (.iinc 2 1, 3) := by decide +kernel
theorem dX2_workOut_24 : decode cX2_workOut 24 = .ok (.goto (-22), 3) := by decide +kernel
theorem dX2_workOut_27 : decode cX2_workOut 27 = .ok (.aload_n 0, 1) := by decide +kernel
theorem dX2_workOut_28 : decode cX2_workOut 28 = .ok (.aload_n 1, 1) := by decide +kernel
theorem dX2_workOut_29 : decode cX2_workOut 29 = .ok (.invokevirtual 36, 3) := by decide +kernel
theorem dX2_workOut_32 : decode cX2_workOut 32 = .ok (.aload_n 0, 1) := by decide +kernel
theorem dX2_workOut_33 : decode cX2_workOut 33 = .ok (.aload_n 1, 1) := by decide +kernel
theorem dX2_workOut_34 : decode cX2_workOut 34 = .ok (.aload_n 0, 1) := by decide +kernel
theorem dX2_workOut_35 : decode cX2_workOut 35 = .ok (.getfield 9, 3) := by decide +kernel
theorem dX2_workOut_38 : decode cX2_workOut 38 = .ok (.aload_n 0, 1) := by decide +kernel
theorem dX2_workOut_39 : decode cX2_workOut 39 = .ok (.getfield 21, 3) := by decide +kernel
theorem dX2_workOut_42 : decode cX2_workOut 42 = .ok (.iconst 0, 1) := by decide +kernel
theorem dX2_workOut_43 : decode cX2_workOut 43 = .ok (.invokevirtual 40, 3) := by decide +kernel
theorem dX2_workOut_46 : decode cX2_workOut 46 = .ok (.aload_n 0, 1) := by decide +kernel
theorem dX2_workOut_47 : decode cX2_workOut 47 = .ok (.aload_n 1, 1) := by decide +kernel
theorem dX2_workOut_48 : decode cX2_workOut 48 = .ok (.aload_n 0, 1) := by decide +kernel
theorem dX2_workOut_49 : decode cX2_workOut 49 = .ok (.getfield 15, 3) := by decide +kernel
theorem dX2_workOut_52 : decode cX2_workOut 52 = .ok (.iconst 0, 1) := by decide +kernel
theorem dX2_workOut_53 : decode cX2_workOut 53 = .ok (.invokevirtual 44, 3) := by decide +kernel
theorem dX2_workOut_56 : decode cX2_workOut 56 = .ok (.aload_n 0, 1) := by decide +kernel
theorem dX2_workOut_57 : decode cX2_workOut 57 = .ok (.aload_n 1, 1) := by decide +kernel
theorem dX2_workOut_58 : decode cX2_workOut 58 = .ok (.aload_n 0, 1) := by decide +kernel
theorem dX2_workOut_59 : decode cX2_workOut 59 = .ok (.getfield 15, 3) := by decide +kernel
theorem dX2_workOut_62 : decode cX2_workOut 62 = .ok (.aload_n 0, 1) := by decide +kernel
theorem dX2_workOut_63 : decode cX2_workOut 63 = .ok (.getfield 9, 3) := by decide +kernel
theorem dX2_workOut_66 : decode cX2_workOut 66 = .ok (.iconst 1, 1) := by decide +kernel
theorem dX2_workOut_67 : decode cX2_workOut 67 = .ok (.invokevirtual 40, 3) := by decide +kernel
theorem dX2_workOut_70 : decode cX2_workOut 70 = .ok (.aload_n 0, 1) := by decide +kernel
theorem dX2_workOut_71 : decode cX2_workOut 71 = .ok (.aload_n 1, 1) := by decide +kernel
theorem dX2_workOut_72 : decode cX2_workOut 72 = .ok (.aload_n 0, 1) := by decide +kernel
theorem dX2_workOut_73 : decode cX2_workOut 73 = .ok (.getfield 18, 3) := by decide +kernel
theorem dX2_workOut_76 : decode cX2_workOut 76 = .ok (.iconst 1, 1) := by decide +kernel
theorem dX2_workOut_77 : decode cX2_workOut 77 = .ok (.invokevirtual 44, 3) := by decide +kernel
theorem dX2_workOut_80 : decode cX2_workOut 80 = .ok (.aload_n 0, 1) := by decide +kernel
theorem dX2_workOut_81 : decode cX2_workOut 81 = .ok (.aload_n 1, 1) := by decide +kernel
theorem dX2_workOut_82 : decode cX2_workOut 82 = .ok (.aload_n 0, 1) := by decide +kernel
theorem dX2_workOut_83 : decode cX2_workOut 83 = .ok (.getfield 18, 3) := by decide +kernel
theorem dX2_workOut_86 : decode cX2_workOut 86 = .ok (.aload_n 0, 1) := by decide +kernel
theorem dX2_workOut_87 : decode cX2_workOut 87 = .ok (.getfield 9, 3) := by decide +kernel
theorem dX2_workOut_90 : decode cX2_workOut 90 = .ok (.iconst 1, 1) := by decide +kernel
theorem dX2_workOut_91 : decode cX2_workOut 91 = .ok (.invokevirtual 40, 3) := by decide +kernel
theorem dX2_workOut_94 : decode cX2_workOut 94 = .ok (.return_, 1) := by decide +kernel
theorem dX2_comesTo_0 : decode cX2_comesTo 0 = .ok (.aload_n 0, 1) := by decide +kernel
theorem dX2_comesTo_1 : decode cX2_comesTo 1 = .ok (.getfield 18, 3) := by decide +kernel
theorem dX2_comesTo_4 : decode cX2_comesTo 4 = .ok (.iload_n 1, 1) := by decide +kernel
theorem dX2_comesTo_5 : decode cX2_comesTo 5 = .ok (.iaload, 1) := by decide +kernel
theorem dX2_comesTo_6 : decode cX2_comesTo 6 = .ok (.ifCond .ne 5, 3) := by decide +kernel
theorem dX2_comesTo_9 : decode cX2_comesTo 9 = .ok (.iconst 1, 1) := by decide +kernel
theorem dX2_comesTo_10 : decode cX2_comesTo 10 = .ok (.ireturn, 1) := by decide +kernel
theorem dX2_comesTo_11 : decode cX2_comesTo 11 = .ok (.aload_n 0, 1) := by decide +kernel
theorem dX2_comesTo_12 : decode cX2_comesTo 12 = .ok (.getfield 15, 3) := by decide +kernel
theorem dX2_comesTo_15 : decode cX2_comesTo 15 = .ok (.iload_n 1, 1) := by decide +kernel
theorem dX2_comesTo_16 : decode cX2_comesTo 16 = .ok (.iaload, 1) := by decide +kernel
theorem dX2_comesTo_17 : decode cX2_comesTo 17 = .ok (.ifCond .ne 7, 3) := by decide +kernel
theorem dX2_comesTo_20 : decode cX2_comesTo 20 = .ok (.iconst 0, 1) := by decide +kernel
theorem dX2_comesTo_21 : decode cX2_comesTo 21 = .ok (.goto 4, 3) := by decide +kernel
theorem dX2_comesTo_24 : decode cX2_comesTo 24 = .ok (.iconst 2, 1) := by decide +kernel
theorem dX2_comesTo_25 : decode cX2_comesTo 25 = .ok (.ireturn, 1) := by decide +kernel
theorem dX2_startFirm_0 : decode cX2_startFirm 0 = .ok (.iconst 0, 1) := by decide +kernel
theorem dX2_startFirm_1 : decode cX2_startFirm 1 = .ok (.istore_n 2, 1) := by decide +kernel
theorem dX2_startFirm_2 : decode cX2_startFirm 2 = .ok (.iload_n 2, 1) := by decide +kernel
theorem dX2_startFirm_3 : decode cX2_startFirm 3 = .ok (.aload_n 1, 1) := by decide +kernel
theorem dX2_startFirm_4 : decode cX2_startFirm 4 = .ok (.getfield 48, 3) := by decide +kernel
theorem dX2_startFirm_7 : decode cX2_startFirm 7 = .ok (.if_icmp .ge 34, 3) := by decide +kernel
theorem dX2_startFirm_10 : decode cX2_startFirm 10 = .ok (.aload_n 0, 1) := by decide +kernel
theorem dX2_startFirm_11 : decode cX2_startFirm 11 = .ok (.getfield 9, 3) := by decide +kernel
theorem dX2_startFirm_14 : decode cX2_startFirm 14 = .ok (.iload_n 2, 1) := by decide +kernel
theorem dX2_startFirm_15 : decode cX2_startFirm 15 = .ok (.aload_n 1, 1) := by decide +kernel
theorem dX2_startFirm_16 : decode cX2_startFirm 16 = .ok (.iload_n 2, 1) := by decide +kernel
theorem dX2_startFirm_17 : decode cX2_startFirm 17 = .ok (.invokevirtual 51, 3) := by decide +kernel
theorem dX2_startFirm_20 : decode cX2_startFirm 20 = .ok (.ifCond .eq 8, 3) := by decide +kernel
theorem dX2_startFirm_23 : decode cX2_startFirm 23 = .ok (.bipush 7, 2) := by decide +kernel
theorem dX2_startFirm_25 : decode cX2_startFirm 25 = .ok (.goto 9, 3) := by decide +kernel
theorem dX2_startFirm_28 : decode cX2_startFirm 28 = .ok (.aload_n 1, 1) := by decide +kernel
theorem dX2_startFirm_29 : decode cX2_startFirm 29 = .ok (.getfield 55, 3) := by decide +kernel
theorem dX2_startFirm_32 : decode cX2_startFirm 32 = .ok (.iload_n 2, 1) := by decide +kernel
theorem dX2_startFirm_33 : decode cX2_startFirm 33 = .ok (.iaload, 1) := by decide +kernel
theorem dX2_startFirm_34 : decode cX2_startFirm 34 = .ok (.iastore, 1) := by decide +kernel
theorem dX2_startFirm_35 : decode cX2_startFirm 35 = .ok (.iinc 2 1, 3) := by decide +kernel
theorem dX2_startFirm_38 : decode cX2_startFirm 38 = .ok (.goto (-36), 3) := by decide +kernel
theorem dX2_startFirm_41 : decode cX2_startFirm 41 = .ok (.return_, 1) := by decide +kernel
theorem dX2_startSide_0 : decode cX2_startSide 0 = .ok (.iconst 0, 1) := by decide +kernel
theorem dX2_startSide_1 : decode cX2_startSide 1 = .ok (.istore 4, 2) := by decide +kernel
theorem dX2_startSide_3 : decode cX2_startSide 3 = .ok (.iload 4, 2) := by decide +kernel
theorem dX2_startSide_5 : decode cX2_startSide 5 = .ok (.aload_n 1, 1) := by decide +kernel
theorem dX2_startSide_6 : decode cX2_startSide 6 = .ok (.getfield 48, 3) := by decide +kernel
theorem dX2_startSide_9 : decode cX2_startSide 9 = .ok (.if_icmp .ge 77, 3) := by decide +kernel
theorem dX2_startSide_12 : decode cX2_startSide 12 = .ok (.aload_n 1, 1) := by decide +kernel
theorem dX2_startSide_13 : decode cX2_startSide 13 = .ok (.iload 4, 2) := by decide +kernel
theorem dX2_startSide_15 : decode cX2_startSide 15 = .ok (.invokevirtual 51, 3) := by decide +kernel
theorem dX2_startSide_18 : decode cX2_startSide 18 = .ok (.ifCond .eq 8, 3) := by decide +kernel
theorem dX2_startSide_21 : decode cX2_startSide 21 = .ok (.bipush 7, 2) := by decide +kernel
theorem dX2_startSide_23 : decode cX2_startSide 23 = .ok (.goto 10, 3) := by decide +kernel
theorem dX2_startSide_26 : decode cX2_startSide 26 = .ok (.aload_n 1, 1) := by decide +kernel
theorem dX2_startSide_27 : decode cX2_startSide 27 = .ok (.getfield 55, 3) := by decide +kernel
theorem dX2_startSide_30 : decode cX2_startSide 30 = .ok (.iload 4, 2) := by decide +kernel
theorem dX2_startSide_32 : decode cX2_startSide 32 = .ok (.iaload, 1) := by decide +kernel
theorem dX2_startSide_33 : decode cX2_startSide 33 = .ok (.istore 5, 2) := by decide +kernel
theorem dX2_startSide_35 : decode cX2_startSide 35 = .ok (.aload_n 1, 1) := by decide +kernel
theorem dX2_startSide_36 : decode cX2_startSide 36 = .ok (.getfield 58, 3) := by decide +kernel
theorem dX2_startSide_39 : decode cX2_startSide 39 = .ok (.iload 4, 2) := by decide +kernel
theorem dX2_startSide_41 : decode cX2_startSide 41 = .ok (.iaload, 1) := by decide +kernel
theorem dX2_startSide_42 : decode cX2_startSide 42 = .ok (.iload_n 3, 1) := by decide +kernel
theorem dX2_startSide_43 : decode cX2_startSide 43 = .ok (.if_icmp .eq 19, 3) := by decide +kernel
theorem dX2_startSide_46 : decode cX2_startSide 46 = .ok (.iload 5, 2) := by decide +kernel
theorem dX2_startSide_48 : decode cX2_startSide 48 = .ok (.aload_n 0, 1) := by decide +kernel
theorem dX2_startSide_49 : decode cX2_startSide 49 = .ok (.getfield 9, 3) := by decide +kernel
theorem dX2_startSide_52 : decode cX2_startSide 52 = .ok (.iload 4, 2) := by decide +kernel
theorem dX2_startSide_54 : decode cX2_startSide 54 = .ok (.iaload, 1) := by decide +kernel
theorem dX2_startSide_55 : decode cX2_startSide 55 = .ok (.if_icmp .lt 7, 3) := by decide +kernel
theorem dX2_startSide_58 : decode cX2_startSide 58 = .ok (.iconst 1, 1) := by decide +kernel
theorem dX2_startSide_59 : decode cX2_startSide 59 = .ok (.goto 4, 3) := by decide +kernel
theorem dX2_startSide_62 : decode cX2_startSide 62 = .ok (.iconst 0, 1) := by decide +kernel
theorem dX2_startSide_63 : decode cX2_startSide 63 = .ok (.istore 6, 2) := by decide +kernel
theorem dX2_startSide_65 : decode cX2_startSide 65 = .ok (.aload_n 2, 1) := by decide +kernel
theorem dX2_startSide_66 : decode cX2_startSide 66 = .ok (.iload 4, 2) := by decide +kernel
theorem dX2_startSide_68 : decode cX2_startSide 68 = .ok (.iload 6, 2) := by decide +kernel
theorem dX2_startSide_70 : decode cX2_startSide 70 = .ok (.ifCond .eq 8, 3) := by decide +kernel
theorem dX2_startSide_73 : decode cX2_startSide 73 = .ok (.iload 5, 2) := by decide +kernel
theorem dX2_startSide_75 : decode cX2_startSide 75 = .ok (.goto 4, 3) := by decide +kernel
theorem dX2_startSide_78 : decode cX2_startSide 78 = .ok (.iconst 0, 1) := by decide +kernel
theorem dX2_startSide_79 : decode cX2_startSide 79 = .ok (.iastore, 1) := by decide +kernel
theorem dX2_startSide_80 : decode cX2_startSide 80 = .ok (.iinc 4 1, 3) := by decide +kernel
theorem dX2_startSide_83 : decode cX2_startSide 83 = .ok (.goto (-80), 3) := by decide +kernel
theorem dX2_startSide_86 : decode cX2_startSide 86 = .ok (.return_, 1) := by decide +kernel
theorem dX2_spread_0 : decode cX2_spread 0 = .ok (.iconst 1, 1) := by decide +kernel
theorem dX2_spread_1 : decode cX2_spread 1 = .ok (.istore 5, 2) := by decide +kernel
theorem dX2_spread_3 : decode cX2_spread 3 = .ok (.iconst 0, 1) := by decide +kernel
theorem dX2_spread_4 : decode cX2_spread 4 = .ok (.istore 6, 2) := by decide +kernel
theorem dX2_spread_6 : decode cX2_spread 6 = .ok (.iload 5, 2) := by decide +kernel
theorem dX2_spread_8 : decode cX2_spread 8 = .ok (.ifCond .eq 154, 3) := by decide +kernel
theorem dX2_spread_11 : decode cX2_spread 11 = .ok (.iload 6, 2) := by decide +kernel
theorem dX2_spread_13 : decode cX2_spread 13 = .ok (.sipush 169, 3) := by decide +kernel
theorem dX2_spread_16 : decode cX2_spread 16 = .ok (.if_icmp .ge 146, 3) := by decide +kernel
theorem dX2_spread_19 : decode cX2_spread 19 = .ok (.iconst 0, 1) := by decide +kernel
theorem dX2_spread_20 : decode cX2_spread 20 = .ok (.istore 5, 2) := by decide +kernel
theorem dX2_spread_22 : decode cX2_spread 22 = .ok (.iconst 0, 1) := by decide +kernel
theorem dX2_spread_23 : decode cX2_spread 23 = .ok (.istore 7, 2) := by decide +kernel
theorem dX2_spread_25 : decode cX2_spread 25 = .ok (.iload 7, 2) := by decide +kernel
theorem dX2_spread_27 : decode cX2_spread 27 = .ok (.aload_n 1, 1) := by decide +kernel
theorem dX2_spread_28 : decode cX2_spread 28 = .ok (.getfield 27, 3) := by decide +kernel
theorem dX2_spread_31 : decode cX2_spread 31 = .ok (.if_icmp .ge 125, 3) := by decide +kernel
theorem dX2_spread_34 : decode cX2_spread 34 = .ok (.aload_n 0, 1) := by decide +kernel
theorem dX2_spread_35 : decode cX2_spread 35 = .ok (.getfield 24, 3) := by decide +kernel
theorem dX2_spread_38 : decode cX2_spread 38 = .ok (.iload 7, 2) := by decide +kernel
theorem dX2_spread_40 : decode cX2_spread 40 = .ok (.iaload, 1) := by decide +kernel
theorem dX2_spread_41 : decode cX2_spread 41 = .ok (.iconst 1, 1) := by decide +kernel
theorem dX2_spread_42 : decode cX2_spread 42 = .ok (.if_icmp .eq 19, 3) := by decide +kernel
theorem dX2_spread_45 : decode cX2_spread 45 = .ok (.iload 4, 2) := by decide +kernel
theorem dX2_spread_47 : decode cX2_spread 47 = .ok (.ifCond .eq 103, 3) := by decide +kernel
theorem dX2_spread_50 : decode cX2_spread 50 = .ok (.aload_n 0, 1) := by decide +kernel
theorem dX2_spread_51 : decode cX2_spread 51 = .ok (.getfield 24, 3) := by decide +kernel
theorem dX2_spread_54 : decode cX2_spread 54 = .ok (.iload 7, 2) := by decide +kernel
theorem dX2_spread_56 : decode cX2_spread 56 = .ok (.iaload, 1) := by decide +kernel
theorem dX2_spread_57 : decode cX2_spread 57 = .ok (.iconst 2, 1) := by decide +kernel
theorem dX2_spread_58 : decode cX2_spread 58 = .ok (.if_icmp .ne 92, 3) := by decide +kernel
theorem dX2_spread_61 : decode cX2_spread 61 = .ok (.aload_n 1, 1) := by decide +kernel
theorem dX2_spread_62 : decode cX2_spread 62 = .ok (.getfield 61, 3) := by decide +kernel
theorem dX2_spread_65 : decode cX2_spread 65 = .ok (.iload 7, 2) := by decide +kernel
theorem dX2_spread_67 : decode cX2_spread 67 = .ok (.iaload, 1) := by decide +kernel
theorem dX2_spread_68 : decode cX2_spread 68 = .ok (.istore 8, 2) := by decide +kernel
theorem dX2_spread_70 : decode cX2_spread 70 = .ok (.aload_n 1, 1) := by decide +kernel
theorem dX2_spread_71 : decode cX2_spread 71 = .ok (.getfield 64, 3) := by decide +kernel
theorem dX2_spread_74 : decode cX2_spread 74 = .ok (.iload 7, 2) := by decide +kernel
theorem dX2_spread_76 : decode cX2_spread 76 = .ok (.iaload, 1) := by decide +kernel
theorem dX2_spread_77 : decode cX2_spread 77 = .ok (.istore 9, 2) := by decide +kernel
theorem dX2_spread_79 : decode cX2_spread 79 = .ok (.aload_n 1, 1) := by decide +kernel
theorem dX2_spread_80 : decode cX2_spread 80 = .ok (.getfield 67, 3) := by decide +kernel
theorem dX2_spread_83 : decode cX2_spread 83 = .ok (.iload 7, 2) := by decide +kernel
theorem dX2_spread_85 : decode cX2_spread 85 = .ok (.iaload, 1) := by decide +kernel
theorem dX2_spread_86 : decode cX2_spread 86 = .ok (.iconst 3, 1) := by decide +kernel
theorem dX2_spread_87 : decode cX2_spread 87 = .ok (.iadd, 1) := by decide +kernel
theorem dX2_spread_88 : decode cX2_spread 88 = .ok (.istore 10, 2) := by decide +kernel
theorem dX2_spread_90 : decode cX2_spread 90 = .ok (.aload_n 1, 1) := by decide +kernel
theorem dX2_spread_91 : decode cX2_spread 91 = .ok (.aload_n 2, 1) := by decide +kernel
theorem dX2_spread_92 : decode cX2_spread 92 = .ok (.aload_n 3, 1) := by decide +kernel
theorem dX2_spread_93 : decode cX2_spread 93 = .ok (.iload 8, 2) := by decide +kernel
theorem dX2_spread_95 : decode cX2_spread 95 = .ok (.iload 10, 2) := by decide +kernel
theorem dX2_spread_97 : decode cX2_spread 97 = .ok (.aload_n 2, 1) := by decide +kernel
theorem dX2_spread_98 : decode cX2_spread 98 = .ok (.iload 9, 2) := by decide +kernel
theorem dX2_spread_100 : decode cX2_spread 100 = .ok (.iaload, 1) := by decide +kernel
theorem dX2_spread_101 : decode cX2_spread 101 = .ok (.invokestatic 70, 3) := by decide +kernel
theorem dX2_spread_104 : decode cX2_spread 104 = .ok (.invokestatic 76, 3) := by decide +kernel
theorem dX2_spread_107 : decode cX2_spread 107 = .ok (.istore 11, 2) := by decide +kernel
theorem dX2_spread_109 : decode cX2_spread 109 = .ok (.aload_n 1, 1) := by decide +kernel
theorem dX2_spread_110 : decode cX2_spread 110 = .ok (.aload_n 2, 1) := by decide +kernel
theorem dX2_spread_111 : decode cX2_spread 111 = .ok (.aload_n 3, 1) := by decide +kernel
theorem dX2_spread_112 : decode cX2_spread 112 = .ok (.iload 9, 2) := by decide +kernel
theorem dX2_spread_114 : decode cX2_spread 114 = .ok (.iload 10, 2) := by decide +kernel
theorem dX2_spread_116 : decode cX2_spread 116 = .ok (.aload_n 2, 1) := by decide +kernel
theorem dX2_spread_117 : decode cX2_spread 117 = .ok (.iload 8, 2) := by decide +kernel
theorem dX2_spread_119 : decode cX2_spread 119 = .ok (.iaload, 1) := by decide +kernel
theorem dX2_spread_120 : decode cX2_spread 120 = .ok (.invokestatic 70, 3) := by decide +kernel
theorem dX2_spread_123 : decode cX2_spread 123 = .ok (.invokestatic 76, 3) := by decide +kernel
theorem dX2_spread_126 : decode cX2_spread 126 = .ok (.istore 12, 2) := by decide +kernel
theorem dX2_spread_128 : decode cX2_spread 128 = .ok (.iload 5, 2) := by decide +kernel
theorem dX2_spread_130 : decode cX2_spread 130 = .ok (.ifCond .ne 13, 3) := by decide +kernel
theorem dX2_spread_133 : decode cX2_spread 133 = .ok (.iload 11, 2) := by decide +kernel
theorem dX2_spread_135 : decode cX2_spread 135 = .ok (.ifCond .ne 8, 3) := by decide +kernel
theorem dX2_spread_138 : decode cX2_spread 138 = .ok (.iload 12, 2) := by decide +kernel
theorem dX2_spread_140 : decode cX2_spread 140 = .ok (.ifCond .eq 7, 3) := by decide +kernel
theorem dX2_spread_143 : decode cX2_spread 143 = .ok (.iconst 1, 1) := by decide +kernel
theorem dX2_spread_144 : decode cX2_spread 144 = .ok (.goto 4, 3) := by decide +kernel
theorem dX2_spread_147 : decode cX2_spread 147 = .ok (.iconst 0, 1) := by decide +kernel
theorem dX2_spread_148 : decode cX2_spread 148 = .ok (.istore 5, 2) := by decide +kernel
theorem dX2_spread_150 : decode cX2_spread 150 = .ok (.iinc 7 1, 3) := by decide +kernel
theorem dX2_spread_153 : decode cX2_spread 153 = .ok (.goto (-128), 3) := by decide +kernel
theorem dX2_spread_156 : decode cX2_spread 156 = .ok (.iinc 6 1, 3) := by decide +kernel
theorem dX2_spread_159 : decode cX2_spread 159 = .ok (.goto (-153), 3) := by decide +kernel
theorem dX2_spread_162 : decode cX2_spread 162 = .ok (.return_, 1) := by decide +kernel
theorem dX2_raise_0 : decode cX2_raise 0 = .ok (.aload_n 0, 1) := by decide +kernel
theorem dX2_raise_1 : decode cX2_raise 1 = .ok (.iload_n 3, 1) := by decide +kernel
theorem dX2_raise_2 : decode cX2_raise 2 = .ok (.invokevirtual 51, 3) := by decide +kernel
theorem dX2_raise_5 : decode cX2_raise 5 = .ok (.ifCond .ne 19, 3) := by decide +kernel
theorem dX2_raise_8 : decode cX2_raise 8 = .ok (.iload 4, 2) := by decide +kernel
theorem dX2_raise_10 : decode cX2_raise 10 = .ok (.aload_n 1, 1) := by decide +kernel
theorem dX2_raise_11 : decode cX2_raise 11 = .ok (.iload_n 3, 1) := by decide +kernel
theorem dX2_raise_12 : decode cX2_raise 12 = .ok (.iaload, 1) := by decide +kernel
theorem dX2_raise_13 : decode cX2_raise 13 = .ok (.if_icmp .le 11, 3) := by decide +kernel
theorem dX2_raise_16 : decode cX2_raise 16 = .ok (.iload 4, 2) := by decide +kernel
theorem dX2_raise_18 : decode cX2_raise 18 = .ok (.aload_n 2, 1) := by decide +kernel
theorem dX2_raise_19 : decode cX2_raise 19 = .ok (.iload_n 3, 1) := by decide +kernel
theorem dX2_raise_20 : decode cX2_raise 20 = .ok (.iaload, 1) := by decide +kernel
theorem dX2_raise_21 : decode cX2_raise 21 = .ok (.if_icmp .ge 5, 3) := by decide +kernel
theorem dX2_raise_24 : decode cX2_raise 24 = .ok (.iconst 0, 1) := by decide +kernel
theorem dX2_raise_25 : decode cX2_raise 25 = .ok (.ireturn, 1) := by decide +kernel
theorem dX2_raise_26 : decode cX2_raise 26 = .ok (.aload_n 1, 1) := by decide +kernel
theorem dX2_raise_27 : decode cX2_raise 27 = .ok (.iload_n 3, 1) := by decide +kernel
theorem dX2_raise_28 : decode cX2_raise 28 = .ok (.iload 4, 2) := by decide +kernel
theorem dX2_raise_30 : decode cX2_raise 30 = .ok (.iastore, 1) := by decide +kernel
theorem dX2_raise_31 : decode cX2_raise 31 = .ok (.iconst 1, 1) := by decide +kernel
theorem dX2_raise_32 : decode cX2_raise 32 = .ok (.ireturn, 1) := by decide +kernel
theorem dX3_init_0 : decode cX3_init 0 = .ok (.aload_n 0, 1) := by decide +kernel
theorem dX3_init_1 : decode cX3_init 1 = .ok (.invokespecial 3, 3) := by decide +kernel
theorem dX3_init_4 : decode cX3_init 4 = .ok (.aload_n 0, 1) := by decide +kernel
theorem dX3_init_5 : decode cX3_init 5 = .ok (.iconst 5, 1) := by decide +kernel
theorem dX3_init_6 : decode cX3_init 6 = .ok (.newarray .int, 2) := by decide +kernel
theorem dX3_init_8 : decode cX3_init 8 = .ok (.putfield 9, 3) := by decide +kernel
theorem dX3_init_11 : decode cX3_init 11 = .ok (.aload_n 0, 1) := by decide +kernel
theorem dX3_init_12 : decode cX3_init 12 = .ok (.iconst 5, 1) := by decide +kernel
theorem dX3_init_13 : decode cX3_init 13 = .ok (.newarray .int, 2) := by decide +kernel
theorem dX3_init_15 : decode cX3_init 15 = .ok (.putfield 15, 3) := by decide +kernel
theorem dX3_init_18 : decode cX3_init 18 = .ok (.aload_n 0, 1) := by decide +kernel
theorem dX3_init_19 : decode cX3_init 19 = .ok (.iconst 0, 1) := by decide +kernel
theorem dX3_init_20 : decode cX3_init 20 = .ok (.putfield 18, 3) := by decide +kernel
theorem dX3_init_23 : decode cX3_init 23 = .ok (.aload_n 0, 1) := by decide +kernel
theorem dX3_init_24 : decode cX3_init 24 = .ok (.aload_n 1, 1) := by decide +kernel
theorem dX3_init_25 : decode cX3_init 25 = .ok (.putfield 22, 3) := by decide +kernel
theorem dX3_init_28 : decode cX3_init 28 = .ok (.aload_n 0, 1) := by decide +kernel
theorem dX3_init_29 : decode cX3_init 29 = .ok (.aload_n 1, 1) := by decide +kernel
theorem dX3_init_30 : decode cX3_init 30 = .ok (.getfield 26, 3) := by decide +kernel
theorem dX3_init_33 : decode cX3_init 33 = .ok (.putfield 32, 3) := by decide +kernel
theorem dX3_init_36 : decode cX3_init 36 = .ok (.aload_n 0, 1) := by decide +kernel
theorem dX3_init_37 : decode cX3_init 37 = .ok (.aload_n 2, 1) := by decide +kernel
theorem dX3_init_38 : decode cX3_init 38 = .ok (.putfield 33, 3) := by decide +kernel
theorem dX3_init_41 : decode cX3_init 41 = .ok (.return_, 1) := by decide +kernel
theorem dX3_readInto_0 : decode cX3_readInto 0 = .ok (.aload_n 0, 1) := by decide +kernel
theorem dX3_readInto_1 : decode cX3_readInto 1 = .ok (.aload_n 1, 1) := by decide +kernel
theorem dX3_readInto_2 : decode cX3_readInto 2 = .ok (.putfield 33, 3) := by decide +kernel
theorem dX3_readInto_5 : decode cX3_readInto 5 = .ok (.aload_n 0, 1) := by decide +kernel
theorem dX3_readInto_6 : decode cX3_readInto 6 = .ok (.getfield 33, 3) := by decide +kernel
theorem dX3_readInto_9 : decode cX3_readInto 9 = .ok (.invokevirtual 37, 3) := by decide +kernel
theorem dX3_readInto_12 : decode cX3_readInto 12 = .ok (.iconst 1, 1) := by decide +kernel
theorem dX3_readInto_13 : decode cX3_readInto 13 = .ok (.istore_n 2, 1) := by decide +kernel
theorem dX3_readInto_14 : decode cX3_readInto 14 = .ok (.iconst 0, 1) := by decide +kernel
theorem dX3_readInto_15 : decode cX3_readInto 15 = .ok (.istore_n 3, 1) := by decide +kernel
theorem dX3_readInto_16 : decode cX3_readInto 16 = .ok (.iconst 0, 1) := by decide +kernel
theorem dX3_readInto_17 : decode cX3_readInto 17 = .ok (.istore 4, 2) := by decide +kernel
theorem dX3_readInto_19 : decode cX3_readInto 19 = .ok (.iload 4, 2) := by decide +kernel
theorem dX3_readInto_21 : decode cX3_readInto 21 = .ok (.aload_n 0, 1) := by decide +kernel
theorem dX3_readInto_22 : decode cX3_readInto 22 = .ok (.getfield 22, 3) := by decide +kernel
theorem dX3_readInto_25 : decode cX3_readInto 25 = .ok (.getfield 42, 3) := by decide +kernel
theorem dX3_readInto_28 : decode cX3_readInto 28 = .ok (.if_icmp .gt 53, 3) := by decide +kernel
theorem dX3_readInto_31 : decode cX3_readInto 31 = .ok (.iload 4, 2) := by decide +kernel
theorem dX3_readInto_33 : decode cX3_readInto 33 = .ok (.aload_n 0, 1) := by decide +kernel
theorem dX3_readInto_34 : decode cX3_readInto 34 = .ok (.getfield 22, 3) := by decide +kernel
theorem dX3_readInto_37 : decode cX3_readInto 37 = .ok (.getfield 42, 3) := by decide +kernel
theorem dX3_readInto_40 : decode cX3_readInto 40 = .ok (.if_icmp .eq 15, 3) := by decide +kernel
theorem dX3_readInto_43 : decode cX3_readInto 43 = .ok (.aload_n 0, 1) := by decide +kernel
theorem dX3_readInto_44 : decode cX3_readInto 44 = .ok (.getfield 32, 3) := by decide +kernel
theorem dX3_readInto_47 : decode cX3_readInto 47 = .ok (.iload 4, 2) := by decide +kernel
theorem dX3_readInto_49 : decode cX3_readInto 49 = .ok (.caload, 1) := by decide +kernel
theorem dX3_readInto_50 : decode cX3_readInto 50 = .ok (.bipush 10, 2) := by decide +kernel
theorem dX3_readInto_52 : decode cX3_readInto 52 = .ok (.if_icmp .ne 23, 3) := by decide +kernel
theorem dX3_readInto_55 : decode cX3_readInto 55 = .ok (.aload_n 0, 1) := by decide +kernel
theorem dX3_readInto_56 : decode cX3_readInto 56 = .ok (.iload_n 3, 1) := by decide +kernel
theorem dX3_readInto_57 : decode cX3_readInto 57 = .ok (.iload 4, 2) := by decide +kernel
theorem dX3_readInto_59 : decode cX3_readInto 59 = .ok (.invokevirtual 45, 3) := by decide +kernel
theorem dX3_readInto_62 : decode cX3_readInto 62 = .ok (.ifCond .ne 5, 3) := by decide +kernel
theorem dX3_readInto_65 : decode cX3_readInto 65 = .ok (.iload_n 2, 1) := by decide +kernel
theorem dX3_readInto_66 : decode cX3_readInto 66 = .ok (.ireturn, 1) := by decide +kernel
theorem dX3_readInto_67 : decode cX3_readInto 67 = .ok (.iinc 2 1, 3) := by decide +kernel
theorem dX3_readInto_70 : decode cX3_readInto 70 = .ok (.iload 4, 2) := by decide +kernel
theorem dX3_readInto_72 : decode cX3_readInto 72 = .ok (.iconst 1, 1) := by decide +kernel
theorem dX3_readInto_73 : decode cX3_readInto 73 = .ok (.iadd, 1) := by decide +kernel
theorem dX3_readInto_74 : decode cX3_readInto 74 = .ok (.istore_n 3, 1) := by decide +kernel
theorem dX3_readInto_75 : decode cX3_readInto 75 = .ok (.iinc 4 1, 3) := by decide +kernel
theorem dX3_readInto_78 : decode cX3_readInto 78 = .ok (.goto (-59), 3) := by decide +kernel
theorem dX3_readInto_81 : decode cX3_readInto 81 = .ok (.iconst 0, 1) := by decide +kernel
theorem dX3_readInto_82 : decode cX3_readInto 82 = .ok (.ireturn, 1) := by decide +kernel
theorem dX3_readLine_0 : decode cX3_readLine 0 = .ok (.iload_n 1, 1) := by decide +kernel
theorem dX3_readLine_1 : decode cX3_readLine 1 = .ok (.iload_n 2, 1) := by decide +kernel
theorem dX3_readLine_2 : decode cX3_readLine 2 = .ok (.if_icmp .ge 16, 3) := by decide +kernel
theorem dX3_readLine_5 : decode cX3_readLine 5 = .ok (.aload_n 0, 1) := by decide +kernel
theorem dX3_readLine_6 : decode cX3_readLine 6 = .ok (.getfield 32, 3) := by decide +kernel
theorem dX3_readLine_9 : decode cX3_readLine 9 = .ok (.iload_n 1, 1) := by decide +kernel
theorem dX3_readLine_10 : decode cX3_readLine 10 = .ok (.caload, 1) := by decide +kernel
theorem dX3_readLine_11 : decode cX3_readLine 11 = .ok (.bipush 124, 2) := by decide +kernel
theorem dX3_readLine_13 : decode cX3_readLine 13 = .ok (.if_icmp .ne 5, 3) := by decide +kernel
theorem dX3_readLine_16 : decode cX3_readLine 16 = .ok (.iconst 1, 1) := by decide +kernel
theorem dX3_readLine_17 : decode cX3_readLine 17 = .ok (.ireturn, 1) := by decide +kernel
theorem dX3_readLine_18 : decode cX3_readLine 18 = .ok (.aload_n 0, 1) := by decide +kernel
theorem dX3_readLine_19 : decode cX3_readLine 19 = .ok (.iload_n 1, 1) := by decide +kernel
theorem dX3_readLine_20 : decode cX3_readLine 20 = .ok (.iload_n 2, 1) := by decide +kernel
theorem dX3_readLine_21 : decode cX3_readLine 21 = .ok (.invokevirtual 49, 3) := by decide +kernel
theorem dX3_readLine_24 : decode cX3_readLine 24 = .ok (.ifCond .ne 5, 3) := by decide +kernel
theorem dX3_readLine_27 : decode cX3_readLine 27 = .ok (.iconst 0, 1) := by decide +kernel
theorem dX3_readLine_28 : decode cX3_readLine 28 = .ok (.ireturn, 1) := by decide +kernel
theorem dX3_readLine_29 : decode cX3_readLine 29 = .ok (.aload_n 0, 1) := by decide +kernel
theorem dX3_readLine_30 : decode cX3_readLine 30 = .ok (.getfield 18, 3) := by decide +kernel
theorem dX3_readLine_33 : decode cX3_readLine 33 = .ok (.ifCond .ne 5, 3) := by decide +kernel
theorem dX3_readLine_36 : decode cX3_readLine 36 = .ok (.iconst 1, 1) := by decide +kernel
theorem dX3_readLine_37 : decode cX3_readLine 37 = .ok (.ireturn, 1) := by decide +kernel
theorem dX3_readLine_38 : decode cX3_readLine 38 = .ok (.aload_n 0, 1) := by decide +kernel
theorem dX3_readLine_39 : decode cX3_readLine 39 = .ok (.iconst 0, 1) := by decide +kernel
theorem dX3_readLine_40 : decode cX3_readLine 40 = .ok (.invokevirtual 52, 3) := by decide +kernel
theorem dX3_readLine_43 : decode cX3_readLine 43 = .ok (.istore_n 3, 1) := by decide +kernel
theorem dX3_readLine_44 : decode cX3_readLine 44 = .ok (.iload_n 3, 1) := by decide +kernel
theorem dX3_readLine_45 : decode cX3_readLine 45 = .ok (.lookupswitch 80 #[(61, 75), (100, 59), (105, 65), (110, 59), (112, 59), (115, 70)], 59) := by decide +kernel
theorem dX3_readLine_104 : decode cX3_readLine 104 = .ok (.aload_n 0, 1) := by decide +kernel
theorem dX3_readLine_105 : decode cX3_readLine 105 = .ok (.iload_n 3, 1) := by decide +kernel
theorem dX3_readLine_106 : decode cX3_readLine 106 = .ok (.invokevirtual 56, 3) := by decide +kernel
theorem dX3_readLine_109 : decode cX3_readLine 109 = .ok (.ireturn, 1) := by decide +kernel
theorem dX3_readLine_110 : decode cX3_readLine 110 = .ok (.aload_n 0, 1) := by decide +kernel
theorem dX3_readLine_111 : decode cX3_readLine 111 = .ok (.invokevirtual 60, 3) := by decide +kernel
theorem dX3_readLine_114 : decode cX3_readLine 114 = .ok (.ireturn, 1) := by decide +kernel
theorem dX3_readLine_115 : decode cX3_readLine 115 = .ok (.aload_n 0, 1) := by decide +kernel
theorem dX3_readLine_116 : decode cX3_readLine 116 = .ok (.invokevirtual 64, 3) := by decide +kernel
theorem dX3_readLine_119 : decode cX3_readLine 119 = .ok (.ireturn, 1) := by decide +kernel
theorem dX3_readLine_120 : decode cX3_readLine 120 = .ok (.aload_n 0, 1) := by decide +kernel
theorem dX3_readLine_121 : decode cX3_readLine 121 = .ok (.invokevirtual 67, 3) := by decide +kernel
theorem dX3_readLine_124 : decode cX3_readLine 124 = .ok (.ireturn, 1) := by decide +kernel
theorem dX3_readLine_125 : decode cX3_readLine 125 = .ok (.iconst 0, 1) := by decide +kernel
theorem dX3_readLine_126 : decode cX3_readLine 126 = .ok (.ireturn, 1) := by decide +kernel
theorem dX3_splitWords_0 : decode cX3_splitWords 0 = .ok (.aload_n 0, 1) := by decide +kernel
theorem dX3_splitWords_1 : decode cX3_splitWords 1 = .ok (.iconst 0, 1) := by decide +kernel
theorem dX3_splitWords_2 : decode cX3_splitWords 2 = .ok (.putfield 18, 3) := by decide +kernel
theorem dX3_splitWords_5 : decode cX3_splitWords 5 = .ok (.iconst 0, 1) := by decide +kernel
theorem dX3_splitWords_6 : decode cX3_splitWords 6 = .ok (.istore_n 3, 1) := by decide +kernel
theorem dX3_splitWords_7 : decode cX3_splitWords 7 = .ok (.iload_n 1, 1) := by decide +kernel
theorem dX3_splitWords_8 : decode cX3_splitWords 8 = .ok (.istore 4, 2) := by decide +kernel
theorem dX3_splitWords_10 : decode cX3_splitWords 10 = .ok (.iload 4, 2) := by decide +kernel
theorem dX3_splitWords_12 : decode cX3_splitWords 12 = .ok (.iload_n 2, 1) := by decide +kernel
theorem dX3_splitWords_13 : decode cX3_splitWords 13 = .ok (.if_icmp .ge 99, 3) := by decide +kernel
theorem dX3_splitWords_16 : decode cX3_splitWords 16 = .ok (.aload_n 0, 1) := by decide +kernel
theorem dX3_splitWords_17 : decode cX3_splitWords 17 = .ok (.getfield 32, 3) := by decide +kernel
theorem dX3_splitWords_20 : decode cX3_splitWords 20 = .ok (.iload 4, 2) := by decide +kernel
theorem dX3_splitWords_22 : decode cX3_splitWords 22 = .ok (.caload, 1) := by decide +kernel
theorem dX3_splitWords_23 : decode cX3_splitWords 23 = .ok (.bipush 32, 2) := by decide +kernel
theorem dX3_splitWords_25 : decode cX3_splitWords 25 = .ok (.if_icmp .ne 7, 3) := by decide +kernel
theorem dX3_splitWords_28 : decode cX3_splitWords 28 = .ok (.iconst 1, 1) := by decide +kernel
theorem dX3_splitWords_29 : decode cX3_splitWords 29 = .ok (.goto 4, 3) := by decide +kernel
theorem dX3_splitWords_32 : decode cX3_splitWords 32 = .ok (.iconst 0, 1) := by decide +kernel
theorem dX3_splitWords_33 : decode cX3_splitWords 33 = .ok (.istore 5, 2) := by decide +kernel
theorem dX3_splitWords_35 : decode cX3_splitWords 35 = .ok (.iload 5, 2) := by decide +kernel
theorem dX3_splitWords_37 : decode cX3_splitWords 37 = .ok (.ifCond .ne 38, 3) := by decide +kernel
theorem dX3_splitWords_40 : decode cX3_splitWords 40 = .ok (.iload_n 3, 1) := by decide +kernel
theorem dX3_splitWords_41 : decode cX3_splitWords 41 = .ok (.ifCond .ne 34, 3) := by decide +kernel
theorem dX3_splitWords_44 : decode cX3_splitWords 44 = .ok (.aload_n 0, 1) := by decide +kernel
theorem dX3_splitWords_45 : decode cX3_splitWords 45 = .ok (.getfield 18, 3) := by decide +kernel
theorem dX3_splitWords_48 : decode cX3_splitWords 48 = .ok (.iconst 5, 1) := by decide +kernel
theorem dX3_splitWords_49 : decode cX3_splitWords 49 = .ok (.if_icmp .ne 5, 3) := by decide +kernel
theorem dX3_splitWords_52 : decode cX3_splitWords 52 = .ok (.iconst 0, 1) := by decide +kernel
theorem dX3_splitWords_53 : decode cX3_splitWords 53 = .ok (.ireturn, 1) := by decide +kernel
theorem dX3_splitWords_54 : decode cX3_splitWords 54 = .ok (.aload_n 0, 1) := by decide +kernel
theorem dX3_splitWords_55 : decode cX3_splitWords 55 = .ok (.getfield 9, 3) := by decide +kernel
theorem dX3_splitWords_58 : decode cX3_splitWords 58 = .ok (.aload_n 0, 1) := by decide +kernel
theorem dX3_splitWords_59 : decode cX3_splitWords 59 = .ok (.getfield 18, 3) := by decide +kernel
theorem dX3_splitWords_62 : decode cX3_splitWords 62 = .ok (.iload 4, 2) := by decide +kernel
theorem dX3_splitWords_64 : decode cX3_splitWords 64 = .ok (.iastore, 1) := by decide +kernel
theorem dX3_splitWords_65 : decode cX3_splitWords 65 = .ok (.aload_n 0, 1) := by decide +kernel
theorem dX3_splitWords_66 : decode cX3_splitWords 66 = .ok (.dup, 1) := by decide +kernel
theorem dX3_splitWords_67 : decode cX3_splitWords 67 = .ok (.getfield 18, 3) := by decide +kernel
theorem dX3_splitWords_70 : decode cX3_splitWords 70 = .ok (.iconst 1, 1) := by decide +kernel
theorem dX3_splitWords_71 : decode cX3_splitWords 71 = .ok (.iadd, 1) := by decide +kernel
theorem dX3_splitWords_72 : decode cX3_splitWords 72 = .ok (.putfield 18, 3) := by decide +kernel
theorem dX3_splitWords_75 : decode cX3_splitWords 75 = .ok (.iload 5, 2) := by decide +kernel
theorem dX3_splitWords_77 : decode cX3_splitWords 77 = .ok (.ifCond .ne 18, 3) := by decide +kernel
theorem dX3_splitWords_80 : decode cX3_splitWords 80 = .ok (.aload_n 0, 1) := by decide +kernel
theorem dX3_splitWords_81 : decode cX3_splitWords 81 = .ok (.getfield 15, 3) := by decide +kernel
theorem dX3_splitWords_84 : decode cX3_splitWords 84 = .ok (.aload_n 0, 1) := by decide +kernel
theorem dX3_splitWords_85 : decode cX3_splitWords 85 = .ok (.getfield 18, 3) := by decide +kernel
theorem dX3_splitWords_88 : decode cX3_splitWords 88 = .ok (.iconst 1, 1) := by decide +kernel
theorem dX3_splitWords_89 : decode cX3_splitWords 89 = .ok (.isub, 1) := by decide +kernel
theorem dX3_splitWords_90 : decode cX3_splitWords 90 = .ok (.iload 4, 2) := by decide +kernel
theorem dX3_splitWords_92 : decode cX3_splitWords 92 = .ok (.iconst 1, 1) := by decide +kernel
theorem dX3_splitWords_93 : decode cX3_splitWords 93 = .ok (.iadd, 1) := by decide +kernel
theorem dX3_splitWords_94 : decode cX3_splitWords 94 = .ok (.iastore, 1) := by decide +kernel
theorem dX3_splitWords_95 : decode cX3_splitWords 95 = .ok (.iload 5, 2) := by decide +kernel
theorem dX3_splitWords_97 : decode cX3_splitWords 97 = .ok (.ifCond .ne 7, 3) := by decide +kernel
theorem dX3_splitWords_100 : decode cX3_splitWords 100 = .ok (.iconst 1, 1) := by decide +kernel
theorem dX3_splitWords_101 : decode cX3_splitWords 101 = .ok (.goto 4, 3) := by decide +kernel
theorem dX3_splitWords_104 : decode cX3_splitWords 104 = .ok (.iconst 0, 1) := by decide +kernel
theorem dX3_splitWords_105 : decode cX3_splitWords 105 = .ok (.istore_n 3, 1) := by decide +kernel
theorem dX3_splitWords_106 : decode cX3_splitWords 106 = .ok (.iinc 4 1, 3) := by decide +kernel
theorem dX3_splitWords_109 : decode cX3_splitWords 109 = .ok (.goto (-99), 3) := by decide +kernel
theorem dX3_splitWords_112 : decode cX3_splitWords 112 = .ok (.iconst 1, 1) := by decide +kernel
theorem dX3_splitWords_113 : decode cX3_splitWords 113 = .ok (.ireturn, 1) := by decide +kernel
theorem dX3_readTransistor_0 : decode cX3_readTransistor 0 = .ok (.aload_n 0, 1) := by decide +kernel
theorem dX3_readTransistor_1 : decode cX3_readTransistor 1 = .ok (.getfield 18, 3) := by decide +kernel
theorem dX3_readTransistor_4 : decode cX3_readTransistor 4 = .ok (.iconst 4, 1) := by decide +kernel
theorem dX3_readTransistor_5 : decode cX3_readTransistor 5 = .ok (.if_icmp .eq 13, 3) := by decide +kernel
theorem dX3_readTransistor_8 : decode cX3_readTransistor 8 = .ok (.aload_n 0, 1) := by decide +kernel
theorem dX3_readTransistor_9 : decode cX3_readTransistor 9 = .ok (.getfield 18, 3) := by decide +kernel
theorem dX3_readTransistor_12 : decode cX3_readTransistor 12 = .ok (.iconst 5, 1) := by decide +kernel
theorem dX3_readTransistor_13 : decode cX3_readTransistor 13 = .ok (.if_icmp .eq 5, 3) := by decide +kernel
theorem dX3_readTransistor_16 : decode cX3_readTransistor 16 = .ok (.iconst 0, 1) := by decide +kernel
theorem dX3_readTransistor_17 : decode cX3_readTransistor 17 = .ok (.ireturn, 1) := by decide +kernel
theorem dX3_readTransistor_18 : decode cX3_readTransistor 18 = .ok (.aload_n 0, 1) := by decide +kernel
theorem dX3_readTransistor_19 : decode cX3_readTransistor 19 = .ok (.getfield 18, 3) := by decide +kernel
theorem dX3_readTransistor_22 : decode cX3_readTransistor 22 = .ok (.iconst 5, 1) := by decide +kernel
theorem dX3_readTransistor_23 : decode cX3_readTransistor 23 = .ok (.if_icmp .ne 11, 3) := by decide +kernel
theorem dX3_readTransistor_26 : decode cX3_readTransistor 26 = .ok (.aload_n 0, 1) := by decide +kernel
theorem dX3_readTransistor_27 : decode cX3_readTransistor 27 = .ok (.iconst 4, 1) := by decide +kernel
theorem dX3_readTransistor_28 : decode cX3_readTransistor 28 = .ok (.invokevirtual 70, 3) := by decide +kernel
theorem dX3_readTransistor_31 : decode cX3_readTransistor 31 = .ok (.goto 4, 3) := by decide +kernel
theorem dX3_readTransistor_34 : decode cX3_readTransistor 34 = .ok (.iconst 2, 1) := by decide +kernel
theorem dX3_readTransistor_35 : decode cX3_readTransistor 35 = .ok (.istore_n 2, 1) := by decide +kernel
theorem dX3_readTransistor_36 : decode cX3_readTransistor 36 = .ok (.aload_n 0, 1) := by decide +kernel
theorem dX3_readTransistor_37 : decode cX3_readTransistor 37 = .ok (.iconst 1, 1) := by decide +kernel
theorem dX3_readTransistor_38 : decode cX3_readTransistor 38 = .ok (.invokevirtual 73, 3) := by decide +kernel
theorem dX3_readTransistor_41 : decode cX3_readTransistor 41 = .ok (.istore_n 3, 1) := by decide +kernel
theorem dX3_readTransistor_42 : decode cX3_readTransistor 42 = .ok (.aload_n 0, 1) := by decide +kernel
theorem dX3_readTransistor_43 : decode cX3_readTransistor 43 = .ok (.iconst 2, 1) := by decide +kernel
theorem dX3_readTransistor_44 : decode cX3_readTransistor 44 = .ok (.invokevirtual 73, 3) := by decide +kernel
theorem dX3_readTransistor_47 : decode cX3_readTransistor 47 = .ok (.istore 4, 2) := by decide +kernel
theorem dX3_readTransistor_49 : decode cX3_readTransistor 49 = .ok (.aload_n 0, 1) := by decide +kernel
theorem dX3_readTransistor_50 : decode cX3_readTransistor 50 = .ok (.iconst 3, 1) := by decide +kernel
theorem dX3_readTransistor_51 : decode cX3_readTransistor 51 = .ok (.invokevirtual 73, 3) := by decide +kernel
theorem dX3_readTransistor_54 : decode cX3_readTransistor 54 = .ok (.istore 5, 2) := by decide +kernel
theorem dX3_readTransistor_56 : decode cX3_readTransistor 56 = .ok (.iload_n 2, 1) := by decide +kernel
theorem dX3_readTransistor_57 : decode cX3_readTransistor 57 = .ok (.iconst (-1), 1) := by decide +kernel
theorem dX3_readTransistor_58 : decode cX3_readTransistor 58 = .ok (.if_icmp .eq 20, 3) := by decide +kernel
theorem dX3_readTransistor_61 : decode cX3_readTransistor 61 = .ok (.iload_n 3, 1) := by decide +kernel
theorem dX3_readTransistor_62 : decode cX3_readTransistor 62 = .ok (.iconst (-1), 1) := by decide +kernel
theorem dX3_readTransistor_63 : decode cX3_readTransistor 63 = .ok (.if_icmp .eq 15, 3) := by decide +kernel
theorem dX3_readTransistor_66 : decode cX3_readTransistor 66 = .ok (.iload 4, 2) := by decide +kernel
theorem dX3_readTransistor_68 : decode cX3_readTransistor 68 = .ok (.iconst (-1), 1) := by decide +kernel
theorem dX3_readTransistor_69 : decode cX3_readTransistor 69 = .ok (.if_icmp .eq 9, 3) := by decide +kernel
theorem dX3_readTransistor_72 : decode cX3_readTransistor 72 = .ok (.iload 5, 2) := by decide +kernel
theorem dX3_readTransistor_74 : decode cX3_readTransistor 74 = .ok (.iconst (-1), 1) := by decide +kernel
theorem dX3_readTransistor_75 : decode cX3_readTransistor 75 = .ok (.if_icmp .ne 5, 3) := by decide +kernel
theorem dX3_readTransistor_78 : decode cX3_readTransistor 78 = .ok (.iconst 0, 1) := by decide +kernel
theorem dX3_readTransistor_79 : decode cX3_readTransistor 79 = .ok (.ireturn, 1) := by decide +kernel
theorem dX3_readTransistor_80 : decode cX3_readTransistor 80 = .ok (.aload_n 0, 1) := by decide +kernel
theorem dX3_readTransistor_81 : decode cX3_readTransistor 81 = .ok (.getfield 33, 3) := by decide +kernel
theorem dX3_readTransistor_84 : decode cX3_readTransistor 84 = .ok (.iload_n 1, 1) := by decide +kernel
theorem dX3_readTransistor_85 : decode cX3_readTransistor 85 = .ok (.iload_n 3, 1) := by decide +kernel
theorem dX3_readTransistor_86 : decode cX3_readTransistor 86 = .ok (.iload 4, 2) := by decide +kernel
theorem dX3_readTransistor_88 : decode cX3_readTransistor 88 = .ok (.iload 5, 2) := by decide +kernel
theorem dX3_readTransistor_90 : decode cX3_readTransistor 90 = .ok (.iload_n 2, 1) := by decide +kernel
theorem dX3_readTransistor_91 : decode cX3_readTransistor 91 = .ok (.invokevirtual 76, 3) := by decide +kernel
theorem dX3_readTransistor_94 : decode cX3_readTransistor 94 = .ok (.ireturn, 1) := by decide +kernel
theorem dX3_readInput_0 : decode cX3_readInput 0 = .ok (.aload_n 0, 1) := by decide +kernel
theorem dX3_readInput_1 : decode cX3_readInput 1 = .ok (.getfield 18, 3) := by decide +kernel
theorem dX3_readInput_4 : decode cX3_readInput 4 = .ok (.iconst 2, 1) := by decide +kernel
theorem dX3_readInput_5 : decode cX3_readInput 5 = .ok (.if_icmp .ne 11, 3) := by decide +kernel
theorem dX3_readInput_8 : decode cX3_readInput 8 = .ok (.aload_n 0, 1) := by decide +kernel
theorem dX3_readInput_9 : decode cX3_readInput 9 = .ok (.iconst 1, 1) := by decide +kernel
theorem dX3_readInput_10 : decode cX3_readInput 10 = .ok (.invokevirtual 73, 3) := by decide +kernel
theorem dX3_readInput_13 : decode cX3_readInput 13 = .ok (.goto 4, 3) := by decide +kernel
theorem dX3_readInput_16 : decode cX3_readInput 16 = .ok (.iconst (-1), 1) := by decide +kernel
theorem dX3_readInput_17 : decode cX3_readInput 17 = .ok (.istore_n 1, 1) := by decide +kernel
theorem dX3_readInput_18 : decode cX3_readInput 18 = .ok (.iload_n 1, 1) := by decide +kernel
theorem dX3_readInput_19 : decode cX3_readInput 19 = .ok (.iconst (-1), 1) := by decide +kernel
theorem dX3_readInput_20 : decode cX3_readInput 20 = .ok (.if_icmp .ne 5, 3) := by decide +kernel
theorem dX3_readInput_23 : decode cX3_readInput 23 = .ok (.iconst 0, 1) := by decide +kernel
theorem dX3_readInput_24 : decode cX3_readInput 24 = .ok (.ireturn, 1) := by decide +kernel
theorem dX3_readInput_25 : decode cX3_readInput 25 = .ok (.aload_n 0, 1) := by decide +kernel
theorem dX3_readInput_26 : decode cX3_readInput 26 = .ok (.getfield 33, 3) := by decide +kernel
theorem dX3_readInput_29 : decode cX3_readInput 29 = .ok (.getfield 80, 3) := by decide +kernel
theorem dX3_readInput_32 : decode cX3_readInput 32 = .ok (.iload_n 1, 1) := by decide +kernel
theorem dX3_readInput_33 : decode cX3_readInput 33 = .ok (.iconst 1, 1) := by decide +kernel
theorem dX3_readInput_34 : decode cX3_readInput 34 = .ok (.bastore, 1) := by decide +kernel
theorem dX3_readInput_35 : decode cX3_readInput 35 = .ok (.iconst 1, 1) := by decide +kernel
theorem dX3_readInput_36 : decode cX3_readInput 36 = .ok (.ireturn, 1) := by decide +kernel
theorem dX3_readSize_0 : decode cX3_readSize 0 = .ok (.aload_n 0, 1) := by decide +kernel
theorem dX3_readSize_1 : decode cX3_readSize 1 = .ok (.getfield 18, 3) := by decide +kernel
theorem dX3_readSize_4 : decode cX3_readSize 4 = .ok (.iconst 3, 1) := by decide +kernel
theorem dX3_readSize_5 : decode cX3_readSize 5 = .ok (.if_icmp .eq 5, 3) := by decide +kernel
theorem dX3_readSize_8 : decode cX3_readSize 8 = .ok (.iconst 0, 1) := by decide +kernel
theorem dX3_readSize_9 : decode cX3_readSize 9 = .ok (.ireturn, 1) := by decide +kernel
theorem dX3_readSize_10 : decode cX3_readSize 10 = .ok (.aload_n 0, 1) := by decide +kernel
theorem dX3_readSize_11 : decode cX3_readSize 11 = .ok (.iconst 2, 1) := by decide +kernel
theorem dX3_readSize_12 : decode cX3_readSize 12 = .ok (.invokevirtual 70, 3) := by decide +kernel
theorem dX3_readSize_15 : decode cX3_readSize 15 = .ok (.istore_n 1, 1) := by decide +kernel
theorem dX3_readSize_16 : decode cX3_readSize 16 = .ok (.aload_n 0, 1) := by decide +kernel
theorem dX3_readSize_17 : decode cX3_readSize 17 = .ok (.iconst 1, 1) := by decide +kernel
theorem dX3_readSize_18 : decode cX3_readSize 18 = .ok (.invokevirtual 73, 3) := by decide +kernel
theorem dX3_readSize_21 : decode cX3_readSize 21 = .ok (.istore_n 2, 1) := by decide +kernel
theorem dX3_readSize_22 : decode cX3_readSize 22 = .ok (.iload_n 1, 1) := by decide +kernel
theorem dX3_readSize_23 : decode cX3_readSize 23 = .ok (.iconst (-1), 1) := by decide +kernel
theorem dX3_readSize_24 : decode cX3_readSize 24 = .ok (.if_icmp .eq 8, 3) := by decide +kernel
theorem dX3_readSize_27 : decode cX3_readSize 27 = .ok (.iload_n 2, 1) := by decide +kernel
theorem dX3_readSize_28 : decode cX3_readSize 28 = .ok (.iconst (-1), 1) := by decide +kernel
theorem dX3_readSize_29 : decode cX3_readSize 29 = .ok (.if_icmp .ne 5, 3) := by decide +kernel
theorem dX3_readSize_32 : decode cX3_readSize 32 = .ok (.iconst 0, 1) := by decide +kernel
theorem dX3_readSize_33 : decode cX3_readSize 33 = .ok (.ireturn, 1) := by decide +kernel
theorem dX3_readSize_34 : decode cX3_readSize 34 = .ok (.aload_n 0, 1) := by decide +kernel
theorem dX3_readSize_35 : decode cX3_readSize 35 = .ok (.getfield 33, 3) := by decide +kernel
theorem dX3_readSize_38 : decode cX3_readSize 38 = .ok (.getfield 84, 3) := by decide +kernel
theorem dX3_readSize_41 : decode cX3_readSize 41 = .ok (.iload_n 2, 1) := by decide +kernel
theorem dX3_readSize_42 : decode cX3_readSize 42 = .ok (.iload_n 1, 1) := by decide +kernel
theorem dX3_readSize_43 : decode cX3_readSize 43 = .ok (.iastore, 1) := by decide +kernel
theorem dX3_readSize_44 : decode cX3_readSize 44 = .ok (.iconst 1, 1) := by decide +kernel
theorem dX3_readSize_45 : decode cX3_readSize 45 = .ok (.ireturn, 1) := by decide +kernel
theorem dX3_readOtherName_0 : decode cX3_readOtherName 0 = .ok (.aload_n 0, 1) := by decide +kernel
theorem dX3_readOtherName_1 : decode cX3_readOtherName 1 = .ok (.getfield 18, 3) := by decide +kernel
theorem dX3_readOtherName_4 : decode cX3_readOtherName 4 = .ok (.iconst 3, 1) := by decide +kernel
theorem dX3_readOtherName_5 : decode cX3_readOtherName 5 = .ok (.if_icmp .eq 5, 3) := by decide +kernel
theorem dX3_readOtherName_8 : decode cX3_readOtherName 8 = .ok (.iconst 0, 1) := by decide +kernel
theorem dX3_readOtherName_9 : decode cX3_readOtherName 9 = .ok (.ireturn, 1) := by decide +kernel
theorem dX3_readOtherName_10 : decode cX3_readOtherName 10 = .ok (.aload_n 0, 1) := by decide +kernel
theorem dX3_readOtherName_11 : decode cX3_readOtherName 11 = .ok (.iconst 1, 1) := by decide +kernel
theorem dX3_readOtherName_12 : decode cX3_readOtherName 12 = .ok (.invokevirtual 87, 3) := by decide +kernel
theorem dX3_readOtherName_15 : decode cX3_readOtherName 15 = .ok (.lstore_n 1, 1) := by decide +kernel
theorem dX3_readOtherName_16 : decode cX3_readOtherName 16 = .ok (.lload_n 1, 1) := by decide +kernel
theorem dX3_readOtherName_17 : decode cX3_readOtherName 17 = .ok (.lconst 0, 1) := by decide +kernel
theorem dX3_readOtherName_18 : decode cX3_readOtherName 18 = .ok (.lcmp, 1) := by decide +kernel
theorem dX3_readOtherName_19 : decode cX3_readOtherName 19 = .ok (.ifCond .eq 25, 3) := by decide +kernel
theorem dX3_readOtherName_22 : decode cX3_readOtherName 22 = .ok (.aload_n 0, 1) := by decide +kernel
theorem dX3_readOtherName_23 : decode cX3_readOtherName 23 = .ok (.getfield 33, 3) := by decide +kernel
theorem dX3_readOtherName_26 : decode cX3_readOtherName 26 = .ok (.lload_n 1, 1) := by decide +kernel
theorem dX3_readOtherName_27 : decode cX3_readOtherName 27 = .ok (.invokevirtual 91, 3) := by decide +kernel
theorem dX3_readOtherName_30 : decode cX3_readOtherName 30 = .ok (.iconst (-1), 1) := by decide +kernel
theorem dX3_readOtherName_31 : decode cX3_readOtherName 31 = .ok (.if_icmp .ne 13, 3) := by decide +kernel
theorem dX3_readOtherName_34 : decode cX3_readOtherName 34 = .ok (.lload_n 1, 1) := by decide +kernel
theorem dX3_readOtherName_35 : decode cX3_readOtherName 35 = .ok (.aload_n 0, 1) := by decide +kernel
theorem dX3_readOtherName_36 : decode cX3_readOtherName 36 = .ok (.iconst 2, 1) := by decide +kernel
theorem dX3_readOtherName_37 : decode cX3_readOtherName 37 = .ok (.invokevirtual 87, 3) := by decide +kernel
theorem dX3_readOtherName_40 : decode cX3_readOtherName 40 = .ok (.lcmp, 1) := by decide +kernel
theorem dX3_readOtherName_41 : decode cX3_readOtherName 41 = .ok (.ifCond .ne 5, 3) := by decide +kernel
theorem dX3_readOtherName_44 : decode cX3_readOtherName 44 = .ok (.iconst 0, 1) := by decide +kernel
theorem dX3_readOtherName_45 : decode cX3_readOtherName 45 = .ok (.ireturn, 1) := by decide +kernel
theorem dX3_readOtherName_46 : decode cX3_readOtherName 46 = .ok (.aload_n 0, 1) := by decide +kernel
theorem dX3_readOtherName_47 : decode cX3_readOtherName 47 = .ok (.iconst 2, 1) := by decide +kernel
theorem dX3_readOtherName_48 : decode cX3_readOtherName 48 = .ok (.invokevirtual 73, 3) := by decide +kernel
theorem dX3_readOtherName_51 : decode cX3_readOtherName 51 = .ok (.istore_n 3, 1) := by decide +kernel
theorem dX3_readOtherName_52 : decode cX3_readOtherName 52 = .ok (.iload_n 3, 1) := by decide +kernel
theorem dX3_readOtherName_53 : decode cX3_readOtherName 53 = .ok (.iconst (-1), 1) := by decide +kernel
theorem dX3_readOtherName_54 : decode cX3_readOtherName 54 = .ok (.if_icmp .eq 19, 3) := by decide +kernel
theorem dX3_readOtherName_57 : decode cX3_readOtherName 57 = .ok (.aload_n 0, 1) := by decide +kernel
theorem dX3_readOtherName_58 : decode cX3_readOtherName 58 = .ok (.getfield 33, 3) := by decide +kernel
theorem dX3_readOtherName_61 : decode cX3_readOtherName 61 = .ok (.lload_n 1, 1) := by decide +kernel
theorem dX3_readOtherName_62 : decode cX3_readOtherName 62 = .ok (.iload_n 3, 1) := by decide +kernel
theorem dX3_readOtherName_63 : decode cX3_readOtherName 63 = .ok (.invokevirtual 95, 3) := by decide +kernel
theorem dX3_readOtherName_66 : decode cX3_readOtherName 66 = .ok (.ifCond .eq 7, 3) := by decide +kernel
theorem dX3_readOtherName_69 : decode cX3_readOtherName 69 = .ok (.iconst 1, 1) := by decide +kernel
theorem dX3_readOtherName_70 : decode cX3_readOtherName 70 = .ok (.goto 4, 3) := by decide +kernel
theorem dX3_readOtherName_73 : decode cX3_readOtherName 73 = .ok (.iconst 0, 1) := by decide +kernel
theorem dX3_readOtherName_74 : decode cX3_readOtherName 74 = .ok (.ireturn, 1) := by decide +kernel
theorem dX3_onlyCharacter_0 : decode cX3_onlyCharacter 0 = .ok (.aload_n 0, 1) := by decide +kernel
theorem dX3_onlyCharacter_1 : decode cX3_onlyCharacter 1 = .ok (.getfield 9, 3) := by decide +kernel
theorem dX3_onlyCharacter_4 : decode cX3_onlyCharacter 4 = .ok (.iload_n 1, 1) := by decide +kernel
theorem dX3_onlyCharacter_5 : decode cX3_onlyCharacter 5 = .ok (.iaload, 1) := by decide +kernel
theorem dX3_onlyCharacter_6 : decode cX3_onlyCharacter 6 = .ok (.istore_n 2, 1) := by decide +kernel
theorem dX3_onlyCharacter_7 : decode cX3_onlyCharacter 7 = .ok (.aload_n 0, 1) := by decide +kernel
theorem dX3_onlyCharacter_8 : decode cX3_onlyCharacter 8 = .ok (.getfield 15, 3) := by decide +kernel
theorem dX3_onlyCharacter_11 : decode cX3_onlyCharacter 11 = .ok (.iload_n 1, 1) := by decide +kernel
theorem dX3_onlyCharacter_12 : decode cX3_onlyCharacter 12 = .ok (.iaload, 1) := by decide +kernel
theorem dX3_onlyCharacter_13 : decode cX3_onlyCharacter 13 = .ok (.iload_n 2, 1) := by decide +kernel
theorem dX3_onlyCharacter_14 : decode cX3_onlyCharacter 14 = .ok (.isub, 1) := by decide +kernel
theorem dX3_onlyCharacter_15 : decode cX3_onlyCharacter 15 = .ok (.iconst 1, 1) := by decide +kernel
theorem dX3_onlyCharacter_16 : decode cX3_onlyCharacter 16 = .ok (.if_icmp .ne 12, 3) := by decide +kernel
theorem dX3_onlyCharacter_19 : decode cX3_onlyCharacter 19 = .ok (.aload_n 0, 1) := by decide +kernel
theorem dX3_onlyCharacter_20 : decode cX3_onlyCharacter 20 = .ok (.getfield 32, 3) := by decide +kernel
theorem dX3_onlyCharacter_23 : decode cX3_onlyCharacter 23 = .ok (.iload_n 2, 1) := by decide +kernel
theorem dX3_onlyCharacter_24 : decode cX3_onlyCharacter 24 = .ok (.caload, 1) := by decide +kernel
theorem dX3_onlyCharacter_25 : decode cX3_onlyCharacter 25 = .ok (.goto 5, 3) := by decide +kernel
theorem dX3_onlyCharacter_28 : decode cX3_onlyCharacter 28 = .ok (.bipush 32, 2) := by decide +kernel
theorem dX3_onlyCharacter_30 : decode cX3_onlyCharacter 30 = .ok (.ireturn, 1) := by decide +kernel
theorem dX3_oneToThree_0 : decode cX3_oneToThree 0 = .ok (.aload_n 0, 1) := by decide +kernel
theorem dX3_oneToThree_1 : decode cX3_oneToThree 1 = .ok (.iload_n 1, 1) := by decide +kernel
theorem dX3_oneToThree_2 : decode cX3_oneToThree 2 = .ok (.invokevirtual 52, 3) := by decide +kernel
theorem dX3_oneToThree_5 : decode cX3_oneToThree 5 = .ok (.istore_n 2, 1) := by decide +kernel
theorem dX3_oneToThree_6 : decode cX3_oneToThree 6 = .ok (.iload_n 2, 1) := by decide +kernel
theorem dX3_oneToThree_7 : decode cX3_oneToThree 7 = .ok (.bipush 49, 2) := by decide +kernel
theorem dX3_oneToThree_9 : decode cX3_oneToThree 9 = .ok (.if_icmp .lt 16, 3) := by decide +kernel
theorem dX3_oneToThree_12 : decode cX3_oneToThree 12 = .ok (.iload_n 2, 1) := by decide +kernel
theorem dX3_oneToThree_13 : decode cX3_oneToThree 13 = .ok (.bipush 51, 2) := by decide +kernel
theorem dX3_oneToThree_15 : decode cX3_oneToThree 15 = .ok (.if_icmp .gt 10, 3) := by decide +kernel
theorem dX3_oneToThree_18 : decode cX3_oneToThree 18 = .ok (.iload_n 2, 1) := by decide +kernel
theorem dX3_oneToThree_19 : decode cX3_oneToThree 19 = .ok (.bipush 48, 2) := by decide +kernel
theorem dX3_oneToThree_21 : decode cX3_oneToThree 21 = .ok (.isub, 1) := by decide +kernel
theorem dX3_oneToThree_22 : decode cX3_oneToThree 22 = .ok (.goto 4, 3) := by decide +kernel
theorem dX3_oneToThree_25 : decode cX3_oneToThree 25 = .ok (.iconst (-1), 1) := by decide +kernel
theorem dX3_oneToThree_26 : decode cX3_oneToThree 26 = .ok (.ireturn, 1) := by decide +kernel
theorem dX3_nodeOfWord_0 : decode cX3_nodeOfWord 0 = .ok (.aload_n 0, 1) := by decide +kernel
theorem dX3_nodeOfWord_1 : decode cX3_nodeOfWord 1 = .ok (.iload_n 1, 1) := by decide +kernel
theorem dX3_nodeOfWord_2 : decode cX3_nodeOfWord 2 = .ok (.invokevirtual 87, 3) := by decide +kernel
theorem dX3_nodeOfWord_5 : decode cX3_nodeOfWord 5 = .ok (.lstore_n 2, 1) := by decide +kernel
theorem dX3_nodeOfWord_6 : decode cX3_nodeOfWord 6 = .ok (.lload_n 2, 1) := by decide +kernel
theorem dX3_nodeOfWord_7 : decode cX3_nodeOfWord 7 = .ok (.lconst 0, 1) := by decide +kernel
theorem dX3_nodeOfWord_8 : decode cX3_nodeOfWord 8 = .ok (.lcmp, 1) := by decide +kernel
theorem dX3_nodeOfWord_9 : decode cX3_nodeOfWord 9 = .ok (.ifCond .ne 7, 3) := by decide +kernel
theorem dX3_nodeOfWord_12 : decode cX3_nodeOfWord 12 = .ok (.iconst (-1), 1) := by decide +kernel
theorem dX3_nodeOfWord_13 : decode cX3_nodeOfWord 13 = .ok (.goto 11, 3) := by decide +kernel
theorem dX3_nodeOfWord_16 : decode cX3_nodeOfWord 16 = .ok (.aload_n 0, 1) := by decide +kernel
theorem dX3_nodeOfWord_17 : decode cX3_nodeOfWord 17 = .ok (.getfield 33, 3) := by decide +kernel
theorem dX3_nodeOfWord_20 : decode cX3_nodeOfWord 20 = .ok (.lload_n 2, 1) := by decide +kernel
theorem dX3_nodeOfWord_21 : decode cX3_nodeOfWord 21 = .ok (.invokevirtual 99, 3) := by decide +kernel
theorem dX3_nodeOfWord_24 : decode cX3_nodeOfWord 24 = .ok (.ireturn, 1) := by decide +kernel
theorem dX3_nameOfWord_0 : decode cX3_nameOfWord 0 = .ok (.aload_n 0, 1) := by decide +kernel
theorem dX3_nameOfWord_1 : decode cX3_nameOfWord 1 = .ok (.getfield 9, 3) := by decide +kernel
theorem dX3_nameOfWord_4 : decode cX3_nameOfWord 4 = .ok (.iload_n 1, 1) := by decide +kernel
theorem dX3_nameOfWord_5 : decode cX3_nameOfWord 5 = .ok (.iaload, 1) := by decide +kernel
theorem dX3_nameOfWord_6 : decode cX3_nameOfWord 6 = .ok (.istore_n 2, 1) := by decide +kernel
theorem dX3_nameOfWord_7 : decode cX3_nameOfWord 7 = .ok (.aload_n 0, 1) := by decide +kernel
theorem dX3_nameOfWord_8 : decode cX3_nameOfWord 8 = .ok (.getfield 15, 3) := by decide +kernel
theorem dX3_nameOfWord_11 : decode cX3_nameOfWord 11 = .ok (.iload_n 1, 1) := by decide +kernel
theorem dX3_nameOfWord_12 : decode cX3_nameOfWord 12 = .ok (.iaload, 1) := by decide +kernel
theorem dX3_nameOfWord_13 : decode cX3_nameOfWord 13 = .ok (.iload_n 2, 1) := by decide +kernel
theorem dX3_nameOfWord_14 : decode cX3_nameOfWord 14 = .ok (.isub, 1) := by decide +kernel
theorem dX3_nameOfWord_15 : decode cX3_nameOfWord 15 = .ok (.istore_n 3, 1) := by decide +kernel
theorem dX3_nameOfWord_16 : decode cX3_nameOfWord 16 = .ok (.iload_n 3, 1) := by decide +kernel
theorem dX3_nameOfWord_17 : decode cX3_nameOfWord 17 = .ok (.iconst 4, 1) := by decide +kernel
theorem dX3_nameOfWord_18 : decode cX3_nameOfWord 18 = .ok (.if_icmp .le 5, 3) := by decide +kernel
theorem dX3_nameOfWord_21 : decode cX3_nameOfWord 21 = .ok (.lconst 0, 1) := by decide +kernel
theorem dX3_nameOfWord_22 : decode cX3_nameOfWord 22 = .ok (.lreturn, 1) := by decide +kernel
theorem dX3_nameOfWord_23 : decode cX3_nameOfWord 23 = .ok (.lconst 0, 1) := by decide +kernel
theorem dX3_nameOfWord_24 : decode cX3_nameOfWord 24 = .ok (.lstore 4, 2) := by decide +kernel
theorem dX3_nameOfWord_26 : decode cX3_nameOfWord 26 = .ok (.iconst 0, 1) := by decide +kernel
theorem dX3_nameOfWord_27 : decode cX3_nameOfWord 27 = .ok (.istore 6, 2) := by decide +kernel
theorem dX3_nameOfWord_29 : decode cX3_nameOfWord 29 = .ok (.iload 6, 2) := by decide +kernel
theorem dX3_nameOfWord_31 : decode cX3_nameOfWord 31 = .ok (.iload_n 3, 1) := by decide +kernel
theorem dX3_nameOfWord_32 : decode cX3_nameOfWord 32 = .ok (.if_icmp .ge 44, 3) := by decide +kernel
theorem dX3_nameOfWord_35 : decode cX3_nameOfWord 35 = .ok (.aload_n 0, 1) := by decide +kernel
theorem dX3_nameOfWord_36 : decode cX3_nameOfWord 36 = .ok (.getfield 32, 3) := by decide +kernel
theorem dX3_nameOfWord_39 : decode cX3_nameOfWord 39 = .ok (.iload_n 2, 1) := by decide +kernel
theorem dX3_nameOfWord_40 : decode cX3_nameOfWord 40 = .ok (.iload 6, 2) := by decide +kernel
theorem dX3_nameOfWord_42 : decode cX3_nameOfWord 42 = .ok (.iadd, 1) := by decide +kernel
theorem dX3_nameOfWord_43 : decode cX3_nameOfWord 43 = .ok (.caload, 1) := by decide +kernel
theorem dX3_nameOfWord_44 : decode cX3_nameOfWord 44 = .ok (.istore 7, 2) := by decide +kernel
theorem dX3_nameOfWord_46 : decode cX3_nameOfWord 46 = .ok (.iload 7, 2) := by decide +kernel
theorem dX3_nameOfWord_48 : decode cX3_nameOfWord 48 = .ok (.invokestatic 102, 3) := by decide +kernel
theorem dX3_nameOfWord_51 : decode cX3_nameOfWord 51 = .ok (.ifCond .ne 5, 3) := by decide +kernel
theorem dX3_nameOfWord_54 : decode cX3_nameOfWord 54 = .ok (.lconst 0, 1) := by decide +kernel
theorem dX3_nameOfWord_55 : decode cX3_nameOfWord 55 = .ok (.lreturn, 1) := by decide +kernel
theorem dX3_nameOfWord_56 : decode cX3_nameOfWord 56 = .ok (.lload 4, 2) := by decide +kernel
theorem dX3_nameOfWord_58 : decode cX3_nameOfWord 58 = .ok (.iload 7, 2) := by decide +kernel
theorem dX3_nameOfWord_60 : decode cX3_nameOfWord 60 = .ok (.i2l, 1) := by decide +kernel
theorem dX3_nameOfWord_61 : decode cX3_nameOfWord 61 = .ok (.bipush 8, 2) := by decide +kernel
theorem dX3_nameOfWord_63 : decode cX3_nameOfWord 63 = .ok (.iload 6, 2) := by decide +kernel
theorem dX3_nameOfWord_65 : decode cX3_nameOfWord 65 = .ok (.imul, 1) := by decide +kernel
theorem dX3_nameOfWord_66 : decode cX3_nameOfWord 66 = .ok (.lshl, 1) := by decide +kernel
theorem dX3_nameOfWord_67 : decode cX3_nameOfWord 67 = .ok (.lor, 1) := by decide +kernel
theorem dX3_nameOfWord_68 : decode cX3_nameOfWord 68 = .ok (.lstore 4, 2) := by decide +kernel
theorem dX3_nameOfWord_70 : decode cX3_nameOfWord 70 = .ok (.iinc 6 1, 3) := by decide +kernel
theorem dX3_nameOfWord_73 : decode cX3_nameOfWord 73 = .ok (.goto (-44), 3) := by decide +kernel
theorem dX3_nameOfWord_76 : decode cX3_nameOfWord 76 = .ok (.lload 4, 2) := by decide +kernel
theorem dX3_nameOfWord_78 : decode cX3_nameOfWord 78 = .ok (.lreturn, 1) := by decide +kernel
theorem dX3_isNameCharacter_0 : decode cX3_isNameCharacter 0 = .ok (.iload_n 0, 1) := by decide +kernel
theorem dX3_isNameCharacter_1 : decode cX3_isNameCharacter 1 = .ok (.bipush 97, 2) := by decide +kernel
theorem dX3_isNameCharacter_3 : decode cX3_isNameCharacter 3 = .ok (.if_icmp .lt 9, 3) := by decide +kernel
theorem dX3_isNameCharacter_6 : decode cX3_isNameCharacter 6 = .ok (.iload_n 0, 1) := by decide +kernel
theorem dX3_isNameCharacter_7 : decode cX3_isNameCharacter 7 = .ok (.bipush 122, 2) := by decide +kernel
theorem dX3_isNameCharacter_9 : decode cX3_isNameCharacter 9 = .ok (.if_icmp .le 15, 3) := by decide +kernel
theorem dX3_isNameCharacter_12 : decode cX3_isNameCharacter 12 = .ok (.iload_n 0, 1) := by decide +kernel
theorem dX3_isNameCharacter_13 : decode cX3_isNameCharacter 13 = .ok (.bipush 48, 2) := by decide +kernel
theorem dX3_isNameCharacter_15 : decode cX3_isNameCharacter 15 = .ok (.if_icmp .lt 13, 3) := by decide +kernel
theorem dX3_isNameCharacter_18 : decode cX3_isNameCharacter 18 = .ok (.iload_n 0, 1) := by decide +kernel
theorem dX3_isNameCharacter_19 : decode cX3_isNameCharacter 19 = .ok (.bipush 57, 2) := by decide +kernel
theorem dX3_isNameCharacter_21 : decode cX3_isNameCharacter 21 = .ok (.if_icmp .gt 7, 3) := by decide +kernel
theorem dX3_isNameCharacter_24 : decode cX3_isNameCharacter 24 = .ok (.iconst 1, 1) := by decide +kernel
theorem dX3_isNameCharacter_25 : decode cX3_isNameCharacter 25 = .ok (.goto 4, 3) := by decide +kernel
theorem dX3_isNameCharacter_28 : decode cX3_isNameCharacter 28 = .ok (.iconst 0, 1) := by decide +kernel
theorem dX3_isNameCharacter_29 : decode cX3_isNameCharacter 29 = .ok (.ireturn, 1) := by decide +kernel
theorem dX4_init_0 : decode cX4_init 0 = .ok (.aload_n 0, 1) := by decide +kernel
theorem dX4_init_1 : decode cX4_init 1 = .ok (.invokespecial 3, 3) := by decide +kernel
theorem dX4_init_4 : decode cX4_init 4 = .ok (.aload_n 0, 1) := by decide +kernel
theorem dX4_init_5 : decode cX4_init 5 = .ok (.iconst 0, 1) := by decide +kernel
theorem dX4_init_6 : decode cX4_init 6 = .ok (.putfield 9, 3) := by decide +kernel
theorem dX4_init_9 : decode cX4_init 9 = .ok (.aload_n 0, 1) := by decide +kernel
theorem dX4_init_10 : decode cX4_init 10 = .ok (.bipush 24, 2) := by decide +kernel
theorem dX4_init_12 : decode cX4_init 12 = .ok (.newarray .boolean, 2) := by decide +kernel
theorem dX4_init_14 : decode cX4_init 14 = .ok (.putfield 15, 3) := by decide +kernel
theorem dX4_init_17 : decode cX4_init 17 = .ok (.aload_n 0, 1) := by decide +kernel
theorem dX4_init_18 : decode cX4_init 18 = .ok (.bipush 24, 2) := by decide +kernel
theorem dX4_init_20 : decode cX4_init 20 = .ok (.newarray .boolean, 2) := by decide +kernel
theorem dX4_init_22 : decode cX4_init 22 = .ok (.putfield 19, 3) := by decide +kernel
theorem dX4_init_25 : decode cX4_init 25 = .ok (.aload_n 0, 1) := by decide +kernel
theorem dX4_init_26 : decode cX4_init 26 = .ok (.bipush 24, 2) := by decide +kernel
theorem dX4_init_28 : decode cX4_init 28 = .ok (.newarray .int, 2) := by decide +kernel
theorem dX4_init_30 : decode cX4_init 30 = .ok (.putfield 22, 3) := by decide +kernel
theorem dX4_init_33 : decode cX4_init 33 = .ok (.aload_n 0, 1) := by decide +kernel
theorem dX4_init_34 : decode cX4_init 34 = .ok (.bipush 24, 2) := by decide +kernel
theorem dX4_init_36 : decode cX4_init 36 = .ok (.newarray .int, 2) := by decide +kernel
theorem dX4_init_38 : decode cX4_init 38 = .ok (.putfield 26, 3) := by decide +kernel
theorem dX4_init_41 : decode cX4_init 41 = .ok (.aload_n 0, 1) := by decide +kernel
theorem dX4_init_42 : decode cX4_init 42 = .ok (.iconst 0, 1) := by decide +kernel
theorem dX4_init_43 : decode cX4_init 43 = .ok (.putfield 29, 3) := by decide +kernel
theorem dX4_init_46 : decode cX4_init 46 = .ok (.aload_n 0, 1) := by decide +kernel
theorem dX4_init_47 : decode cX4_init 47 = .ok (.bipush 30, 2) := by decide +kernel
theorem dX4_init_49 : decode cX4_init 49 = .ok (.newarray .int, 2) := by decide +kernel
theorem dX4_init_51 : decode cX4_init 51 = .ok (.putfield 32, 3) := by decide +kernel
theorem dX4_init_54 : decode cX4_init 54 = .ok (.aload_n 0, 1) := by decide +kernel
theorem dX4_init_55 : decode cX4_init 55 = .ok (.bipush 30, 2) := by decide +kernel
theorem dX4_init_57 : decode cX4_init 57 = .ok (.newarray .int, 2) := by decide +kernel
theorem dX4_init_59 : decode cX4_init 59 = .ok (.putfield 35, 3) := by decide +kernel
theorem dX4_init_62 : decode cX4_init 62 = .ok (.aload_n 0, 1) := by decide +kernel
theorem dX4_init_63 : decode cX4_init 63 = .ok (.bipush 30, 2) := by decide +kernel
theorem dX4_init_65 : decode cX4_init 65 = .ok (.newarray .int, 2) := by decide +kernel
theorem dX4_init_67 : decode cX4_init 67 = .ok (.putfield 38, 3) := by decide +kernel
theorem dX4_init_70 : decode cX4_init 70 = .ok (.aload_n 0, 1) := by decide +kernel
theorem dX4_init_71 : decode cX4_init 71 = .ok (.bipush 30, 2) := by decide +kernel
theorem dX4_init_73 : decode cX4_init 73 = .ok (.newarray .int, 2) := by decide +kernel
theorem dX4_init_75 : decode cX4_init 75 = .ok (.putfield 41, 3) := by decide +kernel
theorem dX4_init_78 : decode cX4_init 78 = .ok (.aload_n 0, 1) := by decide +kernel
theorem dX4_init_79 : decode cX4_init 79 = .ok (.bipush 30, 2) := by decide +kernel
theorem dX4_init_81 : decode cX4_init 81 = .ok (.newarray .int, 2) := by decide +kernel
theorem dX4_init_83 : decode cX4_init 83 = .ok (.putfield 44, 3) := by decide +kernel
theorem dX4_init_86 : decode cX4_init 86 = .ok (.aload_n 0, 1) := by decide +kernel
theorem dX4_init_87 : decode cX4_init 87 = .ok (.bipush 30, 2) := by decide +kernel
theorem dX4_init_89 : decode cX4_init 89 = .ok (.newarray .int, 2) := by decide +kernel
theorem dX4_init_91 : decode cX4_init 91 = .ok (.putfield 47, 3) := by decide +kernel
theorem dX4_init_94 : decode cX4_init 94 = .ok (.aload_n 0, 1) := by decide +kernel
theorem dX4_init_95 : decode cX4_init 95 = .ok (.iconst 0, 1) := by decide +kernel
theorem dX4_init_96 : decode cX4_init 96 = .ok (.putfield 50, 3) := by decide +kernel
theorem dX4_init_99 : decode cX4_init 99 = .ok (.aload_n 0, 1) := by decide +kernel
theorem dX4_init_100 : decode cX4_init 100 = .ok (.bipush 40, 2) := by decide +kernel
theorem dX4_init_102 : decode cX4_init 102 = .ok (.newarray .long, 2) := by decide +kernel
theorem dX4_init_104 : decode cX4_init 104 = .ok (.putfield 53, 3) := by decide +kernel
theorem dX4_init_107 : decode cX4_init 107 = .ok (.aload_n 0, 1) := by decide +kernel
theorem dX4_init_108 : decode cX4_init 108 = .ok (.bipush 40, 2) := by decide +kernel
theorem dX4_init_110 : decode cX4_init 110 = .ok (.newarray .int, 2) := by decide +kernel
theorem dX4_init_112 : decode cX4_init 112 = .ok (.putfield 57, 3) := by decide +kernel
theorem dX4_init_115 : decode cX4_init 115 = .ok (.return_, 1) := by decide +kernel
theorem dX4_clear_0 : decode cX4_clear 0 = .ok (.aload_n 0, 1) := by decide +kernel
theorem dX4_clear_1 : decode cX4_clear 1 = .ok (.iconst 0, 1) := by decide +kernel
theorem dX4_clear_2 : decode cX4_clear 2 = .ok (.putfield 9, 3) := by decide +kernel
theorem dX4_clear_5 : decode cX4_clear 5 = .ok (.aload_n 0, 1) := by decide +kernel
theorem dX4_clear_6 : decode cX4_clear 6 = .ok (.iconst 0, 1) := by decide +kernel
theorem dX4_clear_7 : decode cX4_clear 7 = .ok (.putfield 29, 3) := by decide +kernel
theorem dX4_clear_10 : decode cX4_clear 10 = .ok (.aload_n 0, 1) := by decide +kernel
theorem dX4_clear_11 : decode cX4_clear 11 = .ok (.iconst 0, 1) := by decide +kernel
theorem dX4_clear_12 : decode cX4_clear 12 = .ok (.putfield 50, 3) := by decide +kernel
theorem dX4_clear_15 : decode cX4_clear 15 = .ok (.return_, 1) := by decide +kernel
theorem dX4_hasNode_0 : decode cX4_hasNode 0 = .ok (.iload_n 1, 1) := by decide +kernel
theorem dX4_hasNode_1 : decode cX4_hasNode 1 = .ok (.ifCond .lt 15, 3) := by decide +kernel
theorem dX4_hasNode_4 : decode cX4_hasNode 4 = .ok (.iload_n 1, 1) := by decide +kernel
theorem dX4_hasNode_5 : decode cX4_hasNode 5 = .ok (.aload_n 0, 1) := by decide +kernel
theorem dX4_hasNode_6 : decode cX4_hasNode 6 = .ok (.getfield 9, 3) := by decide +kernel
theorem dX4_hasNode_9 : decode cX4_hasNode 9 = .ok (.if_icmp .ge 7, 3) := by decide +kernel
theorem dX4_hasNode_12 : decode cX4_hasNode 12 = .ok (.iconst 1, 1) := by decide +kernel
theorem dX4_hasNode_13 : decode cX4_hasNode 13 = .ok (.goto 4, 3) := by decide +kernel
theorem dX4_hasNode_16 : decode cX4_hasNode 16 = .ok (.iconst 0, 1) := by decide +kernel
theorem dX4_hasNode_17 : decode cX4_hasNode 17 = .ok (.ireturn, 1) := by decide +kernel
theorem dX4_hasTransistor_0 : decode cX4_hasTransistor 0 = .ok (.iload_n 1, 1) := by decide +kernel
theorem dX4_hasTransistor_1 : decode cX4_hasTransistor 1 = .ok (.ifCond .lt 15, 3) := by decide +kernel
theorem dX4_hasTransistor_4 : decode cX4_hasTransistor 4 = .ok (.iload_n 1, 1) := by decide +kernel
theorem dX4_hasTransistor_5 : decode cX4_hasTransistor 5 = .ok (.aload_n 0, 1) := by decide +kernel
theorem dX4_hasTransistor_6 : decode cX4_hasTransistor 6 = .ok (.getfield 29, 3) := by decide +kernel
theorem dX4_hasTransistor_9 : decode cX4_hasTransistor 9 = .ok (.if_icmp .ge 7, 3) := by decide +kernel
theorem dX4_hasTransistor_12 : decode cX4_hasTransistor 12 = .ok (.iconst 1, 1) := by decide +kernel
theorem dX4_hasTransistor_13 : decode cX4_hasTransistor 13 = .ok (.goto 4, 3) := by decide +kernel
theorem dX4_hasTransistor_16 : decode cX4_hasTransistor 16 = .ok (.iconst 0, 1) := by decide +kernel
theorem dX4_hasTransistor_17 : decode cX4_hasTransistor 17 = .ok (.ireturn, 1) := by decide +kernel
theorem dX4_isLed_0 : decode cX4_isLed 0 = .ok (.aload_n 0, 1) := by decide +kernel
theorem dX4_isLed_1 : decode cX4_isLed 1 = .ok (.getfield 15, 3) := by decide +kernel
theorem dX4_isLed_4 : decode cX4_isLed 4 = .ok (.iload_n 1, 1) := by decide +kernel
theorem dX4_isLed_5 : decode cX4_isLed 5 = .ok (.baload, 1) := by decide +kernel
theorem dX4_isLed_6 : decode cX4_isLed 6 = .ok (.ifCond .ne 12, 3) := by decide +kernel
theorem dX4_isLed_9 : decode cX4_isLed 9 = .ok (.aload_n 0, 1) := by decide +kernel
theorem dX4_isLed_10 : decode cX4_isLed 10 = .ok (.getfield 19, 3) := by decide +kernel
theorem dX4_isLed_13 : decode cX4_isLed 13 = .ok (.iload_n 1, 1) := by decide +kernel
theorem dX4_isLed_14 : decode cX4_isLed 14 = .ok (.baload, 1) := by decide +kernel
theorem dX4_isLed_15 : decode cX4_isLed 15 = .ok (.ifCond .eq 7, 3) := by decide +kernel
theorem dX4_isLed_18 : decode cX4_isLed 18 = .ok (.iconst 1, 1) := by decide +kernel
theorem dX4_isLed_19 : decode cX4_isLed 19 = .ok (.goto 4, 3) := by decide +kernel
theorem dX4_isLed_22 : decode cX4_isLed 22 = .ok (.iconst 0, 1) := by decide +kernel
theorem dX4_isLed_23 : decode cX4_isLed 23 = .ok (.ireturn, 1) := by decide +kernel
theorem dX4_conduction_0 : decode cX4_conduction 0 = .ok (.aload_n 0, 1) := by decide +kernel
theorem dX4_conduction_1 : decode cX4_conduction 1 = .ok (.getfield 47, 3) := by decide +kernel
theorem dX4_conduction_4 : decode cX4_conduction 4 = .ok (.iload_n 1, 1) := by decide +kernel
theorem dX4_conduction_5 : decode cX4_conduction 5 = .ok (.iaload, 1) := by decide +kernel
theorem dX4_conduction_6 : decode cX4_conduction 6 = .ok (.iconst 3, 1) := by decide +kernel
theorem dX4_conduction_7 : decode cX4_conduction 7 = .ok (.if_icmp .eq 10, 3) := by decide +kernel
theorem dX4_conduction_10 : decode cX4_conduction 10 = .ok (.aload_n 0, 1) := by decide +kernel
theorem dX4_conduction_11 : decode cX4_conduction 11 = .ok (.getfield 47, 3) := by decide +kernel
theorem dX4_conduction_14 : decode cX4_conduction 14 = .ok (.iload_n 1, 1) := by decide +kernel
theorem dX4_conduction_15 : decode cX4_conduction 15 = .ok (.iaload, 1) := by decide +kernel
theorem dX4_conduction_16 : decode cX4_conduction 16 = .ok (.ireturn, 1) := by decide +kernel
theorem dX4_conduction_17 : decode cX4_conduction 17 = .ok (.aload_n 0, 1) := by decide +kernel
theorem dX4_conduction_18 : decode cX4_conduction 18 = .ok (.getfield 32, 3) := by decide +kernel
theorem dX4_conduction_21 : decode cX4_conduction 21 = .ok (.iload_n 1, 1) := by decide +kernel
theorem dX4_conduction_22 : decode cX4_conduction 22 = .ok (.iaload, 1) := by decide +kernel
theorem dX4_conduction_23 : decode cX4_conduction 23 = .ok (.bipush 100, 2) := by decide +kernel
theorem dX4_conduction_25 : decode cX4_conduction 25 = .ok (.if_icmp .ne 5, 3) := by decide +kernel
theorem dX4_conduction_28 : decode cX4_conduction 28 = .ok (.iconst 1, 1) := by decide +kernel
theorem dX4_conduction_29 : decode cX4_conduction 29 = .ok (.ireturn, 1) := by decide +kernel
theorem dX4_conduction_30 : decode cX4_conduction 30 = .ok (.aload_n 0, 1) := by decide +kernel
theorem dX4_conduction_31 : decode cX4_conduction 31 = .ok (.getfield 26, 3) := by decide +kernel
theorem dX4_conduction_34 : decode cX4_conduction 34 = .ok (.aload_n 0, 1) := by decide +kernel
theorem dX4_conduction_35 : decode cX4_conduction 35 = .ok (.getfield 35, 3) := by decide +kernel
theorem dX4_conduction_38 : decode cX4_conduction 38 = .ok (.iload_n 1, 1) := by decide +kernel
theorem dX4_conduction_39 : decode cX4_conduction 39 = .ok (.iaload, 1) := by decide +kernel
theorem dX4_conduction_40 : decode cX4_conduction 40 = .ok (.iaload, 1) := by decide +kernel
theorem dX4_conduction_41 : decode cX4_conduction 41 = .ok (.istore_n 2, 1) := by decide +kernel
theorem dX4_conduction_42 : decode cX4_conduction 42 = .ok (.iload_n 2, 1) := by decide +kernel
theorem dX4_conduction_43 : decode cX4_conduction 43 = .ok (.iconst 2, 1) := by decide +kernel
theorem dX4_conduction_44 : decode cX4_conduction 44 = .ok (.if_icmp .ne 5, 3) := by decide +kernel
theorem dX4_conduction_47 : decode cX4_conduction 47 = .ok (.iconst 2, 1) := by decide +kernel
theorem dX4_conduction_48 : decode cX4_conduction 48 = .ok (.ireturn, 1) := by decide +kernel
theorem dX4_conduction_49 : decode cX4_conduction 49 = .ok (.aload_n 0, 1) := by decide +kernel
theorem dX4_conduction_50 : decode cX4_conduction 50 = .ok (.getfield 32, 3) := by decide +kernel
theorem dX4_conduction_53 : decode cX4_conduction 53 = .ok (.iload_n 1, 1) := by decide +kernel
theorem dX4_conduction_54 : decode cX4_conduction 54 = .ok (.iaload, 1) := by decide +kernel
theorem dX4_conduction_55 : decode cX4_conduction 55 = .ok (.bipush 110, 2) := by decide +kernel
theorem dX4_conduction_57 : decode cX4_conduction 57 = .ok (.if_icmp .ne 16, 3) := by decide +kernel
theorem dX4_conduction_60 : decode cX4_conduction 60 = .ok (.iload_n 2, 1) := by decide +kernel
theorem dX4_conduction_61 : decode cX4_conduction 61 = .ok (.iconst 1, 1) := by decide +kernel
theorem dX4_conduction_62 : decode cX4_conduction 62 = .ok (.if_icmp .ne 7, 3) := by decide +kernel
theorem dX4_conduction_65 : decode cX4_conduction 65 = .ok (.iconst 1, 1) := by decide +kernel
theorem dX4_conduction_66 : decode cX4_conduction 66 = .ok (.goto 16, 3) := by decide +kernel
theorem dX4_conduction_69 : decode cX4_conduction 69 = .ok (.iconst 0, 1) := by decide +kernel
theorem dX4_conduction_70 : decode cX4_conduction 70 = .ok (.goto 12, 3) := by decide +kernel
theorem dX4_conduction_73 : decode cX4_conduction 73 = .ok (.iload_n 2, 1) := by decide +kernel
theorem dX4_conduction_74 : decode cX4_conduction 74 = .ok (.ifCond .ne 7, 3) := by decide +kernel
theorem dX4_conduction_77 : decode cX4_conduction 77 = .ok (.iconst 1, 1) := by decide +kernel
theorem dX4_conduction_78 : decode cX4_conduction 78 = .ok (.goto 4, 3) := by decide +kernel
theorem dX4_conduction_81 : decode cX4_conduction 81 = .ok (.iconst 0, 1) := by decide +kernel
theorem dX4_conduction_82 : decode cX4_conduction 82 = .ok (.istore_n 3, 1) := by decide +kernel
theorem dX4_conduction_83 : decode cX4_conduction 83 = .ok (.iload_n 3, 1) := by decide +kernel
theorem dX4_conduction_84 : decode cX4_conduction 84 = .ok (.ifCond .eq 7, 3) := by decide +kernel
theorem dX4_conduction_87 : decode cX4_conduction 87 = .ok (.iconst 1, 1) := by decide +kernel
theorem dX4_conduction_88 : decode cX4_conduction 88 = .ok (.goto 4, 3) := by decide +kernel
theorem dX4_conduction_91 : decode cX4_conduction 91 = .ok (.iconst 0, 1) := by decide +kernel
theorem dX4_conduction_92 : decode cX4_conduction 92 = .ok (.ireturn, 1) := by decide +kernel
theorem dX4_nodeNamed_0 : decode cX4_nodeNamed 0 = .ok (.iconst 0, 1) := by decide +kernel
theorem dX4_nodeNamed_1 : decode cX4_nodeNamed 1 = .ok (.istore_n 3, 1) := by decide +kernel
theorem dX4_nodeNamed_2 : decode cX4_nodeNamed 2 = .ok (.iload_n 3, 1) := by decide +kernel
theorem dX4_nodeNamed_3 : decode cX4_nodeNamed 3 = .ok (.aload_n 0, 1) := by decide +kernel
theorem dX4_nodeNamed_4 : decode cX4_nodeNamed 4 = .ok (.getfield 50, 3) := by decide +kernel
theorem dX4_nodeNamed_7 : decode cX4_nodeNamed 7 = .ok (.if_icmp .ge 27, 3) := by decide +kernel
theorem dX4_nodeNamed_10 : decode cX4_nodeNamed 10 = .ok (.aload_n 0, 1) := by decide +kernel
theorem dX4_nodeNamed_11 : decode cX4_nodeNamed 11 = .ok (.getfield 53, 3) := by decide +kernel
theorem dX4_nodeNamed_14 : decode cX4_nodeNamed 14 = .ok (.iload_n 3, 1) := by decide +kernel
theorem dX4_nodeNamed_15 : decode cX4_nodeNamed 15 = .ok (.laload, 1) := by decide +kernel
theorem dX4_nodeNamed_16 : decode cX4_nodeNamed 16 = .ok (.lload_n 1, 1) := by decide +kernel
theorem dX4_nodeNamed_17 : decode cX4_nodeNamed 17 = .ok (.lcmp, 1) := by decide +kernel
theorem dX4_nodeNamed_18 : decode cX4_nodeNamed 18 = .ok (.ifCond .ne 10, 3) := by decide +kernel
theorem dX4_nodeNamed_21 : decode cX4_nodeNamed 21 = .ok (.aload_n 0, 1) := by decide +kernel
theorem dX4_nodeNamed_22 : decode cX4_nodeNamed 22 = .ok (.getfield 57, 3) := by decide +kernel
theorem dX4_nodeNamed_25 : decode cX4_nodeNamed 25 = .ok (.iload_n 3, 1) := by decide +kernel
theorem dX4_nodeNamed_26 : decode cX4_nodeNamed 26 = .ok (.iaload, 1) := by decide +kernel
theorem dX4_nodeNamed_27 : decode cX4_nodeNamed 27 = .ok (.ireturn, 1) := by decide +kernel
theorem dX4_nodeNamed_28 : decode cX4_nodeNamed 28 = .ok (.iinc 3 1, 3) := by decide +kernel
theorem dX4_nodeNamed_31 : decode cX4_nodeNamed 31 = .ok (.goto (-29), 3) := by decide +kernel
theorem dX4_nodeNamed_34 : decode cX4_nodeNamed 34 = .ok (.iconst (-1), 1) := by decide +kernel
theorem dX4_nodeNamed_35 : decode cX4_nodeNamed 35 = .ok (.ireturn, 1) := by decide +kernel
theorem dX4_knownOrNewNode_0 : decode cX4_knownOrNewNode 0 = .ok (.aload_n 0, 1) := by decide +kernel
theorem dX4_knownOrNewNode_1 : decode cX4_knownOrNewNode 1 = .ok (.lload_n 1, 1) := by decide +kernel
theorem dX4_knownOrNewNode_2 : decode cX4_knownOrNewNode 2 = .ok (.invokevirtual 60, 3) := by decide +kernel
theorem dX4_knownOrNewNode_5 : decode cX4_knownOrNewNode 5 = .ok (.istore_n 3, 1) := by decide +kernel
theorem dX4_knownOrNewNode_6 : decode cX4_knownOrNewNode 6 = .ok (.iload_n 3, 1) := by decide +kernel
theorem dX4_knownOrNewNode_7 : decode cX4_knownOrNewNode 7 = .ok (.iconst (-1), 1) := by decide +kernel
theorem dX4_knownOrNewNode_8 : decode cX4_knownOrNewNode 8 = .ok (.if_icmp .eq 5, 3) := by decide +kernel
theorem dX4_knownOrNewNode_11 : decode cX4_knownOrNewNode 11 = .ok (.iload_n 3, 1) := by decide +kernel
theorem dX4_knownOrNewNode_12 : decode cX4_knownOrNewNode 12 = .ok (.ireturn, 1) := by decide +kernel
theorem dX4_knownOrNewNode_13 : decode cX4_knownOrNewNode 13 = .ok (.aload_n 0, 1) := by decide +kernel
theorem dX4_knownOrNewNode_14 : decode cX4_knownOrNewNode 14 = .ok (.getfield 9, 3) := by decide +kernel
theorem dX4_knownOrNewNode_17 : decode cX4_knownOrNewNode 17 = .ok (.bipush 24, 2) := by decide +kernel
theorem dX4_knownOrNewNode_19 : decode cX4_knownOrNewNode 19 = .ok (.if_icmp .ge 15, 3) := by decide +kernel
theorem dX4_knownOrNewNode_22 : decode cX4_knownOrNewNode 22 = .ok (.aload_n 0, 1) := by decide +kernel
theorem dX4_knownOrNewNode_23 : decode cX4_knownOrNewNode 23 = .ok (.lload_n 1, 1) := by decide +kernel
theorem dX4_knownOrNewNode_24 : decode cX4_knownOrNewNode 24 = .ok (.aload_n 0, 1) := by decide +kernel
theorem dX4_knownOrNewNode_25 : decode cX4_knownOrNewNode 25 = .ok (.getfield 9, 3) := by decide +kernel
theorem dX4_knownOrNewNode_28 : decode cX4_knownOrNewNode 28 = .ok (.invokevirtual 64, 3) := by decide +kernel
theorem dX4_knownOrNewNode_31 : decode cX4_knownOrNewNode 31 = .ok (.ifCond .ne 5, 3) := by decide +kernel
theorem dX4_knownOrNewNode_34 : decode cX4_knownOrNewNode 34 = .ok (.iconst (-1), 1) := by decide +kernel
theorem dX4_knownOrNewNode_35 : decode cX4_knownOrNewNode 35 = .ok (.ireturn, 1) := by decide +kernel
theorem dX4_knownOrNewNode_36 : decode cX4_knownOrNewNode 36 = .ok (.aload_n 0, 1) := by decide +kernel
theorem dX4_knownOrNewNode_37 : decode cX4_knownOrNewNode 37 = .ok (.getfield 9, 3) := by decide +kernel
theorem dX4_knownOrNewNode_40 : decode cX4_knownOrNewNode 40 = .ok (.istore 4, 2) := by decide +kernel
theorem dX4_knownOrNewNode_42 : decode cX4_knownOrNewNode 42 = .ok (.aload_n 0, 1) := by decide +kernel
theorem dX4_knownOrNewNode_43 : decode cX4_knownOrNewNode 43 = .ok (.getfield 15, 3) := by decide +kernel
theorem dX4_knownOrNewNode_46 : decode cX4_knownOrNewNode 46 = .ok (.iload 4, 2) := by decide +kernel
theorem dX4_knownOrNewNode_48 : decode cX4_knownOrNewNode 48 = .ok (.iconst 0, 1) := by decide +kernel
theorem dX4_knownOrNewNode_49 : decode cX4_knownOrNewNode 49 = .ok (.bastore, 1) := by decide +kernel
theorem dX4_knownOrNewNode_50 : decode cX4_knownOrNewNode 50 = .ok (.aload_n 0, 1) := by decide +kernel
theorem dX4_knownOrNewNode_51 : decode cX4_knownOrNewNode 51 = .ok (.getfield 19, 3) := by decide +kernel
theorem dX4_knownOrNewNode_54 : decode cX4_knownOrNewNode 54 = .ok (.iload 4, 2) := by decide +kernel
theorem dX4_knownOrNewNode_56 : decode cX4_knownOrNewNode 56 = .ok (.iconst 0, 1) := by decide +kernel
theorem dX4_knownOrNewNode_57 : decode cX4_knownOrNewNode 57 = .ok (.bastore, 1) := by decide +kernel
theorem dX4_knownOrNewNode_58 : decode cX4_knownOrNewNode 58 = .ok (.aload_n 0, 1) := by decide +kernel
theorem dX4_knownOrNewNode_59 : decode cX4_knownOrNewNode 59 = .ok (.getfield 22, 3) := by decide +kernel
theorem dX4_knownOrNewNode_62 : decode cX4_knownOrNewNode 62 = .ok (.iload 4, 2) := by decide +kernel
theorem dX4_knownOrNewNode_64 : decode cX4_knownOrNewNode 64 = .ok (.iconst 2, 1) := by decide +kernel
theorem dX4_knownOrNewNode_65 : decode cX4_knownOrNewNode 65 = .ok (.iastore, 1) := by decide +kernel
theorem dX4_knownOrNewNode_66 : decode cX4_knownOrNewNode 66 = .ok (.aload_n 0, 1) := by decide +kernel
theorem dX4_knownOrNewNode_67 : decode cX4_knownOrNewNode 67 = .ok (.getfield 26, 3) := by decide +kernel
theorem dX4_knownOrNewNode_70 : decode cX4_knownOrNewNode 70 = .ok (.iload 4, 2) := by decide +kernel
theorem dX4_knownOrNewNode_72 : decode cX4_knownOrNewNode 72 = .ok (.iconst 2, 1) := by decide +kernel
theorem dX4_knownOrNewNode_73 : decode cX4_knownOrNewNode 73 = .ok (.iastore, 1) := by decide +kernel
theorem dX4_knownOrNewNode_74 : decode cX4_knownOrNewNode 74 = .ok (.aload_n 0, 1) := by decide +kernel
theorem dX4_knownOrNewNode_75 : decode cX4_knownOrNewNode 75 = .ok (.dup, 1) := by decide +kernel
theorem dX4_knownOrNewNode_76 : decode cX4_knownOrNewNode 76 = .ok (.getfield 9, 3) := by decide +kernel
theorem dX4_knownOrNewNode_79 : decode cX4_knownOrNewNode 79 = .ok (.iconst 1, 1) := by decide +kernel
theorem dX4_knownOrNewNode_80 : decode cX4_knownOrNewNode 80 = .ok (.iadd, 1) := by decide +kernel
theorem dX4_knownOrNewNode_81 : decode cX4_knownOrNewNode 81 = .ok (.putfield 9, 3) := by decide +kernel
theorem dX4_knownOrNewNode_84 : decode cX4_knownOrNewNode 84 = .ok (.iload 4, 2) := by decide +kernel
theorem dX4_knownOrNewNode_86 : decode cX4_knownOrNewNode 86 = .ok (.ireturn, 1) := by decide +kernel
theorem dX4_addName_0 : decode cX4_addName 0 = .ok (.aload_n 0, 1) := by decide +kernel
theorem dX4_addName_1 : decode cX4_addName 1 = .ok (.getfield 50, 3) := by decide +kernel
theorem dX4_addName_4 : decode cX4_addName 4 = .ok (.bipush 40, 2) := by decide +kernel
theorem dX4_addName_6 : decode cX4_addName 6 = .ok (.if_icmp .lt 5, 3) := by decide +kernel
theorem dX4_addName_9 : decode cX4_addName 9 = .ok (.iconst 0, 1) := by decide +kernel
theorem dX4_addName_10 : decode cX4_addName 10 = .ok (.ireturn, 1) := by decide +kernel
theorem dX4_addName_11 : decode cX4_addName 11 = .ok (.aload_n 0, 1) := by decide +kernel
theorem dX4_addName_12 : decode cX4_addName 12 = .ok (.getfield 53, 3) := by decide +kernel
theorem dX4_addName_15 : decode cX4_addName 15 = .ok (.aload_n 0, 1) := by decide +kernel
theorem dX4_addName_16 : decode cX4_addName 16 = .ok (.getfield 50, 3) := by decide +kernel
theorem dX4_addName_19 : decode cX4_addName 19 = .ok (.lload_n 1, 1) := by decide +kernel
theorem dX4_addName_20 : decode cX4_addName 20 = .ok (.lastore, 1) := by decide +kernel
theorem dX4_addName_21 : decode cX4_addName 21 = .ok (.aload_n 0, 1) := by decide +kernel
theorem dX4_addName_22 : decode cX4_addName 22 = .ok (.getfield 57, 3) := by decide +kernel
theorem dX4_addName_25 : decode cX4_addName 25 = .ok (.aload_n 0, 1) := by decide +kernel
theorem dX4_addName_26 : decode cX4_addName 26 = .ok (.getfield 50, 3) := by decide +kernel
theorem dX4_addName_29 : decode cX4_addName 29 = .ok (.iload_n 3, 1) := by decide +kernel
theorem dX4_addName_30 : decode cX4_addName 30 = .ok (.iastore, 1) := by decide +kernel
theorem dX4_addName_31 : decode cX4_addName 31 = .ok (.aload_n 0, 1) := by decide +kernel
theorem dX4_addName_32 : decode cX4_addName 32 = .ok (.dup, 1) := by decide +kernel
theorem dX4_addName_33 : decode cX4_addName 33 = .ok (.getfield 50, 3) := by decide +kernel
theorem dX4_addName_36 : decode cX4_addName 36 = .ok (.iconst 1, 1) := by decide +kernel
theorem dX4_addName_37 : decode cX4_addName 37 = .ok (.iadd, 1) := by decide +kernel
theorem dX4_addName_38 : decode cX4_addName 38 = .ok (.putfield 50, 3) := by decide +kernel
theorem dX4_addName_41 : decode cX4_addName 41 = .ok (.iconst 1, 1) := by decide +kernel
theorem dX4_addName_42 : decode cX4_addName 42 = .ok (.ireturn, 1) := by decide +kernel
theorem dX4_addTransistor_0 : decode cX4_addTransistor 0 = .ok (.aload_n 0, 1) := by decide +kernel
theorem dX4_addTransistor_1 : decode cX4_addTransistor 1 = .ok (.getfield 29, 3) := by decide +kernel
theorem dX4_addTransistor_4 : decode cX4_addTransistor 4 = .ok (.bipush 30, 2) := by decide +kernel
theorem dX4_addTransistor_6 : decode cX4_addTransistor 6 = .ok (.if_icmp .lt 5, 3) := by decide +kernel
theorem dX4_addTransistor_9 : decode cX4_addTransistor 9 = .ok (.iconst 0, 1) := by decide +kernel
theorem dX4_addTransistor_10 : decode cX4_addTransistor 10 = .ok (.ireturn, 1) := by decide +kernel
theorem dX4_addTransistor_11 : decode cX4_addTransistor 11 = .ok (.aload_n 0, 1) := by decide +kernel
theorem dX4_addTransistor_12 : decode cX4_addTransistor 12 = .ok (.getfield 29, 3) := by decide +kernel
theorem dX4_addTransistor_15 : decode cX4_addTransistor 15 = .ok (.istore 6, 2) := by decide +kernel
theorem dX4_addTransistor_17 : decode cX4_addTransistor 17 = .ok (.aload_n 0, 1) := by decide +kernel
theorem dX4_addTransistor_18 : decode cX4_addTransistor 18 = .ok (.getfield 32, 3) := by decide +kernel
theorem dX4_addTransistor_21 : decode cX4_addTransistor 21 = .ok (.iload 6, 2) := by decide +kernel
theorem dX4_addTransistor_23 : decode cX4_addTransistor 23 = .ok (.iload_n 1, 1) := by decide +kernel
theorem dX4_addTransistor_24 : decode cX4_addTransistor 24 = .ok (.iastore, 1) := by decide +kernel
theorem dX4_addTransistor_25 : decode cX4_addTransistor 25 = .ok (.aload_n 0, 1) := by decide +kernel
theorem dX4_addTransistor_26 : decode cX4_addTransistor 26 = .ok (.getfield 35, 3) := by decide +kernel
theorem dX4_addTransistor_29 : decode cX4_addTransistor 29 = .ok (.iload 6, 2) := by decide +kernel
theorem dX4_addTransistor_31 : decode cX4_addTransistor 31 = .ok (.iload_n 2, 1) := by decide +kernel
theorem dX4_addTransistor_32 : decode cX4_addTransistor 32 = .ok (.iastore, 1) := by decide +kernel
theorem dX4_addTransistor_33 : decode cX4_addTransistor 33 = .ok (.aload_n 0, 1) := by decide +kernel
theorem dX4_addTransistor_34 : decode cX4_addTransistor 34 = .ok (.getfield 38, 3) := by decide +kernel
theorem dX4_addTransistor_37 : decode cX4_addTransistor 37 = .ok (.iload 6, 2) := by decide +kernel
theorem dX4_addTransistor_39 : decode cX4_addTransistor 39 = .ok (.iload_n 3, 1) := by decide +kernel
theorem dX4_addTransistor_40 : decode cX4_addTransistor 40 = .ok (.iastore, 1) := by decide +kernel
theorem dX4_addTransistor_41 : decode cX4_addTransistor 41 = .ok (.aload_n 0, 1) := by decide +kernel
theorem dX4_addTransistor_42 : decode cX4_addTransistor 42 = .ok (.getfield 41, 3) := by decide +kernel
theorem dX4_addTransistor_45 : decode cX4_addTransistor 45 = .ok (.iload 6, 2) := by decide +kernel
theorem dX4_addTransistor_47 : decode cX4_addTransistor 47 = .ok (.iload 4, 2) := by decide +kernel
theorem dX4_addTransistor_49 : decode cX4_addTransistor 49 = .ok (.iastore, 1) := by decide +kernel
theorem dX4_addTransistor_50 : decode cX4_addTransistor 50 = .ok (.aload_n 0, 1) := by decide +kernel
theorem dX4_addTransistor_51 : decode cX4_addTransistor 51 = .ok (.getfield 44, 3) := by decide +kernel
theorem dX4_addTransistor_54 : decode cX4_addTransistor 54 = .ok (.iload 6, 2) := by decide +kernel
theorem dX4_addTransistor_56 : decode cX4_addTransistor 56 = .ok (.iload 5, 2) := by decide +kernel
theorem dX4_addTransistor_58 : decode cX4_addTransistor 58 = .ok (.iastore, 1) := by decide +kernel
theorem dX4_addTransistor_59 : decode cX4_addTransistor 59 = .ok (.aload_n 0, 1) := by decide +kernel
theorem dX4_addTransistor_60 : decode cX4_addTransistor 60 = .ok (.getfield 47, 3) := by decide +kernel
theorem dX4_addTransistor_63 : decode cX4_addTransistor 63 = .ok (.iload 6, 2) := by decide +kernel
theorem dX4_addTransistor_65 : decode cX4_addTransistor 65 = .ok (.iconst 3, 1) := by decide +kernel
theorem dX4_addTransistor_66 : decode cX4_addTransistor 66 = .ok (.iastore, 1) := by decide +kernel
theorem dX4_addTransistor_67 : decode cX4_addTransistor 67 = .ok (.aload_n 0, 1) := by decide +kernel
theorem dX4_addTransistor_68 : decode cX4_addTransistor 68 = .ok (.dup, 1) := by decide +kernel
theorem dX4_addTransistor_69 : decode cX4_addTransistor 69 = .ok (.getfield 29, 3) := by decide +kernel
theorem dX4_addTransistor_72 : decode cX4_addTransistor 72 = .ok (.iconst 1, 1) := by decide +kernel
theorem dX4_addTransistor_73 : decode cX4_addTransistor 73 = .ok (.iadd, 1) := by decide +kernel
theorem dX4_addTransistor_74 : decode cX4_addTransistor 74 = .ok (.putfield 29, 3) := by decide +kernel
theorem dX4_addTransistor_77 : decode cX4_addTransistor 77 = .ok (.iconst 1, 1) := by decide +kernel
theorem dX4_addTransistor_78 : decode cX4_addTransistor 78 = .ok (.ireturn, 1) := by decide +kernel
theorem dX5_init_0 : decode cX5_init 0 = .ok (.aload_n 0, 1) := by decide +kernel
theorem dX5_init_1 : decode cX5_init 1 = .ok (.invokespecial 3, 3) := by decide +kernel
theorem dX5_init_4 : decode cX5_init 4 = .ok (.aload_n 0, 1) := by decide +kernel
theorem dX5_init_5 : decode cX5_init 5 = .ok (.sipush 480, 3) := by decide +kernel
theorem dX5_init_8 : decode cX5_init 8 = .ok (.newarray .char, 2) := by decide +kernel
theorem dX5_init_10 : decode cX5_init 10 = .ok (.putfield 9, 3) := by decide +kernel
theorem dX5_init_13 : decode cX5_init 13 = .ok (.aload_n 0, 1) := by decide +kernel
theorem dX5_init_14 : decode cX5_init 14 = .ok (.iconst 0, 1) := by decide +kernel
theorem dX5_init_15 : decode cX5_init 15 = .ok (.putfield 15, 3) := by decide +kernel
theorem dX5_init_18 : decode cX5_init 18 = .ok (.return_, 1) := by decide +kernel
theorem dX5_clear_0 : decode cX5_clear 0 = .ok (.aload_n 0, 1) := by decide +kernel
theorem dX5_clear_1 : decode cX5_clear 1 = .ok (.iconst 0, 1) := by decide +kernel
theorem dX5_clear_2 : decode cX5_clear 2 = .ok (.putfield 15, 3) := by decide +kernel
theorem dX5_clear_5 : decode cX5_clear 5 = .ok (.return_, 1) := by decide +kernel
theorem dX5_append_0 : decode cX5_append 0 = .ok (.lload_n 1, 1) := by decide +kernel
theorem dX5_append_1 : decode cX5_append 1 = .ok (.invokestatic 19, 3) := by decide +kernel
theorem dX5_append_4 : decode cX5_append 4 = .ok (.istore_n 3, 1) := by decide +kernel
theorem dX5_append_5 : decode cX5_append 5 = .ok (.iload_n 3, 1) := by decide +kernel
theorem dX5_append_6 : decode cX5_append 6 = .ok (.iconst (-1), 1) := by decide +kernel
theorem dX5_append_7 : decode cX5_append 7 = .ok (.if_icmp .eq 15, 3) := by decide +kernel
theorem dX5_append_10 : decode cX5_append 10 = .ok (.aload_n 0, 1) := by decide +kernel
theorem dX5_append_11 : decode cX5_append 11 = .ok (.getfield 15, 3) := by decide +kernel
theorem dX5_append_14 : decode cX5_append 14 = .ok (.iload_n 3, 1) := by decide +kernel
theorem dX5_append_15 : decode cX5_append 15 = .ok (.iadd, 1) := by decide +kernel
theorem dX5_append_16 : decode cX5_append 16 = .ok (.sipush 480, 3) := by decide +kernel
theorem dX5_append_19 : decode cX5_append 19 = .ok (.if_icmp .le 5, 3) := by decide +kernel
theorem dX5_append_22 : decode cX5_append 22 = .ok (.iconst 0, 1) := by decide +kernel
theorem dX5_append_23 : decode cX5_append 23 = .ok (.ireturn, 1) := by decide +kernel
theorem dX5_append_24 : decode cX5_append 24 = .ok (.iconst 0, 1) := by decide +kernel
theorem dX5_append_25 : decode cX5_append 25 = .ok (.istore 4, 2) := by decide +kernel
theorem dX5_append_27 : decode cX5_append 27 = .ok (.iload 4, 2) := by decide +kernel
theorem dX5_append_29 : decode cX5_append 29 = .ok (.bipush 8, 2) := by decide +kernel
theorem dX5_append_31 : decode cX5_append 31 = .ok (.if_icmp .ge 54, 3) := by decide +kernel
theorem dX5_append_34 : decode cX5_append 34 = .ok (.lload_n 1, 1) := by decide +kernel
theorem dX5_append_35 : decode cX5_append 35 = .ok (.iload 4, 2) := by decide +kernel
theorem dX5_append_37 : decode cX5_append 37 = .ok (.invokestatic 23, 3) := by decide +kernel
theorem dX5_append_40 : decode cX5_append 40 = .ok (.istore 5, 2) := by decide +kernel
theorem dX5_append_42 : decode cX5_append 42 = .ok (.iload 5, 2) := by decide +kernel
theorem dX5_append_44 : decode cX5_append 44 = .ok (.ifCond .eq 35, 3) := by decide +kernel
theorem dX5_append_47 : decode cX5_append 47 = .ok (.aload_n 0, 1) := by decide +kernel
theorem dX5_append_48 : decode cX5_append 48 = .ok (.getfield 15, 3) := by decide +kernel
theorem dX5_append_51 : decode cX5_append 51 = .ok (.sipush 480, 3) := by decide +kernel
theorem dX5_append_54 : decode cX5_append 54 = .ok (.if_icmp .ge 25, 3) := by decide +kernel
theorem dX5_append_57 : decode cX5_append 57 = .ok (.aload_n 0, 1) := by decide +kernel
theorem dX5_append_58 : decode cX5_append 58 = .ok (.getfield 9, 3) := by decide +kernel
theorem dX5_append_61 : decode cX5_append 61 = .ok (.aload_n 0, 1) := by decide +kernel
theorem dX5_append_62 : decode cX5_append 62 = .ok (.getfield 15, 3) := by decide +kernel
theorem dX5_append_65 : decode cX5_append 65 = .ok (.iload 5, 2) := by decide +kernel
theorem dX5_append_67 : decode cX5_append 67 = .ok (.i2c, 1) := by decide +kernel
theorem dX5_append_68 : decode cX5_append 68 = .ok (.castore, 1) := by decide +kernel
theorem dX5_append_69 : decode cX5_append 69 = .ok (.aload_n 0, 1) := by decide +kernel
theorem dX5_append_70 : decode cX5_append 70 = .ok (.dup, 1) := by decide +kernel
theorem dX5_append_71 : decode cX5_append 71 = .ok (.getfield 15, 3) := by decide +kernel
theorem dX5_append_74 : decode cX5_append 74 = .ok (.iconst 1, 1) := by decide +kernel
theorem dX5_append_75 : decode cX5_append 75 = .ok (.iadd, 1) := by decide +kernel
theorem dX5_append_76 : decode cX5_append 76 = .ok (.putfield 15, 3) := by decide +kernel
theorem dX5_append_79 : decode cX5_append 79 = .ok (.iinc 4 1, 3) := by decide +kernel
theorem dX5_append_82 : decode cX5_append 82 = .ok (.goto (-55), 3) := by decide +kernel
theorem dX5_append_85 : decode cX5_append 85 = .ok (.iconst 1, 1) := by decide +kernel
theorem dX5_append_86 : decode cX5_append 86 = .ok (.ireturn, 1) := by decide +kernel
theorem dX5_countAllowed_0 : decode cX5_countAllowed 0 = .ok (.iconst 0, 1) := by decide +kernel
theorem dX5_countAllowed_1 : decode cX5_countAllowed 1 = .ok (.istore_n 2, 1) := by decide +kernel
theorem dX5_countAllowed_2 : decode cX5_countAllowed 2 = .ok (.iconst 0, 1) := by decide +kernel
theorem dX5_countAllowed_3 : decode cX5_countAllowed 3 = .ok (.istore_n 3, 1) := by decide +kernel
theorem dX5_countAllowed_4 : decode cX5_countAllowed 4 = .ok (.iload_n 3, 1) := by decide +kernel
theorem dX5_countAllowed_5 : decode cX5_countAllowed 5 = .ok (.bipush 8, 2) := by decide +kernel
theorem dX5_countAllowed_7 : decode cX5_countAllowed 7 = .ok (.if_icmp .ge 34, 3) := by decide +kernel
theorem dX5_countAllowed_10 : decode cX5_countAllowed 10 = .ok (.lload_n 0, 1) := by decide +kernel
theorem dX5_countAllowed_11 : decode cX5_countAllowed 11 = .ok (.iload_n 3, 1) := by decide +kernel
theorem dX5_countAllowed_12 : decode cX5_countAllowed 12 = .ok (.invokestatic 23, 3) := by decide +kernel
theorem dX5_countAllowed_15 : decode cX5_countAllowed 15 = .ok (.istore 4, 2) := by decide +kernel
theorem dX5_countAllowed_17 : decode cX5_countAllowed 17 = .ok (.iload 4, 2) := by decide +kernel
theorem dX5_countAllowed_19 : decode cX5_countAllowed 19 = .ok (.ifCond .eq 16, 3) := by decide +kernel
theorem dX5_countAllowed_22 : decode cX5_countAllowed 22 = .ok (.iload 4, 2) := by decide +kernel
theorem dX5_countAllowed_24 : decode cX5_countAllowed 24 = .ok (.invokestatic 27, 3) := by decide +kernel
theorem dX5_countAllowed_27 : decode cX5_countAllowed 27 = .ok (.ifCond .ne 5, 3) := by decide +kernel
theorem dX5_countAllowed_30 : decode cX5_countAllowed 30 = .ok (.iconst (-1), 1) := by decide +kernel
theorem dX5_countAllowed_31 : decode cX5_countAllowed 31 = .ok (.ireturn, 1) := by decide +kernel
theorem dX5_countAllowed_32 : decode cX5_countAllowed 32 = .ok (.iinc 2 1, 3) := by decide +kernel
theorem dX5_countAllowed_35 : decode cX5_countAllowed 35 = .ok (.iinc 3 1, 3) := by decide +kernel
theorem dX5_countAllowed_38 : decode cX5_countAllowed 38 = .ok (.goto (-34), 3) := by decide +kernel
theorem dX5_countAllowed_41 : decode cX5_countAllowed 41 = .ok (.iload_n 2, 1) := by decide +kernel
theorem dX5_countAllowed_42 : decode cX5_countAllowed 42 = .ok (.ireturn, 1) := by decide +kernel
theorem dX5_byteAt_0 : decode cX5_byteAt 0 = .ok (.lload_n 0, 1) := by decide +kernel
theorem dX5_byteAt_1 : decode cX5_byteAt 1 = .ok (.bipush 8, 2) := by decide +kernel
theorem dX5_byteAt_3 : decode cX5_byteAt 3 = .ok (.iload_n 2, 1) := by decide +kernel
theorem dX5_byteAt_4 : decode cX5_byteAt 4 = .ok (.imul, 1) := by decide +kernel
theorem dX5_byteAt_5 : decode cX5_byteAt 5 = .ok (.lushr, 1) := by decide +kernel
theorem dX5_byteAt_6 : decode cX5_byteAt 6 = .ok (.l2i, 1) := by decide +kernel
theorem dX5_byteAt_7 : decode cX5_byteAt 7 = .ok (.sipush 255, 3) := by decide +kernel
theorem dX5_byteAt_10 : decode cX5_byteAt 10 = .ok (.iand, 1) := by decide +kernel
theorem dX5_byteAt_11 : decode cX5_byteAt 11 = .ok (.ireturn, 1) := by decide +kernel
theorem dX5_isAllowed_0 : decode cX5_isAllowed 0 = .ok (.iload_n 0, 1) := by decide +kernel
theorem dX5_isAllowed_1 : decode cX5_isAllowed 1 = .ok (.bipush 10, 2) := by decide +kernel
theorem dX5_isAllowed_3 : decode cX5_isAllowed 3 = .ok (.if_icmp .eq 15, 3) := by decide +kernel
theorem dX5_isAllowed_6 : decode cX5_isAllowed 6 = .ok (.iload_n 0, 1) := by decide +kernel
theorem dX5_isAllowed_7 : decode cX5_isAllowed 7 = .ok (.bipush 32, 2) := by decide +kernel
theorem dX5_isAllowed_9 : decode cX5_isAllowed 9 = .ok (.if_icmp .lt 13, 3) := by decide +kernel
theorem dX5_isAllowed_12 : decode cX5_isAllowed 12 = .ok (.iload_n 0, 1) := by decide +kernel
theorem dX5_isAllowed_13 : decode cX5_isAllowed 13 = .ok (.bipush 126, 2) := by decide +kernel
theorem dX5_isAllowed_15 : decode cX5_isAllowed 15 = .ok (.if_icmp .gt 7, 3) := by decide +kernel
theorem dX5_isAllowed_18 : decode cX5_isAllowed 18 = .ok (.iconst 1, 1) := by decide +kernel
theorem dX5_isAllowed_19 : decode cX5_isAllowed 19 = .ok (.goto 4, 3) := by decide +kernel
theorem dX5_isAllowed_22 : decode cX5_isAllowed 22 = .ok (.iconst 0, 1) := by decide +kernel
theorem dX5_isAllowed_23 : decode cX5_isAllowed 23 = .ok (.ireturn, 1) := by decide +kernel
theorem dX6_init_0 : decode cX6_init 0 = .ok (.aload_n 0, 1) := by decide +kernel
theorem dX6_init_1 : decode cX6_init 1 = .ok (.invokespecial 1, 3) := by decide +kernel
theorem dX6_init_4 : decode cX6_init 4 = .ok (.aload_n 0, 1) := by decide +kernel
theorem dX6_init_5 : decode cX6_init 5 = .ok (.new 7, 3) := by decide +kernel
theorem dX6_init_8 : decode cX6_init 8 = .ok (.dup, 1) := by decide +kernel
theorem dX6_init_9 : decode cX6_init 9 = .ok (.invokespecial 9, 3) := by decide +kernel
theorem dX6_init_12 : decode cX6_init 12 = .ok (.putfield 10, 3) := by decide +kernel
theorem dX6_init_15 : decode cX6_init 15 = .ok (.aload_n 0, 1) := by decide +kernel
theorem dX6_init_16 : decode cX6_init 16 = .ok (.new 16, 3) := by decide +kernel
theorem dX6_init_19 : decode cX6_init 19 = .ok (.dup, 1) := by decide +kernel
theorem dX6_init_20 : decode cX6_init 20 = .ok (.invokespecial 18, 3) := by decide +kernel
theorem dX6_init_23 : decode cX6_init 23 = .ok (.putfield 19, 3) := by decide +kernel
theorem dX6_init_26 : decode cX6_init 26 = .ok (.aload_n 0, 1) := by decide +kernel
theorem dX6_init_27 : decode cX6_init 27 = .ok (.new 16, 3) := by decide +kernel
theorem dX6_init_30 : decode cX6_init 30 = .ok (.dup, 1) := by decide +kernel
theorem dX6_init_31 : decode cX6_init 31 = .ok (.invokespecial 18, 3) := by decide +kernel
theorem dX6_init_34 : decode cX6_init 34 = .ok (.putfield 23, 3) := by decide +kernel
theorem dX6_init_37 : decode cX6_init 37 = .ok (.aload_n 0, 1) := by decide +kernel
theorem dX6_init_38 : decode cX6_init 38 = .ok (.new 26, 3) := by decide +kernel
theorem dX6_init_41 : decode cX6_init 41 = .ok (.dup, 1) := by decide +kernel
theorem dX6_init_42 : decode cX6_init 42 = .ok (.aload_n 0, 1) := by decide +kernel
theorem dX6_init_43 : decode cX6_init 43 = .ok (.getfield 10, 3) := by decide +kernel
theorem dX6_init_46 : decode cX6_init 46 = .ok (.aload_n 0, 1) := by decide +kernel
theorem dX6_init_47 : decode cX6_init 47 = .ok (.getfield 23, 3) := by decide +kernel
theorem dX6_init_50 : decode cX6_init 50 = .ok (.invokespecial 28, 3) := by decide +kernel
theorem dX6_init_53 : decode cX6_init 53 = .ok (.putfield 31, 3) := by decide +kernel
theorem dX6_init_56 : decode cX6_init 56 = .ok (.aload_n 0, 1) := by decide +kernel
theorem dX6_init_57 : decode cX6_init 57 = .ok (.new 35, 3) := by decide +kernel
theorem dX6_init_60 : decode cX6_init 60 = .ok (.dup, 1) := by decide +kernel
theorem dX6_init_61 : decode cX6_init 61 = .ok (.invokespecial 37, 3) := by decide +kernel
theorem dX6_init_64 : decode cX6_init 64 = .ok (.putfield 38, 3) := by decide +kernel
theorem dX6_init_67 : decode cX6_init 67 = .ok (.aload_n 0, 1) := by decide +kernel
theorem dX6_init_68 : decode cX6_init 68 = .ok (.new 42, 3) := by decide +kernel
theorem dX6_init_71 : decode cX6_init 71 = .ok (.dup, 1) := by decide +kernel
theorem dX6_init_72 : decode cX6_init 72 = .ok (.invokespecial 44, 3) := by decide +kernel
theorem dX6_init_75 : decode cX6_init 75 = .ok (.putfield 45, 3) := by decide +kernel
theorem dX6_init_78 : decode cX6_init 78 = .ok (.aload_n 0, 1) := by decide +kernel
theorem dX6_init_79 : decode cX6_init 79 = .ok (.new 49, 3) := by decide +kernel
theorem dX6_init_82 : decode cX6_init 82 = .ok (.dup, 1) := by decide +kernel
theorem dX6_init_83 : decode cX6_init 83 = .ok (.invokespecial 51, 3) := by decide +kernel
theorem dX6_init_86 : decode cX6_init 86 = .ok (.putfield 52, 3) := by decide +kernel
theorem dX6_init_89 : decode cX6_init 89 = .ok (.aload_n 0, 1) := by decide +kernel
theorem dX6_init_90 : decode cX6_init 90 = .ok (.bipush 20, 2) := by decide +kernel
theorem dX6_init_92 : decode cX6_init 92 = .ok (.putfield 56, 3) := by decide +kernel
theorem dX6_init_95 : decode cX6_init 95 = .ok (.aload_n 0, 1) := by decide +kernel
theorem dX6_init_96 : decode cX6_init 96 = .ok (.iconst 0, 1) := by decide +kernel
theorem dX6_init_97 : decode cX6_init 97 = .ok (.putfield 60, 3) := by decide +kernel
theorem dX6_init_100 : decode cX6_init 100 = .ok (.return_, 1) := by decide +kernel
theorem dX6_write_0 : decode cX6_write 0 = .ok (.aload_n 0, 1) := by decide +kernel
theorem dX6_write_1 : decode cX6_write 1 = .ok (.getfield 10, 3) := by decide +kernel
theorem dX6_write_4 : decode cX6_write 4 = .ok (.lload_n 1, 1) := by decide +kernel
theorem dX6_write_5 : decode cX6_write 5 = .ok (.invokevirtual 63, 3) := by decide +kernel
theorem dX6_write_8 : decode cX6_write 8 = .ok (.ireturn, 1) := by decide +kernel
theorem dX6_wipe_0 : decode cX6_wipe 0 = .ok (.aload_n 0, 1) := by decide +kernel
theorem dX6_wipe_1 : decode cX6_wipe 1 = .ok (.getfield 10, 3) := by decide +kernel
theorem dX6_wipe_4 : decode cX6_wipe 4 = .ok (.invokevirtual 67, 3) := by decide +kernel
theorem dX6_wipe_7 : decode cX6_wipe 7 = .ok (.return_, 1) := by decide +kernel
theorem dX6_load_0 : decode cX6_load 0 = .ok (.aload_n 0, 1) := by decide +kernel
theorem dX6_load_1 : decode cX6_load 1 = .ok (.getfield 31, 3) := by decide +kernel
theorem dX6_load_4 : decode cX6_load 4 = .ok (.aload_n 0, 1) := by decide +kernel
theorem dX6_load_5 : decode cX6_load 5 = .ok (.getfield 23, 3) := by decide +kernel
theorem dX6_load_8 : decode cX6_load 8 = .ok (.invokevirtual 70, 3) := by decide +kernel
theorem dX6_load_11 : decode cX6_load 11 = .ok (.istore_n 1, 1) := by decide +kernel
theorem dX6_load_12 : decode cX6_load 12 = .ok (.iload_n 1, 1) := by decide +kernel
theorem dX6_load_13 : decode cX6_load 13 = .ok (.ifCond .eq 6, 3) := by decide +kernel
theorem dX6_load_16 : decode cX6_load 16 = .ok (.iload_n 1, 1) := by decide +kernel
theorem dX6_load_17 : decode cX6_load 17 = .ok (.ineg, 1) := by decide +kernel
theorem dX6_load_18 : decode cX6_load 18 = .ok (.ireturn, 1) := by decide +kernel
theorem dX6_load_19 : decode cX6_load 19 = .ok (.aload_n 0, 1) := by decide +kernel
theorem dX6_load_20 : decode cX6_load 20 = .ok (.getfield 19, 3) := by decide +kernel
theorem dX6_load_23 : decode cX6_load 23 = .ok (.astore_n 2, 1) := by decide +kernel
theorem dX6_load_24 : decode cX6_load 24 = .ok (.aload_n 0, 1) := by decide +kernel
theorem dX6_load_25 : decode cX6_load 25 = .ok (.aload_n 0, 1) := by decide +kernel
theorem dX6_load_26 : decode cX6_load 26 = .ok (.getfield 23, 3) := by decide +kernel
theorem dX6_load_29 : decode cX6_load 29 = .ok (.putfield 19, 3) := by decide +kernel
theorem dX6_load_32 : decode cX6_load 32 = .ok (.aload_n 0, 1) := by decide +kernel
theorem dX6_load_33 : decode cX6_load 33 = .ok (.aload_n 2, 1) := by decide +kernel
theorem dX6_load_34 : decode cX6_load 34 = .ok (.putfield 23, 3) := by decide +kernel
theorem dX6_load_37 : decode cX6_load 37 = .ok (.aload_n 0, 1) := by decide +kernel
theorem dX6_load_38 : decode cX6_load 38 = .ok (.iconst 0, 1) := by decide +kernel
theorem dX6_load_39 : decode cX6_load 39 = .ok (.putfield 60, 3) := by decide +kernel
theorem dX6_load_42 : decode cX6_load 42 = .ok (.aload_n 0, 1) := by decide +kernel
theorem dX6_load_43 : decode cX6_load 43 = .ok (.getfield 52, 3) := by decide +kernel
theorem dX6_load_46 : decode cX6_load 46 = .ok (.invokevirtual 74, 3) := by decide +kernel
theorem dX6_load_49 : decode cX6_load 49 = .ok (.aload_n 0, 1) := by decide +kernel
theorem dX6_load_50 : decode cX6_load 50 = .ok (.getfield 19, 3) := by decide +kernel
theorem dX6_load_53 : decode cX6_load 53 = .ok (.getfield 75, 3) := by decide +kernel
theorem dX6_load_56 : decode cX6_load 56 = .ok (.ireturn, 1) := by decide +kernel
theorem dX6_nodes_0 : decode cX6_nodes 0 = .ok (.aload_n 0, 1) := by decide +kernel
theorem dX6_nodes_1 : decode cX6_nodes 1 = .ok (.getfield 19, 3) := by decide +kernel
theorem dX6_nodes_4 : decode cX6_nodes 4 = .ok (.getfield 78, 3) := by decide +kernel
theorem dX6_nodes_7 : decode cX6_nodes 7 = .ok (.ireturn, 1) := by decide +kernel
theorem dX6_node_0 : decode cX6_node 0 = .ok (.aload_n 0, 1) := by decide +kernel
theorem dX6_node_1 : decode cX6_node 1 = .ok (.getfield 19, 3) := by decide +kernel
theorem dX6_node_4 : decode cX6_node 4 = .ok (.lload_n 1, 1) := by decide +kernel
theorem dX6_node_5 : decode cX6_node 5 = .ok (.invokevirtual 81, 3) := by decide +kernel
theorem dX6_node_8 : decode cX6_node 8 = .ok (.ireturn, 1) := by decide +kernel
theorem dX6_set_0 : decode cX6_set 0 = .ok (.aload_n 0, 1) := by decide +kernel
theorem dX6_set_1 : decode cX6_set 1 = .ok (.getfield 19, 3) := by decide +kernel
theorem dX6_set_4 : decode cX6_set 4 = .ok (.iload_n 1, 1) := by decide +kernel
theorem dX6_set_5 : decode cX6_set 5 = .ok (.invokevirtual 85, 3) := by decide +kernel
theorem dX6_set_8 : decode cX6_set 8 = .ok (.ifCond .eq 22, 3) := by decide +kernel
theorem dX6_set_11 : decode cX6_set 11 = .ok (.aload_n 0, 1) := by decide +kernel
theorem dX6_set_12 : decode cX6_set 12 = .ok (.getfield 19, 3) := by decide +kernel
theorem dX6_set_15 : decode cX6_set 15 = .ok (.getfield 89, 3) := by decide +kernel
theorem dX6_set_18 : decode cX6_set 18 = .ok (.iload_n 1, 1) := by decide +kernel
theorem dX6_set_19 : decode cX6_set 19 = .ok (.baload, 1) := by decide +kernel
theorem dX6_set_20 : decode cX6_set 20 = .ok (.ifCond .ne 10, 3) := by decide +kernel
theorem dX6_set_23 : decode cX6_set 23 = .ok (.iload_n 2, 1) := by decide +kernel
theorem dX6_set_24 : decode cX6_set 24 = .ok (.invokestatic 93, 3) := by decide +kernel
theorem dX6_set_27 : decode cX6_set 27 = .ok (.ifCond .ne 5, 3) := by decide +kernel
theorem dX6_set_30 : decode cX6_set 30 = .ok (.iconst 0, 1) := by decide +kernel
theorem dX6_set_31 : decode cX6_set 31 = .ok (.ireturn, 1) := by decide +kernel
theorem dX6_set_32 : decode cX6_set 32 = .ok (.aload_n 0, 1) := by decide +kernel
theorem dX6_set_33 : decode cX6_set 33 = .ok (.getfield 19, 3) := by decide +kernel
theorem dX6_set_36 : decode cX6_set 36 = .ok (.getfield 96, 3) := by decide +kernel
theorem dX6_set_39 : decode cX6_set 39 = .ok (.iload_n 1, 1) := by decide +kernel
theorem dX6_set_40 : decode cX6_set 40 = .ok (.iload_n 2, 1) := by decide +kernel
theorem dX6_set_41 : decode cX6_set 41 = .ok (.iastore, 1) := by decide +kernel
theorem dX6_set_42 : decode cX6_set 42 = .ok (.iconst 1, 1) := by decide +kernel
theorem dX6_set_43 : decode cX6_set 43 = .ok (.ireturn, 1) := by decide +kernel
theorem dX6_stick_0 : decode cX6_stick 0 = .ok (.aload_n 0, 1) := by decide +kernel
theorem dX6_stick_1 : decode cX6_stick 1 = .ok (.getfield 19, 3) := by decide +kernel
theorem dX6_stick_4 : decode cX6_stick 4 = .ok (.iload_n 1, 1) := by decide +kernel
theorem dX6_stick_5 : decode cX6_stick 5 = .ok (.invokevirtual 85, 3) := by decide +kernel
theorem dX6_stick_8 : decode cX6_stick 8 = .ok (.ifCond .eq 22, 3) := by decide +kernel
theorem dX6_stick_11 : decode cX6_stick 11 = .ok (.aload_n 0, 1) := by decide +kernel
theorem dX6_stick_12 : decode cX6_stick 12 = .ok (.getfield 19, 3) := by decide +kernel
theorem dX6_stick_15 : decode cX6_stick 15 = .ok (.getfield 100, 3) := by decide +kernel
theorem dX6_stick_18 : decode cX6_stick 18 = .ok (.iload_n 1, 1) := by decide +kernel
theorem dX6_stick_19 : decode cX6_stick 19 = .ok (.baload, 1) := by decide +kernel
theorem dX6_stick_20 : decode cX6_stick 20 = .ok (.ifCond .ne 10, 3) := by decide +kernel
theorem dX6_stick_23 : decode cX6_stick 23 = .ok (.iload_n 2, 1) := by decide +kernel
theorem dX6_stick_24 : decode cX6_stick 24 = .ok (.invokestatic 93, 3) := by decide +kernel
theorem dX6_stick_27 : decode cX6_stick 27 = .ok (.ifCond .ne 5, 3) := by decide +kernel
theorem dX6_stick_30 : decode cX6_stick 30 = .ok (.iconst 0, 1) := by decide +kernel
theorem dX6_stick_31 : decode cX6_stick 31 = .ok (.ireturn, 1) := by decide +kernel
theorem dX6_stick_32 : decode cX6_stick 32 = .ok (.aload_n 0, 1) := by decide +kernel
theorem dX6_stick_33 : decode cX6_stick 33 = .ok (.getfield 19, 3) := by decide +kernel
theorem dX6_stick_36 : decode cX6_stick 36 = .ok (.getfield 89, 3) := by decide +kernel
theorem dX6_stick_39 : decode cX6_stick 39 = .ok (.iload_n 1, 1) := by decide +kernel
theorem dX6_stick_40 : decode cX6_stick 40 = .ok (.iconst 1, 1) := by decide +kernel
theorem dX6_stick_41 : decode cX6_stick 41 = .ok (.bastore, 1) := by decide +kernel
theorem dX6_stick_42 : decode cX6_stick 42 = .ok (.aload_n 0, 1) := by decide +kernel
theorem dX6_stick_43 : decode cX6_stick 43 = .ok (.getfield 19, 3) := by decide +kernel
theorem dX6_stick_46 : decode cX6_stick 46 = .ok (.getfield 96, 3) := by decide +kernel
theorem dX6_stick_49 : decode cX6_stick 49 = .ok (.iload_n 1, 1) := by decide +kernel
theorem dX6_stick_50 : decode cX6_stick 50 = .ok (.iload_n 2, 1) := by decide +kernel
theorem dX6_stick_51 : decode cX6_stick 51 = .ok (.iastore, 1) := by decide +kernel
theorem dX6_stick_52 : decode cX6_stick 52 = .ok (.iconst 1, 1) := by decide +kernel
theorem dX6_stick_53 : decode cX6_stick 53 = .ok (.ireturn, 1) := by decide +kernel
theorem dX6_free_0 : decode cX6_free 0 = .ok (.aload_n 0, 1) := by decide +kernel
theorem dX6_free_1 : decode cX6_free 1 = .ok (.getfield 19, 3) := by decide +kernel
theorem dX6_free_4 : decode cX6_free 4 = .ok (.iload_n 1, 1) := by decide +kernel
theorem dX6_free_5 : decode cX6_free 5 = .ok (.invokevirtual 85, 3) := by decide +kernel
theorem dX6_free_8 : decode cX6_free 8 = .ok (.ifCond .eq 15, 3) := by decide +kernel
theorem dX6_free_11 : decode cX6_free 11 = .ok (.aload_n 0, 1) := by decide +kernel
theorem dX6_free_12 : decode cX6_free 12 = .ok (.getfield 19, 3) := by decide +kernel
theorem dX6_free_15 : decode cX6_free 15 = .ok (.getfield 89, 3) := by decide +kernel
theorem dX6_free_18 : decode cX6_free 18 = .ok (.iload_n 1, 1) := by decide +kernel
theorem dX6_free_19 : decode cX6_free 19 = .ok (.baload, 1) := by decide +kernel
theorem dX6_free_20 : decode cX6_free 20 = .ok (.ifCond .ne 5, 3) := by decide +kernel
theorem dX6_free_23 : decode cX6_free 23 = .ok (.iconst 0, 1) := by decide +kernel
theorem dX6_free_24 : decode cX6_free 24 = .ok (.ireturn, 1) := by decide +kernel
theorem dX6_free_25 : decode cX6_free 25 = .ok (.aload_n 0, 1) := by decide +kernel
theorem dX6_free_26 : decode cX6_free 26 = .ok (.getfield 19, 3) := by decide +kernel
theorem dX6_free_29 : decode cX6_free 29 = .ok (.getfield 89, 3) := by decide +kernel
theorem dX6_free_32 : decode cX6_free 32 = .ok (.iload_n 1, 1) := by decide +kernel
theorem dX6_free_33 : decode cX6_free 33 = .ok (.iconst 0, 1) := by decide +kernel
theorem dX6_free_34 : decode cX6_free 34 = .ok (.bastore, 1) := by decide +kernel
theorem dX6_free_35 : decode cX6_free 35 = .ok (.iconst 1, 1) := by decide +kernel
theorem dX6_free_36 : decode cX6_free 36 = .ok (.ireturn, 1) := by decide +kernel
theorem dX6_jam_0 : decode cX6_jam 0 = .ok (.aload_n 0, 1) := by decide +kernel
theorem dX6_jam_1 : decode cX6_jam 1 = .ok (.getfield 19, 3) := by decide +kernel
theorem dX6_jam_4 : decode cX6_jam 4 = .ok (.iload_n 1, 1) := by decide +kernel
theorem dX6_jam_5 : decode cX6_jam 5 = .ok (.invokevirtual 103, 3) := by decide +kernel
theorem dX6_jam_8 : decode cX6_jam 8 = .ok (.ifCond .eq 12, 3) := by decide +kernel
theorem dX6_jam_11 : decode cX6_jam 11 = .ok (.iload_n 2, 1) := by decide +kernel
theorem dX6_jam_12 : decode cX6_jam 12 = .ok (.ifCond .lt 8, 3) := by decide +kernel
theorem dX6_jam_15 : decode cX6_jam 15 = .ok (.iload_n 2, 1) := by decide +kernel
theorem dX6_jam_16 : decode cX6_jam 16 = .ok (.iconst 3, 1) := by decide +kernel
theorem dX6_jam_17 : decode cX6_jam 17 = .ok (.if_icmp .le 5, 3) := by decide +kernel
theorem dX6_jam_20 : decode cX6_jam 20 = .ok (.iconst 0, 1) := by decide +kernel
theorem dX6_jam_21 : decode cX6_jam 21 = .ok (.ireturn, 1) := by decide +kernel
theorem dX6_jam_22 : decode cX6_jam 22 = .ok (.aload_n 0, 1) := by decide +kernel
theorem dX6_jam_23 : decode cX6_jam 23 = .ok (.getfield 19, 3) := by decide +kernel
theorem dX6_jam_26 : decode cX6_jam 26 = .ok (.getfield 106, 3) := by decide +kernel
theorem dX6_jam_29 : decode cX6_jam 29 = .ok (.iload_n 1, 1) := by decide +kernel
theorem dX6_jam_30 : decode cX6_jam 30 = .ok (.iload_n 2, 1) := by decide +kernel
theorem dX6_jam_31 : decode cX6_jam 31 = .ok (.iastore, 1) := by decide +kernel
theorem dX6_jam_32 : decode cX6_jam 32 = .ok (.iconst 1, 1) := by decide +kernel
theorem dX6_jam_33 : decode cX6_jam 33 = .ok (.ireturn, 1) := by decide +kernel
theorem dX6_limit_0 : decode cX6_limit 0 = .ok (.iload_n 1, 1) := by decide +kernel
theorem dX6_limit_1 : decode cX6_limit 1 = .ok (.iconst 1, 1) := by decide +kernel
theorem dX6_limit_2 : decode cX6_limit 2 = .ok (.if_icmp .lt 9, 3) := by decide +kernel
theorem dX6_limit_5 : decode cX6_limit 5 = .ok (.iload_n 1, 1) := by decide +kernel
theorem dX6_limit_6 : decode cX6_limit 6 = .ok (.bipush 50, 2) := by decide +kernel
theorem dX6_limit_8 : decode cX6_limit 8 = .ok (.if_icmp .le 5, 3) := by decide +kernel
theorem dX6_limit_11 : decode cX6_limit 11 = .ok (.iconst 0, 1) := by decide +kernel
theorem dX6_limit_12 : decode cX6_limit 12 = .ok (.ireturn, 1) := by decide +kernel
theorem dX6_limit_13 : decode cX6_limit 13 = .ok (.aload_n 0, 1) := by decide +kernel
theorem dX6_limit_14 : decode cX6_limit 14 = .ok (.iload_n 1, 1) := by decide +kernel
theorem dX6_limit_15 : decode cX6_limit 15 = .ok (.putfield 56, 3) := by decide +kernel
theorem dX6_limit_18 : decode cX6_limit 18 = .ok (.iconst 1, 1) := by decide +kernel
theorem dX6_limit_19 : decode cX6_limit 19 = .ok (.ireturn, 1) := by decide +kernel
theorem dX6_step_0 : decode cX6_step 0 = .ok (.aload_n 0, 1) := by decide +kernel
theorem dX6_step_1 : decode cX6_step 1 = .ok (.iconst 0, 1) := by decide +kernel
theorem dX6_step_2 : decode cX6_step 2 = .ok (.invokevirtual 109, 3) := by decide +kernel
theorem dX6_step_5 : decode cX6_step 5 = .ok (.ireturn, 1) := by decide +kernel
theorem dX6_settle_0 : decode cX6_settle 0 = .ok (.iconst 0, 1) := by decide +kernel
theorem dX6_settle_1 : decode cX6_settle 1 = .ok (.istore_n 1, 1) := by decide +kernel
theorem dX6_settle_2 : decode cX6_settle 2 = .ok (.iconst 1, 1) := by decide +kernel
theorem dX6_settle_3 : decode cX6_settle 3 = .ok (.istore_n 2, 1) := by decide +kernel
theorem dX6_settle_4 : decode cX6_settle 4 = .ok (.iload_n 2, 1) := by decide +kernel
theorem dX6_settle_5 : decode cX6_settle 5 = .ok (.ifCond .eq 31, 3) := by decide +kernel
theorem dX6_settle_8 : decode cX6_settle 8 = .ok (.iload_n 1, 1) := by decide +kernel
theorem dX6_settle_9 : decode cX6_settle 9 = .ok (.aload_n 0, 1) := by decide +kernel
theorem dX6_settle_10 : decode cX6_settle 10 = .ok (.getfield 56, 3) := by decide +kernel
theorem dX6_settle_13 : decode cX6_settle 13 = .ok (.if_icmp .ge 23, 3) := by decide +kernel
theorem dX6_settle_16 : decode cX6_settle 16 = .ok (.aload_n 0, 1) := by decide +kernel
theorem dX6_settle_17 : decode cX6_settle 17 = .ok (.iconst 0, 1) := by decide +kernel
theorem dX6_settle_18 : decode cX6_settle 18 = .ok (.invokevirtual 109, 3) := by decide +kernel
theorem dX6_settle_21 : decode cX6_settle 21 = .ok (.ifCond .le 7, 3) := by decide +kernel
theorem dX6_settle_24 : decode cX6_settle 24 = .ok (.iconst 1, 1) := by decide +kernel
theorem dX6_settle_25 : decode cX6_settle 25 = .ok (.goto 4, 3) := by decide +kernel
theorem dX6_settle_28 : decode cX6_settle 28 = .ok (.iconst 0, 1) := by decide +kernel
theorem dX6_settle_29 : decode cX6_settle 29 = .ok (.istore_n 2, 1) := by decide +kernel
theorem dX6_settle_30 : decode cX6_settle 30 = .ok (.iinc 1 1, 3) := by decide +kernel
theorem dX6_settle_33 : decode cX6_settle 33 = .ok (.goto (-29), 3) := by decide +kernel
theorem dX6_settle_36 : decode cX6_settle 36 = .ok (.iconst 0, 1) := by decide +kernel
theorem dX6_settle_37 : decode cX6_settle 37 = .ok (.istore_n 3, 1) := by decide +kernel
theorem dX6_settle_38 : decode cX6_settle 38 = .ok (.iload_n 2, 1) := by decide +kernel
theorem dX6_settle_39 : decode cX6_settle 39 = .ok (.ifCond .eq 32, 3) := by decide +kernel
theorem dX6_settle_42 : decode cX6_settle 42 = .ok (.iload_n 3, 1) := by decide +kernel
theorem dX6_settle_43 : decode cX6_settle 43 = .ok (.bipush 24, 2) := by decide +kernel
theorem dX6_settle_45 : decode cX6_settle 45 = .ok (.if_icmp .gt 26, 3) := by decide +kernel
theorem dX6_settle_48 : decode cX6_settle 48 = .ok (.aload_n 0, 1) := by decide +kernel
theorem dX6_settle_49 : decode cX6_settle 49 = .ok (.iconst 1, 1) := by decide +kernel
theorem dX6_settle_50 : decode cX6_settle 50 = .ok (.invokevirtual 109, 3) := by decide +kernel
theorem dX6_settle_53 : decode cX6_settle 53 = .ok (.ifCond .le 7, 3) := by decide +kernel
theorem dX6_settle_56 : decode cX6_settle 56 = .ok (.iconst 1, 1) := by decide +kernel
theorem dX6_settle_57 : decode cX6_settle 57 = .ok (.goto 4, 3) := by decide +kernel
theorem dX6_settle_60 : decode cX6_settle 60 = .ok (.iconst 0, 1) := by decide +kernel
theorem dX6_settle_61 : decode cX6_settle 61 = .ok (.istore_n 2, 1) := by decide +kernel
theorem dX6_settle_62 : decode cX6_settle 62 = .ok (.iinc 1 1, 3) := by decide +kernel
theorem dX6_settle_65 : decode cX6_settle 65 = .ok (.iinc 3 1, 3) := by decide +kernel
theorem dX6_settle_68 : decode cX6_settle 68 = .ok (.goto (-30), 3) := by decide +kernel
theorem dX6_settle_71 : decode cX6_settle 71 = .ok (.iload_n 1, 1) := by decide +kernel
theorem dX6_settle_72 : decode cX6_settle 72 = .ok (.ireturn, 1) := by decide +kernel
theorem dX6_steps_0 : decode cX6_steps 0 = .ok (.aload_n 0, 1) := by decide +kernel
theorem dX6_steps_1 : decode cX6_steps 1 = .ok (.getfield 60, 3) := by decide +kernel
theorem dX6_steps_4 : decode cX6_steps 4 = .ok (.ireturn, 1) := by decide +kernel
theorem dX6_state_0 : decode cX6_state 0 = .ok (.aload_n 0, 1) := by decide +kernel
theorem dX6_state_1 : decode cX6_state 1 = .ok (.getfield 19, 3) := by decide +kernel
theorem dX6_state_4 : decode cX6_state 4 = .ok (.iload_n 1, 1) := by decide +kernel
theorem dX6_state_5 : decode cX6_state 5 = .ok (.invokevirtual 85, 3) := by decide +kernel
theorem dX6_state_8 : decode cX6_state 8 = .ok (.ifCond .eq 15, 3) := by decide +kernel
theorem dX6_state_11 : decode cX6_state 11 = .ok (.aload_n 0, 1) := by decide +kernel
theorem dX6_state_12 : decode cX6_state 12 = .ok (.getfield 19, 3) := by decide +kernel
theorem dX6_state_15 : decode cX6_state 15 = .ok (.getfield 96, 3) := by decide +kernel
theorem dX6_state_18 : decode cX6_state 18 = .ok (.iload_n 1, 1) := by decide +kernel
theorem dX6_state_19 : decode cX6_state 19 = .ok (.iaload, 1) := by decide +kernel
theorem dX6_state_20 : decode cX6_state 20 = .ok (.goto 4, 3) := by decide +kernel
theorem dX6_state_23 : decode cX6_state 23 = .ok (.iconst (-1), 1) := by decide +kernel
theorem dX6_state_24 : decode cX6_state 24 = .ok (.ireturn, 1) := by decide +kernel
theorem dX6_level_0 : decode cX6_level 0 = .ok (.aload_n 0, 1) := by decide +kernel
theorem dX6_level_1 : decode cX6_level 1 = .ok (.getfield 19, 3) := by decide +kernel
theorem dX6_level_4 : decode cX6_level 4 = .ok (.iload_n 1, 1) := by decide +kernel
theorem dX6_level_5 : decode cX6_level 5 = .ok (.invokevirtual 85, 3) := by decide +kernel
theorem dX6_level_8 : decode cX6_level 8 = .ok (.ifCond .eq 12, 3) := by decide +kernel
theorem dX6_level_11 : decode cX6_level 11 = .ok (.iload_n 2, 1) := by decide +kernel
theorem dX6_level_12 : decode cX6_level 12 = .ok (.ifCond .lt 8, 3) := by decide +kernel
theorem dX6_level_15 : decode cX6_level 15 = .ok (.iload_n 2, 1) := by decide +kernel
theorem dX6_level_16 : decode cX6_level 16 = .ok (.iconst 2, 1) := by decide +kernel
theorem dX6_level_17 : decode cX6_level 17 = .ok (.if_icmp .le 5, 3) := by decide +kernel
theorem dX6_level_20 : decode cX6_level 20 = .ok (.iconst (-1), 1) := by decide +kernel
theorem dX6_level_21 : decode cX6_level 21 = .ok (.ireturn, 1) := by decide +kernel
theorem dX6_level_22 : decode cX6_level 22 = .ok (.aload_n 0, 1) := by decide +kernel
theorem dX6_level_23 : decode cX6_level 23 = .ok (.getfield 38, 3) := by decide +kernel
theorem dX6_level_26 : decode cX6_level 26 = .ok (.aload_n 0, 1) := by decide +kernel
theorem dX6_level_27 : decode cX6_level 27 = .ok (.getfield 19, 3) := by decide +kernel
theorem dX6_level_30 : decode cX6_level 30 = .ok (.invokevirtual 113, 3) := by decide +kernel
theorem dX6_level_33 : decode cX6_level 33 = .ok (.iload_n 2, 1) := by decide +kernel
theorem dX6_level_34 : decode cX6_level 34 = .ok (.ifCond .ne 13, 3) := by decide +kernel
theorem dX6_level_37 : decode cX6_level 37 = .ok (.aload_n 0, 1) := by decide +kernel
theorem dX6_level_38 : decode cX6_level 38 = .ok (.getfield 38, 3) := by decide +kernel
theorem dX6_level_41 : decode cX6_level 41 = .ok (.getfield 117, 3) := by decide +kernel
theorem dX6_level_44 : decode cX6_level 44 = .ok (.iload_n 1, 1) := by decide +kernel
theorem dX6_level_45 : decode cX6_level 45 = .ok (.iaload, 1) := by decide +kernel
theorem dX6_level_46 : decode cX6_level 46 = .ok (.ireturn, 1) := by decide +kernel
theorem dX6_level_47 : decode cX6_level 47 = .ok (.iload_n 2, 1) := by decide +kernel
theorem dX6_level_48 : decode cX6_level 48 = .ok (.iconst 1, 1) := by decide +kernel
theorem dX6_level_49 : decode cX6_level 49 = .ok (.if_icmp .ne 15, 3) := by decide +kernel
theorem dX6_level_52 : decode cX6_level 52 = .ok (.aload_n 0, 1) := by decide +kernel
theorem dX6_level_53 : decode cX6_level 53 = .ok (.getfield 38, 3) := by decide +kernel
theorem dX6_level_56 : decode cX6_level 56 = .ok (.getfield 120, 3) := by decide +kernel
theorem dX6_level_59 : decode cX6_level 59 = .ok (.iload_n 1, 1) := by decide +kernel
theorem dX6_level_60 : decode cX6_level 60 = .ok (.iaload, 1) := by decide +kernel
theorem dX6_level_61 : decode cX6_level 61 = .ok (.goto 12, 3) := by decide +kernel
theorem dX6_level_64 : decode cX6_level 64 = .ok (.aload_n 0, 1) := by decide +kernel
theorem dX6_level_65 : decode cX6_level 65 = .ok (.getfield 38, 3) := by decide +kernel
theorem dX6_level_68 : decode cX6_level 68 = .ok (.getfield 123, 3) := by decide +kernel
theorem dX6_level_71 : decode cX6_level 71 = .ok (.iload_n 1, 1) := by decide +kernel
theorem dX6_level_72 : decode cX6_level 72 = .ok (.iaload, 1) := by decide +kernel
theorem dX6_level_73 : decode cX6_level 73 = .ok (.ireturn, 1) := by decide +kernel
theorem dX6_group_0 : decode cX6_group 0 = .ok (.aload_n 0, 1) := by decide +kernel
theorem dX6_group_1 : decode cX6_group 1 = .ok (.getfield 19, 3) := by decide +kernel
theorem dX6_group_4 : decode cX6_group 4 = .ok (.iload_n 1, 1) := by decide +kernel
theorem dX6_group_5 : decode cX6_group 5 = .ok (.invokevirtual 85, 3) := by decide +kernel
theorem dX6_group_8 : decode cX6_group 8 = .ok (.ifCond .eq 14, 3) := by decide +kernel
theorem dX6_group_11 : decode cX6_group 11 = .ok (.aload_n 0, 1) := by decide +kernel
theorem dX6_group_12 : decode cX6_group 12 = .ok (.getfield 19, 3) := by decide +kernel
theorem dX6_group_15 : decode cX6_group 15 = .ok (.iload_n 1, 1) := by decide +kernel
theorem dX6_group_16 : decode cX6_group 16 = .ok (.invokevirtual 126, 3) := by decide +kernel
theorem dX6_group_19 : decode cX6_group 19 = .ok (.ifCond .eq 5, 3) := by decide +kernel
theorem dX6_group_22 : decode cX6_group 22 = .ok (.iconst (-1), 1) := by decide +kernel
theorem dX6_group_23 : decode cX6_group 23 = .ok (.ireturn, 1) := by decide +kernel
theorem dX6_group_24 : decode cX6_group 24 = .ok (.aload_n 0, 1) := by decide +kernel
theorem dX6_group_25 : decode cX6_group 25 = .ok (.getfield 45, 3) := by decide +kernel
theorem dX6_group_28 : decode cX6_group 28 = .ok (.aload_n 0, 1) := by decide +kernel
theorem dX6_group_29 : decode cX6_group 29 = .ok (.getfield 19, 3) := by decide +kernel
theorem dX6_group_32 : decode cX6_group 32 = .ok (.invokevirtual 129, 3) := by decide +kernel
theorem dX6_group_35 : decode cX6_group 35 = .ok (.aload_n 0, 1) := by decide +kernel
theorem dX6_group_36 : decode cX6_group 36 = .ok (.getfield 45, 3) := by decide +kernel
theorem dX6_group_39 : decode cX6_group 39 = .ok (.getfield 130, 3) := by decide +kernel
theorem dX6_group_42 : decode cX6_group 42 = .ok (.iload_n 1, 1) := by decide +kernel
theorem dX6_group_43 : decode cX6_group 43 = .ok (.iaload, 1) := by decide +kernel
theorem dX6_group_44 : decode cX6_group 44 = .ok (.ireturn, 1) := by decide +kernel
theorem dX6_conducts_0 : decode cX6_conducts 0 = .ok (.aload_n 0, 1) := by decide +kernel
theorem dX6_conducts_1 : decode cX6_conducts 1 = .ok (.getfield 19, 3) := by decide +kernel
theorem dX6_conducts_4 : decode cX6_conducts 4 = .ok (.iload_n 1, 1) := by decide +kernel
theorem dX6_conducts_5 : decode cX6_conducts 5 = .ok (.invokevirtual 103, 3) := by decide +kernel
theorem dX6_conducts_8 : decode cX6_conducts 8 = .ok (.ifCond .eq 14, 3) := by decide +kernel
theorem dX6_conducts_11 : decode cX6_conducts 11 = .ok (.aload_n 0, 1) := by decide +kernel
theorem dX6_conducts_12 : decode cX6_conducts 12 = .ok (.getfield 19, 3) := by decide +kernel
theorem dX6_conducts_15 : decode cX6_conducts 15 = .ok (.iload_n 1, 1) := by decide +kernel
theorem dX6_conducts_16 : decode cX6_conducts 16 = .ok (.invokevirtual 133, 3) := by decide +kernel
theorem dX6_conducts_19 : decode cX6_conducts 19 = .ok (.goto 4, 3) := by decide +kernel
theorem dX6_conducts_22 : decode cX6_conducts 22 = .ok (.iconst (-1), 1) := by decide +kernel
theorem dX6_conducts_23 : decode cX6_conducts 23 = .ok (.ireturn, 1) := by decide +kernel
theorem dX6_change_0 : decode cX6_change 0 = .ok (.aload_n 0, 1) := by decide +kernel
theorem dX6_change_1 : decode cX6_change 1 = .ok (.getfield 52, 3) := by decide +kernel
theorem dX6_change_4 : decode cX6_change 4 = .ok (.iload_n 1, 1) := by decide +kernel
theorem dX6_change_5 : decode cX6_change 5 = .ok (.invokevirtual 137, 3) := by decide +kernel
theorem dX6_change_8 : decode cX6_change 8 = .ok (.ireturn, 1) := by decide +kernel
theorem dX6_isState_0 : decode cX6_isState 0 = .ok (.iload_n 0, 1) := by decide +kernel
theorem dX6_isState_1 : decode cX6_isState 1 = .ok (.ifCond .lt 12, 3) := by decide +kernel
theorem dX6_isState_4 : decode cX6_isState 4 = .ok (.iload_n 0, 1) := by decide +kernel
theorem dX6_isState_5 : decode cX6_isState 5 = .ok (.iconst 2, 1) := by decide +kernel
theorem dX6_isState_6 : decode cX6_isState 6 = .ok (.if_icmp .gt 7, 3) := by decide +kernel
theorem dX6_isState_9 : decode cX6_isState 9 = .ok (.iconst 1, 1) := by decide +kernel
theorem dX6_isState_10 : decode cX6_isState 10 = .ok (.goto 4, 3) := by decide +kernel
theorem dX6_isState_13 : decode cX6_isState 13 = .ok (.iconst 0, 1) := by decide +kernel
theorem dX6_isState_14 : decode cX6_isState 14 = .ok (.ireturn, 1) := by decide +kernel
theorem dX6_makeStep_0 : decode cX6_makeStep 0 = .ok (.aload_n 0, 1) := by decide +kernel
theorem dX6_makeStep_1 : decode cX6_makeStep 1 = .ok (.getfield 38, 3) := by decide +kernel
theorem dX6_makeStep_4 : decode cX6_makeStep 4 = .ok (.aload_n 0, 1) := by decide +kernel
theorem dX6_makeStep_5 : decode cX6_makeStep 5 = .ok (.getfield 19, 3) := by decide +kernel
theorem dX6_makeStep_8 : decode cX6_makeStep 8 = .ok (.invokevirtual 113, 3) := by decide +kernel
theorem dX6_makeStep_11 : decode cX6_makeStep 11 = .ok (.aload_n 0, 1) := by decide +kernel
theorem dX6_makeStep_12 : decode cX6_makeStep 12 = .ok (.dup, 1) := by decide +kernel
theorem dX6_makeStep_13 : decode cX6_makeStep 13 = .ok (.getfield 60, 3) := by decide +kernel
theorem dX6_makeStep_16 : decode cX6_makeStep 16 = .ok (.iconst 1, 1) := by decide +kernel
theorem dX6_makeStep_17 : decode cX6_makeStep 17 = .ok (.iadd, 1) := by decide +kernel
theorem dX6_makeStep_18 : decode cX6_makeStep 18 = .ok (.putfield 60, 3) := by decide +kernel
theorem dX6_makeStep_21 : decode cX6_makeStep 21 = .ok (.iconst 0, 1) := by decide +kernel
theorem dX6_makeStep_22 : decode cX6_makeStep 22 = .ok (.istore_n 2, 1) := by decide +kernel
theorem dX6_makeStep_23 : decode cX6_makeStep 23 = .ok (.iconst 0, 1) := by decide +kernel
theorem dX6_makeStep_24 : decode cX6_makeStep 24 = .ok (.istore_n 3, 1) := by decide +kernel
theorem dX6_makeStep_25 : decode cX6_makeStep 25 = .ok (.iload_n 3, 1) := by decide +kernel
theorem dX6_makeStep_26 : decode cX6_makeStep 26 = .ok (.aload_n 0, 1) := by decide +kernel
theorem dX6_makeStep_27 : decode cX6_makeStep 27 = .ok (.getfield 19, 3) := by decide +kernel
theorem dX6_makeStep_30 : decode cX6_makeStep 30 = .ok (.getfield 78, 3) := by decide +kernel
theorem dX6_makeStep_33 : decode cX6_makeStep 33 = .ok (.if_icmp .ge 95, 3) := by decide +kernel
theorem dX6_makeStep_36 : decode cX6_makeStep 36 = .ok (.aload_n 0, 1) := by decide +kernel
theorem dX6_makeStep_37 : decode cX6_makeStep 37 = .ok (.getfield 19, 3) := by decide +kernel
theorem dX6_makeStep_40 : decode cX6_makeStep 40 = .ok (.getfield 96, 3) := by decide +kernel
theorem dX6_makeStep_43 : decode cX6_makeStep 43 = .ok (.iload_n 3, 1) := by decide +kernel
theorem dX6_makeStep_44 : decode cX6_makeStep 44 = .ok (.iaload, 1) := by decide +kernel
theorem dX6_makeStep_45 : decode cX6_makeStep 45 = .ok (.istore 4, 2) := by decide +kernel
theorem dX6_makeStep_47 : decode cX6_makeStep 47 = .ok (.aload_n 0, 1) := by decide +kernel
theorem dX6_makeStep_48 : decode cX6_makeStep 48 = .ok (.getfield 19, 3) := by decide +kernel
theorem dX6_makeStep_51 : decode cX6_makeStep 51 = .ok (.iload_n 3, 1) := by decide +kernel
theorem dX6_makeStep_52 : decode cX6_makeStep 52 = .ok (.invokevirtual 126, 3) := by decide +kernel
theorem dX6_makeStep_55 : decode cX6_makeStep 55 = .ok (.ifCond .eq 8, 3) := by decide +kernel
theorem dX6_makeStep_58 : decode cX6_makeStep 58 = .ok (.iload 4, 2) := by decide +kernel
theorem dX6_makeStep_60 : decode cX6_makeStep 60 = .ok (.goto 11, 3) := by decide +kernel
theorem dX6_makeStep_63 : decode cX6_makeStep 63 = .ok (.aload_n 0, 1) := by decide +kernel
theorem dX6_makeStep_64 : decode cX6_makeStep 64 = .ok (.getfield 38, 3) := by decide +kernel
theorem dX6_makeStep_67 : decode cX6_makeStep 67 = .ok (.iload_n 3, 1) := by decide +kernel
theorem dX6_makeStep_68 : decode cX6_makeStep 68 = .ok (.invokevirtual 140, 3) := by decide +kernel
theorem dX6_makeStep_71 : decode cX6_makeStep 71 = .ok (.istore 5, 2) := by decide +kernel
theorem dX6_makeStep_73 : decode cX6_makeStep 73 = .ok (.iload_n 1, 1) := by decide +kernel
theorem dX6_makeStep_74 : decode cX6_makeStep 74 = .ok (.ifCond .eq 13, 3) := by decide +kernel
theorem dX6_makeStep_77 : decode cX6_makeStep 77 = .ok (.iload 5, 2) := by decide +kernel
theorem dX6_makeStep_79 : decode cX6_makeStep 79 = .ok (.iload 4, 2) := by decide +kernel
theorem dX6_makeStep_81 : decode cX6_makeStep 81 = .ok (.if_icmp .eq 6, 3) := by decide +kernel
theorem dX6_makeStep_84 : decode cX6_makeStep 84 = .ok (.iconst 2, 1) := by decide +kernel
theorem dX6_makeStep_85 : decode cX6_makeStep 85 = .ok (.istore 5, 2) := by decide +kernel
theorem dX6_makeStep_87 : decode cX6_makeStep 87 = .ok (.iload 5, 2) := by decide +kernel
theorem dX6_makeStep_89 : decode cX6_makeStep 89 = .ok (.iload 4, 2) := by decide +kernel
theorem dX6_makeStep_91 : decode cX6_makeStep 91 = .ok (.if_icmp .eq 31, 3) := by decide +kernel
theorem dX6_makeStep_94 : decode cX6_makeStep 94 = .ok (.aload_n 0, 1) := by decide +kernel
theorem dX6_makeStep_95 : decode cX6_makeStep 95 = .ok (.getfield 19, 3) := by decide +kernel
theorem dX6_makeStep_98 : decode cX6_makeStep 98 = .ok (.getfield 96, 3) := by decide +kernel
theorem dX6_makeStep_101 : decode cX6_makeStep 101 = .ok (.iload_n 3, 1) := by decide +kernel
theorem dX6_makeStep_102 : decode cX6_makeStep 102 = .ok (.iload 5, 2) := by decide +kernel
theorem dX6_makeStep_104 : decode cX6_makeStep 104 = .ok (.iastore, 1) := by decide +kernel
theorem dX6_makeStep_105 : decode cX6_makeStep 105 = .ok (.aload_n 0, 1) := by decide +kernel
theorem dX6_makeStep_106 : decode cX6_makeStep 106 = .ok (.getfield 52, 3) := by decide +kernel
theorem dX6_makeStep_109 : decode cX6_makeStep 109 = .ok (.aload_n 0, 1) := by decide +kernel
theorem dX6_makeStep_110 : decode cX6_makeStep 110 = .ok (.getfield 60, 3) := by decide +kernel
theorem dX6_makeStep_113 : decode cX6_makeStep 113 = .ok (.iload_n 3, 1) := by decide +kernel
theorem dX6_makeStep_114 : decode cX6_makeStep 114 = .ok (.iload 5, 2) := by decide +kernel
theorem dX6_makeStep_116 : decode cX6_makeStep 116 = .ok (.invokevirtual 143, 3) := by decide +kernel
theorem dX6_makeStep_119 : decode cX6_makeStep 119 = .ok (.iinc 2 1, 3) := by decide +kernel
theorem dX6_makeStep_122 : decode cX6_makeStep 122 = .ok (.iinc 3 1, 3) := by decide +kernel
theorem dX6_makeStep_125 : decode cX6_makeStep 125 = .ok (.goto (-100), 3) := by decide +kernel
theorem dX6_makeStep_128 : decode cX6_makeStep 128 = .ok (.iload_n 2, 1) := by decide +kernel
theorem dX6_makeStep_129 : decode cX6_makeStep 129 = .ok (.ireturn, 1) := by decide +kernel
