theorem dX9_makeRoom_63 : decode cX9_makeRoom 63 = .ok (.invokestatic 49, 3) := by decide +kernel
theorem dX9_makeRoom_66 : decode cX9_makeRoom 66 = .ok (.putfield 15, 3) := by decide +kernel
theorem dX9_makeRoom_69 : decode cX9_makeRoom 69 = .ok (.aload_n 0, 1) := by decide +kernel
theorem dX9_makeRoom_70 : decode cX9_makeRoom 70 = .ok (.iconst 2, 1) := by decide +kernel
theorem dX9_makeRoom_71 : decode cX9_makeRoom 71 = .ok (.aload_n 0, 1) := by decide +kernel
theorem dX9_makeRoom_72 : decode cX9_makeRoom 72 = .ok (.getfield 22, 3) := by decide +kernel
theorem dX9_makeRoom_75 : decode cX9_makeRoom 75 = .ok (.imul, 1) := by decide +kernel
theorem dX9_makeRoom_76 : decode cX9_makeRoom 76 = .ok (.invokevirtual 29, 3) := by decide +kernel
theorem dX9_makeRoom_79 : decode cX9_makeRoom 79 = .ok (.iconst 0, 1) := by decide +kernel
theorem dX9_makeRoom_80 : decode cX9_makeRoom 80 = .ok (.istore_n 1, 1) := by decide +kernel
theorem dX9_makeRoom_81 : decode cX9_makeRoom 81 = .ok (.iload_n 1, 1) := by decide +kernel
theorem dX9_makeRoom_82 : decode cX9_makeRoom 82 = .ok (.aload_n 0, 1) := by decide +kernel
theorem dX9_makeRoom_83 : decode cX9_makeRoom 83 = .ok (.getfield 26, 3) := by decide +kernel
theorem dX9_makeRoom_86 : decode cX9_makeRoom 86 = .ok (.if_icmp .ge 41, 3) := by decide +kernel
theorem dX9_makeRoom_89 : decode cX9_makeRoom 89 = .ok (.aload_n 0, 1) := by decide +kernel
theorem dX9_makeRoom_90 : decode cX9_makeRoom 90 = .ok (.aload_n 0, 1) := by decide +kernel
theorem dX9_makeRoom_91 : decode cX9_makeRoom 91 = .ok (.iload_n 1, 1) := by decide +kernel
theorem dX9_makeRoom_92 : decode cX9_makeRoom 92 = .ok (.invokevirtual 37, 3) := by decide +kernel
theorem dX9_makeRoom_95 : decode cX9_makeRoom 95 = .ok (.invokevirtual 41, 3) := by decide +kernel
theorem dX9_makeRoom_98 : decode cX9_makeRoom 98 = .ok (.istore_n 2, 1) := by decide +kernel
theorem dX9_makeRoom_99 : decode cX9_makeRoom 99 = .ok (.iload_n 2, 1) := by decide +kernel
theorem dX9_makeRoom_100 : decode cX9_makeRoom 100 = .ok (.ifCond .lt 21, 3) := by decide +kernel
theorem dX9_makeRoom_103 : decode cX9_makeRoom 103 = .ok (.iload_n 2, 1) := by decide +kernel
theorem dX9_makeRoom_104 : decode cX9_makeRoom 104 = .ok (.aload_n 0, 1) := by decide +kernel
theorem dX9_makeRoom_105 : decode cX9_makeRoom 105 = .ok (.getfield 18, 3) := by decide +kernel
theorem dX9_makeRoom_108 : decode cX9_makeRoom 108 = .ok (.arraylength, 1) := by decide +kernel
theorem dX9_makeRoom_109 : decode cX9_makeRoom 109 = .ok (.if_icmp .ge 12, 3) := by decide +kernel
theorem dX9_makeRoom_112 : decode cX9_makeRoom 112 = .ok (.aload_n 0, 1) := by decide +kernel
theorem dX9_makeRoom_113 : decode cX9_makeRoom 113 = .ok (.getfield 18, 3) := by decide +kernel
theorem dX9_makeRoom_116 : decode cX9_makeRoom 116 = .ok (.iload_n 2, 1) := by decide +kernel
theorem dX9_makeRoom_117 : decode cX9_makeRoom 117 = .ok (.iload_n 1, 1) := by decide +kernel
theorem dX9_makeRoom_118 : decode cX9_makeRoom 118 = .ok (.iconst 1, 1) := by decide +kernel
theorem dX9_makeRoom_119 : decode cX9_makeRoom 119 = .ok (.iadd, 1) := by decide +kernel
theorem dX9_makeRoom_120 : decode cX9_makeRoom 120 = .ok (.iastore, 1) := by decide +kernel
theorem dX9_makeRoom_121 : decode cX9_makeRoom 121 = .ok (.iinc 1 1, 3) := by decide +kernel
theorem dX9_makeRoom_124 : decode cX9_makeRoom 124 = .ok (.goto (-43), 3) := by decide +kernel
theorem dX9_makeRoom_127 : decode cX9_makeRoom 127 = .ok (.return_, 1) := by decide +kernel
theorem dX10_init_0 : decode cX10_init 0 = .ok (.aload_n 0, 1) := by decide +kernel
theorem dX10_init_1 : decode cX10_init 1 = .ok (.invokespecial 3, 3) := by decide +kernel
theorem dX10_init_4 : decode cX10_init 4 = .ok (.aload_n 0, 1) := by decide +kernel
theorem dX10_init_5 : decode cX10_init 5 = .ok (.sipush 601, 3) := by decide +kernel
theorem dX10_init_8 : decode cX10_init 8 = .ok (.anewarray 9, 3) := by decide +kernel
theorem dX10_init_11 : decode cX10_init 11 = .ok (.putfield 11, 3) := by decide +kernel
theorem dX10_init_14 : decode cX10_init 14 = .ok (.aload_n 0, 1) := by decide +kernel
theorem dX10_init_15 : decode cX10_init 15 = .ok (.sipush 601, 3) := by decide +kernel
theorem dX10_init_18 : decode cX10_init 18 = .ok (.newarray .int, 2) := by decide +kernel
theorem dX10_init_20 : decode cX10_init 20 = .ok (.putfield 17, 3) := by decide +kernel
theorem dX10_init_23 : decode cX10_init 23 = .ok (.aload_n 0, 1) := by decide +kernel
theorem dX10_init_24 : decode cX10_init 24 = .ok (.sipush 601, 3) := by decide +kernel
theorem dX10_init_27 : decode cX10_init 27 = .ok (.newarray .long, 2) := by decide +kernel
theorem dX10_init_29 : decode cX10_init 29 = .ok (.putfield 21, 3) := by decide +kernel
theorem dX10_init_32 : decode cX10_init 32 = .ok (.aload_n 0, 1) := by decide +kernel
theorem dX10_init_33 : decode cX10_init 33 = .ok (.iconst 0, 1) := by decide +kernel
theorem dX10_init_34 : decode cX10_init 34 = .ok (.putfield 25, 3) := by decide +kernel
theorem dX10_init_37 : decode cX10_init 37 = .ok (.aload_n 0, 1) := by decide +kernel
theorem dX10_init_38 : decode cX10_init 38 = .ok (.iconst 0, 1) := by decide +kernel
theorem dX10_init_39 : decode cX10_init 39 = .ok (.putfield 29, 3) := by decide +kernel
theorem dX10_init_42 : decode cX10_init 42 = .ok (.aload_n 0, 1) := by decide +kernel
theorem dX10_init_43 : decode cX10_init 43 = .ok (.iconst 0, 1) := by decide +kernel
theorem dX10_init_44 : decode cX10_init 44 = .ok (.putfield 32, 3) := by decide +kernel
theorem dX10_init_47 : decode cX10_init 47 = .ok (.aload_n 0, 1) := by decide +kernel
theorem dX10_init_48 : decode cX10_init 48 = .ok (.aload_n 1, 1) := by decide +kernel
theorem dX10_init_49 : decode cX10_init 49 = .ok (.putfield 35, 3) := by decide +kernel
theorem dX10_init_52 : decode cX10_init 52 = .ok (.return_, 1) := by decide +kernel
theorem dX10_split_0 : decode cX10_split 0 = .ok (.aload_n 0, 1) := by decide +kernel
theorem dX10_split_1 : decode cX10_split 1 = .ok (.iload_n 1, 1) := by decide +kernel
theorem dX10_split_2 : decode cX10_split 2 = .ok (.aload_n 0, 1) := by decide +kernel
theorem dX10_split_3 : decode cX10_split 3 = .ok (.getfield 35, 3) := by decide +kernel
theorem dX10_split_6 : decode cX10_split 6 = .ok (.arraylength, 1) := by decide +kernel
theorem dX10_split_7 : decode cX10_split 7 = .ok (.invokestatic 39, 3) := by decide +kernel
theorem dX10_split_10 : decode cX10_split 10 = .ok (.putfield 25, 3) := by decide +kernel
theorem dX10_split_13 : decode cX10_split 13 = .ok (.aload_n 0, 1) := by decide +kernel
theorem dX10_split_14 : decode cX10_split 14 = .ok (.iconst 0, 1) := by decide +kernel
theorem dX10_split_15 : decode cX10_split 15 = .ok (.putfield 29, 3) := by decide +kernel
theorem dX10_split_18 : decode cX10_split 18 = .ok (.aload_n 0, 1) := by decide +kernel
theorem dX10_split_19 : decode cX10_split 19 = .ok (.iconst 0, 1) := by decide +kernel
theorem dX10_split_20 : decode cX10_split 20 = .ok (.putfield 32, 3) := by decide +kernel
theorem dX10_split_23 : decode cX10_split 23 = .ok (.iconst 0, 1) := by decide +kernel
theorem dX10_split_24 : decode cX10_split 24 = .ok (.istore_n 2, 1) := by decide +kernel
theorem dX10_split_25 : decode cX10_split 25 = .ok (.iconst 0, 1) := by decide +kernel
theorem dX10_split_26 : decode cX10_split 26 = .ok (.istore_n 3, 1) := by decide +kernel
theorem dX10_split_27 : decode cX10_split 27 = .ok (.iload_n 3, 1) := by decide +kernel
theorem dX10_split_28 : decode cX10_split 28 = .ok (.sipush 600, 3) := by decide +kernel
theorem dX10_split_31 : decode cX10_split 31 = .ok (.if_icmp .gt 74, 3) := by decide +kernel
theorem dX10_split_34 : decode cX10_split 34 = .ok (.iload_n 2, 1) := by decide +kernel
theorem dX10_split_35 : decode cX10_split 35 = .ok (.ifCond .ne 70, 3) := by decide +kernel
theorem dX10_split_38 : decode cX10_split 38 = .ok (.aload_n 0, 1) := by decide +kernel
theorem dX10_split_39 : decode cX10_split 39 = .ok (.invokevirtual 45, 3) := by decide +kernel
theorem dX10_split_42 : decode cX10_split 42 = .ok (.aload_n 0, 1) := by decide +kernel
theorem dX10_split_43 : decode cX10_split 43 = .ok (.getfield 29, 3) := by decide +kernel
theorem dX10_split_46 : decode cX10_split 46 = .ok (.aload_n 0, 1) := by decide +kernel
theorem dX10_split_47 : decode cX10_split 47 = .ok (.getfield 25, 3) := by decide +kernel
theorem dX10_split_50 : decode cX10_split 50 = .ok (.if_icmp .lt 7, 3) := by decide +kernel
theorem dX10_split_53 : decode cX10_split 53 = .ok (.iconst 1, 1) := by decide +kernel
theorem dX10_split_54 : decode cX10_split 54 = .ok (.goto 4, 3) := by decide +kernel
theorem dX10_split_57 : decode cX10_split 57 = .ok (.iconst 0, 1) := by decide +kernel
theorem dX10_split_58 : decode cX10_split 58 = .ok (.istore_n 2, 1) := by decide +kernel
theorem dX10_split_59 : decode cX10_split 59 = .ok (.aload_n 0, 1) := by decide +kernel
theorem dX10_split_60 : decode cX10_split 60 = .ok (.getfield 17, 3) := by decide +kernel
theorem dX10_split_63 : decode cX10_split 63 = .ok (.iload_n 3, 1) := by decide +kernel
theorem dX10_split_64 : decode cX10_split 64 = .ok (.aload_n 0, 1) := by decide +kernel
theorem dX10_split_65 : decode cX10_split 65 = .ok (.getfield 29, 3) := by decide +kernel
theorem dX10_split_68 : decode cX10_split 68 = .ok (.iastore, 1) := by decide +kernel
theorem dX10_split_69 : decode cX10_split 69 = .ok (.aload_n 0, 1) := by decide +kernel
theorem dX10_split_70 : decode cX10_split 70 = .ok (.getfield 21, 3) := by decide +kernel
theorem dX10_split_73 : decode cX10_split 73 = .ok (.iload_n 3, 1) := by decide +kernel
theorem dX10_split_74 : decode cX10_split 74 = .ok (.ldc2_w 48, 3) := by decide +kernel
theorem dX10_split_77 : decode cX10_split 77 = .ok (.lastore, 1) := by decide +kernel
theorem dX10_split_78 : decode cX10_split 78 = .ok (.aload_n 0, 1) := by decide +kernel
theorem dX10_split_79 : decode cX10_split 79 = .ok (.getfield 11, 3) := by decide +kernel
theorem dX10_split_82 : decode cX10_split 82 = .ok (.iload_n 3, 1) := by decide +kernel
theorem dX10_split_83 : decode cX10_split 83 = .ok (.iload_n 2, 1) := by decide +kernel
theorem dX10_split_84 : decode cX10_split 84 = .ok (.ifCond .eq 9, 3) := by decide +kernel
theorem dX10_split_87 : decode cX10_split 87 = .ok (.getstatic 50, 3) := by decide +kernel
theorem dX10_split_90 : decode cX10_split 90 = .ok (.goto 8, 3) := by decide +kernel
theorem dX10_split_93 : decode cX10_split 93 = .ok (.aload_n 0, 1) := by decide +kernel
theorem dX10_split_94 : decode cX10_split 94 = .ok (.iload_n 3, 1) := by decide +kernel
theorem dX10_split_95 : decode cX10_split 95 = .ok (.invokevirtual 54, 3) := by decide +kernel
theorem dX10_split_98 : decode cX10_split 98 = .ok (.aastore, 1) := by decide +kernel
theorem dX10_split_99 : decode cX10_split 99 = .ok (.iinc 3 1, 3) := by decide +kernel
theorem dX10_split_102 : decode cX10_split 102 = .ok (.goto (-75), 3) := by decide +kernel
theorem dX10_split_105 : decode cX10_split 105 = .ok (.return_, 1) := by decide +kernel
theorem dX10_skipBlanks_0 : decode cX10_skipBlanks 0 = .ok (.aload_n 0, 1) := by decide +kernel
theorem dX10_skipBlanks_1 : decode cX10_skipBlanks 1 = .ok (.getfield 29, 3) := by decide +kernel
theorem dX10_skipBlanks_4 : decode cX10_skipBlanks 4 = .ok (.aload_n 0, 1) := by decide +kernel
theorem dX10_skipBlanks_5 : decode cX10_skipBlanks 5 = .ok (.getfield 25, 3) := by decide +kernel
theorem dX10_skipBlanks_8 : decode cX10_skipBlanks 8 = .ok (.if_icmp .ge 44, 3) := by decide +kernel
theorem dX10_skipBlanks_11 : decode cX10_skipBlanks 11 = .ok (.aload_n 0, 1) := by decide +kernel
theorem dX10_skipBlanks_12 : decode cX10_skipBlanks 12 = .ok (.getfield 35, 3) := by decide +kernel
theorem dX10_skipBlanks_15 : decode cX10_skipBlanks 15 = .ok (.aload_n 0, 1) := by decide +kernel
theorem dX10_skipBlanks_16 : decode cX10_skipBlanks 16 = .ok (.getfield 29, 3) := by decide +kernel
theorem dX10_skipBlanks_19 : decode cX10_skipBlanks 19 = .ok (.baload, 1) := by decide +kernel
theorem dX10_skipBlanks_20 : decode cX10_skipBlanks 20 = .ok (.bipush 32, 2) := by decide +kernel
theorem dX10_skipBlanks_22 : decode cX10_skipBlanks 22 = .ok (.if_icmp .eq 17, 3) := by decide +kernel
theorem dX10_skipBlanks_25 : decode cX10_skipBlanks 25 = .ok (.aload_n 0, 1) := by decide +kernel
theorem dX10_skipBlanks_26 : decode cX10_skipBlanks 26 = .ok (.getfield 35, 3) := by decide +kernel
theorem dX10_skipBlanks_29 : decode cX10_skipBlanks 29 = .ok (.aload_n 0, 1) := by decide +kernel
theorem dX10_skipBlanks_30 : decode cX10_skipBlanks 30 = .ok (.getfield 29, 3) := by decide +kernel
theorem dX10_skipBlanks_33 : decode cX10_skipBlanks 33 = .ok (.baload, 1) := by decide +kernel
theorem dX10_skipBlanks_34 : decode cX10_skipBlanks 34 = .ok (.bipush 10, 2) := by decide +kernel
theorem dX10_skipBlanks_36 : decode cX10_skipBlanks 36 = .ok (.if_icmp .ne 16, 3) := by decide +kernel
theorem dX10_skipBlanks_39 : decode cX10_skipBlanks 39 = .ok (.aload_n 0, 1) := by decide +kernel
theorem dX10_skipBlanks_40 : decode cX10_skipBlanks 40 = .ok (.dup, 1) := by decide +kernel
theorem dX10_skipBlanks_41 : decode cX10_skipBlanks 41 = .ok (.getfield 29, 3) := by decide +kernel
theorem dX10_skipBlanks_44 : decode cX10_skipBlanks 44 = .ok (.iconst 1, 1) := by decide +kernel
theorem dX10_skipBlanks_45 : decode cX10_skipBlanks 45 = .ok (.iadd, 1) := by decide +kernel
theorem dX10_skipBlanks_46 : decode cX10_skipBlanks 46 = .ok (.putfield 29, 3) := by decide +kernel
theorem dX10_skipBlanks_49 : decode cX10_skipBlanks 49 = .ok (.goto (-49), 3) := by decide +kernel
theorem dX10_skipBlanks_52 : decode cX10_skipBlanks 52 = .ok (.return_, 1) := by decide +kernel
theorem dX10_scanToken_0 : decode cX10_scanToken 0 = .ok (.aload_n 0, 1) := by decide +kernel
theorem dX10_scanToken_1 : decode cX10_scanToken 1 = .ok (.getfield 29, 3) := by decide +kernel
theorem dX10_scanToken_4 : decode cX10_scanToken 4 = .ok (.istore_n 2, 1) := by decide +kernel
theorem dX10_scanToken_5 : decode cX10_scanToken 5 = .ok (.aload_n 0, 1) := by decide +kernel
theorem dX10_scanToken_6 : decode cX10_scanToken 6 = .ok (.getfield 29, 3) := by decide +kernel
theorem dX10_scanToken_9 : decode cX10_scanToken 9 = .ok (.aload_n 0, 1) := by decide +kernel
theorem dX10_scanToken_10 : decode cX10_scanToken 10 = .ok (.getfield 25, 3) := by decide +kernel
theorem dX10_scanToken_13 : decode cX10_scanToken 13 = .ok (.if_icmp .ge 24, 3) := by decide +kernel
theorem dX10_scanToken_16 : decode cX10_scanToken 16 = .ok (.aload_n 0, 1) := by decide +kernel
theorem dX10_scanToken_17 : decode cX10_scanToken 17 = .ok (.getfield 35, 3) := by decide +kernel
theorem dX10_scanToken_20 : decode cX10_scanToken 20 = .ok (.aload_n 0, 1) := by decide +kernel
theorem dX10_scanToken_21 : decode cX10_scanToken 21 = .ok (.getfield 29, 3) := by decide +kernel
theorem dX10_scanToken_24 : decode cX10_scanToken 24 = .ok (.baload, 1) := by decide +kernel
theorem dX10_scanToken_25 : decode cX10_scanToken 25 = .ok (.invokestatic 58, 3) := by decide +kernel
theorem dX10_scanToken_28 : decode cX10_scanToken 28 = .ok (.ifCond .eq 9, 3) := by decide +kernel
theorem dX10_scanToken_31 : decode cX10_scanToken 31 = .ok (.aload_n 0, 1) := by decide +kernel
theorem dX10_scanToken_32 : decode cX10_scanToken 32 = .ok (.iload_n 1, 1) := by decide +kernel
theorem dX10_scanToken_33 : decode cX10_scanToken 33 = .ok (.invokevirtual 62, 3) := by decide +kernel
theorem dX10_scanToken_36 : decode cX10_scanToken 36 = .ok (.areturn, 1) := by decide +kernel
theorem dX10_scanToken_37 : decode cX10_scanToken 37 = .ok (.aload_n 0, 1) := by decide +kernel
theorem dX10_scanToken_38 : decode cX10_scanToken 38 = .ok (.getfield 29, 3) := by decide +kernel
theorem dX10_scanToken_41 : decode cX10_scanToken 41 = .ok (.aload_n 0, 1) := by decide +kernel
theorem dX10_scanToken_42 : decode cX10_scanToken 42 = .ok (.getfield 25, 3) := by decide +kernel
theorem dX10_scanToken_45 : decode cX10_scanToken 45 = .ok (.if_icmp .ge 24, 3) := by decide +kernel
theorem dX10_scanToken_48 : decode cX10_scanToken 48 = .ok (.aload_n 0, 1) := by decide +kernel
theorem dX10_scanToken_49 : decode cX10_scanToken 49 = .ok (.getfield 35, 3) := by decide +kernel
theorem dX10_scanToken_52 : decode cX10_scanToken 52 = .ok (.aload_n 0, 1) := by decide +kernel
theorem dX10_scanToken_53 : decode cX10_scanToken 53 = .ok (.getfield 29, 3) := by decide +kernel
theorem dX10_scanToken_56 : decode cX10_scanToken 56 = .ok (.baload, 1) := by decide +kernel
theorem dX10_scanToken_57 : decode cX10_scanToken 57 = .ok (.invokestatic 65, 3) := by decide +kernel
theorem dX10_scanToken_60 : decode cX10_scanToken 60 = .ok (.ifCond .eq 9, 3) := by decide +kernel
theorem dX10_scanToken_63 : decode cX10_scanToken 63 = .ok (.aload_n 0, 1) := by decide +kernel
theorem dX10_scanToken_64 : decode cX10_scanToken 64 = .ok (.iload_n 1, 1) := by decide +kernel
theorem dX10_scanToken_65 : decode cX10_scanToken 65 = .ok (.invokevirtual 68, 3) := by decide +kernel
theorem dX10_scanToken_68 : decode cX10_scanToken 68 = .ok (.areturn, 1) := by decide +kernel
theorem dX10_scanToken_69 : decode cX10_scanToken 69 = .ok (.aload_n 0, 1) := by decide +kernel
theorem dX10_scanToken_70 : decode cX10_scanToken 70 = .ok (.dup, 1) := by decide +kernel
theorem dX10_scanToken_71 : decode cX10_scanToken 71 = .ok (.getfield 29, 3) := by decide +kernel
theorem dX10_scanToken_74 : decode cX10_scanToken 74 = .ok (.iconst 1, 1) := by decide +kernel
theorem dX10_scanToken_75 : decode cX10_scanToken 75 = .ok (.iadd, 1) := by decide +kernel
theorem dX10_scanToken_76 : decode cX10_scanToken 76 = .ok (.putfield 29, 3) := by decide +kernel
theorem dX10_scanToken_79 : decode cX10_scanToken 79 = .ok (.aload_n 0, 1) := by decide +kernel
theorem dX10_scanToken_80 : decode cX10_scanToken 80 = .ok (.iload_n 2, 1) := by decide +kernel
theorem dX10_scanToken_81 : decode cX10_scanToken 81 = .ok (.getstatic 71, 3) := by decide +kernel
theorem dX10_scanToken_84 : decode cX10_scanToken 84 = .ok (.invokevirtual 74, 3) := by decide +kernel
theorem dX10_scanToken_87 : decode cX10_scanToken 87 = .ok (.areturn, 1) := by decide +kernel
theorem dX10_scanWord_0 : decode cX10_scanWord 0 = .ok (.aload_n 0, 1) := by decide +kernel
theorem dX10_scanWord_1 : decode cX10_scanWord 1 = .ok (.getfield 29, 3) := by decide +kernel
theorem dX10_scanWord_4 : decode cX10_scanWord 4 = .ok (.istore_n 2, 1) := by decide +kernel
theorem dX10_scanWord_5 : decode cX10_scanWord 5 = .ok (.lconst 0, 1) := by decide +kernel
theorem dX10_scanWord_6 : decode cX10_scanWord 6 = .ok (.lstore_n 3, 1) := by decide +kernel
theorem dX10_scanWord_7 : decode cX10_scanWord 7 = .ok (.iconst (-1), 1) := by decide +kernel
theorem dX10_scanWord_8 : decode cX10_scanWord 8 = .ok (.istore 5, 2) := by decide +kernel
theorem dX10_scanWord_10 : decode cX10_scanWord 10 = .ok (.aload_n 0, 1) := by decide +kernel
theorem dX10_scanWord_11 : decode cX10_scanWord 11 = .ok (.getfield 29, 3) := by decide +kernel
theorem dX10_scanWord_14 : decode cX10_scanWord 14 = .ok (.aload_n 0, 1) := by decide +kernel
theorem dX10_scanWord_15 : decode cX10_scanWord 15 = .ok (.getfield 25, 3) := by decide +kernel
theorem dX10_scanWord_18 : decode cX10_scanWord 18 = .ok (.if_icmp .ge 92, 3) := by decide +kernel
theorem dX10_scanWord_21 : decode cX10_scanWord 21 = .ok (.aload_n 0, 1) := by decide +kernel
theorem dX10_scanWord_22 : decode cX10_scanWord 22 = .ok (.getfield 35, 3) := by decide +kernel
theorem dX10_scanWord_25 : decode cX10_scanWord 25 = .ok (.aload_n 0, 1) := by decide +kernel
theorem dX10_scanWord_26 : decode cX10_scanWord 26 = .ok (.getfield 29, 3) := by decide +kernel
theorem dX10_scanWord_29 : decode cX10_scanWord 29 = .ok (.baload, 1) := by decide +kernel
theorem dX10_scanWord_30 : decode cX10_scanWord 30 = .ok (.invokestatic 58, 3) := by decide +kernel
theorem dX10_scanWord_33 : decode cX10_scanWord 33 = .ok (.ifCond .ne 18, 3) := by decide +kernel
theorem dX10_scanWord_36 : decode cX10_scanWord 36 = .ok (.aload_n 0, 1) := by decide +kernel
theorem dX10_scanWord_37 : decode cX10_scanWord 37 = .ok (.getfield 35, 3) := by decide +kernel
theorem dX10_scanWord_40 : decode cX10_scanWord 40 = .ok (.aload_n 0, 1) := by decide +kernel
theorem dX10_scanWord_41 : decode cX10_scanWord 41 = .ok (.getfield 29, 3) := by decide +kernel
theorem dX10_scanWord_44 : decode cX10_scanWord 44 = .ok (.baload, 1) := by decide +kernel
theorem dX10_scanWord_45 : decode cX10_scanWord 45 = .ok (.invokestatic 65, 3) := by decide +kernel
theorem dX10_scanWord_48 : decode cX10_scanWord 48 = .ok (.ifCond .eq 62, 3) := by decide +kernel
theorem dX10_scanWord_51 : decode cX10_scanWord 51 = .ok (.aload_n 0, 1) := by decide +kernel
theorem dX10_scanWord_52 : decode cX10_scanWord 52 = .ok (.getfield 35, 3) := by decide +kernel
theorem dX10_scanWord_55 : decode cX10_scanWord 55 = .ok (.aload_n 0, 1) := by decide +kernel
theorem dX10_scanWord_56 : decode cX10_scanWord 56 = .ok (.getfield 29, 3) := by decide +kernel
theorem dX10_scanWord_59 : decode cX10_scanWord 59 = .ok (.baload, 1) := by decide +kernel
theorem dX10_scanWord_60 : decode cX10_scanWord 60 = .ok (.invokestatic 58, 3) := by decide +kernel
theorem dX10_scanWord_63 : decode cX10_scanWord 63 = .ok (.ifCond .eq 20, 3) := by decide +kernel
theorem dX10_scanWord_66 : decode cX10_scanWord 66 = .ok (.lload_n 3, 1) := by decide +kernel
theorem dX10_scanWord_67 : decode cX10_scanWord 67 = .ok (.aload_n 0, 1) := by decide +kernel
theorem dX10_scanWord_68 : decode cX10_scanWord 68 = .ok (.getfield 35, 3) := by decide +kernel
theorem dX10_scanWord_71 : decode cX10_scanWord 71 = .ok (.aload_n 0, 1) := by decide +kernel
theorem dX10_scanWord_72 : decode cX10_scanWord 72 = .ok (.getfield 29, 3) := by decide +kernel
theorem dX10_scanWord_75 : decode cX10_scanWord 75 = .ok (.baload, 1) := by decide +kernel
theorem dX10_scanWord_76 : decode cX10_scanWord 76 = .ok (.invokestatic 78, 3) := by decide +kernel
theorem dX10_scanWord_79 : decode cX10_scanWord 79 = .ok (.lstore_n 3, 1) := by decide +kernel
theorem dX10_scanWord_80 : decode cX10_scanWord 80 = .ok (.goto 17, 3) := by decide +kernel
theorem dX10_scanWord_83 : decode cX10_scanWord 83 = .ok (.aload_n 0, 1) := by decide +kernel
theorem dX10_scanWord_84 : decode cX10_scanWord 84 = .ok (.getfield 35, 3) := by decide +kernel
theorem dX10_scanWord_87 : decode cX10_scanWord 87 = .ok (.aload_n 0, 1) := by decide +kernel
theorem dX10_scanWord_88 : decode cX10_scanWord 88 = .ok (.getfield 29, 3) := by decide +kernel
theorem dX10_scanWord_91 : decode cX10_scanWord 91 = .ok (.baload, 1) := by decide +kernel
theorem dX10_scanWord_92 : decode cX10_scanWord 92 = .ok (.bipush 48, 2) := by decide +kernel
theorem dX10_scanWord_94 : decode cX10_scanWord 94 = .ok (.isub, 1) := by decide +kernel
theorem dX10_scanWord_95 : decode cX10_scanWord 95 = .ok (.istore 5, 2) := by decide +kernel
theorem dX10_scanWord_97 : decode cX10_scanWord 97 = .ok (.aload_n 0, 1) := by decide +kernel
theorem dX10_scanWord_98 : decode cX10_scanWord 98 = .ok (.dup, 1) := by decide +kernel
theorem dX10_scanWord_99 : decode cX10_scanWord 99 = .ok (.getfield 29, 3) := by decide +kernel
theorem dX10_scanWord_102 : decode cX10_scanWord 102 = .ok (.iconst 1, 1) := by decide +kernel
theorem dX10_scanWord_103 : decode cX10_scanWord 103 = .ok (.iadd, 1) := by decide +kernel
theorem dX10_scanWord_104 : decode cX10_scanWord 104 = .ok (.putfield 29, 3) := by decide +kernel
theorem dX10_scanWord_107 : decode cX10_scanWord 107 = .ok (.goto (-97), 3) := by decide +kernel
theorem dX10_scanWord_110 : decode cX10_scanWord 110 = .ok (.aload_n 0, 1) := by decide +kernel
theorem dX10_scanWord_111 : decode cX10_scanWord 111 = .ok (.getfield 29, 3) := by decide +kernel
theorem dX10_scanWord_114 : decode cX10_scanWord 114 = .ok (.iload_n 2, 1) := by decide +kernel
theorem dX10_scanWord_115 : decode cX10_scanWord 115 = .ok (.isub, 1) := by decide +kernel
theorem dX10_scanWord_116 : decode cX10_scanWord 116 = .ok (.istore 6, 2) := by decide +kernel
theorem dX10_scanWord_118 : decode cX10_scanWord 118 = .ok (.iload 6, 2) := by decide +kernel
theorem dX10_scanWord_120 : decode cX10_scanWord 120 = .ok (.iconst 2, 1) := by decide +kernel
theorem dX10_scanWord_121 : decode cX10_scanWord 121 = .ok (.if_icmp .ne 24, 3) := by decide +kernel
theorem dX10_scanWord_124 : decode cX10_scanWord 124 = .ok (.lload_n 3, 1) := by decide +kernel
theorem dX10_scanWord_125 : decode cX10_scanWord 125 = .ok (.lconst 0, 1) := by decide +kernel
theorem dX10_scanWord_126 : decode cX10_scanWord 126 = .ok (.bipush 114, 2) := by decide +kernel
theorem dX10_scanWord_128 : decode cX10_scanWord 128 = .ok (.invokestatic 78, 3) := by decide +kernel
theorem dX10_scanWord_131 : decode cX10_scanWord 131 = .ok (.lcmp, 1) := by decide +kernel
theorem dX10_scanWord_132 : decode cX10_scanWord 132 = .ok (.ifCond .ne 13, 3) := by decide +kernel
theorem dX10_scanWord_135 : decode cX10_scanWord 135 = .ok (.iload 5, 2) := by decide +kernel
theorem dX10_scanWord_137 : decode cX10_scanWord 137 = .ok (.iconst 2, 1) := by decide +kernel
theorem dX10_scanWord_138 : decode cX10_scanWord 138 = .ok (.if_icmp .ge 7, 3) := by decide +kernel
theorem dX10_scanWord_141 : decode cX10_scanWord 141 = .ok (.iconst 1, 1) := by decide +kernel
theorem dX10_scanWord_142 : decode cX10_scanWord 142 = .ok (.goto 4, 3) := by decide +kernel
theorem dX10_scanWord_145 : decode cX10_scanWord 145 = .ok (.iconst 0, 1) := by decide +kernel
theorem dX10_scanWord_146 : decode cX10_scanWord 146 = .ok (.istore 7, 2) := by decide +kernel
theorem dX10_scanWord_148 : decode cX10_scanWord 148 = .ok (.iload 6, 2) := by decide +kernel
theorem dX10_scanWord_150 : decode cX10_scanWord 150 = .ok (.bipush 8, 2) := by decide +kernel
theorem dX10_scanWord_152 : decode cX10_scanWord 152 = .ok (.if_icmp .gt 14, 3) := by decide +kernel
theorem dX10_scanWord_155 : decode cX10_scanWord 155 = .ok (.iload 5, 2) := by decide +kernel
theorem dX10_scanWord_157 : decode cX10_scanWord 157 = .ok (.iconst (-1), 1) := by decide +kernel
theorem dX10_scanWord_158 : decode cX10_scanWord 158 = .ok (.if_icmp .eq 12, 3) := by decide +kernel
theorem dX10_scanWord_161 : decode cX10_scanWord 161 = .ok (.iload 7, 2) := by decide +kernel
theorem dX10_scanWord_163 : decode cX10_scanWord 163 = .ok (.ifCond .ne 7, 3) := by decide +kernel
theorem dX10_scanWord_166 : decode cX10_scanWord 166 = .ok (.getstatic 71, 3) := by decide +kernel
theorem dX10_scanWord_169 : decode cX10_scanWord 169 = .ok (.areturn, 1) := by decide +kernel
theorem dX10_scanWord_170 : decode cX10_scanWord 170 = .ok (.aload_n 0, 1) := by decide +kernel
theorem dX10_scanWord_171 : decode cX10_scanWord 171 = .ok (.iload_n 1, 1) := by decide +kernel
theorem dX10_scanWord_172 : decode cX10_scanWord 172 = .ok (.iload 7, 2) := by decide +kernel
theorem dX10_scanWord_174 : decode cX10_scanWord 174 = .ok (.ifCond .eq 9, 3) := by decide +kernel
theorem dX10_scanWord_177 : decode cX10_scanWord 177 = .ok (.iload 5, 2) := by decide +kernel
theorem dX10_scanWord_179 : decode cX10_scanWord 179 = .ok (.i2l, 1) := by decide +kernel
theorem dX10_scanWord_180 : decode cX10_scanWord 180 = .ok (.goto 4, 3) := by decide +kernel
theorem dX10_scanWord_183 : decode cX10_scanWord 183 = .ok (.lload_n 3, 1) := by decide +kernel
theorem dX10_scanWord_184 : decode cX10_scanWord 184 = .ok (.invokevirtual 82, 3) := by decide +kernel
theorem dX10_scanWord_187 : decode cX10_scanWord 187 = .ok (.iload 7, 2) := by decide +kernel
theorem dX10_scanWord_189 : decode cX10_scanWord 189 = .ok (.ifCond .eq 9, 3) := by decide +kernel
theorem dX10_scanWord_192 : decode cX10_scanWord 192 = .ok (.getstatic 86, 3) := by decide +kernel
theorem dX10_scanWord_195 : decode cX10_scanWord 195 = .ok (.goto 11, 3) := by decide +kernel
theorem dX10_scanWord_198 : decode cX10_scanWord 198 = .ok (.aload_n 0, 1) := by decide +kernel
theorem dX10_scanWord_199 : decode cX10_scanWord 199 = .ok (.iload_n 2, 1) := by decide +kernel
theorem dX10_scanWord_200 : decode cX10_scanWord 200 = .ok (.getstatic 89, 3) := by decide +kernel
theorem dX10_scanWord_203 : decode cX10_scanWord 203 = .ok (.invokevirtual 74, 3) := by decide +kernel
theorem dX10_scanWord_206 : decode cX10_scanWord 206 = .ok (.areturn, 1) := by decide +kernel
theorem dX10_scanNumber_0 : decode cX10_scanNumber 0 = .ok (.aload_n 0, 1) := by decide +kernel
theorem dX10_scanNumber_1 : decode cX10_scanNumber 1 = .ok (.getfield 29, 3) := by decide +kernel
theorem dX10_scanNumber_4 : decode cX10_scanNumber 4 = .ok (.istore_n 2, 1) := by decide +kernel
theorem dX10_scanNumber_5 : decode cX10_scanNumber 5 = .ok (.iconst 0, 1) := by decide +kernel
theorem dX10_scanNumber_6 : decode cX10_scanNumber 6 = .ok (.istore_n 3, 1) := by decide +kernel
theorem dX10_scanNumber_7 : decode cX10_scanNumber 7 = .ok (.aload_n 0, 1) := by decide +kernel
theorem dX10_scanNumber_8 : decode cX10_scanNumber 8 = .ok (.getfield 29, 3) := by decide +kernel
theorem dX10_scanNumber_11 : decode cX10_scanNumber 11 = .ok (.aload_n 0, 1) := by decide +kernel
theorem dX10_scanNumber_12 : decode cX10_scanNumber 12 = .ok (.getfield 25, 3) := by decide +kernel
theorem dX10_scanNumber_15 : decode cX10_scanNumber 15 = .ok (.if_icmp .ge 63, 3) := by decide +kernel
theorem dX10_scanNumber_18 : decode cX10_scanNumber 18 = .ok (.aload_n 0, 1) := by decide +kernel
theorem dX10_scanNumber_19 : decode cX10_scanNumber 19 = .ok (.getfield 35, 3) := by decide +kernel
theorem dX10_scanNumber_22 : decode cX10_scanNumber 22 = .ok (.aload_n 0, 1) := by decide +kernel
theorem dX10_scanNumber_23 : decode cX10_scanNumber 23 = .ok (.getfield 29, 3) := by decide +kernel
theorem dX10_scanNumber_26 : decode cX10_scanNumber 26 = .ok (.baload, 1) := by decide +kernel
theorem dX10_scanNumber_27 : decode cX10_scanNumber 27 = .ok (.invokestatic 65, 3) := by decide +kernel
theorem dX10_scanNumber_30 : decode cX10_scanNumber 30 = .ok (.ifCond .eq 48, 3) := by decide +kernel
theorem dX10_scanNumber_33 : decode cX10_scanNumber 33 = .ok (.aload_n 0, 1) := by decide +kernel
theorem dX10_scanNumber_34 : decode cX10_scanNumber 34 = .ok (.getfield 29, 3) := by decide +kernel
theorem dX10_scanNumber_37 : decode cX10_scanNumber 37 = .ok (.iload_n 2, 1) := by decide +kernel
theorem dX10_scanNumber_38 : decode cX10_scanNumber 38 = .ok (.isub, 1) := by decide +kernel
theorem dX10_scanNumber_39 : decode cX10_scanNumber 39 = .ok (.iconst 2, 1) := by decide +kernel
theorem dX10_scanNumber_40 : decode cX10_scanNumber 40 = .ok (.if_icmp .ge 23, 3) := by decide +kernel
theorem dX10_scanNumber_43 : decode cX10_scanNumber 43 = .ok (.bipush 10, 2) := by decide +kernel
theorem dX10_scanNumber_45 : decode cX10_scanNumber 45 = .ok (.iload_n 3, 1) := by decide +kernel
theorem dX10_scanNumber_46 : decode cX10_scanNumber 46 = .ok (.imul, 1) := by decide +kernel
theorem dX10_scanNumber_47 : decode cX10_scanNumber 47 = .ok (.aload_n 0, 1) := by decide +kernel
theorem dX10_scanNumber_48 : decode cX10_scanNumber 48 = .ok (.getfield 35, 3) := by decide +kernel
theorem dX10_scanNumber_51 : decode cX10_scanNumber 51 = .ok (.aload_n 0, 1) := by decide +kernel
theorem dX10_scanNumber_52 : decode cX10_scanNumber 52 = .ok (.getfield 29, 3) := by decide +kernel
theorem dX10_scanNumber_55 : decode cX10_scanNumber 55 = .ok (.baload, 1) := by decide +kernel
theorem dX10_scanNumber_56 : decode cX10_scanNumber 56 = .ok (.iadd, 1) := by decide +kernel
theorem dX10_scanNumber_57 : decode cX10_scanNumber 57 = .ok (.bipush 48, 2) := by decide +kernel
theorem dX10_scanNumber_59 : decode cX10_scanNumber 59 = .ok (.isub, 1) := by decide +kernel
theorem dX10_scanNumber_60 : decode cX10_scanNumber 60 = .ok (.goto 4, 3) := by decide +kernel
theorem dX10_scanNumber_63 : decode cX10_scanNumber 63 = .ok (.iload_n 3, 1) := by decide +kernel
theorem dX10_scanNumber_64 : decode cX10_scanNumber 64 = .ok (.istore_n 3, 1) := by decide +kernel
theorem dX10_scanNumber_65 : decode cX10_scanNumber 65 = .ok (.aload_n 0, 1) := by decide +kernel
theorem dX10_scanNumber_66 : decode cX10_scanNumber 66 = .ok (.dup, 1) := by decide +kernel
theorem dX10_scanNumber_67 : decode cX10_scanNumber 67 = .ok (.getfield 29, 3) := by decide +kernel
theorem dX10_scanNumber_70 : decode cX10_scanNumber 70 = .ok (.iconst 1, 1) := by decide +kernel
theorem dX10_scanNumber_71 : decode cX10_scanNumber 71 = .ok (.iadd, 1) := by decide +kernel
theorem dX10_scanNumber_72 : decode cX10_scanNumber 72 = .ok (.putfield 29, 3) := by decide +kernel
theorem dX10_scanNumber_75 : decode cX10_scanNumber 75 = .ok (.goto (-68), 3) := by decide +kernel
theorem dX10_scanNumber_78 : decode cX10_scanNumber 78 = .ok (.aload_n 0, 1) := by decide +kernel
theorem dX10_scanNumber_79 : decode cX10_scanNumber 79 = .ok (.iload_n 1, 1) := by decide +kernel
theorem dX10_scanNumber_80 : decode cX10_scanNumber 80 = .ok (.iload_n 3, 1) := by decide +kernel
theorem dX10_scanNumber_81 : decode cX10_scanNumber 81 = .ok (.i2l, 1) := by decide +kernel
theorem dX10_scanNumber_82 : decode cX10_scanNumber 82 = .ok (.invokevirtual 82, 3) := by decide +kernel
theorem dX10_scanNumber_85 : decode cX10_scanNumber 85 = .ok (.aload_n 0, 1) := by decide +kernel
theorem dX10_scanNumber_86 : decode cX10_scanNumber 86 = .ok (.getfield 29, 3) := by decide +kernel
theorem dX10_scanNumber_89 : decode cX10_scanNumber 89 = .ok (.iload_n 2, 1) := by decide +kernel
theorem dX10_scanNumber_90 : decode cX10_scanNumber 90 = .ok (.isub, 1) := by decide +kernel
theorem dX10_scanNumber_91 : decode cX10_scanNumber 91 = .ok (.iconst 2, 1) := by decide +kernel
theorem dX10_scanNumber_92 : decode cX10_scanNumber 92 = .ok (.if_icmp .le 9, 3) := by decide +kernel
theorem dX10_scanNumber_95 : decode cX10_scanNumber 95 = .ok (.getstatic 71, 3) := by decide +kernel
theorem dX10_scanNumber_98 : decode cX10_scanNumber 98 = .ok (.goto 6, 3) := by decide +kernel
theorem dX10_scanNumber_101 : decode cX10_scanNumber 101 = .ok (.getstatic 92, 3) := by decide +kernel
theorem dX10_scanNumber_104 : decode cX10_scanNumber 104 = .ok (.areturn, 1) := by decide +kernel
theorem dX10_setValue_0 : decode cX10_setValue 0 = .ok (.iload_n 1, 1) := by decide +kernel
theorem dX10_setValue_1 : decode cX10_setValue 1 = .ok (.ifCond .lt 19, 3) := by decide +kernel
theorem dX10_setValue_4 : decode cX10_setValue 4 = .ok (.iload_n 1, 1) := by decide +kernel
theorem dX10_setValue_5 : decode cX10_setValue 5 = .ok (.aload_n 0, 1) := by decide +kernel
theorem dX10_setValue_6 : decode cX10_setValue 6 = .ok (.getfield 21, 3) := by decide +kernel
theorem dX10_setValue_9 : decode cX10_setValue 9 = .ok (.arraylength, 1) := by decide +kernel
theorem dX10_setValue_10 : decode cX10_setValue 10 = .ok (.if_icmp .ge 10, 3) := by decide +kernel
theorem dX10_setValue_13 : decode cX10_setValue 13 = .ok (.aload_n 0, 1) := by decide +kernel
theorem dX10_setValue_14 : decode cX10_setValue 14 = .ok (.getfield 21, 3) := by decide +kernel
theorem dX10_setValue_17 : decode cX10_setValue 17 = .ok (.iload_n 1, 1) := by decide +kernel
theorem dX10_setValue_18 : decode cX10_setValue 18 = .ok (.lload_n 2, 1) := by decide +kernel
theorem dX10_setValue_19 : decode cX10_setValue 19 = .ok (.lastore, 1) := by decide +kernel
theorem dX10_setValue_20 : decode cX10_setValue 20 = .ok (.return_, 1) := by decide +kernel
theorem dX10_fixedSign_0 : decode cX10_fixedSign 0 = .ok (.getstatic 95, 3) := by decide +kernel
theorem dX10_fixedSign_3 : decode cX10_fixedSign 3 = .ok (.astore_n 3, 1) := by decide +kernel
theorem dX10_fixedSign_4 : decode cX10_fixedSign 4 = .ok (.aload_n 3, 1) := by decide +kernel
theorem dX10_fixedSign_5 : decode cX10_fixedSign 5 = .ok (.arraylength, 1) := by decide +kernel
theorem dX10_fixedSign_6 : decode cX10_fixedSign 6 = .ok (.istore 4, 2) := by decide +kernel
theorem dX10_fixedSign_8 : decode cX10_fixedSign 8 = .ok (.iconst 0, 1) := by decide +kernel
theorem dX10_fixedSign_9 : decode cX10_fixedSign 9 = .ok (.istore 5, 2) := by decide +kernel
theorem dX10_fixedSign_11 : decode cX10_fixedSign 11 = .ok (.iload 5, 2) := by decide +kernel
theorem dX10_fixedSign_13 : decode cX10_fixedSign 13 = .ok (.iload 4, 2) := by decide +kernel
theorem dX10_fixedSign_15 : decode cX10_fixedSign 15 = .ok (.if_icmp .ge 114, 3) := by decide +kernel
theorem dX10_fixedSign_18 : decode cX10_fixedSign 18 = .ok (.aload_n 3, 1) := by decide +kernel
theorem dX10_fixedSign_19 : decode cX10_fixedSign 19 = .ok (.iload 5, 2) := by decide +kernel
theorem dX10_fixedSign_21 : decode cX10_fixedSign 21 = .ok (.aaload, 1) := by decide +kernel
theorem dX10_fixedSign_22 : decode cX10_fixedSign 22 = .ok (.astore 6, 2) := by decide +kernel
theorem dX10_fixedSign_24 : decode cX10_fixedSign 24 = .ok (.aload 6, 2) := by decide +kernel
theorem dX10_fixedSign_26 : decode cX10_fixedSign 26 = .ok (.getfield 98, 3) := by decide +kernel
theorem dX10_fixedSign_29 : decode cX10_fixedSign 29 = .ok (.invokevirtual 101, 3) := by decide +kernel
theorem dX10_fixedSign_32 : decode cX10_fixedSign 32 = .ok (.aload_n 0, 1) := by decide +kernel
theorem dX10_fixedSign_33 : decode cX10_fixedSign 33 = .ok (.getfield 29, 3) := by decide +kernel
theorem dX10_fixedSign_36 : decode cX10_fixedSign 36 = .ok (.iload_n 1, 1) := by decide +kernel
theorem dX10_fixedSign_37 : decode cX10_fixedSign 37 = .ok (.isub, 1) := by decide +kernel
theorem dX10_fixedSign_38 : decode cX10_fixedSign 38 = .ok (.if_icmp .ne 7, 3) := by decide +kernel
theorem dX10_fixedSign_41 : decode cX10_fixedSign 41 = .ok (.iconst 1, 1) := by decide +kernel
theorem dX10_fixedSign_42 : decode cX10_fixedSign 42 = .ok (.goto 4, 3) := by decide +kernel
theorem dX10_fixedSign_45 : decode cX10_fixedSign 45 = .ok (.iconst 0, 1) := by decide +kernel
theorem dX10_fixedSign_46 : decode cX10_fixedSign 46 = .ok (.istore 7, 2) := by decide +kernel
theorem dX10_fixedSign_48 : decode cX10_fixedSign 48 = .ok (.iconst 0, 1) := by decide +kernel
theorem dX10_fixedSign_49 : decode cX10_fixedSign 49 = .ok (.istore 8, 2) := by decide +kernel
theorem dX10_fixedSign_51 : decode cX10_fixedSign 51 = .ok (.iload 7, 2) := by decide +kernel
theorem dX10_fixedSign_53 : decode cX10_fixedSign 53 = .ok (.ifCond .eq 62, 3) := by decide +kernel
theorem dX10_fixedSign_56 : decode cX10_fixedSign 56 = .ok (.iload 8, 2) := by decide +kernel
theorem dX10_fixedSign_58 : decode cX10_fixedSign 58 = .ok (.aload 6, 2) := by decide +kernel
theorem dX10_fixedSign_60 : decode cX10_fixedSign 60 = .ok (.getfield 98, 3) := by decide +kernel
theorem dX10_fixedSign_63 : decode cX10_fixedSign 63 = .ok (.invokevirtual 101, 3) := by decide +kernel
theorem dX10_fixedSign_66 : decode cX10_fixedSign 66 = .ok (.if_icmp .ge 49, 3) := by decide +kernel
theorem dX10_fixedSign_69 : decode cX10_fixedSign 69 = .ok (.iload_n 1, 1) := by decide +kernel
theorem dX10_fixedSign_70 : decode cX10_fixedSign 70 = .ok (.iload 8, 2) := by decide +kernel
theorem dX10_fixedSign_72 : decode cX10_fixedSign 72 = .ok (.iadd, 1) := by decide +kernel
theorem dX10_fixedSign_73 : decode cX10_fixedSign 73 = .ok (.aload_n 0, 1) := by decide +kernel
theorem dX10_fixedSign_74 : decode cX10_fixedSign 74 = .ok (.getfield 25, 3) := by decide +kernel
theorem dX10_fixedSign_77 : decode cX10_fixedSign 77 = .ok (.if_icmp .ge 38, 3) := by decide +kernel
theorem dX10_fixedSign_80 : decode cX10_fixedSign 80 = .ok (.aload 6, 2) := by decide +kernel
theorem dX10_fixedSign_82 : decode cX10_fixedSign 82 = .ok (.getfield 98, 3) := by decide +kernel
theorem dX10_fixedSign_85 : decode cX10_fixedSign 85 = .ok (.iload 8, 2) := by decide +kernel
theorem dX10_fixedSign_87 : decode cX10_fixedSign 87 = .ok (.invokevirtual 106, 3) := by decide +kernel
theorem dX10_fixedSign_90 : decode cX10_fixedSign 90 = .ok (.aload_n 0, 1) := by decide +kernel
theorem dX10_fixedSign_91 : decode cX10_fixedSign 91 = .ok (.getfield 35, 3) := by decide +kernel
theorem dX10_fixedSign_94 : decode cX10_fixedSign 94 = .ok (.iload_n 1, 1) := by decide +kernel
theorem dX10_fixedSign_95 : decode cX10_fixedSign 95 = .ok (.iload 8, 2) := by decide +kernel
theorem dX10_fixedSign_97 : decode cX10_fixedSign 97 = .ok (.iadd, 1) := by decide +kernel
theorem dX10_fixedSign_98 : decode cX10_fixedSign 98 = .ok (.baload, 1) := by decide +kernel
theorem dX10_fixedSign_99 : decode cX10_fixedSign 99 = .ok (.if_icmp .ne 7, 3) := by decide +kernel
theorem dX10_fixedSign_102 : decode cX10_fixedSign 102 = .ok (.iconst 1, 1) := by decide +kernel
theorem dX10_fixedSign_103 : decode cX10_fixedSign 103 = .ok (.goto 4, 3) := by decide +kernel
theorem dX10_fixedSign_106 : decode cX10_fixedSign 106 = .ok (.iconst 0, 1) := by decide +kernel
theorem dX10_fixedSign_107 : decode cX10_fixedSign 107 = .ok (.istore 7, 2) := by decide +kernel
theorem dX10_fixedSign_109 : decode cX10_fixedSign 109 = .ok (.iinc 8 1, 3) := by decide +kernel
theorem dX10_fixedSign_112 : decode cX10_fixedSign 112 = .ok (.goto (-61), 3) := by decide +kernel
theorem dX10_fixedSign_115 : decode cX10_fixedSign 115 = .ok (.iload 7, 2) := by decide +kernel
theorem dX10_fixedSign_117 : decode cX10_fixedSign 117 = .ok (.ifCond .eq 6, 3) := by decide +kernel
theorem dX10_fixedSign_120 : decode cX10_fixedSign 120 = .ok (.aload 6, 2) := by decide +kernel
theorem dX10_fixedSign_122 : decode cX10_fixedSign 122 = .ok (.areturn, 1) := by decide +kernel
theorem dX10_fixedSign_123 : decode cX10_fixedSign 123 = .ok (.iinc 5 1, 3) := by decide +kernel
theorem dX10_fixedSign_126 : decode cX10_fixedSign 126 = .ok (.goto (-115), 3) := by decide +kernel
theorem dX10_fixedSign_129 : decode cX10_fixedSign 129 = .ok (.aload_n 2, 1) := by decide +kernel
theorem dX10_fixedSign_130 : decode cX10_fixedSign 130 = .ok (.areturn, 1) := by decide +kernel
theorem dX10_isLetter_0 : decode cX10_isLetter 0 = .ok (.iload_n 0, 1) := by decide +kernel
theorem dX10_isLetter_1 : decode cX10_isLetter 1 = .ok (.bipush 97, 2) := by decide +kernel
theorem dX10_isLetter_3 : decode cX10_isLetter 3 = .ok (.if_icmp .lt 13, 3) := by decide +kernel
theorem dX10_isLetter_6 : decode cX10_isLetter 6 = .ok (.iload_n 0, 1) := by decide +kernel
theorem dX10_isLetter_7 : decode cX10_isLetter 7 = .ok (.bipush 122, 2) := by decide +kernel
theorem dX10_isLetter_9 : decode cX10_isLetter 9 = .ok (.if_icmp .gt 7, 3) := by decide +kernel
theorem dX10_isLetter_12 : decode cX10_isLetter 12 = .ok (.iconst 1, 1) := by decide +kernel
theorem dX10_isLetter_13 : decode cX10_isLetter 13 = .ok (.goto 4, 3) := by decide +kernel
theorem dX10_isLetter_16 : decode cX10_isLetter 16 = .ok (.iconst 0, 1) := by decide +kernel
theorem dX10_isLetter_17 : decode cX10_isLetter 17 = .ok (.ireturn, 1) := by decide +kernel
theorem dX10_isDigit_0 : decode cX10_isDigit 0 = .ok (.iload_n 0, 1) := by decide +kernel
theorem dX10_isDigit_1 : decode cX10_isDigit 1 = .ok (.bipush 48, 2) := by decide +kernel
theorem dX10_isDigit_3 : decode cX10_isDigit 3 = .ok (.if_icmp .lt 13, 3) := by decide +kernel
theorem dX10_isDigit_6 : decode cX10_isDigit 6 = .ok (.iload_n 0, 1) := by decide +kernel
theorem dX10_isDigit_7 : decode cX10_isDigit 7 = .ok (.bipush 57, 2) := by decide +kernel
theorem dX10_isDigit_9 : decode cX10_isDigit 9 = .ok (.if_icmp .gt 7, 3) := by decide +kernel
theorem dX10_isDigit_12 : decode cX10_isDigit 12 = .ok (.iconst 1, 1) := by decide +kernel
theorem dX10_isDigit_13 : decode cX10_isDigit 13 = .ok (.goto 4, 3) := by decide +kernel
theorem dX10_isDigit_16 : decode cX10_isDigit 16 = .ok (.iconst 0, 1) := by decide +kernel
theorem dX10_isDigit_17 : decode cX10_isDigit 17 = .ok (.ireturn, 1) := by decide +kernel
theorem dX10_withLetter_0 : decode cX10_withLetter 0 = .ok (.lload_n 0, 1) := by decide +kernel
theorem dX10_withLetter_1 : decode cX10_withLetter 1 = .ok (.iconst 5, 1) := by decide +kernel
theorem dX10_withLetter_2 : decode cX10_withLetter 2 = .ok (.lshl, 1) := by decide +kernel
theorem dX10_withLetter_3 : decode cX10_withLetter 3 = .ok (.iload_n 2, 1) := by decide +kernel
theorem dX10_withLetter_4 : decode cX10_withLetter 4 = .ok (.bipush 97, 2) := by decide +kernel
theorem dX10_withLetter_6 : decode cX10_withLetter 6 = .ok (.isub, 1) := by decide +kernel
theorem dX10_withLetter_7 : decode cX10_withLetter 7 = .ok (.iconst 1, 1) := by decide +kernel
theorem dX10_withLetter_8 : decode cX10_withLetter 8 = .ok (.iadd, 1) := by decide +kernel
theorem dX10_withLetter_9 : decode cX10_withLetter 9 = .ok (.i2l, 1) := by decide +kernel
theorem dX10_withLetter_10 : decode cX10_withLetter 10 = .ok (.lor, 1) := by decide +kernel
theorem dX10_withLetter_11 : decode cX10_withLetter 11 = .ok (.lreturn, 1) := by decide +kernel
theorem dX10_sign_0 : decode cX10_sign 0 = .ok (.aload_n 0, 1) := by decide +kernel
theorem dX10_sign_1 : decode cX10_sign 1 = .ok (.getfield 32, 3) := by decide +kernel
theorem dX10_sign_4 : decode cX10_sign 4 = .ok (.sipush 600, 3) := by decide +kernel
theorem dX10_sign_7 : decode cX10_sign 7 = .ok (.if_icmp .gt 15, 3) := by decide +kernel
theorem dX10_sign_10 : decode cX10_sign 10 = .ok (.aload_n 0, 1) := by decide +kernel
theorem dX10_sign_11 : decode cX10_sign 11 = .ok (.getfield 11, 3) := by decide +kernel
theorem dX10_sign_14 : decode cX10_sign 14 = .ok (.aload_n 0, 1) := by decide +kernel
theorem dX10_sign_15 : decode cX10_sign 15 = .ok (.getfield 32, 3) := by decide +kernel
theorem dX10_sign_18 : decode cX10_sign 18 = .ok (.aaload, 1) := by decide +kernel
theorem dX10_sign_19 : decode cX10_sign 19 = .ok (.goto 6, 3) := by decide +kernel
theorem dX10_sign_22 : decode cX10_sign 22 = .ok (.getstatic 50, 3) := by decide +kernel
theorem dX10_sign_25 : decode cX10_sign 25 = .ok (.astore_n 1, 1) := by decide +kernel
theorem dX10_sign_26 : decode cX10_sign 26 = .ok (.aload_n 1, 1) := by decide +kernel
theorem dX10_sign_27 : decode cX10_sign 27 = .ok (.ifnonnull 9, 3) := by decide +kernel
theorem dX10_sign_30 : decode cX10_sign 30 = .ok (.getstatic 50, 3) := by decide +kernel
theorem dX10_sign_33 : decode cX10_sign 33 = .ok (.goto 4, 3) := by decide +kernel
theorem dX10_sign_36 : decode cX10_sign 36 = .ok (.aload_n 1, 1) := by decide +kernel
theorem dX10_sign_37 : decode cX10_sign 37 = .ok (.areturn, 1) := by decide +kernel
theorem dX10_start_0 : decode cX10_start 0 = .ok (.aload_n 0, 1) := by decide +kernel
theorem dX10_start_1 : decode cX10_start 1 = .ok (.getfield 32, 3) := by decide +kernel
theorem dX10_start_4 : decode cX10_start 4 = .ok (.sipush 600, 3) := by decide +kernel
theorem dX10_start_7 : decode cX10_start 7 = .ok (.if_icmp .gt 15, 3) := by decide +kernel
theorem dX10_start_10 : decode cX10_start 10 = .ok (.aload_n 0, 1) := by decide +kernel
theorem dX10_start_11 : decode cX10_start 11 = .ok (.getfield 17, 3) := by decide +kernel
theorem dX10_start_14 : decode cX10_start 14 = .ok (.aload_n 0, 1) := by decide +kernel
theorem dX10_start_15 : decode cX10_start 15 = .ok (.getfield 32, 3) := by decide +kernel
theorem dX10_start_18 : decode cX10_start 18 = .ok (.iaload, 1) := by decide +kernel
theorem dX10_start_19 : decode cX10_start 19 = .ok (.goto 7, 3) := by decide +kernel
theorem dX10_start_22 : decode cX10_start 22 = .ok (.aload_n 0, 1) := by decide +kernel
theorem dX10_start_23 : decode cX10_start 23 = .ok (.getfield 25, 3) := by decide +kernel
theorem dX10_start_26 : decode cX10_start 26 = .ok (.ireturn, 1) := by decide +kernel
theorem dX10_name_0 : decode cX10_name 0 = .ok (.aload_n 0, 1) := by decide +kernel
theorem dX10_name_1 : decode cX10_name 1 = .ok (.getfield 32, 3) := by decide +kernel
theorem dX10_name_4 : decode cX10_name 4 = .ok (.sipush 600, 3) := by decide +kernel
theorem dX10_name_7 : decode cX10_name 7 = .ok (.if_icmp .gt 15, 3) := by decide +kernel
theorem dX10_name_10 : decode cX10_name 10 = .ok (.aload_n 0, 1) := by decide +kernel
theorem dX10_name_11 : decode cX10_name 11 = .ok (.getfield 21, 3) := by decide +kernel
theorem dX10_name_14 : decode cX10_name 14 = .ok (.aload_n 0, 1) := by decide +kernel
theorem dX10_name_15 : decode cX10_name 15 = .ok (.getfield 32, 3) := by decide +kernel
theorem dX10_name_18 : decode cX10_name 18 = .ok (.laload, 1) := by decide +kernel
theorem dX10_name_19 : decode cX10_name 19 = .ok (.goto 6, 3) := by decide +kernel
theorem dX10_name_22 : decode cX10_name 22 = .ok (.ldc2_w 48, 3) := by decide +kernel
theorem dX10_name_25 : decode cX10_name 25 = .ok (.lreturn, 1) := by decide +kernel
theorem dX10_number_0 : decode cX10_number 0 = .ok (.aload_n 0, 1) := by decide +kernel
theorem dX10_number_1 : decode cX10_number 1 = .ok (.invokevirtual 110, 3) := by decide +kernel
theorem dX10_number_4 : decode cX10_number 4 = .ok (.l2i, 1) := by decide +kernel
theorem dX10_number_5 : decode cX10_number 5 = .ok (.ireturn, 1) := by decide +kernel
theorem dX10_advance_0 : decode cX10_advance 0 = .ok (.aload_n 0, 1) := by decide +kernel
theorem dX10_advance_1 : decode cX10_advance 1 = .ok (.invokevirtual 114, 3) := by decide +kernel
theorem dX10_advance_4 : decode cX10_advance 4 = .ok (.getstatic 50, 3) := by decide +kernel
theorem dX10_advance_7 : decode cX10_advance 7 = .ok (.if_acmp .eq 13, 3) := by decide +kernel
theorem dX10_advance_10 : decode cX10_advance 10 = .ok (.aload_n 0, 1) := by decide +kernel
theorem dX10_advance_11 : decode cX10_advance 11 = .ok (.dup, 1) := by decide +kernel
theorem dX10_advance_12 : decode cX10_advance 12 = .ok (.getfield 32, 3) := by decide +kernel
theorem dX10_advance_15 : decode cX10_advance 15 = .ok (.iconst 1, 1) := by decide +kernel
theorem dX10_advance_16 : decode cX10_advance 16 = .ok (.iadd, 1) := by decide +kernel
theorem dX10_advance_17 : decode cX10_advance 17 = .ok (.putfield 32, 3) := by decide +kernel
theorem dX10_advance_20 : decode cX10_advance 20 = .ok (.return_, 1) := by decide +kernel
theorem dX11_init_0 : decode cX11_init 0 = .ok (.aload_n 0, 1) := by decide +kernel
theorem dX11_init_1 : decode cX11_init 1 = .ok (.invokespecial 3, 3) := by decide +kernel
theorem dX11_init_4 : decode cX11_init 4 = .ok (.aload_n 0, 1) := by decide +kernel
theorem dX11_init_5 : decode cX11_init 5 = .ok (.sipush 600, 3) := by decide +kernel
theorem dX11_init_8 : decode cX11_init 8 = .ok (.newarray .byte, 2) := by decide +kernel
theorem dX11_init_10 : decode cX11_init 10 = .ok (.putfield 9, 3) := by decide +kernel
theorem dX11_init_13 : decode cX11_init 13 = .ok (.aload_n 0, 1) := by decide +kernel
theorem dX11_init_14 : decode cX11_init 14 = .ok (.iconst 0, 1) := by decide +kernel
theorem dX11_init_15 : decode cX11_init 15 = .ok (.putfield 13, 3) := by decide +kernel
theorem dX11_init_18 : decode cX11_init 18 = .ok (.aload_n 0, 1) := by decide +kernel
theorem dX11_init_19 : decode cX11_init 19 = .ok (.new 17, 3) := by decide +kernel
theorem dX11_init_22 : decode cX11_init 22 = .ok (.dup, 1) := by decide +kernel
theorem dX11_init_23 : decode cX11_init 23 = .ok (.invokespecial 19, 3) := by decide +kernel
theorem dX11_init_26 : decode cX11_init 26 = .ok (.putfield 20, 3) := by decide +kernel
theorem dX11_init_29 : decode cX11_init 29 = .ok (.aload_n 0, 1) := by decide +kernel
theorem dX11_init_30 : decode cX11_init 30 = .ok (.new 24, 3) := by decide +kernel
theorem dX11_init_33 : decode cX11_init 33 = .ok (.dup, 1) := by decide +kernel
theorem dX11_init_34 : decode cX11_init 34 = .ok (.invokespecial 26, 3) := by decide +kernel
theorem dX11_init_37 : decode cX11_init 37 = .ok (.putfield 27, 3) := by decide +kernel
theorem dX11_init_40 : decode cX11_init 40 = .ok (.aload_n 0, 1) := by decide +kernel
theorem dX11_init_41 : decode cX11_init 41 = .ok (.new 24, 3) := by decide +kernel
theorem dX11_init_44 : decode cX11_init 44 = .ok (.dup, 1) := by decide +kernel
theorem dX11_init_45 : decode cX11_init 45 = .ok (.invokespecial 26, 3) := by decide +kernel
theorem dX11_init_48 : decode cX11_init 48 = .ok (.putfield 31, 3) := by decide +kernel
theorem dX11_init_51 : decode cX11_init 51 = .ok (.aload_n 0, 1) := by decide +kernel
theorem dX11_init_52 : decode cX11_init 52 = .ok (.new 34, 3) := by decide +kernel
theorem dX11_init_55 : decode cX11_init 55 = .ok (.dup, 1) := by decide +kernel
theorem dX11_init_56 : decode cX11_init 56 = .ok (.aload_n 0, 1) := by decide +kernel
theorem dX11_init_57 : decode cX11_init 57 = .ok (.getfield 9, 3) := by decide +kernel
theorem dX11_init_60 : decode cX11_init 60 = .ok (.aload_n 0, 1) := by decide +kernel
theorem dX11_init_61 : decode cX11_init 61 = .ok (.getfield 31, 3) := by decide +kernel
theorem dX11_init_64 : decode cX11_init 64 = .ok (.invokespecial 36, 3) := by decide +kernel
theorem dX11_init_67 : decode cX11_init 67 = .ok (.putfield 39, 3) := by decide +kernel
theorem dX11_init_70 : decode cX11_init 70 = .ok (.aload_n 0, 1) := by decide +kernel
theorem dX11_init_71 : decode cX11_init 71 = .ok (.new 43, 3) := by decide +kernel
theorem dX11_init_74 : decode cX11_init 74 = .ok (.dup, 1) := by decide +kernel
theorem dX11_init_75 : decode cX11_init 75 = .ok (.aload_n 0, 1) := by decide +kernel
theorem dX11_init_76 : decode cX11_init 76 = .ok (.getfield 27, 3) := by decide +kernel
theorem dX11_init_79 : decode cX11_init 79 = .ok (.invokespecial 45, 3) := by decide +kernel
theorem dX11_init_82 : decode cX11_init 82 = .ok (.putfield 48, 3) := by decide +kernel
theorem dX11_init_85 : decode cX11_init 85 = .ok (.aload_n 0, 1) := by decide +kernel
theorem dX11_init_86 : decode cX11_init 86 = .ok (.new 52, 3) := by decide +kernel
theorem dX11_init_89 : decode cX11_init 89 = .ok (.dup, 1) := by decide +kernel
theorem dX11_init_90 : decode cX11_init 90 = .ok (.invokespecial 54, 3) := by decide +kernel
theorem dX11_init_93 : decode cX11_init 93 = .ok (.putfield 55, 3) := by decide +kernel
theorem dX11_init_96 : decode cX11_init 96 = .ok (.aload_n 0, 1) := by decide +kernel
theorem dX11_init_97 : decode cX11_init 97 = .ok (.new 52, 3) := by decide +kernel
theorem dX11_init_100 : decode cX11_init 100 = .ok (.dup, 1) := by decide +kernel
theorem dX11_init_101 : decode cX11_init 101 = .ok (.invokespecial 54, 3) := by decide +kernel
theorem dX11_init_104 : decode cX11_init 104 = .ok (.putfield 59, 3) := by decide +kernel
theorem dX11_init_107 : decode cX11_init 107 = .ok (.aload_n 0, 1) := by decide +kernel
theorem dX11_init_108 : decode cX11_init 108 = .ok (.new 52, 3) := by decide +kernel
theorem dX11_init_111 : decode cX11_init 111 = .ok (.dup, 1) := by decide +kernel
theorem dX11_init_112 : decode cX11_init 112 = .ok (.invokespecial 54, 3) := by decide +kernel
theorem dX11_init_115 : decode cX11_init 115 = .ok (.putfield 62, 3) := by decide +kernel
theorem dX11_init_118 : decode cX11_init 118 = .ok (.aload_n 0, 1) := by decide +kernel
theorem dX11_init_119 : decode cX11_init 119 = .ok (.new 65, 3) := by decide +kernel
theorem dX11_init_122 : decode cX11_init 122 = .ok (.dup, 1) := by decide +kernel
theorem dX11_init_123 : decode cX11_init 123 = .ok (.invokespecial 67, 3) := by decide +kernel
theorem dX11_init_126 : decode cX11_init 126 = .ok (.putfield 68, 3) := by decide +kernel
theorem dX11_init_129 : decode cX11_init 129 = .ok (.aload_n 0, 1) := by decide +kernel
theorem dX11_init_130 : decode cX11_init 130 = .ok (.new 72, 3) := by decide +kernel
theorem dX11_init_133 : decode cX11_init 133 = .ok (.dup, 1) := by decide +kernel
theorem dX11_init_134 : decode cX11_init 134 = .ok (.aload_n 0, 1) := by decide +kernel
theorem dX11_init_135 : decode cX11_init 135 = .ok (.getfield 27, 3) := by decide +kernel
theorem dX11_init_138 : decode cX11_init 138 = .ok (.invokespecial 74, 3) := by decide +kernel
theorem dX11_init_141 : decode cX11_init 141 = .ok (.putfield 75, 3) := by decide +kernel
theorem dX11_init_144 : decode cX11_init 144 = .ok (.return_, 1) := by decide +kernel
theorem dX11_append_0 : decode cX11_append 0 = .ok (.aload_n 0, 1) := by decide +kernel
theorem dX11_append_1 : decode cX11_append 1 = .ok (.getfield 13, 3) := by decide +kernel
theorem dX11_append_4 : decode cX11_append 4 = .ok (.sipush 580, 3) := by decide +kernel
theorem dX11_append_7 : decode cX11_append 7 = .ok (.if_icmp .le 5, 3) := by decide +kernel
theorem dX11_append_10 : decode cX11_append 10 = .ok (.iconst (-1), 1) := by decide +kernel
theorem dX11_append_11 : decode cX11_append 11 = .ok (.ireturn, 1) := by decide +kernel
theorem dX11_append_12 : decode cX11_append 12 = .ok (.aload_n 0, 1) := by decide +kernel
theorem dX11_append_13 : decode cX11_append 13 = .ok (.iload_n 1, 1) := by decide +kernel
theorem dX11_append_14 : decode cX11_append 14 = .ok (.invokevirtual 79, 3) := by decide +kernel
theorem dX11_append_17 : decode cX11_append 17 = .ok (.aload_n 0, 1) := by decide +kernel
theorem dX11_append_18 : decode cX11_append 18 = .ok (.iload_n 2, 1) := by decide +kernel
theorem dX11_append_19 : decode cX11_append 19 = .ok (.invokevirtual 79, 3) := by decide +kernel
theorem dX11_append_22 : decode cX11_append 22 = .ok (.aload_n 0, 1) := by decide +kernel
theorem dX11_append_23 : decode cX11_append 23 = .ok (.iload_n 3, 1) := by decide +kernel
theorem dX11_append_24 : decode cX11_append 24 = .ok (.invokevirtual 79, 3) := by decide +kernel
theorem dX11_append_27 : decode cX11_append 27 = .ok (.aload_n 0, 1) := by decide +kernel
theorem dX11_append_28 : decode cX11_append 28 = .ok (.iload 4, 2) := by decide +kernel
theorem dX11_append_30 : decode cX11_append 30 = .ok (.invokevirtual 79, 3) := by decide +kernel
theorem dX11_append_33 : decode cX11_append 33 = .ok (.aload_n 0, 1) := by decide +kernel
theorem dX11_append_34 : decode cX11_append 34 = .ok (.iload 5, 2) := by decide +kernel
theorem dX11_append_36 : decode cX11_append 36 = .ok (.invokevirtual 79, 3) := by decide +kernel
theorem dX11_append_39 : decode cX11_append 39 = .ok (.aload_n 0, 1) := by decide +kernel
theorem dX11_append_40 : decode cX11_append 40 = .ok (.getfield 13, 3) := by decide +kernel
theorem dX11_append_43 : decode cX11_append 43 = .ok (.ireturn, 1) := by decide +kernel
theorem dX11_putFourBytes_0 : decode cX11_putFourBytes 0 = .ok (.bipush 24, 2) := by decide +kernel
theorem dX11_putFourBytes_2 : decode cX11_putFourBytes 2 = .ok (.istore_n 2, 1) := by decide +kernel
theorem dX11_putFourBytes_3 : decode cX11_putFourBytes 3 = .ok (.iload_n 2, 1) := by decide +kernel
theorem dX11_putFourBytes_4 : decode cX11_putFourBytes 4 = .ok (.ifCond .lt 51, 3) := by decide +kernel
theorem dX11_putFourBytes_7 : decode cX11_putFourBytes 7 = .ok (.aload_n 0, 1) := by decide +kernel
theorem dX11_putFourBytes_8 : decode cX11_putFourBytes 8 = .ok (.getfield 13, 3) := by decide +kernel
theorem dX11_putFourBytes_11 : decode cX11_putFourBytes 11 = .ok (.ifCond .lt 38, 3) := by decide +kernel
theorem dX11_putFourBytes_14 : decode cX11_putFourBytes 14 = .ok (.aload_n 0, 1) := by decide +kernel
theorem dX11_putFourBytes_15 : decode cX11_putFourBytes 15 = .ok (.getfield 13, 3) := by decide +kernel
theorem dX11_putFourBytes_18 : decode cX11_putFourBytes 18 = .ok (.aload_n 0, 1) := by decide +kernel
theorem dX11_putFourBytes_19 : decode cX11_putFourBytes 19 = .ok (.getfield 9, 3) := by decide +kernel
theorem dX11_putFourBytes_22 : decode cX11_putFourBytes 22 = .ok (.arraylength, 1) := by decide +kernel
theorem dX11_putFourBytes_23 : decode cX11_putFourBytes 23 = .ok (.if_icmp .ge 26, 3) := by decide +kernel
theorem dX11_putFourBytes_26 : decode cX11_putFourBytes 26 = .ok (.aload_n 0, 1) := by decide +kernel
theorem dX11_putFourBytes_27 : decode cX11_putFourBytes 27 = .ok (.getfield 9, 3) := by decide +kernel
theorem dX11_putFourBytes_30 : decode cX11_putFourBytes 30 = .ok (.aload_n 0, 1) := by decide +kernel
theorem dX11_putFourBytes_31 : decode cX11_putFourBytes 31 = .ok (.getfield 13, 3) := by decide +kernel
theorem dX11_putFourBytes_34 : decode cX11_putFourBytes 34 = .ok (.iload_n 1, 1) := by decide +kernel
theorem dX11_putFourBytes_35 : decode cX11_putFourBytes 35 = .ok (.iload_n 2, 1) := by decide +kernel
theorem dX11_putFourBytes_36 : decode cX11_putFourBytes 36 = .ok (.iushr, 1) := by decide +kernel
theorem dX11_putFourBytes_37 : decode cX11_putFourBytes 37 = .ok (.i2b, 1) := by decide +kernel
theorem dX11_putFourBytes_38 : decode cX11_putFourBytes 38 = .ok (.bastore, 1) := by decide +kernel
theorem dX11_putFourBytes_39 : decode cX11_putFourBytes 39 = .ok (.aload_n 0, 1) := by decide +kernel
theorem dX11_putFourBytes_40 : decode cX11_putFourBytes 40 = .ok (.dup, 1) := by decide +kernel
theorem dX11_putFourBytes_41 : decode cX11_putFourBytes 41 = .ok (.getfield 13, 3) := by decide +kernel
theorem dX11_putFourBytes_44 : decode cX11_putFourBytes 44 = .ok (.iconst 1, 1) := by decide +kernel
theorem dX11_putFourBytes_45 : decode cX11_putFourBytes 45 = .ok (.iadd, 1) := by decide +kernel
theorem dX11_putFourBytes_46 : decode cX11_putFourBytes 46 = .ok (.putfield 13, 3) := by decide +kernel
theorem dX11_putFourBytes_49 : decode cX11_putFourBytes 49 = .ok (.iinc 2 (-8), 3) := by decide +kernel
theorem dX11_putFourBytes_52 : decode cX11_putFourBytes 52 = .ok (.goto (-49), 3) := by decide +kernel
theorem dX11_putFourBytes_55 : decode cX11_putFourBytes 55 = .ok (.return_, 1) := by decide +kernel
theorem dX11_truncate_0 : decode cX11_truncate 0 = .ok (.iload_n 1, 1) := by decide +kernel
theorem dX11_truncate_1 : decode cX11_truncate 1 = .ok (.ifCond .lt 11, 3) := by decide +kernel
theorem dX11_truncate_4 : decode cX11_truncate 4 = .ok (.iload_n 1, 1) := by decide +kernel
theorem dX11_truncate_5 : decode cX11_truncate 5 = .ok (.aload_n 0, 1) := by decide +kernel
theorem dX11_truncate_6 : decode cX11_truncate 6 = .ok (.getfield 13, 3) := by decide +kernel
theorem dX11_truncate_9 : decode cX11_truncate 9 = .ok (.if_icmp .le 5, 3) := by decide +kernel
theorem dX11_truncate_12 : decode cX11_truncate 12 = .ok (.iconst 0, 1) := by decide +kernel
theorem dX11_truncate_13 : decode cX11_truncate 13 = .ok (.ireturn, 1) := by decide +kernel
theorem dX11_truncate_14 : decode cX11_truncate 14 = .ok (.aload_n 0, 1) := by decide +kernel
theorem dX11_truncate_15 : decode cX11_truncate 15 = .ok (.iload_n 1, 1) := by decide +kernel
theorem dX11_truncate_16 : decode cX11_truncate 16 = .ok (.putfield 13, 3) := by decide +kernel
theorem dX11_truncate_19 : decode cX11_truncate 19 = .ok (.iconst 1, 1) := by decide +kernel
theorem dX11_truncate_20 : decode cX11_truncate 20 = .ok (.ireturn, 1) := by decide +kernel
theorem dX11_bufferLength_0 : decode cX11_bufferLength 0 = .ok (.aload_n 0, 1) := by decide +kernel
theorem dX11_bufferLength_1 : decode cX11_bufferLength 1 = .ok (.getfield 13, 3) := by decide +kernel
theorem dX11_bufferLength_4 : decode cX11_bufferLength 4 = .ok (.ireturn, 1) := by decide +kernel
theorem dX11_define_0 : decode cX11_define 0 = .ok (.aload_n 0, 1) := by decide +kernel
theorem dX11_define_1 : decode cX11_define 1 = .ok (.getfield 13, 3) := by decide +kernel
theorem dX11_define_4 : decode cX11_define 4 = .ok (.istore_n 1, 1) := by decide +kernel
theorem dX11_define_5 : decode cX11_define 5 = .ok (.aload_n 0, 1) := by decide +kernel
theorem dX11_define_6 : decode cX11_define 6 = .ok (.iconst 0, 1) := by decide +kernel
theorem dX11_define_7 : decode cX11_define 7 = .ok (.putfield 13, 3) := by decide +kernel
theorem dX11_define_10 : decode cX11_define 10 = .ok (.aload_n 0, 1) := by decide +kernel
theorem dX11_define_11 : decode cX11_define 11 = .ok (.getfield 39, 3) := by decide +kernel
theorem dX11_define_14 : decode cX11_define 14 = .ok (.iload_n 1, 1) := by decide +kernel
theorem dX11_define_15 : decode cX11_define 15 = .ok (.invokevirtual 83, 3) := by decide +kernel
theorem dX11_define_18 : decode cX11_define 18 = .ok (.istore_n 2, 1) := by decide +kernel
theorem dX11_define_19 : decode cX11_define 19 = .ok (.iload_n 2, 1) := by decide +kernel
theorem dX11_define_20 : decode cX11_define 20 = .ok (.ifCond .eq 6, 3) := by decide +kernel
theorem dX11_define_23 : decode cX11_define 23 = .ok (.iload_n 2, 1) := by decide +kernel
theorem dX11_define_24 : decode cX11_define 24 = .ok (.ineg, 1) := by decide +kernel
theorem dX11_define_25 : decode cX11_define 25 = .ok (.ireturn, 1) := by decide +kernel
theorem dX11_define_26 : decode cX11_define 26 = .ok (.aload_n 0, 1) := by decide +kernel
theorem dX11_define_27 : decode cX11_define 27 = .ok (.getfield 27, 3) := by decide +kernel
theorem dX11_define_30 : decode cX11_define 30 = .ok (.aload_n 0, 1) := by decide +kernel
theorem dX11_define_31 : decode cX11_define 31 = .ok (.getfield 31, 3) := by decide +kernel
theorem dX11_define_34 : decode cX11_define 34 = .ok (.invokevirtual 87, 3) := by decide +kernel
theorem dX11_define_37 : decode cX11_define 37 = .ok (.aload_n 0, 1) := by decide +kernel
theorem dX11_define_38 : decode cX11_define 38 = .ok (.getfield 68, 3) := by decide +kernel
theorem dX11_define_41 : decode cX11_define 41 = .ok (.invokevirtual 90, 3) := by decide +kernel
theorem dX11_define_44 : decode cX11_define 44 = .ok (.aload_n 0, 1) := by decide +kernel
theorem dX11_define_45 : decode cX11_define 45 = .ok (.invokevirtual 93, 3) := by decide +kernel
theorem dX11_define_48 : decode cX11_define 48 = .ok (.aload_n 0, 1) := by decide +kernel
theorem dX11_define_49 : decode cX11_define 49 = .ok (.getfield 27, 3) := by decide +kernel
theorem dX11_define_52 : decode cX11_define 52 = .ok (.invokevirtual 96, 3) := by decide +kernel
theorem dX11_define_55 : decode cX11_define 55 = .ok (.ireturn, 1) := by decide +kernel
theorem dX11_forgetWhatWasFound_0 : decode cX11_forgetWhatWasFound 0 = .ok (.aload_n 0, 1) := by decide +kernel
theorem dX11_forgetWhatWasFound_1 : decode cX11_forgetWhatWasFound 1 = .ok (.getfield 55, 3) := by decide +kernel
theorem dX11_forgetWhatWasFound_4 : decode cX11_forgetWhatWasFound 4 = .ok (.invokevirtual 100, 3) := by decide +kernel
theorem dX11_forgetWhatWasFound_7 : decode cX11_forgetWhatWasFound 7 = .ok (.aload_n 0, 1) := by decide +kernel
theorem dX11_forgetWhatWasFound_8 : decode cX11_forgetWhatWasFound 8 = .ok (.getfield 59, 3) := by decide +kernel
theorem dX11_forgetWhatWasFound_11 : decode cX11_forgetWhatWasFound 11 = .ok (.invokevirtual 100, 3) := by decide +kernel
theorem dX11_forgetWhatWasFound_14 : decode cX11_forgetWhatWasFound 14 = .ok (.aload_n 0, 1) := by decide +kernel
theorem dX11_forgetWhatWasFound_15 : decode cX11_forgetWhatWasFound 15 = .ok (.getfield 62, 3) := by decide +kernel
theorem dX11_forgetWhatWasFound_18 : decode cX11_forgetWhatWasFound 18 = .ok (.invokevirtual 100, 3) := by decide +kernel
theorem dX11_forgetWhatWasFound_21 : decode cX11_forgetWhatWasFound 21 = .ok (.aload_n 0, 1) := by decide +kernel
theorem dX11_forgetWhatWasFound_22 : decode cX11_forgetWhatWasFound 22 = .ok (.getfield 75, 3) := by decide +kernel
theorem dX11_forgetWhatWasFound_25 : decode cX11_forgetWhatWasFound 25 = .ok (.invokevirtual 103, 3) := by decide +kernel
theorem dX11_forgetWhatWasFound_28 : decode cX11_forgetWhatWasFound 28 = .ok (.return_, 1) := by decide +kernel
theorem dX11_threadCount_0 : decode cX11_threadCount 0 = .ok (.aload_n 0, 1) := by decide +kernel
theorem dX11_threadCount_1 : decode cX11_threadCount 1 = .ok (.getfield 27, 3) := by decide +kernel
theorem dX11_threadCount_4 : decode cX11_threadCount 4 = .ok (.invokevirtual 104, 3) := by decide +kernel
theorem dX11_threadCount_7 : decode cX11_threadCount 7 = .ok (.ireturn, 1) := by decide +kernel
theorem dX11_locationCount_0 : decode cX11_locationCount 0 = .ok (.aload_n 0, 1) := by decide +kernel
theorem dX11_locationCount_1 : decode cX11_locationCount 1 = .ok (.getfield 27, 3) := by decide +kernel
theorem dX11_locationCount_4 : decode cX11_locationCount 4 = .ok (.invokevirtual 107, 3) := by decide +kernel
theorem dX11_locationCount_7 : decode cX11_locationCount 7 = .ok (.ireturn, 1) := by decide +kernel
theorem dX11_instructionCount_0 : decode cX11_instructionCount 0 = .ok (.aload_n 0, 1) := by decide +kernel
theorem dX11_instructionCount_1 : decode cX11_instructionCount 1 = .ok (.getfield 27, 3) := by decide +kernel
theorem dX11_instructionCount_4 : decode cX11_instructionCount 4 = .ok (.invokevirtual 96, 3) := by decide +kernel
theorem dX11_instructionCount_7 : decode cX11_instructionCount 7 = .ok (.ireturn, 1) := by decide +kernel
theorem dX11_instruction_0 : decode cX11_instruction 0 = .ok (.aload_n 0, 1) := by decide +kernel
theorem dX11_instruction_1 : decode cX11_instruction 1 = .ok (.iload_n 1, 1) := by decide +kernel
theorem dX11_instruction_2 : decode cX11_instruction 2 = .ok (.invokevirtual 110, 3) := by decide +kernel
theorem dX11_instruction_5 : decode cX11_instruction 5 = .ok (.aload_n 0, 1) := by decide +kernel
theorem dX11_instruction_6 : decode cX11_instruction 6 = .ok (.getfield 27, 3) := by decide +kernel
theorem dX11_instruction_9 : decode cX11_instruction 9 = .ok (.iload_n 1, 1) := by decide +kernel
theorem dX11_instruction_10 : decode cX11_instruction 10 = .ok (.iload_n 2, 1) := by decide +kernel
theorem dX11_instruction_11 : decode cX11_instruction 11 = .ok (.invokevirtual 113, 3) := by decide +kernel
theorem dX11_instruction_14 : decode cX11_instruction 14 = .ok (.ireturn, 1) := by decide +kernel
theorem dX11_requireInstruction_0 : decode cX11_requireInstruction 0 = .ok (.iload_n 1, 1) := by decide +kernel
theorem dX11_requireInstruction_1 : decode cX11_requireInstruction 1 = .ok (.ifCond .lt 14, 3) := by decide +kernel
theorem dX11_requireInstruction_4 : decode cX11_requireInstruction 4 = .ok (.iload_n 1, 1) := by decide +kernel
theorem dX11_requireInstruction_5 : decode cX11_requireInstruction 5 = .ok (.aload_n 0, 1) := by decide +kernel
theorem dX11_requireInstruction_6 : decode cX11_requireInstruction 6 = .ok (.getfield 27, 3) := by decide +kernel
theorem dX11_requireInstruction_9 : decode cX11_requireInstruction 9 = .ok (.invokevirtual 96, 3) := by decide +kernel
theorem dX11_requireInstruction_12 : decode cX11_requireInstruction 12 = .ok (.if_icmp .lt 13, 3) := by decide +kernel
theorem dX11_requireInstruction_15 : decode cX11_requireInstruction 15 = .ok (.new 117, 3) := by decide +kernel
theorem dX11_requireInstruction_18 : decode cX11_requireInstruction 18 = .ok (.dup, 1) := by decide +kernel
theorem dX11_requireInstruction_19 : decode cX11_requireInstruction 19 = .ok (.ldc 119, 2) := by decide +kernel
theorem dX11_requireInstruction_21 : decode cX11_requireInstruction 21 = .ok (.invokespecial 121, 3) := by decide +kernel
theorem dX11_requireInstruction_24 : decode cX11_requireInstruction 24 = .ok (.athrow, 1) := by decide +kernel
theorem dX11_requireInstruction_25 : decode cX11_requireInstruction 25 = .ok (.return_, 1) := by decide +kernel
theorem dX11_findLocation_0 : decode cX11_findLocation 0 = .ok (.aload_n 0, 1) := by decide +kernel
theorem dX11_findLocation_1 : decode cX11_findLocation 1 = .ok (.getfield 13, 3) := by decide +kernel
theorem dX11_findLocation_4 : decode cX11_findLocation 4 = .ok (.istore_n 1, 1) := by decide +kernel
theorem dX11_findLocation_5 : decode cX11_findLocation 5 = .ok (.aload_n 0, 1) := by decide +kernel
theorem dX11_findLocation_6 : decode cX11_findLocation 6 = .ok (.iconst 0, 1) := by decide +kernel
theorem dX11_findLocation_7 : decode cX11_findLocation 7 = .ok (.putfield 13, 3) := by decide +kernel
theorem dX11_findLocation_10 : decode cX11_findLocation 10 = .ok (.iload_n 1, 1) := by decide +kernel
theorem dX11_findLocation_11 : decode cX11_findLocation 11 = .ok (.bipush 8, 2) := by decide +kernel
theorem dX11_findLocation_13 : decode cX11_findLocation 13 = .ok (.if_icmp .le 5, 3) := by decide +kernel
theorem dX11_findLocation_16 : decode cX11_findLocation 16 = .ok (.iconst (-1), 1) := by decide +kernel
theorem dX11_findLocation_17 : decode cX11_findLocation 17 = .ok (.ireturn, 1) := by decide +kernel
theorem dX11_findLocation_18 : decode cX11_findLocation 18 = .ok (.lconst 0, 1) := by decide +kernel
theorem dX11_findLocation_19 : decode cX11_findLocation 19 = .ok (.lstore_n 2, 1) := by decide +kernel
theorem dX11_findLocation_20 : decode cX11_findLocation 20 = .ok (.iconst 0, 1) := by decide +kernel
theorem dX11_findLocation_21 : decode cX11_findLocation 21 = .ok (.istore 4, 2) := by decide +kernel
theorem dX11_findLocation_23 : decode cX11_findLocation 23 = .ok (.iload 4, 2) := by decide +kernel
theorem dX11_findLocation_25 : decode cX11_findLocation 25 = .ok (.iload_n 1, 1) := by decide +kernel
theorem dX11_findLocation_26 : decode cX11_findLocation 26 = .ok (.if_icmp .ge 46, 3) := by decide +kernel
theorem dX11_findLocation_29 : decode cX11_findLocation 29 = .ok (.iload 4, 2) := by decide +kernel
theorem dX11_findLocation_31 : decode cX11_findLocation 31 = .ok (.aload_n 0, 1) := by decide +kernel
theorem dX11_findLocation_32 : decode cX11_findLocation 32 = .ok (.getfield 9, 3) := by decide +kernel
theorem dX11_findLocation_35 : decode cX11_findLocation 35 = .ok (.arraylength, 1) := by decide +kernel
theorem dX11_findLocation_36 : decode cX11_findLocation 36 = .ok (.if_icmp .ge 36, 3) := by decide +kernel
theorem dX11_findLocation_39 : decode cX11_findLocation 39 = .ok (.aload_n 0, 1) := by decide +kernel
theorem dX11_findLocation_40 : decode cX11_findLocation 40 = .ok (.getfield 9, 3) := by decide +kernel
theorem dX11_findLocation_43 : decode cX11_findLocation 43 = .ok (.iload 4, 2) := by decide +kernel
theorem dX11_findLocation_45 : decode cX11_findLocation 45 = .ok (.baload, 1) := by decide +kernel
theorem dX11_findLocation_46 : decode cX11_findLocation 46 = .ok (.invokestatic 124, 3) := by decide +kernel
theorem dX11_findLocation_49 : decode cX11_findLocation 49 = .ok (.ifCond .ne 5, 3) := by decide +kernel
theorem dX11_findLocation_52 : decode cX11_findLocation 52 = .ok (.iconst (-1), 1) := by decide +kernel
theorem dX11_findLocation_53 : decode cX11_findLocation 53 = .ok (.ireturn, 1) := by decide +kernel
theorem dX11_findLocation_54 : decode cX11_findLocation 54 = .ok (.lload_n 2, 1) := by decide +kernel
theorem dX11_findLocation_55 : decode cX11_findLocation 55 = .ok (.aload_n 0, 1) := by decide +kernel
theorem dX11_findLocation_56 : decode cX11_findLocation 56 = .ok (.getfield 9, 3) := by decide +kernel
theorem dX11_findLocation_59 : decode cX11_findLocation 59 = .ok (.iload 4, 2) := by decide +kernel
theorem dX11_findLocation_61 : decode cX11_findLocation 61 = .ok (.baload, 1) := by decide +kernel
theorem dX11_findLocation_62 : decode cX11_findLocation 62 = .ok (.invokestatic 130, 3) := by decide +kernel
theorem dX11_findLocation_65 : decode cX11_findLocation 65 = .ok (.lstore_n 2, 1) := by decide +kernel
theorem dX11_findLocation_66 : decode cX11_findLocation 66 = .ok (.iinc 4 1, 3) := by decide +kernel
theorem dX11_findLocation_69 : decode cX11_findLocation 69 = .ok (.goto (-46), 3) := by decide +kernel
theorem dX11_findLocation_72 : decode cX11_findLocation 72 = .ok (.aload_n 0, 1) := by decide +kernel
theorem dX11_findLocation_73 : decode cX11_findLocation 73 = .ok (.getfield 27, 3) := by decide +kernel
theorem dX11_findLocation_76 : decode cX11_findLocation 76 = .ok (.lload_n 2, 1) := by decide +kernel
theorem dX11_findLocation_77 : decode cX11_findLocation 77 = .ok (.invokevirtual 134, 3) := by decide +kernel
theorem dX11_findLocation_80 : decode cX11_findLocation 80 = .ok (.ireturn, 1) := by decide +kernel
theorem dX11_write_0 : decode cX11_write 0 = .ok (.aload_n 0, 1) := by decide +kernel
theorem dX11_write_1 : decode cX11_write 1 = .ok (.getfield 20, 3) := by decide +kernel
theorem dX11_write_4 : decode cX11_write 4 = .ok (.invokevirtual 138, 3) := by decide +kernel
theorem dX11_write_7 : decode cX11_write 7 = .ok (.iconst 0, 1) := by decide +kernel
theorem dX11_write_8 : decode cX11_write 8 = .ok (.istore_n 1, 1) := by decide +kernel
theorem dX11_write_9 : decode cX11_write 9 = .ok (.iload_n 1, 1) := by decide +kernel
theorem dX11_write_10 : decode cX11_write 10 = .ok (.aload_n 0, 1) := by decide +kernel
theorem dX11_write_11 : decode cX11_write 11 = .ok (.getfield 27, 3) := by decide +kernel
theorem dX11_write_14 : decode cX11_write 14 = .ok (.invokevirtual 107, 3) := by decide +kernel
theorem dX11_write_17 : decode cX11_write 17 = .ok (.if_icmp .ge 21, 3) := by decide +kernel
theorem dX11_write_20 : decode cX11_write 20 = .ok (.aload_n 0, 1) := by decide +kernel
theorem dX11_write_21 : decode cX11_write 21 = .ok (.getfield 20, 3) := by decide +kernel
theorem dX11_write_24 : decode cX11_write 24 = .ok (.aload_n 0, 1) := by decide +kernel
theorem dX11_write_25 : decode cX11_write 25 = .ok (.getfield 27, 3) := by decide +kernel
theorem dX11_write_28 : decode cX11_write 28 = .ok (.iload_n 1, 1) := by decide +kernel
theorem dX11_write_29 : decode cX11_write 29 = .ok (.invokevirtual 139, 3) := by decide +kernel
theorem dX11_write_32 : decode cX11_write 32 = .ok (.iinc 1 1, 3) := by decide +kernel
theorem dX11_write_35 : decode cX11_write 35 = .ok (.goto (-26), 3) := by decide +kernel
theorem dX11_write_38 : decode cX11_write 38 = .ok (.iconst 0, 1) := by decide +kernel
theorem dX11_write_39 : decode cX11_write 39 = .ok (.istore_n 1, 1) := by decide +kernel
theorem dX11_write_40 : decode cX11_write 40 = .ok (.iconst 0, 1) := by decide +kernel
theorem dX11_write_41 : decode cX11_write 41 = .ok (.istore_n 2, 1) := by decide +kernel
theorem dX11_write_42 : decode cX11_write 42 = .ok (.iload_n 2, 1) := by decide +kernel
theorem dX11_write_43 : decode cX11_write 43 = .ok (.aload_n 0, 1) := by decide +kernel
theorem dX11_write_44 : decode cX11_write 44 = .ok (.getfield 27, 3) := by decide +kernel
theorem dX11_write_47 : decode cX11_write 47 = .ok (.invokevirtual 104, 3) := by decide +kernel
theorem dX11_write_50 : decode cX11_write 50 = .ok (.if_icmp .ge 52, 3) := by decide +kernel
theorem dX11_write_53 : decode cX11_write 53 = .ok (.aload_n 0, 1) := by decide +kernel
theorem dX11_write_54 : decode cX11_write 54 = .ok (.getfield 20, 3) := by decide +kernel
theorem dX11_write_57 : decode cX11_write 57 = .ok (.ldc 143, 2) := by decide +kernel
theorem dX11_write_59 : decode cX11_write 59 = .ok (.invokevirtual 145, 3) := by decide +kernel
theorem dX11_write_62 : decode cX11_write 62 = .ok (.iload_n 1, 1) := by decide +kernel
theorem dX11_write_63 : decode cX11_write 63 = .ok (.aload_n 0, 1) := by decide +kernel
theorem dX11_write_64 : decode cX11_write 64 = .ok (.getfield 27, 3) := by decide +kernel
theorem dX11_write_67 : decode cX11_write 67 = .ok (.iload_n 2, 1) := by decide +kernel
theorem dX11_write_68 : decode cX11_write 68 = .ok (.invokevirtual 148, 3) := by decide +kernel
theorem dX11_write_71 : decode cX11_write 71 = .ok (.iadd, 1) := by decide +kernel
theorem dX11_write_72 : decode cX11_write 72 = .ok (.istore_n 3, 1) := by decide +kernel
theorem dX11_write_73 : decode cX11_write 73 = .ok (.iload_n 1, 1) := by decide +kernel
theorem dX11_write_74 : decode cX11_write 74 = .ok (.iload_n 3, 1) := by decide +kernel
theorem dX11_write_75 : decode cX11_write 75 = .ok (.if_icmp .ge 21, 3) := by decide +kernel
theorem dX11_write_78 : decode cX11_write 78 = .ok (.aload_n 0, 1) := by decide +kernel
theorem dX11_write_79 : decode cX11_write 79 = .ok (.getfield 20, 3) := by decide +kernel
theorem dX11_write_82 : decode cX11_write 82 = .ok (.aload_n 0, 1) := by decide +kernel
theorem dX11_write_83 : decode cX11_write 83 = .ok (.getfield 27, 3) := by decide +kernel
theorem dX11_write_86 : decode cX11_write 86 = .ok (.iload_n 1, 1) := by decide +kernel
theorem dX11_write_87 : decode cX11_write 87 = .ok (.invokevirtual 151, 3) := by decide +kernel
theorem dX11_write_90 : decode cX11_write 90 = .ok (.iinc 1 1, 3) := by decide +kernel
theorem dX11_write_93 : decode cX11_write 93 = .ok (.goto (-20), 3) := by decide +kernel
theorem dX11_write_96 : decode cX11_write 96 = .ok (.iinc 2 1, 3) := by decide +kernel
theorem dX11_write_99 : decode cX11_write 99 = .ok (.goto (-57), 3) := by decide +kernel
theorem dX11_write_102 : decode cX11_write 102 = .ok (.aload_n 0, 1) := by decide +kernel
theorem dX11_write_103 : decode cX11_write 103 = .ok (.getfield 20, 3) := by decide +kernel
theorem dX11_write_106 : decode cX11_write 106 = .ok (.invokevirtual 154, 3) := by decide +kernel
theorem dX11_write_109 : decode cX11_write 109 = .ok (.ireturn, 1) := by decide +kernel
theorem dX11_outputByte_0 : decode cX11_outputByte 0 = .ok (.iload_n 1, 1) := by decide +kernel
theorem dX11_outputByte_1 : decode cX11_outputByte 1 = .ok (.ifCond .lt 14, 3) := by decide +kernel
theorem dX11_outputByte_4 : decode cX11_outputByte 4 = .ok (.iload_n 1, 1) := by decide +kernel
theorem dX11_outputByte_5 : decode cX11_outputByte 5 = .ok (.aload_n 0, 1) := by decide +kernel
theorem dX11_outputByte_6 : decode cX11_outputByte 6 = .ok (.getfield 20, 3) := by decide +kernel
theorem dX11_outputByte_9 : decode cX11_outputByte 9 = .ok (.invokevirtual 154, 3) := by decide +kernel
theorem dX11_outputByte_12 : decode cX11_outputByte 12 = .ok (.if_icmp .lt 13, 3) := by decide +kernel
theorem dX11_outputByte_15 : decode cX11_outputByte 15 = .ok (.new 157, 3) := by decide +kernel
theorem dX11_outputByte_18 : decode cX11_outputByte 18 = .ok (.dup, 1) := by decide +kernel
theorem dX11_outputByte_19 : decode cX11_outputByte 19 = .ok (.ldc 159, 2) := by decide +kernel
theorem dX11_outputByte_21 : decode cX11_outputByte 21 = .ok (.invokespecial 161, 3) := by decide +kernel
theorem dX11_outputByte_24 : decode cX11_outputByte 24 = .ok (.athrow, 1) := by decide +kernel
theorem dX11_outputByte_25 : decode cX11_outputByte 25 = .ok (.aload_n 0, 1) := by decide +kernel
theorem dX11_outputByte_26 : decode cX11_outputByte 26 = .ok (.getfield 20, 3) := by decide +kernel
theorem dX11_outputByte_29 : decode cX11_outputByte 29 = .ok (.iload_n 1, 1) := by decide +kernel
theorem dX11_outputByte_30 : decode cX11_outputByte 30 = .ok (.invokevirtual 162, 3) := by decide +kernel
theorem dX11_outputByte_33 : decode cX11_outputByte 33 = .ok (.ireturn, 1) := by decide +kernel
theorem dX11_requireModel_0 : decode cX11_requireModel 0 = .ok (.iload_n 1, 1) := by decide +kernel
theorem dX11_requireModel_1 : decode cX11_requireModel 1 = .ok (.ifCond .lt 8, 3) := by decide +kernel
theorem dX11_requireModel_4 : decode cX11_requireModel 4 = .ok (.iload_n 1, 1) := by decide +kernel
theorem dX11_requireModel_5 : decode cX11_requireModel 5 = .ok (.iconst 3, 1) := by decide +kernel
theorem dX11_requireModel_6 : decode cX11_requireModel 6 = .ok (.if_icmp .lt 13, 3) := by decide +kernel
theorem dX11_requireModel_9 : decode cX11_requireModel 9 = .ok (.new 165, 3) := by decide +kernel
theorem dX11_requireModel_12 : decode cX11_requireModel 12 = .ok (.dup, 1) := by decide +kernel
theorem dX11_requireModel_13 : decode cX11_requireModel 13 = .ok (.ldc 167, 2) := by decide +kernel
theorem dX11_requireModel_15 : decode cX11_requireModel 15 = .ok (.invokespecial 169, 3) := by decide +kernel
theorem dX11_requireModel_18 : decode cX11_requireModel 18 = .ok (.athrow, 1) := by decide +kernel
theorem dX11_requireModel_19 : decode cX11_requireModel 19 = .ok (.return_, 1) := by decide +kernel
theorem dX11_kept_0 : decode cX11_kept 0 = .ok (.iload_n 1, 1) := by decide +kernel
theorem dX11_kept_1 : decode cX11_kept 1 = .ok (.ifCond .ne 10, 3) := by decide +kernel
theorem dX11_kept_4 : decode cX11_kept 4 = .ok (.aload_n 0, 1) := by decide +kernel
theorem dX11_kept_5 : decode cX11_kept 5 = .ok (.getfield 55, 3) := by decide +kernel
theorem dX11_kept_8 : decode cX11_kept 8 = .ok (.goto 19, 3) := by decide +kernel
theorem dX11_kept_11 : decode cX11_kept 11 = .ok (.iload_n 1, 1) := by decide +kernel
theorem dX11_kept_12 : decode cX11_kept 12 = .ok (.iconst 1, 1) := by decide +kernel
theorem dX11_kept_13 : decode cX11_kept 13 = .ok (.if_icmp .ne 10, 3) := by decide +kernel
theorem dX11_kept_16 : decode cX11_kept 16 = .ok (.aload_n 0, 1) := by decide +kernel
theorem dX11_kept_17 : decode cX11_kept 17 = .ok (.getfield 59, 3) := by decide +kernel
theorem dX11_kept_20 : decode cX11_kept 20 = .ok (.goto 7, 3) := by decide +kernel
theorem dX11_kept_23 : decode cX11_kept 23 = .ok (.aload_n 0, 1) := by decide +kernel
theorem dX11_kept_24 : decode cX11_kept 24 = .ok (.getfield 62, 3) := by decide +kernel
theorem dX11_kept_27 : decode cX11_kept 27 = .ok (.areturn, 1) := by decide +kernel
theorem dX11_findings_0 : decode cX11_findings 0 = .ok (.aload_n 0, 1) := by decide +kernel
theorem dX11_findings_1 : decode cX11_findings 1 = .ok (.iload_n 1, 1) := by decide +kernel
theorem dX11_findings_2 : decode cX11_findings 2 = .ok (.invokevirtual 170, 3) := by decide +kernel
theorem dX11_findings_5 : decode cX11_findings 5 = .ok (.astore_n 2, 1) := by decide +kernel
theorem dX11_findings_6 : decode cX11_findings 6 = .ok (.aload_n 2, 1) := by decide +kernel
theorem dX11_findings_7 : decode cX11_findings 7 = .ok (.invokevirtual 174, 3) := by decide +kernel
theorem dX11_findings_10 : decode cX11_findings 10 = .ok (.ifCond .ne 26, 3) := by decide +kernel
theorem dX11_findings_13 : decode cX11_findings 13 = .ok (.aload_n 0, 1) := by decide +kernel
theorem dX11_findings_14 : decode cX11_findings 14 = .ok (.getfield 48, 3) := by decide +kernel
theorem dX11_findings_17 : decode cX11_findings 17 = .ok (.iload_n 1, 1) := by decide +kernel
theorem dX11_findings_18 : decode cX11_findings 18 = .ok (.aload_n 0, 1) := by decide +kernel
theorem dX11_findings_19 : decode cX11_findings 19 = .ok (.getfield 27, 3) := by decide +kernel
theorem dX11_findings_22 : decode cX11_findings 22 = .ok (.invokevirtual 178, 3) := by decide +kernel
theorem dX11_findings_25 : decode cX11_findings 25 = .ok (.invokevirtual 181, 3) := by decide +kernel
theorem dX11_findings_28 : decode cX11_findings 28 = .ok (.aload_n 0, 1) := by decide +kernel
theorem dX11_findings_29 : decode cX11_findings 29 = .ok (.getfield 48, 3) := by decide +kernel
theorem dX11_findings_32 : decode cX11_findings 32 = .ok (.aload_n 2, 1) := by decide +kernel
theorem dX11_findings_33 : decode cX11_findings 33 = .ok (.invokevirtual 185, 3) := by decide +kernel
theorem dX11_findings_36 : decode cX11_findings 36 = .ok (.aload_n 2, 1) := by decide +kernel
theorem dX11_findings_37 : decode cX11_findings 37 = .ok (.areturn, 1) := by decide +kernel
theorem dX11_outcomeCount_0 : decode cX11_outcomeCount 0 = .ok (.aload_n 0, 1) := by decide +kernel
theorem dX11_outcomeCount_1 : decode cX11_outcomeCount 1 = .ok (.iload_n 1, 1) := by decide +kernel
theorem dX11_outcomeCount_2 : decode cX11_outcomeCount 2 = .ok (.invokevirtual 189, 3) := by decide +kernel
theorem dX11_outcomeCount_5 : decode cX11_outcomeCount 5 = .ok (.aload_n 0, 1) := by decide +kernel
theorem dX11_outcomeCount_6 : decode cX11_outcomeCount 6 = .ok (.iload_n 1, 1) := by decide +kernel
theorem dX11_outcomeCount_7 : decode cX11_outcomeCount 7 = .ok (.invokevirtual 192, 3) := by decide +kernel
theorem dX11_outcomeCount_10 : decode cX11_outcomeCount 10 = .ok (.invokevirtual 195, 3) := by decide +kernel
theorem dX11_outcomeCount_13 : decode cX11_outcomeCount 13 = .ok (.ireturn, 1) := by decide +kernel
theorem dX11_outcome_0 : decode cX11_outcome 0 = .ok (.aload_n 0, 1) := by decide +kernel
theorem dX11_outcome_1 : decode cX11_outcome 1 = .ok (.iload_n 1, 1) := by decide +kernel
theorem dX11_outcome_2 : decode cX11_outcome 2 = .ok (.invokevirtual 189, 3) := by decide +kernel
theorem dX11_outcome_5 : decode cX11_outcome 5 = .ok (.aload_n 0, 1) := by decide +kernel
theorem dX11_outcome_6 : decode cX11_outcome 6 = .ok (.iload_n 1, 1) := by decide +kernel
theorem dX11_outcome_7 : decode cX11_outcome 7 = .ok (.invokevirtual 192, 3) := by decide +kernel
theorem dX11_outcome_10 : decode cX11_outcome 10 = .ok (.iload_n 2, 1) := by decide +kernel
theorem dX11_outcome_11 : decode cX11_outcome 11 = .ok (.invokevirtual 196, 3) := by decide +kernel
theorem dX11_outcome_14 : decode cX11_outcome 14 = .ok (.ireturn, 1) := by decide +kernel
theorem dX11_hasOutcome_0 : decode cX11_hasOutcome 0 = .ok (.aload_n 0, 1) := by decide +kernel
theorem dX11_hasOutcome_1 : decode cX11_hasOutcome 1 = .ok (.iload_n 1, 1) := by decide +kernel
theorem dX11_hasOutcome_2 : decode cX11_hasOutcome 2 = .ok (.invokevirtual 189, 3) := by decide +kernel
theorem dX11_hasOutcome_5 : decode cX11_hasOutcome 5 = .ok (.aload_n 0, 1) := by decide +kernel
theorem dX11_hasOutcome_6 : decode cX11_hasOutcome 6 = .ok (.iload_n 1, 1) := by decide +kernel
theorem dX11_hasOutcome_7 : decode cX11_hasOutcome 7 = .ok (.invokevirtual 192, 3) := by decide +kernel
theorem dX11_hasOutcome_10 : decode cX11_hasOutcome 10 = .ok (.iload_n 2, 1) := by decide +kernel
theorem dX11_hasOutcome_11 : decode cX11_hasOutcome 11 = .ok (.invokevirtual 199, 3) := by decide +kernel
theorem dX11_hasOutcome_14 : decode cX11_hasOutcome 14 = .ok (.iconst (-1), 1) := by decide +kernel
theorem dX11_hasOutcome_15 : decode cX11_hasOutcome 15 = .ok (.if_icmp .eq 7, 3) := by decide +kernel
theorem dX11_hasOutcome_18 : decode cX11_hasOutcome 18 = .ok (.iconst 1, 1) := by decide +kernel
theorem dX11_hasOutcome_19 : decode cX11_hasOutcome 19 = .ok (.goto 4, 3) := by decide +kernel
theorem dX11_hasOutcome_22 : decode cX11_hasOutcome 22 = .ok (.iconst 0, 1) := by decide +kernel
theorem dX11_hasOutcome_23 : decode cX11_hasOutcome 23 = .ok (.ireturn, 1) := by decide +kernel
theorem dX11_extraOutcomes_0 : decode cX11_extraOutcomes 0 = .ok (.aload_n 0, 1) := by decide +kernel
theorem dX11_extraOutcomes_1 : decode cX11_extraOutcomes 1 = .ok (.iload_n 1, 1) := by decide +kernel
theorem dX11_extraOutcomes_2 : decode cX11_extraOutcomes 2 = .ok (.invokevirtual 189, 3) := by decide +kernel
theorem dX11_extraOutcomes_5 : decode cX11_extraOutcomes 5 = .ok (.aload_n 0, 1) := by decide +kernel
theorem dX11_extraOutcomes_6 : decode cX11_extraOutcomes 6 = .ok (.iload_n 2, 1) := by decide +kernel
theorem dX11_extraOutcomes_7 : decode cX11_extraOutcomes 7 = .ok (.invokevirtual 189, 3) := by decide +kernel
theorem dX11_extraOutcomes_10 : decode cX11_extraOutcomes 10 = .ok (.aload_n 0, 1) := by decide +kernel
theorem dX11_extraOutcomes_11 : decode cX11_extraOutcomes 11 = .ok (.iload_n 1, 1) := by decide +kernel
theorem dX11_extraOutcomes_12 : decode cX11_extraOutcomes 12 = .ok (.invokevirtual 192, 3) := by decide +kernel
theorem dX11_extraOutcomes_15 : decode cX11_extraOutcomes 15 = .ok (.astore_n 3, 1) := by decide +kernel
theorem dX11_extraOutcomes_16 : decode cX11_extraOutcomes 16 = .ok (.aload_n 0, 1) := by decide +kernel
theorem dX11_extraOutcomes_17 : decode cX11_extraOutcomes 17 = .ok (.iload_n 2, 1) := by decide +kernel
theorem dX11_extraOutcomes_18 : decode cX11_extraOutcomes 18 = .ok (.invokevirtual 192, 3) := by decide +kernel
theorem dX11_extraOutcomes_21 : decode cX11_extraOutcomes 21 = .ok (.astore 4, 2) := by decide +kernel
theorem dX11_extraOutcomes_23 : decode cX11_extraOutcomes 23 = .ok (.iconst 0, 1) := by decide +kernel
theorem dX11_extraOutcomes_24 : decode cX11_extraOutcomes 24 = .ok (.istore 5, 2) := by decide +kernel
theorem dX11_extraOutcomes_26 : decode cX11_extraOutcomes 26 = .ok (.iconst 0, 1) := by decide +kernel
theorem dX11_extraOutcomes_27 : decode cX11_extraOutcomes 27 = .ok (.istore 6, 2) := by decide +kernel
theorem dX11_extraOutcomes_29 : decode cX11_extraOutcomes 29 = .ok (.iload 6, 2) := by decide +kernel
theorem dX11_extraOutcomes_31 : decode cX11_extraOutcomes 31 = .ok (.aload_n 3, 1) := by decide +kernel
theorem dX11_extraOutcomes_32 : decode cX11_extraOutcomes 32 = .ok (.invokevirtual 195, 3) := by decide +kernel
theorem dX11_extraOutcomes_35 : decode cX11_extraOutcomes 35 = .ok (.if_icmp .ge 27, 3) := by decide +kernel
theorem dX11_extraOutcomes_38 : decode cX11_extraOutcomes 38 = .ok (.aload 4, 2) := by decide +kernel
theorem dX11_extraOutcomes_40 : decode cX11_extraOutcomes 40 = .ok (.aload_n 3, 1) := by decide +kernel
theorem dX11_extraOutcomes_41 : decode cX11_extraOutcomes 41 = .ok (.iload 6, 2) := by decide +kernel
theorem dX11_extraOutcomes_43 : decode cX11_extraOutcomes 43 = .ok (.invokevirtual 196, 3) := by decide +kernel
theorem dX11_extraOutcomes_46 : decode cX11_extraOutcomes 46 = .ok (.invokevirtual 199, 3) := by decide +kernel
theorem dX11_extraOutcomes_49 : decode cX11_extraOutcomes 49 = .ok (.iconst (-1), 1) := by decide +kernel
theorem dX11_extraOutcomes_50 : decode cX11_extraOutcomes 50 = .ok (.if_icmp .ne 6, 3) := by decide +kernel
theorem dX11_extraOutcomes_53 : decode cX11_extraOutcomes 53 = .ok (.iinc 5 1, 3) := by decide +kernel
theorem dX11_extraOutcomes_56 : decode cX11_extraOutcomes 56 = .ok (.iinc 6 1, 3) := by decide +kernel
theorem dX11_extraOutcomes_59 : decode cX11_extraOutcomes 59 = .ok (.goto (-30), 3) := by decide +kernel
theorem dX11_extraOutcomes_62 : decode cX11_extraOutcomes 62 = .ok (.iload 5, 2) := by decide +kernel
theorem dX11_extraOutcomes_64 : decode cX11_extraOutcomes 64 = .ok (.ireturn, 1) := by decide +kernel
theorem dX11_fulfils_0 : decode cX11_fulfils 0 = .ok (.iload_n 1, 1) := by decide +kernel
theorem dX11_fulfils_1 : decode cX11_fulfils 1 = .ok (.ifCond .lt 30, 3) := by decide +kernel
theorem dX11_fulfils_4 : decode cX11_fulfils 4 = .ok (.iload_n 1, 1) := by decide +kernel
theorem dX11_fulfils_5 : decode cX11_fulfils 5 = .ok (.aload_n 0, 1) := by decide +kernel
theorem dX11_fulfils_6 : decode cX11_fulfils 6 = .ok (.getfield 27, 3) := by decide +kernel
theorem dX11_fulfils_9 : decode cX11_fulfils 9 = .ok (.invokevirtual 202, 3) := by decide +kernel
theorem dX11_fulfils_12 : decode cX11_fulfils 12 = .ok (.ishr, 1) := by decide +kernel
theorem dX11_fulfils_13 : decode cX11_fulfils 13 = .ok (.ifCond .ne 18, 3) := by decide +kernel
theorem dX11_fulfils_16 : decode cX11_fulfils 16 = .ok (.aload_n 0, 1) := by decide +kernel
theorem dX11_fulfils_17 : decode cX11_fulfils 17 = .ok (.getfield 27, 3) := by decide +kernel
theorem dX11_fulfils_20 : decode cX11_fulfils 20 = .ok (.iload_n 1, 1) := by decide +kernel
theorem dX11_fulfils_21 : decode cX11_fulfils 21 = .ok (.invokevirtual 205, 3) := by decide +kernel
theorem dX11_fulfils_24 : decode cX11_fulfils 24 = .ok (.ifCond .eq 7, 3) := by decide +kernel
theorem dX11_fulfils_27 : decode cX11_fulfils 27 = .ok (.iconst 1, 1) := by decide +kernel
theorem dX11_fulfils_28 : decode cX11_fulfils 28 = .ok (.goto 4, 3) := by decide +kernel
theorem dX11_fulfils_31 : decode cX11_fulfils 31 = .ok (.iconst 0, 1) := by decide +kernel
theorem dX11_fulfils_32 : decode cX11_fulfils 32 = .ok (.ireturn, 1) := by decide +kernel
theorem dX11_matchCount_0 : decode cX11_matchCount 0 = .ok (.aload_n 0, 1) := by decide +kernel
theorem dX11_matchCount_1 : decode cX11_matchCount 1 = .ok (.iload_n 1, 1) := by decide +kernel
theorem dX11_matchCount_2 : decode cX11_matchCount 2 = .ok (.invokevirtual 189, 3) := by decide +kernel
theorem dX11_matchCount_5 : decode cX11_matchCount 5 = .ok (.aload_n 0, 1) := by decide +kernel
theorem dX11_matchCount_6 : decode cX11_matchCount 6 = .ok (.iload_n 1, 1) := by decide +kernel
theorem dX11_matchCount_7 : decode cX11_matchCount 7 = .ok (.invokevirtual 192, 3) := by decide +kernel
theorem dX11_matchCount_10 : decode cX11_matchCount 10 = .ok (.astore_n 2, 1) := by decide +kernel
theorem dX11_matchCount_11 : decode cX11_matchCount 11 = .ok (.iconst 0, 1) := by decide +kernel
theorem dX11_matchCount_12 : decode cX11_matchCount 12 = .ok (.istore_n 3, 1) := by decide +kernel
theorem dX11_matchCount_13 : decode cX11_matchCount 13 = .ok (.iconst 0, 1) := by decide +kernel
theorem dX11_matchCount_14 : decode cX11_matchCount 14 = .ok (.istore 4, 2) := by decide +kernel
theorem dX11_matchCount_16 : decode cX11_matchCount 16 = .ok (.iload 4, 2) := by decide +kernel
theorem dX11_matchCount_18 : decode cX11_matchCount 18 = .ok (.aload_n 2, 1) := by decide +kernel
theorem dX11_matchCount_19 : decode cX11_matchCount 19 = .ok (.invokevirtual 195, 3) := by decide +kernel
theorem dX11_matchCount_22 : decode cX11_matchCount 22 = .ok (.if_icmp .ge 28, 3) := by decide +kernel
theorem dX11_matchCount_25 : decode cX11_matchCount 25 = .ok (.aload_n 0, 1) := by decide +kernel
theorem dX11_matchCount_26 : decode cX11_matchCount 26 = .ok (.getfield 27, 3) := by decide +kernel
theorem dX11_matchCount_29 : decode cX11_matchCount 29 = .ok (.aload_n 2, 1) := by decide +kernel
theorem dX11_matchCount_30 : decode cX11_matchCount 30 = .ok (.iload 4, 2) := by decide +kernel
theorem dX11_matchCount_32 : decode cX11_matchCount 32 = .ok (.invokevirtual 196, 3) := by decide +kernel
theorem dX11_matchCount_35 : decode cX11_matchCount 35 = .ok (.invokevirtual 205, 3) := by decide +kernel
theorem dX11_matchCount_38 : decode cX11_matchCount 38 = .ok (.ifCond .eq 6, 3) := by decide +kernel
theorem dX11_matchCount_41 : decode cX11_matchCount 41 = .ok (.iinc 3 1, 3) := by decide +kernel
theorem dX11_matchCount_44 : decode cX11_matchCount 44 = .ok (.iinc 4 1, 3) := by decide +kernel
theorem dX11_matchCount_47 : decode cX11_matchCount 47 = .ok (.goto (-31), 3) := by decide +kernel
theorem dX11_matchCount_50 : decode cX11_matchCount 50 = .ok (.iload_n 3, 1) := by decide +kernel
theorem dX11_matchCount_51 : decode cX11_matchCount 51 = .ok (.ireturn, 1) := by decide +kernel
theorem dX11_firstMatch_0 : decode cX11_firstMatch 0 = .ok (.aload_n 0, 1) := by decide +kernel
theorem dX11_firstMatch_1 : decode cX11_firstMatch 1 = .ok (.iload_n 1, 1) := by decide +kernel
theorem dX11_firstMatch_2 : decode cX11_firstMatch 2 = .ok (.invokevirtual 189, 3) := by decide +kernel
theorem dX11_firstMatch_5 : decode cX11_firstMatch 5 = .ok (.aload_n 0, 1) := by decide +kernel
theorem dX11_firstMatch_6 : decode cX11_firstMatch 6 = .ok (.iload_n 1, 1) := by decide +kernel
theorem dX11_firstMatch_7 : decode cX11_firstMatch 7 = .ok (.invokevirtual 192, 3) := by decide +kernel
theorem dX11_firstMatch_10 : decode cX11_firstMatch 10 = .ok (.astore_n 2, 1) := by decide +kernel
theorem dX11_firstMatch_11 : decode cX11_firstMatch 11 = .ok (.iconst 0, 1) := by decide +kernel
theorem dX11_firstMatch_12 : decode cX11_firstMatch 12 = .ok (.istore_n 3, 1) := by decide +kernel
theorem dX11_firstMatch_13 : decode cX11_firstMatch 13 = .ok (.iload_n 3, 1) := by decide +kernel
theorem dX11_firstMatch_14 : decode cX11_firstMatch 14 = .ok (.aload_n 2, 1) := by decide +kernel
theorem dX11_firstMatch_15 : decode cX11_firstMatch 15 = .ok (.invokevirtual 195, 3) := by decide +kernel
theorem dX11_firstMatch_18 : decode cX11_firstMatch 18 = .ok (.if_icmp .ge 30, 3) := by decide +kernel
theorem dX11_firstMatch_21 : decode cX11_firstMatch 21 = .ok (.aload_n 0, 1) := by decide +kernel
theorem dX11_firstMatch_22 : decode cX11_firstMatch 22 = .ok (.getfield 27, 3) := by decide +kernel
theorem dX11_firstMatch_25 : decode cX11_firstMatch 25 = .ok (.aload_n 2, 1) := by decide +kernel
theorem dX11_firstMatch_26 : decode cX11_firstMatch 26 = .ok (.iload_n 3, 1) := by decide +kernel
theorem dX11_firstMatch_27 : decode cX11_firstMatch 27 = .ok (.invokevirtual 196, 3) := by decide +kernel
theorem dX11_firstMatch_30 : decode cX11_firstMatch 30 = .ok (.invokevirtual 205, 3) := by decide +kernel
theorem dX11_firstMatch_33 : decode cX11_firstMatch 33 = .ok (.ifCond .eq 9, 3) := by decide +kernel
theorem dX11_firstMatch_36 : decode cX11_firstMatch 36 = .ok (.aload_n 2, 1) := by decide +kernel
theorem dX11_firstMatch_37 : decode cX11_firstMatch 37 = .ok (.iload_n 3, 1) := by decide +kernel
theorem dX11_firstMatch_38 : decode cX11_firstMatch 38 = .ok (.invokevirtual 196, 3) := by decide +kernel
theorem dX11_firstMatch_41 : decode cX11_firstMatch 41 = .ok (.ireturn, 1) := by decide +kernel
theorem dX11_firstMatch_42 : decode cX11_firstMatch 42 = .ok (.iinc 3 1, 3) := by decide +kernel
theorem dX11_firstMatch_45 : decode cX11_firstMatch 45 = .ok (.goto (-32), 3) := by decide +kernel
theorem dX11_firstMatch_48 : decode cX11_firstMatch 48 = .ok (.iconst (-1), 1) := by decide +kernel
theorem dX11_firstMatch_49 : decode cX11_firstMatch 49 = .ok (.ireturn, 1) := by decide +kernel
theorem dX11_stateCount_0 : decode cX11_stateCount 0 = .ok (.aload_n 0, 1) := by decide +kernel
theorem dX11_stateCount_1 : decode cX11_stateCount 1 = .ok (.iload_n 1, 1) := by decide +kernel
theorem dX11_stateCount_2 : decode cX11_stateCount 2 = .ok (.invokevirtual 189, 3) := by decide +kernel
theorem dX11_stateCount_5 : decode cX11_stateCount 5 = .ok (.aload_n 0, 1) := by decide +kernel
theorem dX11_stateCount_6 : decode cX11_stateCount 6 = .ok (.iload_n 1, 1) := by decide +kernel
theorem dX11_stateCount_7 : decode cX11_stateCount 7 = .ok (.invokevirtual 192, 3) := by decide +kernel
theorem dX11_stateCount_10 : decode cX11_stateCount 10 = .ok (.invokevirtual 208, 3) := by decide +kernel
theorem dX11_stateCount_13 : decode cX11_stateCount 13 = .ok (.ireturn, 1) := by decide +kernel
theorem dX11_executionCount_0 : decode cX11_executionCount 0 = .ok (.aload_n 0, 1) := by decide +kernel
theorem dX11_executionCount_1 : decode cX11_executionCount 1 = .ok (.iload_n 1, 1) := by decide +kernel
theorem dX11_executionCount_2 : decode cX11_executionCount 2 = .ok (.invokevirtual 189, 3) := by decide +kernel
theorem dX11_executionCount_5 : decode cX11_executionCount 5 = .ok (.aload_n 0, 1) := by decide +kernel
theorem dX11_executionCount_6 : decode cX11_executionCount 6 = .ok (.iload_n 1, 1) := by decide +kernel
theorem dX11_executionCount_7 : decode cX11_executionCount 7 = .ok (.invokevirtual 192, 3) := by decide +kernel
theorem dX11_executionCount_10 : decode cX11_executionCount 10 = .ok (.astore_n 2, 1) := by decide +kernel
theorem dX11_executionCount_11 : decode cX11_executionCount 11 = .ok (.lconst 0, 1) := by decide +kernel
theorem dX11_executionCount_12 : decode cX11_executionCount 12 = .ok (.lstore_n 3, 1) := by decide +kernel
theorem dX11_executionCount_13 : decode cX11_executionCount 13 = .ok (.iconst 0, 1) := by decide +kernel
theorem dX11_executionCount_14 : decode cX11_executionCount 14 = .ok (.istore 5, 2) := by decide +kernel
theorem dX11_executionCount_16 : decode cX11_executionCount 16 = .ok (.iload 5, 2) := by decide +kernel
theorem dX11_executionCount_18 : decode cX11_executionCount 18 = .ok (.aload_n 2, 1) := by decide +kernel
theorem dX11_executionCount_19 : decode cX11_executionCount 19 = .ok (.invokevirtual 195, 3) := by decide +kernel
theorem dX11_executionCount_22 : decode cX11_executionCount 22 = .ok (.if_icmp .ge 18, 3) := by decide +kernel
theorem dX11_executionCount_25 : decode cX11_executionCount 25 = .ok (.lload_n 3, 1) := by decide +kernel
theorem dX11_executionCount_26 : decode cX11_executionCount 26 = .ok (.aload_n 2, 1) := by decide +kernel
theorem dX11_executionCount_27 : decode cX11_executionCount 27 = .ok (.iload 5, 2) := by decide +kernel
theorem dX11_executionCount_29 : decode cX11_executionCount 29 = .ok (.invokevirtual 211, 3) := by decide +kernel
theorem dX11_executionCount_32 : decode cX11_executionCount 32 = .ok (.ladd, 1) := by decide +kernel
theorem dX11_executionCount_33 : decode cX11_executionCount 33 = .ok (.lstore_n 3, 1) := by decide +kernel
theorem dX11_executionCount_34 : decode cX11_executionCount 34 = .ok (.iinc 5 1, 3) := by decide +kernel
theorem dX11_executionCount_37 : decode cX11_executionCount 37 = .ok (.goto (-21), 3) := by decide +kernel
theorem dX11_executionCount_40 : decode cX11_executionCount 40 = .ok (.lload_n 3, 1) := by decide +kernel
theorem dX11_executionCount_41 : decode cX11_executionCount 41 = .ok (.lreturn, 1) := by decide +kernel
theorem dX11_executionsWith_0 : decode cX11_executionsWith 0 = .ok (.aload_n 0, 1) := by decide +kernel
theorem dX11_executionsWith_1 : decode cX11_executionsWith 1 = .ok (.iload_n 1, 1) := by decide +kernel
theorem dX11_executionsWith_2 : decode cX11_executionsWith 2 = .ok (.invokevirtual 189, 3) := by decide +kernel
theorem dX11_executionsWith_5 : decode cX11_executionsWith 5 = .ok (.aload_n 0, 1) := by decide +kernel
theorem dX11_executionsWith_6 : decode cX11_executionsWith 6 = .ok (.iload_n 1, 1) := by decide +kernel
theorem dX11_executionsWith_7 : decode cX11_executionsWith 7 = .ok (.invokevirtual 192, 3) := by decide +kernel
theorem dX11_executionsWith_10 : decode cX11_executionsWith 10 = .ok (.astore_n 3, 1) := by decide +kernel
theorem dX11_executionsWith_11 : decode cX11_executionsWith 11 = .ok (.aload_n 3, 1) := by decide +kernel
theorem dX11_executionsWith_12 : decode cX11_executionsWith 12 = .ok (.aload_n 3, 1) := by decide +kernel
theorem dX11_executionsWith_13 : decode cX11_executionsWith 13 = .ok (.iload_n 2, 1) := by decide +kernel
theorem dX11_executionsWith_14 : decode cX11_executionsWith 14 = .ok (.invokevirtual 199, 3) := by decide +kernel
theorem dX11_executionsWith_17 : decode cX11_executionsWith 17 = .ok (.invokevirtual 211, 3) := by decide +kernel
theorem dX11_executionsWith_20 : decode cX11_executionsWith 20 = .ok (.lreturn, 1) := by decide +kernel
theorem dX11_readValues_0 : decode cX11_readValues 0 = .ok (.aload_n 0, 1) := by decide +kernel
theorem dX11_readValues_1 : decode cX11_readValues 1 = .ok (.iload_n 1, 1) := by decide +kernel
theorem dX11_readValues_2 : decode cX11_readValues 2 = .ok (.invokevirtual 189, 3) := by decide +kernel
theorem dX11_readValues_5 : decode cX11_readValues 5 = .ok (.aload_n 0, 1) := by decide +kernel
theorem dX11_readValues_6 : decode cX11_readValues 6 = .ok (.iload_n 2, 1) := by decide +kernel
theorem dX11_readValues_7 : decode cX11_readValues 7 = .ok (.invokevirtual 110, 3) := by decide +kernel
theorem dX11_readValues_10 : decode cX11_readValues 10 = .ok (.aload_n 0, 1) := by decide +kernel
theorem dX11_readValues_11 : decode cX11_readValues 11 = .ok (.getfield 27, 3) := by decide +kernel
theorem dX11_readValues_14 : decode cX11_readValues 14 = .ok (.iload_n 2, 1) := by decide +kernel
theorem dX11_readValues_15 : decode cX11_readValues 15 = .ok (.iconst 3, 1) := by decide +kernel
theorem dX11_readValues_16 : decode cX11_readValues 16 = .ok (.invokevirtual 113, 3) := by decide +kernel
theorem dX11_readValues_19 : decode cX11_readValues 19 = .ok (.istore_n 3, 1) := by decide +kernel
theorem dX11_readValues_20 : decode cX11_readValues 20 = .ok (.iload_n 3, 1) := by decide +kernel
theorem dX11_readValues_21 : decode cX11_readValues 21 = .ok (.iconst (-1), 1) := by decide +kernel
theorem dX11_readValues_22 : decode cX11_readValues 22 = .ok (.if_icmp .ne 13, 3) := by decide +kernel
theorem dX11_readValues_25 : decode cX11_readValues 25 = .ok (.new 157, 3) := by decide +kernel
theorem dX11_readValues_28 : decode cX11_readValues 28 = .ok (.dup, 1) := by decide +kernel
theorem dX11_readValues_29 : decode cX11_readValues 29 = .ok (.ldc 215, 2) := by decide +kernel
theorem dX11_readValues_31 : decode cX11_readValues 31 = .ok (.invokespecial 161, 3) := by decide +kernel
theorem dX11_readValues_34 : decode cX11_readValues 34 = .ok (.athrow, 1) := by decide +kernel
theorem dX11_readValues_35 : decode cX11_readValues 35 = .ok (.aload_n 0, 1) := by decide +kernel
theorem dX11_readValues_36 : decode cX11_readValues 36 = .ok (.iload_n 1, 1) := by decide +kernel
theorem dX11_readValues_37 : decode cX11_readValues 37 = .ok (.invokevirtual 192, 3) := by decide +kernel
theorem dX11_readValues_40 : decode cX11_readValues 40 = .ok (.aload_n 0, 1) := by decide +kernel
theorem dX11_readValues_41 : decode cX11_readValues 41 = .ok (.getfield 27, 3) := by decide +kernel
theorem dX11_readValues_44 : decode cX11_readValues 44 = .ok (.aload_n 0, 1) := by decide +kernel
theorem dX11_readValues_45 : decode cX11_readValues 45 = .ok (.getfield 27, 3) := by decide +kernel
theorem dX11_readValues_48 : decode cX11_readValues 48 = .ok (.iload_n 2, 1) := by decide +kernel
theorem dX11_readValues_49 : decode cX11_readValues 49 = .ok (.iconst 0, 1) := by decide +kernel
theorem dX11_readValues_50 : decode cX11_readValues 50 = .ok (.invokevirtual 113, 3) := by decide +kernel
theorem dX11_readValues_53 : decode cX11_readValues 53 = .ok (.iload_n 3, 1) := by decide +kernel
theorem dX11_readValues_54 : decode cX11_readValues 54 = .ok (.invokevirtual 217, 3) := by decide +kernel
theorem dX11_readValues_57 : decode cX11_readValues 57 = .ok (.invokevirtual 220, 3) := by decide +kernel
theorem dX11_readValues_60 : decode cX11_readValues 60 = .ok (.ireturn, 1) := by decide +kernel
theorem dX11_finalValues_0 : decode cX11_finalValues 0 = .ok (.aload_n 0, 1) := by decide +kernel
theorem dX11_finalValues_1 : decode cX11_finalValues 1 = .ok (.iload_n 1, 1) := by decide +kernel
theorem dX11_finalValues_2 : decode cX11_finalValues 2 = .ok (.invokevirtual 189, 3) := by decide +kernel
theorem dX11_finalValues_5 : decode cX11_finalValues 5 = .ok (.aload_n 0, 1) := by decide +kernel
theorem dX11_finalValues_6 : decode cX11_finalValues 6 = .ok (.iload_n 2, 1) := by decide +kernel
theorem dX11_finalValues_7 : decode cX11_finalValues 7 = .ok (.invokevirtual 223, 3) := by decide +kernel
theorem dX11_finalValues_10 : decode cX11_finalValues 10 = .ok (.aload_n 0, 1) := by decide +kernel
theorem dX11_finalValues_11 : decode cX11_finalValues 11 = .ok (.iload_n 1, 1) := by decide +kernel
theorem dX11_finalValues_12 : decode cX11_finalValues 12 = .ok (.invokevirtual 192, 3) := by decide +kernel
theorem dX11_finalValues_15 : decode cX11_finalValues 15 = .ok (.aload_n 0, 1) := by decide +kernel
theorem dX11_finalValues_16 : decode cX11_finalValues 16 = .ok (.getfield 27, 3) := by decide +kernel
theorem dX11_finalValues_19 : decode cX11_finalValues 19 = .ok (.iload_n 2, 1) := by decide +kernel
theorem dX11_finalValues_20 : decode cX11_finalValues 20 = .ok (.invokevirtual 226, 3) := by decide +kernel
theorem dX11_finalValues_23 : decode cX11_finalValues 23 = .ok (.invokevirtual 220, 3) := by decide +kernel
theorem dX11_finalValues_26 : decode cX11_finalValues 26 = .ok (.ireturn, 1) := by decide +kernel
theorem dX11_requireLocation_0 : decode cX11_requireLocation 0 = .ok (.iload_n 1, 1) := by decide +kernel
theorem dX11_requireLocation_1 : decode cX11_requireLocation 1 = .ok (.ifCond .lt 14, 3) := by decide +kernel
theorem dX11_requireLocation_4 : decode cX11_requireLocation 4 = .ok (.iload_n 1, 1) := by decide +kernel
theorem dX11_requireLocation_5 : decode cX11_requireLocation 5 = .ok (.aload_n 0, 1) := by decide +kernel
theorem dX11_requireLocation_6 : decode cX11_requireLocation 6 = .ok (.getfield 27, 3) := by decide +kernel
theorem dX11_requireLocation_9 : decode cX11_requireLocation 9 = .ok (.invokevirtual 107, 3) := by decide +kernel
theorem dX11_requireLocation_12 : decode cX11_requireLocation 12 = .ok (.if_icmp .lt 13, 3) := by decide +kernel
theorem dX11_requireLocation_15 : decode cX11_requireLocation 15 = .ok (.new 117, 3) := by decide +kernel
theorem dX11_requireLocation_18 : decode cX11_requireLocation 18 = .ok (.dup, 1) := by decide +kernel
theorem dX11_requireLocation_19 : decode cX11_requireLocation 19 = .ok (.ldc 229, 2) := by decide +kernel
theorem dX11_requireLocation_21 : decode cX11_requireLocation 21 = .ok (.invokespecial 121, 3) := by decide +kernel
theorem dX11_requireLocation_24 : decode cX11_requireLocation 24 = .ok (.athrow, 1) := by decide +kernel
theorem dX11_requireLocation_25 : decode cX11_requireLocation 25 = .ok (.return_, 1) := by decide +kernel
theorem dX11_greatestBuffer_0 : decode cX11_greatestBuffer 0 = .ok (.aload_n 0, 1) := by decide +kernel
theorem dX11_greatestBuffer_1 : decode cX11_greatestBuffer 1 = .ok (.iload_n 1, 1) := by decide +kernel
theorem dX11_greatestBuffer_2 : decode cX11_greatestBuffer 2 = .ok (.invokevirtual 189, 3) := by decide +kernel
theorem dX11_greatestBuffer_5 : decode cX11_greatestBuffer 5 = .ok (.iload_n 2, 1) := by decide +kernel
theorem dX11_greatestBuffer_6 : decode cX11_greatestBuffer 6 = .ok (.ifCond .lt 14, 3) := by decide +kernel
theorem dX11_greatestBuffer_9 : decode cX11_greatestBuffer 9 = .ok (.iload_n 2, 1) := by decide +kernel
theorem dX11_greatestBuffer_10 : decode cX11_greatestBuffer 10 = .ok (.aload_n 0, 1) := by decide +kernel
theorem dX11_greatestBuffer_11 : decode cX11_greatestBuffer 11 = .ok (.getfield 27, 3) := by decide +kernel
theorem dX11_greatestBuffer_14 : decode cX11_greatestBuffer 14 = .ok (.invokevirtual 104, 3) := by decide +kernel
theorem dX11_greatestBuffer_17 : decode cX11_greatestBuffer 17 = .ok (.if_icmp .lt 13, 3) := by decide +kernel
theorem dX11_greatestBuffer_20 : decode cX11_greatestBuffer 20 = .ok (.new 117, 3) := by decide +kernel
theorem dX11_greatestBuffer_23 : decode cX11_greatestBuffer 23 = .ok (.dup, 1) := by decide +kernel
theorem dX11_greatestBuffer_24 : decode cX11_greatestBuffer 24 = .ok (.ldc 231, 2) := by decide +kernel
theorem dX11_greatestBuffer_26 : decode cX11_greatestBuffer 26 = .ok (.invokespecial 121, 3) := by decide +kernel
theorem dX11_greatestBuffer_29 : decode cX11_greatestBuffer 29 = .ok (.athrow, 1) := by decide +kernel
theorem dX11_greatestBuffer_30 : decode cX11_greatestBuffer 30 = .ok (.iload_n 1, 1) := by decide +kernel
theorem dX11_greatestBuffer_31 : decode cX11_greatestBuffer 31 = .ok (.ifCond .ne 7, 3) := by decide +kernel
theorem dX11_greatestBuffer_34 : decode cX11_greatestBuffer 34 = .ok (.iconst 0, 1) := by decide +kernel
theorem dX11_greatestBuffer_35 : decode cX11_greatestBuffer 35 = .ok (.goto 11, 3) := by decide +kernel
theorem dX11_greatestBuffer_38 : decode cX11_greatestBuffer 38 = .ok (.aload_n 0, 1) := by decide +kernel
theorem dX11_greatestBuffer_39 : decode cX11_greatestBuffer 39 = .ok (.getfield 27, 3) := by decide +kernel
theorem dX11_greatestBuffer_42 : decode cX11_greatestBuffer 42 = .ok (.iload_n 2, 1) := by decide +kernel
theorem dX11_greatestBuffer_43 : decode cX11_greatestBuffer 43 = .ok (.invokevirtual 233, 3) := by decide +kernel
theorem dX11_greatestBuffer_46 : decode cX11_greatestBuffer 46 = .ok (.ireturn, 1) := by decide +kernel
theorem dX11_isRace_0 : decode cX11_isRace 0 = .ok (.aload_n 0, 1) := by decide +kernel
theorem dX11_isRace_1 : decode cX11_isRace 1 = .ok (.iload_n 1, 1) := by decide +kernel
theorem dX11_isRace_2 : decode cX11_isRace 2 = .ok (.invokevirtual 110, 3) := by decide +kernel
theorem dX11_isRace_5 : decode cX11_isRace 5 = .ok (.aload_n 0, 1) := by decide +kernel
theorem dX11_isRace_6 : decode cX11_isRace 6 = .ok (.iload_n 2, 1) := by decide +kernel
theorem dX11_isRace_7 : decode cX11_isRace 7 = .ok (.invokevirtual 110, 3) := by decide +kernel
theorem dX11_isRace_10 : decode cX11_isRace 10 = .ok (.aload_n 0, 1) := by decide +kernel
theorem dX11_isRace_11 : decode cX11_isRace 11 = .ok (.getfield 27, 3) := by decide +kernel
theorem dX11_isRace_14 : decode cX11_isRace 14 = .ok (.iload_n 1, 1) := by decide +kernel
theorem dX11_isRace_15 : decode cX11_isRace 15 = .ok (.iload_n 2, 1) := by decide +kernel
theorem dX11_isRace_16 : decode cX11_isRace 16 = .ok (.invokevirtual 236, 3) := by decide +kernel
theorem dX11_isRace_19 : decode cX11_isRace 19 = .ok (.ireturn, 1) := by decide +kernel
theorem dX11_raceCount_0 : decode cX11_raceCount 0 = .ok (.iconst 0, 1) := by decide +kernel
theorem dX11_raceCount_1 : decode cX11_raceCount 1 = .ok (.istore_n 1, 1) := by decide +kernel
theorem dX11_raceCount_2 : decode cX11_raceCount 2 = .ok (.iconst 0, 1) := by decide +kernel
theorem dX11_raceCount_3 : decode cX11_raceCount 3 = .ok (.istore_n 2, 1) := by decide +kernel
theorem dX11_raceCount_4 : decode cX11_raceCount 4 = .ok (.iload_n 2, 1) := by decide +kernel
theorem dX11_raceCount_5 : decode cX11_raceCount 5 = .ok (.aload_n 0, 1) := by decide +kernel
theorem dX11_raceCount_6 : decode cX11_raceCount 6 = .ok (.getfield 27, 3) := by decide +kernel
theorem dX11_raceCount_9 : decode cX11_raceCount 9 = .ok (.invokevirtual 96, 3) := by decide +kernel
theorem dX11_raceCount_12 : decode cX11_raceCount 12 = .ok (.if_icmp .ge 45, 3) := by decide +kernel
theorem dX11_raceCount_15 : decode cX11_raceCount 15 = .ok (.iload_n 2, 1) := by decide +kernel
theorem dX11_raceCount_16 : decode cX11_raceCount 16 = .ok (.iconst 1, 1) := by decide +kernel
theorem dX11_raceCount_17 : decode cX11_raceCount 17 = .ok (.iadd, 1) := by decide +kernel
theorem dX11_raceCount_18 : decode cX11_raceCount 18 = .ok (.istore_n 3, 1) := by decide +kernel
theorem dX11_raceCount_19 : decode cX11_raceCount 19 = .ok (.iload_n 3, 1) := by decide +kernel
theorem dX11_raceCount_20 : decode cX11_raceCount 20 = .ok (.aload_n 0, 1) := by decide +kernel
theorem dX11_raceCount_21 : decode cX11_raceCount 21 = .ok (.getfield 27, 3) := by decide +kernel
theorem dX11_raceCount_24 : decode cX11_raceCount 24 = .ok (.invokevirtual 96, 3) := by decide +kernel
theorem dX11_raceCount_27 : decode cX11_raceCount 27 = .ok (.if_icmp .ge 24, 3) := by decide +kernel
theorem dX11_raceCount_30 : decode cX11_raceCount 30 = .ok (.aload_n 0, 1) := by decide +kernel
theorem dX11_raceCount_31 : decode cX11_raceCount 31 = .ok (.getfield 27, 3) := by decide +kernel
theorem dX11_raceCount_34 : decode cX11_raceCount 34 = .ok (.iload_n 2, 1) := by decide +kernel
theorem dX11_raceCount_35 : decode cX11_raceCount 35 = .ok (.iload_n 3, 1) := by decide +kernel
theorem dX11_raceCount_36 : decode cX11_raceCount 36 = .ok (.invokevirtual 236, 3) := by decide +kernel
theorem dX11_raceCount_39 : decode cX11_raceCount 39 = .ok (.ifCond .eq 6, 3) := by decide +kernel
theorem dX11_raceCount_42 : decode cX11_raceCount 42 = .ok (.iinc 1 1, 3) := by decide +kernel
theorem dX11_raceCount_45 : decode cX11_raceCount 45 = .ok (.iinc 3 1, 3) := by decide +kernel
theorem dX11_raceCount_48 : decode cX11_raceCount 48 = .ok (.goto (-29), 3) := by decide +kernel
theorem dX11_raceCount_51 : decode cX11_raceCount 51 = .ok (.iinc 2 1, 3) := by decide +kernel
theorem dX11_raceCount_54 : decode cX11_raceCount 54 = .ok (.goto (-50), 3) := by decide +kernel
theorem dX11_raceCount_57 : decode cX11_raceCount 57 = .ok (.iload_n 1, 1) := by decide +kernel
theorem dX11_raceCount_58 : decode cX11_raceCount 58 = .ok (.ireturn, 1) := by decide +kernel
theorem dX11_gapCount_0 : decode cX11_gapCount 0 = .ok (.aload_n 0, 1) := by decide +kernel
theorem dX11_gapCount_1 : decode cX11_gapCount 1 = .ok (.getfield 27, 3) := by decide +kernel
theorem dX11_gapCount_4 : decode cX11_gapCount 4 = .ok (.invokevirtual 240, 3) := by decide +kernel
theorem dX11_gapCount_7 : decode cX11_gapCount 7 = .ok (.ireturn, 1) := by decide +kernel
theorem dX11_gapBefore_0 : decode cX11_gapBefore 0 = .ok (.aload_n 0, 1) := by decide +kernel
theorem dX11_gapBefore_1 : decode cX11_gapBefore 1 = .ok (.getfield 27, 3) := by decide +kernel
theorem dX11_gapBefore_4 : decode cX11_gapBefore 4 = .ok (.iload_n 1, 1) := by decide +kernel
theorem dX11_gapBefore_5 : decode cX11_gapBefore 5 = .ok (.invokevirtual 243, 3) := by decide +kernel
theorem dX11_gapBefore_8 : decode cX11_gapBefore 8 = .ok (.ireturn, 1) := by decide +kernel
theorem dX11_matchesWith_0 : decode cX11_matchesWith 0 = .ok (.aload_n 0, 1) := by decide +kernel
theorem dX11_matchesWith_1 : decode cX11_matchesWith 1 = .ok (.iload_n 1, 1) := by decide +kernel
theorem dX11_matchesWith_2 : decode cX11_matchesWith 2 = .ok (.invokevirtual 189, 3) := by decide +kernel
theorem dX11_matchesWith_5 : decode cX11_matchesWith 5 = .ok (.iload_n 2, 1) := by decide +kernel
theorem dX11_matchesWith_6 : decode cX11_matchesWith 6 = .ok (.ifCond .lt 15, 3) := by decide +kernel
theorem dX11_matchesWith_9 : decode cX11_matchesWith 9 = .ok (.iload_n 2, 1) := by decide +kernel
theorem dX11_matchesWith_10 : decode cX11_matchesWith 10 = .ok (.aload_n 0, 1) := by decide +kernel
theorem dX11_matchesWith_11 : decode cX11_matchesWith 11 = .ok (.getfield 27, 3) := by decide +kernel
theorem dX11_matchesWith_14 : decode cX11_matchesWith 14 = .ok (.invokevirtual 240, 3) := by decide +kernel
theorem dX11_matchesWith_17 : decode cX11_matchesWith 17 = .ok (.ishr, 1) := by decide +kernel
theorem dX11_matchesWith_18 : decode cX11_matchesWith 18 = .ok (.ifCond .eq 13, 3) := by decide +kernel
theorem dX11_matchesWith_21 : decode cX11_matchesWith 21 = .ok (.new 165, 3) := by decide +kernel
theorem dX11_matchesWith_24 : decode cX11_matchesWith 24 = .ok (.dup, 1) := by decide +kernel
theorem dX11_matchesWith_25 : decode cX11_matchesWith 25 = .ok (.ldc 246, 2) := by decide +kernel
theorem dX11_matchesWith_27 : decode cX11_matchesWith 27 = .ok (.invokespecial 169, 3) := by decide +kernel
theorem dX11_matchesWith_30 : decode cX11_matchesWith 30 = .ok (.athrow, 1) := by decide +kernel
theorem dX11_matchesWith_31 : decode cX11_matchesWith 31 = .ok (.aload_n 0, 1) := by decide +kernel
theorem dX11_matchesWith_32 : decode cX11_matchesWith 32 = .ok (.iload_n 1, 1) := by decide +kernel
theorem dX11_matchesWith_33 : decode cX11_matchesWith 33 = .ok (.iload_n 2, 1) := by decide +kernel
theorem dX11_matchesWith_34 : decode cX11_matchesWith 34 = .ok (.invokevirtual 248, 3) := by decide +kernel
theorem dX11_matchesWith_37 : decode cX11_matchesWith 37 = .ok (.aload_n 0, 1) := by decide +kernel
theorem dX11_matchesWith_38 : decode cX11_matchesWith 38 = .ok (.iload_n 1, 1) := by decide +kernel
theorem dX11_matchesWith_39 : decode cX11_matchesWith 39 = .ok (.invokevirtual 170, 3) := by decide +kernel
theorem dX11_matchesWith_42 : decode cX11_matchesWith 42 = .ok (.iload_n 2, 1) := by decide +kernel
theorem dX11_matchesWith_43 : decode cX11_matchesWith 43 = .ok (.invokevirtual 251, 3) := by decide +kernel
theorem dX11_matchesWith_46 : decode cX11_matchesWith 46 = .ok (.ireturn, 1) := by decide +kernel
theorem dX11_tryFences_0 : decode cX11_tryFences 0 = .ok (.aload_n 0, 1) := by decide +kernel
theorem dX11_tryFences_1 : decode cX11_tryFences 1 = .ok (.iload_n 1, 1) := by decide +kernel
theorem dX11_tryFences_2 : decode cX11_tryFences 2 = .ok (.invokevirtual 170, 3) := by decide +kernel
theorem dX11_tryFences_5 : decode cX11_tryFences 5 = .ok (.astore_n 3, 1) := by decide +kernel
theorem dX11_tryFences_6 : decode cX11_tryFences 6 = .ok (.aload_n 3, 1) := by decide +kernel
theorem dX11_tryFences_7 : decode cX11_tryFences 7 = .ok (.iload_n 2, 1) := by decide +kernel
theorem dX11_tryFences_8 : decode cX11_tryFences 8 = .ok (.invokevirtual 254, 3) := by decide +kernel
theorem dX11_tryFences_11 : decode cX11_tryFences 11 = .ok (.iconst (-1), 1) := by decide +kernel
theorem dX11_tryFences_12 : decode cX11_tryFences 12 = .ok (.if_icmp .ne 38, 3) := by decide +kernel
theorem dX11_tryFences_15 : decode cX11_tryFences 15 = .ok (.aload_n 0, 1) := by decide +kernel
theorem dX11_tryFences_16 : decode cX11_tryFences 16 = .ok (.getfield 48, 3) := by decide +kernel
theorem dX11_tryFences_19 : decode cX11_tryFences 19 = .ok (.iload_n 1, 1) := by decide +kernel
theorem dX11_tryFences_20 : decode cX11_tryFences 20 = .ok (.aload_n 0, 1) := by decide +kernel
theorem dX11_tryFences_21 : decode cX11_tryFences 21 = .ok (.getfield 27, 3) := by decide +kernel
theorem dX11_tryFences_24 : decode cX11_tryFences 24 = .ok (.iload_n 2, 1) := by decide +kernel
theorem dX11_tryFences_25 : decode cX11_tryFences 25 = .ok (.invokevirtual 257, 3) := by decide +kernel
theorem dX11_tryFences_28 : decode cX11_tryFences 28 = .ok (.invokevirtual 181, 3) := by decide +kernel
theorem dX11_tryFences_31 : decode cX11_tryFences 31 = .ok (.aload_n 3, 1) := by decide +kernel
theorem dX11_tryFences_32 : decode cX11_tryFences 32 = .ok (.iload_n 2, 1) := by decide +kernel
theorem dX11_tryFences_33 : decode cX11_tryFences 33 = .ok (.aload_n 0, 1) := by decide +kernel
theorem dX11_tryFences_34 : decode cX11_tryFences 34 = .ok (.getfield 48, 3) := by decide +kernel
theorem dX11_tryFences_37 : decode cX11_tryFences 37 = .ok (.invokevirtual 260, 3) := by decide +kernel
theorem dX11_tryFences_40 : decode cX11_tryFences 40 = .ok (.aload_n 0, 1) := by decide +kernel
theorem dX11_tryFences_41 : decode cX11_tryFences 41 = .ok (.getfield 48, 3) := by decide +kernel
theorem dX11_tryFences_44 : decode cX11_tryFences 44 = .ok (.invokevirtual 263, 3) := by decide +kernel
theorem dX11_tryFences_47 : decode cX11_tryFences 47 = .ok (.invokevirtual 266, 3) := by decide +kernel
theorem dX11_tryFences_50 : decode cX11_tryFences 50 = .ok (.return_, 1) := by decide +kernel
theorem dX11_fewestFences_0 : decode cX11_fewestFences 0 = .ok (.aload_n 0, 1) := by decide +kernel
theorem dX11_fewestFences_1 : decode cX11_fewestFences 1 = .ok (.iload_n 1, 1) := by decide +kernel
theorem dX11_fewestFences_2 : decode cX11_fewestFences 2 = .ok (.invokevirtual 189, 3) := by decide +kernel
theorem dX11_fewestFences_5 : decode cX11_fewestFences 5 = .ok (.aload_n 0, 1) := by decide +kernel
theorem dX11_fewestFences_6 : decode cX11_fewestFences 6 = .ok (.iconst 0, 1) := by decide +kernel
theorem dX11_fewestFences_7 : decode cX11_fewestFences 7 = .ok (.invokevirtual 270, 3) := by decide +kernel
theorem dX11_fewestFences_10 : decode cX11_fewestFences 10 = .ok (.ifCond .le 7, 3) := by decide +kernel
theorem dX11_fewestFences_13 : decode cX11_fewestFences 13 = .ok (.iconst (-1), 1) := by decide +kernel
theorem dX11_fewestFences_14 : decode cX11_fewestFences 14 = .ok (.goto 9, 3) := by decide +kernel
theorem dX11_fewestFences_17 : decode cX11_fewestFences 17 = .ok (.aload_n 0, 1) := by decide +kernel
theorem dX11_fewestFences_18 : decode cX11_fewestFences 18 = .ok (.iload_n 1, 1) := by decide +kernel
theorem dX11_fewestFences_19 : decode cX11_fewestFences 19 = .ok (.iconst 0, 1) := by decide +kernel
theorem dX11_fewestFences_20 : decode cX11_fewestFences 20 = .ok (.invokevirtual 273, 3) := by decide +kernel
theorem dX11_fewestFences_23 : decode cX11_fewestFences 23 = .ok (.ireturn, 1) := by decide +kernel
theorem dX11_repairingFences_0 : decode cX11_repairingFences 0 = .ok (.aload_n 0, 1) := by decide +kernel
theorem dX11_repairingFences_1 : decode cX11_repairingFences 1 = .ok (.iload_n 1, 1) := by decide +kernel
theorem dX11_repairingFences_2 : decode cX11_repairingFences 2 = .ok (.invokevirtual 189, 3) := by decide +kernel
theorem dX11_repairingFences_5 : decode cX11_repairingFences 5 = .ok (.aload_n 0, 1) := by decide +kernel
theorem dX11_repairingFences_6 : decode cX11_repairingFences 6 = .ok (.iload_n 1, 1) := by decide +kernel
theorem dX11_repairingFences_7 : decode cX11_repairingFences 7 = .ok (.iconst 1, 1) := by decide +kernel
theorem dX11_repairingFences_8 : decode cX11_repairingFences 8 = .ok (.invokevirtual 273, 3) := by decide +kernel
theorem dX11_repairingFences_11 : decode cX11_repairingFences 11 = .ok (.ireturn, 1) := by decide +kernel
theorem dX11_smallestSet_0 : decode cX11_smallestSet 0 = .ok (.aload_n 0, 1) := by decide +kernel
theorem dX11_smallestSet_1 : decode cX11_smallestSet 1 = .ok (.iconst 0, 1) := by decide +kernel
theorem dX11_smallestSet_2 : decode cX11_smallestSet 2 = .ok (.invokevirtual 192, 3) := by decide +kernel
theorem dX11_smallestSet_5 : decode cX11_smallestSet 5 = .ok (.invokevirtual 195, 3) := by decide +kernel
theorem dX11_smallestSet_8 : decode cX11_smallestSet 8 = .ok (.istore_n 3, 1) := by decide +kernel
theorem dX11_smallestSet_9 : decode cX11_smallestSet 9 = .ok (.iconst 1, 1) := by decide +kernel
theorem dX11_smallestSet_10 : decode cX11_smallestSet 10 = .ok (.aload_n 0, 1) := by decide +kernel
theorem dX11_smallestSet_11 : decode cX11_smallestSet 11 = .ok (.getfield 27, 3) := by decide +kernel
theorem dX11_smallestSet_14 : decode cX11_smallestSet 14 = .ok (.invokevirtual 240, 3) := by decide +kernel
theorem dX11_smallestSet_17 : decode cX11_smallestSet 17 = .ok (.ishl, 1) := by decide +kernel
theorem dX11_smallestSet_18 : decode cX11_smallestSet 18 = .ok (.istore 4, 2) := by decide +kernel
theorem dX11_smallestSet_20 : decode cX11_smallestSet 20 = .ok (.iconst 0, 1) := by decide +kernel
theorem dX11_smallestSet_21 : decode cX11_smallestSet 21 = .ok (.istore 5, 2) := by decide +kernel
theorem dX11_smallestSet_23 : decode cX11_smallestSet 23 = .ok (.iload 5, 2) := by decide +kernel
theorem dX11_smallestSet_25 : decode cX11_smallestSet 25 = .ok (.bipush 6, 2) := by decide +kernel
theorem dX11_smallestSet_27 : decode cX11_smallestSet 27 = .ok (.if_icmp .gt 80, 3) := by decide +kernel
theorem dX11_smallestSet_30 : decode cX11_smallestSet 30 = .ok (.iconst 0, 1) := by decide +kernel
theorem dX11_smallestSet_31 : decode cX11_smallestSet 31 = .ok (.istore 6, 2) := by decide +kernel
theorem dX11_smallestSet_33 : decode cX11_smallestSet 33 = .ok (.iload 6, 2) := by decide +kernel
theorem dX11_smallestSet_35 : decode cX11_smallestSet 35 = .ok (.iload 4, 2) := by decide +kernel
theorem dX11_smallestSet_37 : decode cX11_smallestSet 37 = .ok (.if_icmp .ge 64, 3) := by decide +kernel
theorem dX11_smallestSet_40 : decode cX11_smallestSet 40 = .ok (.iload 6, 2) := by decide +kernel
theorem dX11_smallestSet_42 : decode cX11_smallestSet 42 = .ok (.invokestatic 277, 3) := by decide +kernel
theorem dX11_smallestSet_45 : decode cX11_smallestSet 45 = .ok (.iload 5, 2) := by decide +kernel
theorem dX11_smallestSet_47 : decode cX11_smallestSet 47 = .ok (.if_icmp .ne 48, 3) := by decide +kernel
theorem dX11_smallestSet_50 : decode cX11_smallestSet 50 = .ok (.aload_n 0, 1) := by decide +kernel
theorem dX11_smallestSet_51 : decode cX11_smallestSet 51 = .ok (.iload_n 1, 1) := by decide +kernel
theorem dX11_smallestSet_52 : decode cX11_smallestSet 52 = .ok (.iload 6, 2) := by decide +kernel
theorem dX11_smallestSet_54 : decode cX11_smallestSet 54 = .ok (.invokevirtual 248, 3) := by decide +kernel
theorem dX11_smallestSet_57 : decode cX11_smallestSet 57 = .ok (.aload_n 0, 1) := by decide +kernel
theorem dX11_smallestSet_58 : decode cX11_smallestSet 58 = .ok (.iload_n 1, 1) := by decide +kernel
theorem dX11_smallestSet_59 : decode cX11_smallestSet 59 = .ok (.invokevirtual 170, 3) := by decide +kernel
theorem dX11_smallestSet_62 : decode cX11_smallestSet 62 = .ok (.astore 7, 2) := by decide +kernel
theorem dX11_smallestSet_64 : decode cX11_smallestSet 64 = .ok (.iload_n 2, 1) := by decide +kernel
theorem dX11_smallestSet_65 : decode cX11_smallestSet 65 = .ok (.ifCond .eq 17, 3) := by decide +kernel
theorem dX11_smallestSet_68 : decode cX11_smallestSet 68 = .ok (.aload 7, 2) := by decide +kernel
theorem dX11_smallestSet_70 : decode cX11_smallestSet 70 = .ok (.iload 6, 2) := by decide +kernel
theorem dX11_smallestSet_72 : decode cX11_smallestSet 72 = .ok (.invokevirtual 254, 3) := by decide +kernel
theorem dX11_smallestSet_75 : decode cX11_smallestSet 75 = .ok (.iload_n 3, 1) := by decide +kernel
theorem dX11_smallestSet_76 : decode cX11_smallestSet 76 = .ok (.if_icmp .ne 19, 3) := by decide +kernel
theorem dX11_smallestSet_79 : decode cX11_smallestSet 79 = .ok (.goto 13, 3) := by decide +kernel
theorem dX11_smallestSet_82 : decode cX11_smallestSet 82 = .ok (.aload 7, 2) := by decide +kernel
theorem dX11_smallestSet_84 : decode cX11_smallestSet 84 = .ok (.iload 6, 2) := by decide +kernel
theorem dX11_smallestSet_86 : decode cX11_smallestSet 86 = .ok (.invokevirtual 251, 3) := by decide +kernel
theorem dX11_smallestSet_89 : decode cX11_smallestSet 89 = .ok (.ifCond .ne 6, 3) := by decide +kernel
theorem dX11_smallestSet_92 : decode cX11_smallestSet 92 = .ok (.iload 6, 2) := by decide +kernel
theorem dX11_smallestSet_94 : decode cX11_smallestSet 94 = .ok (.ireturn, 1) := by decide +kernel
theorem dX11_smallestSet_95 : decode cX11_smallestSet 95 = .ok (.iinc 6 1, 3) := by decide +kernel
theorem dX11_smallestSet_98 : decode cX11_smallestSet 98 = .ok (.goto (-65), 3) := by decide +kernel
theorem dX11_smallestSet_101 : decode cX11_smallestSet 101 = .ok (.iinc 5 1, 3) := by decide +kernel
theorem dX11_smallestSet_104 : decode cX11_smallestSet 104 = .ok (.goto (-81), 3) := by decide +kernel
theorem dX11_smallestSet_107 : decode cX11_smallestSet 107 = .ok (.iconst (-1), 1) := by decide +kernel
theorem dX11_smallestSet_108 : decode cX11_smallestSet 108 = .ok (.ireturn, 1) := by decide +kernel
theorem dX11_isFenceNeeded_0 : decode cX11_isFenceNeeded 0 = .ok (.aload_n 0, 1) := by decide +kernel
theorem dX11_isFenceNeeded_1 : decode cX11_isFenceNeeded 1 = .ok (.iload_n 1, 1) := by decide +kernel
theorem dX11_isFenceNeeded_2 : decode cX11_isFenceNeeded 2 = .ok (.invokevirtual 189, 3) := by decide +kernel
theorem dX11_isFenceNeeded_5 : decode cX11_isFenceNeeded 5 = .ok (.aload_n 0, 1) := by decide +kernel
theorem dX11_isFenceNeeded_6 : decode cX11_isFenceNeeded 6 = .ok (.iload_n 2, 1) := by decide +kernel
theorem dX11_isFenceNeeded_7 : decode cX11_isFenceNeeded 7 = .ok (.invokevirtual 110, 3) := by decide +kernel
theorem dX11_isFenceNeeded_10 : decode cX11_isFenceNeeded 10 = .ok (.aload_n 0, 1) := by decide +kernel
theorem dX11_isFenceNeeded_11 : decode cX11_isFenceNeeded 11 = .ok (.iload_n 2, 1) := by decide +kernel
theorem dX11_isFenceNeeded_12 : decode cX11_isFenceNeeded 12 = .ok (.invokevirtual 282, 3) := by decide +kernel
theorem dX11_isFenceNeeded_15 : decode cX11_isFenceNeeded 15 = .ok (.aload_n 0, 1) := by decide +kernel
theorem dX11_isFenceNeeded_16 : decode cX11_isFenceNeeded 16 = .ok (.iload_n 1, 1) := by decide +kernel
theorem dX11_isFenceNeeded_17 : decode cX11_isFenceNeeded 17 = .ok (.invokevirtual 192, 3) := by decide +kernel
theorem dX11_isFenceNeeded_20 : decode cX11_isFenceNeeded 20 = .ok (.invokevirtual 195, 3) := by decide +kernel
theorem dX11_isFenceNeeded_23 : decode cX11_isFenceNeeded 23 = .ok (.istore_n 3, 1) := by decide +kernel
theorem dX11_isFenceNeeded_24 : decode cX11_isFenceNeeded 24 = .ok (.aload_n 0, 1) := by decide +kernel
theorem dX11_isFenceNeeded_25 : decode cX11_isFenceNeeded 25 = .ok (.getfield 48, 3) := by decide +kernel
theorem dX11_isFenceNeeded_28 : decode cX11_isFenceNeeded 28 = .ok (.iload_n 1, 1) := by decide +kernel
theorem dX11_isFenceNeeded_29 : decode cX11_isFenceNeeded 29 = .ok (.aload_n 0, 1) := by decide +kernel
theorem dX11_isFenceNeeded_30 : decode cX11_isFenceNeeded 30 = .ok (.getfield 27, 3) := by decide +kernel
theorem dX11_isFenceNeeded_33 : decode cX11_isFenceNeeded 33 = .ok (.invokevirtual 178, 3) := by decide +kernel
theorem dX11_isFenceNeeded_36 : decode cX11_isFenceNeeded 36 = .ok (.iconst 1, 1) := by decide +kernel
theorem dX11_isFenceNeeded_37 : decode cX11_isFenceNeeded 37 = .ok (.iload_n 2, 1) := by decide +kernel
theorem dX11_isFenceNeeded_38 : decode cX11_isFenceNeeded 38 = .ok (.ishl, 1) := by decide +kernel
theorem dX11_isFenceNeeded_39 : decode cX11_isFenceNeeded 39 = .ok (.iconst (-1), 1) := by decide +kernel
theorem dX11_isFenceNeeded_40 : decode cX11_isFenceNeeded 40 = .ok (.ixor, 1) := by decide +kernel
theorem dX11_isFenceNeeded_41 : decode cX11_isFenceNeeded 41 = .ok (.iand, 1) := by decide +kernel
theorem dX11_isFenceNeeded_42 : decode cX11_isFenceNeeded 42 = .ok (.invokevirtual 181, 3) := by decide +kernel
theorem dX11_isFenceNeeded_45 : decode cX11_isFenceNeeded 45 = .ok (.aload_n 0, 1) := by decide +kernel
theorem dX11_isFenceNeeded_46 : decode cX11_isFenceNeeded 46 = .ok (.getfield 48, 3) := by decide +kernel
theorem dX11_isFenceNeeded_49 : decode cX11_isFenceNeeded 49 = .ok (.invokevirtual 260, 3) := by decide +kernel
theorem dX11_isFenceNeeded_52 : decode cX11_isFenceNeeded 52 = .ok (.iload_n 3, 1) := by decide +kernel
theorem dX11_isFenceNeeded_53 : decode cX11_isFenceNeeded 53 = .ok (.if_icmp .eq 7, 3) := by decide +kernel
theorem dX11_isFenceNeeded_56 : decode cX11_isFenceNeeded 56 = .ok (.iconst 1, 1) := by decide +kernel
theorem dX11_isFenceNeeded_57 : decode cX11_isFenceNeeded 57 = .ok (.goto 4, 3) := by decide +kernel
theorem dX11_isFenceNeeded_60 : decode cX11_isFenceNeeded 60 = .ok (.iconst 0, 1) := by decide +kernel
theorem dX11_isFenceNeeded_61 : decode cX11_isFenceNeeded 61 = .ok (.ireturn, 1) := by decide +kernel
theorem dX11_requireFence_0 : decode cX11_requireFence 0 = .ok (.aload_n 0, 1) := by decide +kernel
theorem dX11_requireFence_1 : decode cX11_requireFence 1 = .ok (.getfield 27, 3) := by decide +kernel
theorem dX11_requireFence_4 : decode cX11_requireFence 4 = .ok (.iload_n 1, 1) := by decide +kernel
theorem dX11_requireFence_5 : decode cX11_requireFence 5 = .ok (.iconst 1, 1) := by decide +kernel
theorem dX11_requireFence_6 : decode cX11_requireFence 6 = .ok (.invokevirtual 113, 3) := by decide +kernel
theorem dX11_requireFence_9 : decode cX11_requireFence 9 = .ok (.iconst 3, 1) := by decide +kernel
theorem dX11_requireFence_10 : decode cX11_requireFence 10 = .ok (.if_icmp .eq 14, 3) := by decide +kernel
theorem dX11_requireFence_13 : decode cX11_requireFence 13 = .ok (.new 157, 3) := by decide +kernel
theorem dX11_requireFence_16 : decode cX11_requireFence 16 = .ok (.dup, 1) := by decide +kernel
theorem dX11_requireFence_17 : decode cX11_requireFence 17 = .ok (.ldc_w 285, 3) := by decide +kernel
theorem dX11_requireFence_20 : decode cX11_requireFence 20 = .ok (.invokespecial 161, 3) := by decide +kernel
theorem dX11_requireFence_23 : decode cX11_requireFence 23 = .ok (.athrow, 1) := by decide +kernel
theorem dX11_requireFence_24 : decode cX11_requireFence 24 = .ok (.return_, 1) := by decide +kernel
theorem dX11_insertFence_0 : decode cX11_insertFence 0 = .ok (.aload_n 0, 1) := by decide +kernel
theorem dX11_insertFence_1 : decode cX11_insertFence 1 = .ok (.getfield 27, 3) := by decide +kernel
theorem dX11_insertFence_4 : decode cX11_insertFence 4 = .ok (.iload_n 1, 1) := by decide +kernel
theorem dX11_insertFence_5 : decode cX11_insertFence 5 = .ok (.invokevirtual 243, 3) := by decide +kernel
theorem dX11_insertFence_8 : decode cX11_insertFence 8 = .ok (.istore_n 2, 1) := by decide +kernel
theorem dX11_insertFence_9 : decode cX11_insertFence 9 = .ok (.iload_n 2, 1) := by decide +kernel
theorem dX11_insertFence_10 : decode cX11_insertFence 10 = .ok (.iconst (-1), 1) := by decide +kernel
theorem dX11_insertFence_11 : decode cX11_insertFence 11 = .ok (.if_icmp .ne 13, 3) := by decide +kernel
theorem dX11_insertFence_14 : decode cX11_insertFence 14 = .ok (.new 117, 3) := by decide +kernel
theorem dX11_insertFence_17 : decode cX11_insertFence 17 = .ok (.dup, 1) := by decide +kernel
theorem dX11_insertFence_18 : decode cX11_insertFence 18 = .ok (.ldc 246, 2) := by decide +kernel
theorem dX11_insertFence_20 : decode cX11_insertFence 20 = .ok (.invokespecial 121, 3) := by decide +kernel
theorem dX11_insertFence_23 : decode cX11_insertFence 23 = .ok (.athrow, 1) := by decide +kernel
theorem dX11_insertFence_24 : decode cX11_insertFence 24 = .ok (.aload_n 0, 1) := by decide +kernel
theorem dX11_insertFence_25 : decode cX11_insertFence 25 = .ok (.getfield 27, 3) := by decide +kernel
theorem dX11_insertFence_28 : decode cX11_insertFence 28 = .ok (.iload_n 2, 1) := by decide +kernel
theorem dX11_insertFence_29 : decode cX11_insertFence 29 = .ok (.iconst 0, 1) := by decide +kernel
theorem dX11_insertFence_30 : decode cX11_insertFence 30 = .ok (.invokevirtual 113, 3) := by decide +kernel
theorem dX11_insertFence_33 : decode cX11_insertFence 33 = .ok (.istore_n 3, 1) := by decide +kernel
theorem dX11_insertFence_34 : decode cX11_insertFence 34 = .ok (.aload_n 0, 1) := by decide +kernel
theorem dX11_insertFence_35 : decode cX11_insertFence 35 = .ok (.getfield 27, 3) := by decide +kernel
theorem dX11_insertFence_38 : decode cX11_insertFence 38 = .ok (.iload_n 3, 1) := by decide +kernel
theorem dX11_insertFence_39 : decode cX11_insertFence 39 = .ok (.invokevirtual 148, 3) := by decide +kernel
theorem dX11_insertFence_42 : decode cX11_insertFence 42 = .ok (.bipush 7, 2) := by decide +kernel
theorem dX11_insertFence_44 : decode cX11_insertFence 44 = .ok (.if_icmp .ge 15, 3) := by decide +kernel
theorem dX11_insertFence_47 : decode cX11_insertFence 47 = .ok (.aload_n 0, 1) := by decide +kernel
theorem dX11_insertFence_48 : decode cX11_insertFence 48 = .ok (.getfield 27, 3) := by decide +kernel
theorem dX11_insertFence_51 : decode cX11_insertFence 51 = .ok (.invokevirtual 96, 3) := by decide +kernel
theorem dX11_insertFence_54 : decode cX11_insertFence 54 = .ok (.bipush 10, 2) := by decide +kernel
theorem dX11_insertFence_56 : decode cX11_insertFence 56 = .ok (.if_icmp .lt 14, 3) := by decide +kernel
theorem dX11_insertFence_59 : decode cX11_insertFence 59 = .ok (.new 287, 3) := by decide +kernel
theorem dX11_insertFence_62 : decode cX11_insertFence 62 = .ok (.dup, 1) := by decide +kernel
theorem dX11_insertFence_63 : decode cX11_insertFence 63 = .ok (.ldc_w 289, 3) := by decide +kernel
theorem dX11_insertFence_66 : decode cX11_insertFence 66 = .ok (.invokespecial 291, 3) := by decide +kernel
theorem dX11_insertFence_69 : decode cX11_insertFence 69 = .ok (.athrow, 1) := by decide +kernel
theorem dX11_insertFence_70 : decode cX11_insertFence 70 = .ok (.aload_n 0, 1) := by decide +kernel
theorem dX11_insertFence_71 : decode cX11_insertFence 71 = .ok (.getfield 27, 3) := by decide +kernel
theorem dX11_insertFence_74 : decode cX11_insertFence 74 = .ok (.iload_n 2, 1) := by decide +kernel
theorem dX11_insertFence_75 : decode cX11_insertFence 75 = .ok (.iload_n 3, 1) := by decide +kernel
theorem dX11_insertFence_76 : decode cX11_insertFence 76 = .ok (.invokevirtual 292, 3) := by decide +kernel
theorem dX11_insertFence_79 : decode cX11_insertFence 79 = .ok (.aload_n 0, 1) := by decide +kernel
theorem dX11_insertFence_80 : decode cX11_insertFence 80 = .ok (.getfield 68, 3) := by decide +kernel
theorem dX11_insertFence_83 : decode cX11_insertFence 83 = .ok (.iload_n 2, 1) := by decide +kernel
theorem dX11_insertFence_84 : decode cX11_insertFence 84 = .ok (.invokestatic 295, 3) := by decide +kernel
theorem dX11_insertFence_87 : decode cX11_insertFence 87 = .ok (.invokevirtual 298, 3) := by decide +kernel
theorem dX11_insertFence_90 : decode cX11_insertFence 90 = .ok (.aload_n 0, 1) := by decide +kernel
theorem dX11_insertFence_91 : decode cX11_insertFence 91 = .ok (.invokevirtual 93, 3) := by decide +kernel
theorem dX11_insertFence_94 : decode cX11_insertFence 94 = .ok (.iload_n 2, 1) := by decide +kernel
theorem dX11_insertFence_95 : decode cX11_insertFence 95 = .ok (.ireturn, 1) := by decide +kernel
theorem dX11_removeFence_0 : decode cX11_removeFence 0 = .ok (.aload_n 0, 1) := by decide +kernel
theorem dX11_removeFence_1 : decode cX11_removeFence 1 = .ok (.iload_n 1, 1) := by decide +kernel
theorem dX11_removeFence_2 : decode cX11_removeFence 2 = .ok (.invokevirtual 110, 3) := by decide +kernel
theorem dX11_removeFence_5 : decode cX11_removeFence 5 = .ok (.aload_n 0, 1) := by decide +kernel
theorem dX11_removeFence_6 : decode cX11_removeFence 6 = .ok (.iload_n 1, 1) := by decide +kernel
theorem dX11_removeFence_7 : decode cX11_removeFence 7 = .ok (.invokevirtual 282, 3) := by decide +kernel
theorem dX11_removeFence_10 : decode cX11_removeFence 10 = .ok (.aload_n 0, 1) := by decide +kernel
theorem dX11_removeFence_11 : decode cX11_removeFence 11 = .ok (.getfield 68, 3) := by decide +kernel
theorem dX11_removeFence_14 : decode cX11_removeFence 14 = .ok (.iload_n 1, 1) := by decide +kernel
theorem dX11_removeFence_15 : decode cX11_removeFence 15 = .ok (.aload_n 0, 1) := by decide +kernel
theorem dX11_removeFence_16 : decode cX11_removeFence 16 = .ok (.getfield 27, 3) := by decide +kernel
theorem dX11_removeFence_19 : decode cX11_removeFence 19 = .ok (.iload_n 1, 1) := by decide +kernel
theorem dX11_removeFence_20 : decode cX11_removeFence 20 = .ok (.iconst 0, 1) := by decide +kernel
theorem dX11_removeFence_21 : decode cX11_removeFence 21 = .ok (.invokevirtual 113, 3) := by decide +kernel
theorem dX11_removeFence_24 : decode cX11_removeFence 24 = .ok (.invokestatic 301, 3) := by decide +kernel
theorem dX11_removeFence_27 : decode cX11_removeFence 27 = .ok (.invokevirtual 298, 3) := by decide +kernel
theorem dX11_removeFence_30 : decode cX11_removeFence 30 = .ok (.aload_n 0, 1) := by decide +kernel
theorem dX11_removeFence_31 : decode cX11_removeFence 31 = .ok (.getfield 27, 3) := by decide +kernel
theorem dX11_removeFence_34 : decode cX11_removeFence 34 = .ok (.iload_n 1, 1) := by decide +kernel
theorem dX11_removeFence_35 : decode cX11_removeFence 35 = .ok (.invokevirtual 304, 3) := by decide +kernel
theorem dX11_removeFence_38 : decode cX11_removeFence 38 = .ok (.aload_n 0, 1) := by decide +kernel
theorem dX11_removeFence_39 : decode cX11_removeFence 39 = .ok (.invokevirtual 93, 3) := by decide +kernel
theorem dX11_removeFence_42 : decode cX11_removeFence 42 = .ok (.aload_n 0, 1) := by decide +kernel
theorem dX11_removeFence_43 : decode cX11_removeFence 43 = .ok (.getfield 27, 3) := by decide +kernel
theorem dX11_removeFence_46 : decode cX11_removeFence 46 = .ok (.invokevirtual 96, 3) := by decide +kernel
theorem dX11_removeFence_49 : decode cX11_removeFence 49 = .ok (.ireturn, 1) := by decide +kernel
theorem dX11_undo_0 : decode cX11_undo 0 = .ok (.aload_n 0, 1) := by decide +kernel
theorem dX11_undo_1 : decode cX11_undo 1 = .ok (.getfield 68, 3) := by decide +kernel
theorem dX11_undo_4 : decode cX11_undo 4 = .ok (.invokevirtual 307, 3) := by decide +kernel
theorem dX11_undo_7 : decode cX11_undo 7 = .ok (.istore_n 1, 1) := by decide +kernel
theorem dX11_undo_8 : decode cX11_undo 8 = .ok (.iload_n 1, 1) := by decide +kernel
theorem dX11_undo_9 : decode cX11_undo 9 = .ok (.iconst (-1), 1) := by decide +kernel
theorem dX11_undo_10 : decode cX11_undo 10 = .ok (.if_icmp .ne 5, 3) := by decide +kernel
theorem dX11_undo_13 : decode cX11_undo 13 = .ok (.iconst (-1), 1) := by decide +kernel
theorem dX11_undo_14 : decode cX11_undo 14 = .ok (.ireturn, 1) := by decide +kernel
theorem dX11_undo_15 : decode cX11_undo 15 = .ok (.iload_n 1, 1) := by decide +kernel
theorem dX11_undo_16 : decode cX11_undo 16 = .ok (.invokestatic 310, 3) := by decide +kernel
theorem dX11_undo_19 : decode cX11_undo 19 = .ok (.ifCond .eq 17, 3) := by decide +kernel
theorem dX11_undo_22 : decode cX11_undo 22 = .ok (.aload_n 0, 1) := by decide +kernel
theorem dX11_undo_23 : decode cX11_undo 23 = .ok (.getfield 27, 3) := by decide +kernel
theorem dX11_undo_26 : decode cX11_undo 26 = .ok (.iload_n 1, 1) := by decide +kernel
theorem dX11_undo_27 : decode cX11_undo 27 = .ok (.invokestatic 313, 3) := by decide +kernel
theorem dX11_undo_30 : decode cX11_undo 30 = .ok (.invokevirtual 304, 3) := by decide +kernel
theorem dX11_undo_33 : decode cX11_undo 33 = .ok (.goto 18, 3) := by decide +kernel
theorem dX11_undo_36 : decode cX11_undo 36 = .ok (.aload_n 0, 1) := by decide +kernel
theorem dX11_undo_37 : decode cX11_undo 37 = .ok (.getfield 27, 3) := by decide +kernel
theorem dX11_undo_40 : decode cX11_undo 40 = .ok (.iload_n 1, 1) := by decide +kernel
theorem dX11_undo_41 : decode cX11_undo 41 = .ok (.invokestatic 313, 3) := by decide +kernel
theorem dX11_undo_44 : decode cX11_undo 44 = .ok (.iload_n 1, 1) := by decide +kernel
theorem dX11_undo_45 : decode cX11_undo 45 = .ok (.invokestatic 316, 3) := by decide +kernel
theorem dX11_undo_48 : decode cX11_undo 48 = .ok (.invokevirtual 292, 3) := by decide +kernel
theorem dX11_undo_51 : decode cX11_undo 51 = .ok (.aload_n 0, 1) := by decide +kernel
theorem dX11_undo_52 : decode cX11_undo 52 = .ok (.invokevirtual 93, 3) := by decide +kernel
theorem dX11_undo_55 : decode cX11_undo 55 = .ok (.aload_n 0, 1) := by decide +kernel
theorem dX11_undo_56 : decode cX11_undo 56 = .ok (.getfield 68, 3) := by decide +kernel
theorem dX11_undo_59 : decode cX11_undo 59 = .ok (.invokevirtual 318, 3) := by decide +kernel
theorem dX11_undo_62 : decode cX11_undo 62 = .ok (.ireturn, 1) := by decide +kernel
theorem dX11_explain_0 : decode cX11_explain 0 = .ok (.aload_n 0, 1) := by decide +kernel
theorem dX11_explain_1 : decode cX11_explain 1 = .ok (.iload_n 1, 1) := by decide +kernel
theorem dX11_explain_2 : decode cX11_explain 2 = .ok (.invokevirtual 189, 3) := by decide +kernel
theorem dX11_explain_5 : decode cX11_explain 5 = .ok (.aload_n 0, 1) := by decide +kernel
theorem dX11_explain_6 : decode cX11_explain 6 = .ok (.iload_n 1, 1) := by decide +kernel
theorem dX11_explain_7 : decode cX11_explain 7 = .ok (.invokevirtual 192, 3) := by decide +kernel
theorem dX11_explain_10 : decode cX11_explain 10 = .ok (.iload_n 2, 1) := by decide +kernel
theorem dX11_explain_11 : decode cX11_explain 11 = .ok (.invokevirtual 199, 3) := by decide +kernel
theorem dX11_explain_14 : decode cX11_explain 14 = .ok (.iconst (-1), 1) := by decide +kernel
theorem dX11_explain_15 : decode cX11_explain 15 = .ok (.if_icmp .eq 23, 3) := by decide +kernel
theorem dX11_explain_18 : decode cX11_explain 18 = .ok (.aload_n 0, 1) := by decide +kernel
theorem dX11_explain_19 : decode cX11_explain 19 = .ok (.getfield 48, 3) := by decide +kernel
theorem dX11_explain_22 : decode cX11_explain 22 = .ok (.iload_n 1, 1) := by decide +kernel
theorem dX11_explain_23 : decode cX11_explain 23 = .ok (.iload_n 2, 1) := by decide +kernel
theorem dX11_explain_24 : decode cX11_explain 24 = .ok (.aload_n 0, 1) := by decide +kernel
theorem dX11_explain_25 : decode cX11_explain 25 = .ok (.getfield 75, 3) := by decide +kernel
theorem dX11_explain_28 : decode cX11_explain 28 = .ok (.invokevirtual 319, 3) := by decide +kernel
theorem dX11_explain_31 : decode cX11_explain 31 = .ok (.ifCond .eq 7, 3) := by decide +kernel
theorem dX11_explain_34 : decode cX11_explain 34 = .ok (.iconst 1, 1) := by decide +kernel
theorem dX11_explain_35 : decode cX11_explain 35 = .ok (.goto 4, 3) := by decide +kernel
theorem dX11_explain_38 : decode cX11_explain 38 = .ok (.iconst 0, 1) := by decide +kernel
theorem dX11_explain_39 : decode cX11_explain 39 = .ok (.istore_n 3, 1) := by decide +kernel
theorem dX11_explain_40 : decode cX11_explain 40 = .ok (.iload_n 3, 1) := by decide +kernel
theorem dX11_explain_41 : decode cX11_explain 41 = .ok (.ifCond .eq 13, 3) := by decide +kernel
theorem dX11_explain_44 : decode cX11_explain 44 = .ok (.aload_n 0, 1) := by decide +kernel
theorem dX11_explain_45 : decode cX11_explain 45 = .ok (.getfield 75, 3) := by decide +kernel
theorem dX11_explain_48 : decode cX11_explain 48 = .ok (.invokevirtual 323, 3) := by decide +kernel
theorem dX11_explain_51 : decode cX11_explain 51 = .ok (.goto 4, 3) := by decide +kernel
theorem dX11_explain_54 : decode cX11_explain 54 = .ok (.iconst (-1), 1) := by decide +kernel
theorem dX11_explain_55 : decode cX11_explain 55 = .ok (.ireturn, 1) := by decide +kernel
theorem dX11_step_0 : decode cX11_step 0 = .ok (.aload_n 0, 1) := by decide +kernel
theorem dX11_step_1 : decode cX11_step 1 = .ok (.getfield 75, 3) := by decide +kernel
theorem dX11_step_4 : decode cX11_step 4 = .ok (.iload_n 1, 1) := by decide +kernel
theorem dX11_step_5 : decode cX11_step 5 = .ok (.invokevirtual 324, 3) := by decide +kernel
theorem dX11_step_8 : decode cX11_step 8 = .ok (.ireturn, 1) := by decide +kernel
theorem dX11_readsFrom_0 : decode cX11_readsFrom 0 = .ok (.aload_n 0, 1) := by decide +kernel
theorem dX11_readsFrom_1 : decode cX11_readsFrom 1 = .ok (.iload_n 1, 1) := by decide +kernel
theorem dX11_readsFrom_2 : decode cX11_readsFrom 2 = .ok (.invokevirtual 110, 3) := by decide +kernel
theorem dX11_readsFrom_5 : decode cX11_readsFrom 5 = .ok (.aload_n 0, 1) := by decide +kernel
theorem dX11_readsFrom_6 : decode cX11_readsFrom 6 = .ok (.getfield 27, 3) := by decide +kernel
theorem dX11_readsFrom_9 : decode cX11_readsFrom 9 = .ok (.iload_n 1, 1) := by decide +kernel
theorem dX11_readsFrom_10 : decode cX11_readsFrom 10 = .ok (.iconst 3, 1) := by decide +kernel
theorem dX11_readsFrom_11 : decode cX11_readsFrom 11 = .ok (.invokevirtual 113, 3) := by decide +kernel
theorem dX11_readsFrom_14 : decode cX11_readsFrom 14 = .ok (.iconst (-1), 1) := by decide +kernel
theorem dX11_readsFrom_15 : decode cX11_readsFrom 15 = .ok (.if_icmp .eq 13, 3) := by decide +kernel
theorem dX11_readsFrom_18 : decode cX11_readsFrom 18 = .ok (.aload_n 0, 1) := by decide +kernel
theorem dX11_readsFrom_19 : decode cX11_readsFrom 19 = .ok (.getfield 75, 3) := by decide +kernel
theorem dX11_readsFrom_22 : decode cX11_readsFrom 22 = .ok (.invokevirtual 327, 3) := by decide +kernel
theorem dX11_readsFrom_25 : decode cX11_readsFrom 25 = .ok (.ifCond .ne 14, 3) := by decide +kernel
theorem dX11_readsFrom_28 : decode cX11_readsFrom 28 = .ok (.new 157, 3) := by decide +kernel
theorem dX11_readsFrom_31 : decode cX11_readsFrom 31 = .ok (.dup, 1) := by decide +kernel
theorem dX11_readsFrom_32 : decode cX11_readsFrom 32 = .ok (.ldc_w 330, 3) := by decide +kernel
theorem dX11_readsFrom_35 : decode cX11_readsFrom 35 = .ok (.invokespecial 161, 3) := by decide +kernel
theorem dX11_readsFrom_38 : decode cX11_readsFrom 38 = .ok (.athrow, 1) := by decide +kernel
theorem dX11_readsFrom_39 : decode cX11_readsFrom 39 = .ok (.aload_n 0, 1) := by decide +kernel
theorem dX11_readsFrom_40 : decode cX11_readsFrom 40 = .ok (.getfield 75, 3) := by decide +kernel
theorem dX11_readsFrom_43 : decode cX11_readsFrom 43 = .ok (.iload_n 1, 1) := by decide +kernel
theorem dX11_readsFrom_44 : decode cX11_readsFrom 44 = .ok (.invokevirtual 332, 3) := by decide +kernel
theorem dX11_readsFrom_47 : decode cX11_readsFrom 47 = .ok (.ireturn, 1) := by decide +kernel
theorem dX11_writtenBy_0 : decode cX11_writtenBy 0 = .ok (.aload_n 0, 1) := by decide +kernel
theorem dX11_writtenBy_1 : decode cX11_writtenBy 1 = .ok (.iload_n 1, 1) := by decide +kernel
theorem dX11_writtenBy_2 : decode cX11_writtenBy 2 = .ok (.invokevirtual 223, 3) := by decide +kernel
theorem dX11_writtenBy_5 : decode cX11_writtenBy 5 = .ok (.aload_n 0, 1) := by decide +kernel
theorem dX11_writtenBy_6 : decode cX11_writtenBy 6 = .ok (.getfield 75, 3) := by decide +kernel
theorem dX11_writtenBy_9 : decode cX11_writtenBy 9 = .ok (.iload_n 1, 1) := by decide +kernel
theorem dX11_writtenBy_10 : decode cX11_writtenBy 10 = .ok (.iload_n 2, 1) := by decide +kernel
theorem dX11_writtenBy_11 : decode cX11_writtenBy 11 = .ok (.invokevirtual 335, 3) := by decide +kernel
theorem dX11_writtenBy_14 : decode cX11_writtenBy 14 = .ok (.ireturn, 1) := by decide +kernel
theorem dX12_thrown_0 : decode cX12_thrown 0 = .ok (.aload_n 0, 1) := by decide +kernel
theorem dX12_thrown_1 : decode cX12_thrown 1 = .ok (.getfield 1, 3) := by decide +kernel
theorem dX12_thrown_4 : decode cX12_thrown 4 = .ok (.ireturn, 1) := by decide +kernel
theorem dX12_isIn_0 : decode cX12_isIn 0 = .ok (.iload_n 0, 1) := by decide +kernel
theorem dX12_isIn_1 : decode cX12_isIn 1 = .ok (.iload_n 1, 1) := by decide +kernel
theorem dX12_isIn_2 : decode cX12_isIn 2 = .ok (.if_icmp .lt 12, 3) := by decide +kernel
theorem dX12_isIn_5 : decode cX12_isIn 5 = .ok (.iload_n 0, 1) := by decide +kernel
theorem dX12_isIn_6 : decode cX12_isIn 6 = .ok (.iload_n 2, 1) := by decide +kernel
theorem dX12_isIn_7 : decode cX12_isIn 7 = .ok (.if_icmp .gt 7, 3) := by decide +kernel
theorem dX12_isIn_10 : decode cX12_isIn 10 = .ok (.iconst 1, 1) := by decide +kernel
theorem dX12_isIn_11 : decode cX12_isIn 11 = .ok (.goto 4, 3) := by decide +kernel
theorem dX12_isIn_14 : decode cX12_isIn 14 = .ok (.iconst 0, 1) := by decide +kernel
theorem dX12_isIn_15 : decode cX12_isIn 15 = .ok (.ireturn, 1) := by decide +kernel
theorem dX12_fails_0 : decode cX12_fails 0 = .ok (.aload_n 0, 1) := by decide +kernel
theorem dX12_fails_1 : decode cX12_fails 1 = .ok (.iload_n 1, 1) := by decide +kernel
theorem dX12_fails_2 : decode cX12_fails 2 = .ok (.ifCond .eq 7, 3) := by decide +kernel
theorem dX12_fails_5 : decode cX12_fails 5 = .ok (.iconst 1, 1) := by decide +kernel
theorem dX12_fails_6 : decode cX12_fails 6 = .ok (.goto 20, 3) := by decide +kernel
theorem dX12_fails_9 : decode cX12_fails 9 = .ok (.iload_n 2, 1) := by decide +kernel
theorem dX12_fails_10 : decode cX12_fails 10 = .ok (.ifCond .eq 7, 3) := by decide +kernel
theorem dX12_fails_13 : decode cX12_fails 13 = .ok (.iconst 2, 1) := by decide +kernel
theorem dX12_fails_14 : decode cX12_fails 14 = .ok (.goto 12, 3) := by decide +kernel
theorem dX12_fails_17 : decode cX12_fails 17 = .ok (.iload_n 3, 1) := by decide +kernel
theorem dX12_fails_18 : decode cX12_fails 18 = .ok (.ifCond .eq 7, 3) := by decide +kernel
theorem dX12_fails_21 : decode cX12_fails 21 = .ok (.iconst 3, 1) := by decide +kernel
theorem dX12_fails_22 : decode cX12_fails 22 = .ok (.goto 4, 3) := by decide +kernel
theorem dX12_fails_25 : decode cX12_fails 25 = .ok (.iconst 0, 1) := by decide +kernel
theorem dX12_fails_26 : decode cX12_fails 26 = .ok (.putfield 1, 3) := by decide +kernel
theorem dX12_fails_29 : decode cX12_fails 29 = .ok (.aload_n 0, 1) := by decide +kernel
theorem dX12_fails_30 : decode cX12_fails 30 = .ok (.getfield 1, 3) := by decide +kernel
theorem dX12_fails_33 : decode cX12_fails 33 = .ok (.ifCond .le 7, 3) := by decide +kernel
theorem dX12_fails_36 : decode cX12_fails 36 = .ok (.iconst 1, 1) := by decide +kernel
theorem dX12_fails_37 : decode cX12_fails 37 = .ok (.goto 4, 3) := by decide +kernel
theorem dX12_fails_40 : decode cX12_fails 40 = .ok (.iconst 0, 1) := by decide +kernel
theorem dX12_fails_41 : decode cX12_fails 41 = .ok (.ireturn, 1) := by decide +kernel
theorem dX12_init_0 : decode cX12_init 0 = .ok (.aload_n 0, 1) := by decide +kernel
theorem dX12_init_1 : decode cX12_init 1 = .ok (.invokespecial 7, 3) := by decide +kernel
theorem dX12_init_4 : decode cX12_init 4 = .ok (.aload_n 0, 1) := by decide +kernel
theorem dX12_init_5 : decode cX12_init 5 = .ok (.sipush 600, 3) := by decide +kernel
theorem dX12_init_8 : decode cX12_init 8 = .ok (.newarray .int, 2) := by decide +kernel
theorem dX12_init_10 : decode cX12_init 10 = .ok (.putfield 13, 3) := by decide +kernel
theorem dX12_init_13 : decode cX12_init 13 = .ok (.aload_n 0, 1) := by decide +kernel
theorem dX12_init_14 : decode cX12_init 14 = .ok (.sipush 174, 3) := by decide +kernel
theorem dX12_init_17 : decode cX12_init 17 = .ok (.newarray .int, 2) := by decide +kernel
theorem dX12_init_19 : decode cX12_init 19 = .ok (.putfield 17, 3) := by decide +kernel
theorem dX12_init_22 : decode cX12_init 22 = .ok (.aload_n 0, 1) := by decide +kernel
theorem dX12_init_23 : decode cX12_init 23 = .ok (.sipush 174, 3) := by decide +kernel
theorem dX12_init_26 : decode cX12_init 26 = .ok (.newarray .int, 2) := by decide +kernel
theorem dX12_init_28 : decode cX12_init 28 = .ok (.putfield 20, 3) := by decide +kernel
theorem dX12_init_31 : decode cX12_init 31 = .ok (.aload_n 0, 1) := by decide +kernel
theorem dX12_init_32 : decode cX12_init 32 = .ok (.sipush 1392, 3) := by decide +kernel
theorem dX12_init_35 : decode cX12_init 35 = .ok (.newarray .int, 2) := by decide +kernel
theorem dX12_init_37 : decode cX12_init 37 = .ok (.putfield 23, 3) := by decide +kernel
theorem dX12_init_40 : decode cX12_init 40 = .ok (.aload_n 0, 1) := by decide +kernel
theorem dX12_init_41 : decode cX12_init 41 = .ok (.bipush 24, 2) := by decide +kernel
theorem dX12_init_43 : decode cX12_init 43 = .ok (.newarray .int, 2) := by decide +kernel
theorem dX12_init_45 : decode cX12_init 45 = .ok (.putfield 26, 3) := by decide +kernel
theorem dX12_init_48 : decode cX12_init 48 = .ok (.aload_n 0, 1) := by decide +kernel
theorem dX12_init_49 : decode cX12_init 49 = .ok (.iconst 3, 1) := by decide +kernel
theorem dX12_init_50 : decode cX12_init 50 = .ok (.newarray .int, 2) := by decide +kernel
theorem dX12_init_52 : decode cX12_init 52 = .ok (.putfield 29, 3) := by decide +kernel
theorem dX12_init_55 : decode cX12_init 55 = .ok (.aload_n 0, 1) := by decide +kernel
theorem dX12_init_56 : decode cX12_init 56 = .ok (.bipush 24, 2) := by decide +kernel
theorem dX12_init_58 : decode cX12_init 58 = .ok (.newarray .int, 2) := by decide +kernel
theorem dX12_init_60 : decode cX12_init 60 = .ok (.putfield 32, 3) := by decide +kernel
theorem dX12_init_63 : decode cX12_init 63 = .ok (.aload_n 0, 1) := by decide +kernel
theorem dX12_init_64 : decode cX12_init 64 = .ok (.iconst 3, 1) := by decide +kernel
theorem dX12_init_65 : decode cX12_init 65 = .ok (.newarray .int, 2) := by decide +kernel
theorem dX12_init_67 : decode cX12_init 67 = .ok (.putfield 35, 3) := by decide +kernel
theorem dX12_init_70 : decode cX12_init 70 = .ok (.aload_n 0, 1) := by decide +kernel
theorem dX12_init_71 : decode cX12_init 71 = .ok (.bipush 40, 2) := by decide +kernel
theorem dX12_init_73 : decode cX12_init 73 = .ok (.newarray .int, 2) := by decide +kernel
theorem dX12_init_75 : decode cX12_init 75 = .ok (.putfield 38, 3) := by decide +kernel
theorem dX12_init_78 : decode cX12_init 78 = .ok (.aload_n 0, 1) := by decide +kernel
theorem dX12_init_79 : decode cX12_init 79 = .ok (.bipush 40, 2) := by decide +kernel
theorem dX12_init_81 : decode cX12_init 81 = .ok (.newarray .int, 2) := by decide +kernel
theorem dX12_init_83 : decode cX12_init 83 = .ok (.putfield 41, 3) := by decide +kernel
theorem dX12_init_86 : decode cX12_init 86 = .ok (.aload_n 0, 1) := by decide +kernel
theorem dX12_init_87 : decode cX12_init 87 = .ok (.bipush 40, 2) := by decide +kernel
theorem dX12_init_89 : decode cX12_init 89 = .ok (.newarray .int, 2) := by decide +kernel
theorem dX12_init_91 : decode cX12_init 91 = .ok (.putfield 44, 3) := by decide +kernel
theorem dX12_init_94 : decode cX12_init 94 = .ok (.aload_n 0, 1) := by decide +kernel
theorem dX12_init_95 : decode cX12_init 95 = .ok (.bipush 40, 2) := by decide +kernel
theorem dX12_init_97 : decode cX12_init 97 = .ok (.newarray .int, 2) := by decide +kernel
theorem dX12_init_99 : decode cX12_init 99 = .ok (.putfield 47, 3) := by decide +kernel
theorem dX12_init_102 : decode cX12_init 102 = .ok (.aload_n 0, 1) := by decide +kernel
theorem dX12_init_103 : decode cX12_init 103 = .ok (.bipush 40, 2) := by decide +kernel
theorem dX12_init_105 : decode cX12_init 105 = .ok (.newarray .int, 2) := by decide +kernel
theorem dX12_init_107 : decode cX12_init 107 = .ok (.putfield 50, 3) := by decide +kernel
theorem dX12_init_110 : decode cX12_init 110 = .ok (.aload_n 0, 1) := by decide +kernel
theorem dX12_init_111 : decode cX12_init 111 = .ok (.bipush 40, 2) := by decide +kernel
theorem dX12_init_113 : decode cX12_init 113 = .ok (.newarray .int, 2) := by decide +kernel
theorem dX12_init_115 : decode cX12_init 115 = .ok (.putfield 53, 3) := by decide +kernel
theorem dX12_init_118 : decode cX12_init 118 = .ok (.aload_n 0, 1) := by decide +kernel
theorem dX12_init_119 : decode cX12_init 119 = .ok (.bipush 40, 2) := by decide +kernel
theorem dX12_init_121 : decode cX12_init 121 = .ok (.newarray .int, 2) := by decide +kernel
theorem dX12_init_123 : decode cX12_init 123 = .ok (.putfield 56, 3) := by decide +kernel
theorem dX12_init_126 : decode cX12_init 126 = .ok (.aload_n 0, 1) := by decide +kernel
theorem dX12_init_127 : decode cX12_init 127 = .ok (.bipush 40, 2) := by decide +kernel
theorem dX12_init_129 : decode cX12_init 129 = .ok (.newarray .int, 2) := by decide +kernel
theorem dX12_init_131 : decode cX12_init 131 = .ok (.putfield 59, 3) := by decide +kernel
theorem dX12_init_134 : decode cX12_init 134 = .ok (.aload_n 0, 1) := by decide +kernel
theorem dX12_init_135 : decode cX12_init 135 = .ok (.bipush 40, 2) := by decide +kernel
theorem dX12_init_137 : decode cX12_init 137 = .ok (.newarray .int, 2) := by decide +kernel
theorem dX12_init_139 : decode cX12_init 139 = .ok (.putfield 62, 3) := by decide +kernel
theorem dX12_init_142 : decode cX12_init 142 = .ok (.aload_n 0, 1) := by decide +kernel
theorem dX12_init_143 : decode cX12_init 143 = .ok (.iconst 5, 1) := by decide +kernel
theorem dX12_init_144 : decode cX12_init 144 = .ok (.newarray .int, 2) := by decide +kernel
theorem dX12_init_146 : decode cX12_init 146 = .ok (.putfield 65, 3) := by decide +kernel
theorem dX12_init_149 : decode cX12_init 149 = .ok (.aload_n 0, 1) := by decide +kernel
theorem dX12_init_150 : decode cX12_init 150 = .ok (.ldc 68, 2) := by decide +kernel
theorem dX12_init_152 : decode cX12_init 152 = .ok (.newarray .long, 2) := by decide +kernel
theorem dX12_init_154 : decode cX12_init 154 = .ok (.putfield 69, 3) := by decide +kernel
theorem dX12_init_157 : decode cX12_init 157 = .ok (.aload_n 0, 1) := by decide +kernel
theorem dX12_init_158 : decode cX12_init 158 = .ok (.ldc 68, 2) := by decide +kernel
theorem dX12_init_160 : decode cX12_init 160 = .ok (.newarray .long, 2) := by decide +kernel
theorem dX12_init_162 : decode cX12_init 162 = .ok (.putfield 73, 3) := by decide +kernel
theorem dX12_init_165 : decode cX12_init 165 = .ok (.aload_n 0, 1) := by decide +kernel
theorem dX12_init_166 : decode cX12_init 166 = .ok (.ldc 68, 2) := by decide +kernel
theorem dX12_init_168 : decode cX12_init 168 = .ok (.newarray .int, 2) := by decide +kernel
theorem dX12_init_170 : decode cX12_init 170 = .ok (.putfield 76, 3) := by decide +kernel
theorem dX12_init_173 : decode cX12_init 173 = .ok (.aload_n 0, 1) := by decide +kernel
theorem dX12_init_174 : decode cX12_init 174 = .ok (.ldc 68, 2) := by decide +kernel
theorem dX12_init_176 : decode cX12_init 176 = .ok (.newarray .int, 2) := by decide +kernel
theorem dX12_init_178 : decode cX12_init 178 = .ok (.putfield 79, 3) := by decide +kernel
theorem dX12_init_181 : decode cX12_init 181 = .ok (.aload_n 0, 1) := by decide +kernel
theorem dX12_init_182 : decode cX12_init 182 = .ok (.ldc 68, 2) := by decide +kernel
theorem dX12_init_184 : decode cX12_init 184 = .ok (.newarray .int, 2) := by decide +kernel
theorem dX12_init_186 : decode cX12_init 186 = .ok (.putfield 82, 3) := by decide +kernel
theorem dX12_init_189 : decode cX12_init 189 = .ok (.aload_n 0, 1) := by decide +kernel
theorem dX12_init_190 : decode cX12_init 190 = .ok (.ldc 68, 2) := by decide +kernel
theorem dX12_init_192 : decode cX12_init 192 = .ok (.newarray .int, 2) := by decide +kernel
theorem dX12_init_194 : decode cX12_init 194 = .ok (.putfield 85, 3) := by decide +kernel
theorem dX12_init_197 : decode cX12_init 197 = .ok (.aload_n 0, 1) := by decide +kernel
theorem dX12_init_198 : decode cX12_init 198 = .ok (.ldc 68, 2) := by decide +kernel
theorem dX12_init_200 : decode cX12_init 200 = .ok (.newarray .long, 2) := by decide +kernel
theorem dX12_init_202 : decode cX12_init 202 = .ok (.putfield 88, 3) := by decide +kernel
theorem dX12_init_205 : decode cX12_init 205 = .ok (.aload_n 0, 1) := by decide +kernel
theorem dX12_init_206 : decode cX12_init 206 = .ok (.bipush 40, 2) := by decide +kernel
theorem dX12_init_208 : decode cX12_init 208 = .ok (.newarray .boolean, 2) := by decide +kernel
theorem dX12_init_210 : decode cX12_init 210 = .ok (.putfield 91, 3) := by decide +kernel
theorem dX12_init_213 : decode cX12_init 213 = .ok (.aload_n 0, 1) := by decide +kernel
theorem dX12_init_214 : decode cX12_init 214 = .ok (.bipush 60, 2) := by decide +kernel
theorem dX12_init_216 : decode cX12_init 216 = .ok (.newarray .int, 2) := by decide +kernel
theorem dX12_init_218 : decode cX12_init 218 = .ok (.putfield 95, 3) := by decide +kernel
theorem dX12_init_221 : decode cX12_init 221 = .ok (.aload_n 0, 1) := by decide +kernel
theorem dX12_init_222 : decode cX12_init 222 = .ok (.bipush 28, 2) := by decide +kernel
theorem dX12_init_224 : decode cX12_init 224 = .ok (.newarray .int, 2) := by decide +kernel
theorem dX12_init_226 : decode cX12_init 226 = .ok (.putfield 98, 3) := by decide +kernel
theorem dX12_init_229 : decode cX12_init 229 = .ok (.aload_n 0, 1) := by decide +kernel
theorem dX12_init_230 : decode cX12_init 230 = .ok (.sipush 180, 3) := by decide +kernel
theorem dX12_init_233 : decode cX12_init 233 = .ok (.newarray .int, 2) := by decide +kernel
theorem dX12_init_235 : decode cX12_init 235 = .ok (.putfield 101, 3) := by decide +kernel
theorem dX12_init_238 : decode cX12_init 238 = .ok (.aload_n 0, 1) := by decide +kernel
theorem dX12_init_239 : decode cX12_init 239 = .ok (.iconst 3, 1) := by decide +kernel
theorem dX12_init_240 : decode cX12_init 240 = .ok (.newarray .int, 2) := by decide +kernel
theorem dX12_init_242 : decode cX12_init 242 = .ok (.putfield 104, 3) := by decide +kernel
theorem dX12_init_245 : decode cX12_init 245 = .ok (.aload_n 0, 1) := by decide +kernel
theorem dX12_init_246 : decode cX12_init 246 = .ok (.iconst 3, 1) := by decide +kernel
theorem dX12_init_247 : decode cX12_init 247 = .ok (.newarray .int, 2) := by decide +kernel
theorem dX12_init_249 : decode cX12_init 249 = .ok (.putfield 107, 3) := by decide +kernel
theorem dX12_init_252 : decode cX12_init 252 = .ok (.aload_n 0, 1) := by decide +kernel
theorem dX12_init_253 : decode cX12_init 253 = .ok (.ldc 68, 2) := by decide +kernel
theorem dX12_init_255 : decode cX12_init 255 = .ok (.newarray .boolean, 2) := by decide +kernel
theorem dX12_init_257 : decode cX12_init 257 = .ok (.putfield 110, 3) := by decide +kernel
theorem dX12_init_260 : decode cX12_init 260 = .ok (.aload_n 0, 1) := by decide +kernel
theorem dX12_init_261 : decode cX12_init 261 = .ok (.sipush 1000, 3) := by decide +kernel
theorem dX12_init_264 : decode cX12_init 264 = .ok (.newarray .byte, 2) := by decide +kernel
theorem dX12_init_266 : decode cX12_init 266 = .ok (.putfield 113, 3) := by decide +kernel
theorem dX12_init_269 : decode cX12_init 269 = .ok (.return_, 1) := by decide +kernel
theorem dX12_adds_0 : decode cX12_adds 0 = .ok (.bipush 24, 2) := by decide +kernel
theorem dX12_adds_2 : decode cX12_adds 2 = .ok (.istore_n 2, 1) := by decide +kernel
theorem dX12_adds_3 : decode cX12_adds 3 = .ok (.iload_n 2, 1) := by decide +kernel
theorem dX12_adds_4 : decode cX12_adds 4 = .ok (.ifCond .lt 35, 3) := by decide +kernel
theorem dX12_adds_7 : decode cX12_adds 7 = .ok (.aload_n 0, 1) := by decide +kernel
theorem dX12_adds_8 : decode cX12_adds 8 = .ok (.getfield 13, 3) := by decide +kernel
theorem dX12_adds_11 : decode cX12_adds 11 = .ok (.aload_n 0, 1) := by decide +kernel
theorem dX12_adds_12 : decode cX12_adds 12 = .ok (.getfield 117, 3) := by decide +kernel
theorem dX12_adds_15 : decode cX12_adds 15 = .ok (.iload_n 1, 1) := by decide +kernel
theorem dX12_adds_16 : decode cX12_adds 16 = .ok (.iload_n 2, 1) := by decide +kernel
theorem dX12_adds_17 : decode cX12_adds 17 = .ok (.iushr, 1) := by decide +kernel
theorem dX12_adds_18 : decode cX12_adds 18 = .ok (.sipush 255, 3) := by decide +kernel
theorem dX12_adds_21 : decode cX12_adds 21 = .ok (.iand, 1) := by decide +kernel
theorem dX12_adds_22 : decode cX12_adds 22 = .ok (.iastore, 1) := by decide +kernel
theorem dX12_adds_23 : decode cX12_adds 23 = .ok (.aload_n 0, 1) := by decide +kernel
theorem dX12_adds_24 : decode cX12_adds 24 = .ok (.dup, 1) := by decide +kernel
theorem dX12_adds_25 : decode cX12_adds 25 = .ok (.getfield 117, 3) := by decide +kernel
theorem dX12_adds_28 : decode cX12_adds 28 = .ok (.iconst 1, 1) := by decide +kernel
theorem dX12_adds_29 : decode cX12_adds 29 = .ok (.iadd, 1) := by decide +kernel
theorem dX12_adds_30 : decode cX12_adds 30 = .ok (.putfield 117, 3) := by decide +kernel
theorem dX12_adds_33 : decode cX12_adds 33 = .ok (.iinc 2 (-8), 3) := by decide +kernel
theorem dX12_adds_36 : decode cX12_adds 36 = .ok (.goto (-33), 3) := by decide +kernel
theorem dX12_adds_39 : decode cX12_adds 39 = .ok (.return_, 1) := by decide +kernel
theorem dX12_append_0 : decode cX12_append 0 = .ok (.aload_n 0, 1) := by decide +kernel
theorem dX12_append_1 : decode cX12_append 1 = .ok (.iconst 0, 1) := by decide +kernel
theorem dX12_append_2 : decode cX12_append 2 = .ok (.putfield 1, 3) := by decide +kernel
theorem dX12_append_5 : decode cX12_append 5 = .ok (.aload_n 0, 1) := by decide +kernel
theorem dX12_append_6 : decode cX12_append 6 = .ok (.getfield 117, 3) := by decide +kernel
theorem dX12_append_9 : decode cX12_append 9 = .ok (.bipush 20, 2) := by decide +kernel
theorem dX12_append_11 : decode cX12_append 11 = .ok (.iadd, 1) := by decide +kernel
theorem dX12_append_12 : decode cX12_append 12 = .ok (.sipush 600, 3) := by decide +kernel
theorem dX12_append_15 : decode cX12_append 15 = .ok (.if_icmp .le 5, 3) := by decide +kernel
theorem dX12_append_18 : decode cX12_append 18 = .ok (.iconst (-1), 1) := by decide +kernel
theorem dX12_append_19 : decode cX12_append 19 = .ok (.ireturn, 1) := by decide +kernel
theorem dX12_append_20 : decode cX12_append 20 = .ok (.aload_n 0, 1) := by decide +kernel
theorem dX12_append_21 : decode cX12_append 21 = .ok (.iload_n 1, 1) := by decide +kernel
theorem dX12_append_22 : decode cX12_append 22 = .ok (.invokevirtual 120, 3) := by decide +kernel
theorem dX12_append_25 : decode cX12_append 25 = .ok (.aload_n 0, 1) := by decide +kernel
theorem dX12_append_26 : decode cX12_append 26 = .ok (.iload_n 2, 1) := by decide +kernel
theorem dX12_append_27 : decode cX12_append 27 = .ok (.invokevirtual 120, 3) := by decide +kernel
theorem dX12_append_30 : decode cX12_append 30 = .ok (.aload_n 0, 1) := by decide +kernel
theorem dX12_append_31 : decode cX12_append 31 = .ok (.iload_n 3, 1) := by decide +kernel
theorem dX12_append_32 : decode cX12_append 32 = .ok (.invokevirtual 120, 3) := by decide +kernel
theorem dX12_append_35 : decode cX12_append 35 = .ok (.aload_n 0, 1) := by decide +kernel
theorem dX12_append_36 : decode cX12_append 36 = .ok (.iload 4, 2) := by decide +kernel
theorem dX12_append_38 : decode cX12_append 38 = .ok (.invokevirtual 120, 3) := by decide +kernel
theorem dX12_append_41 : decode cX12_append 41 = .ok (.aload_n 0, 1) := by decide +kernel
theorem dX12_append_42 : decode cX12_append 42 = .ok (.iload 5, 2) := by decide +kernel
theorem dX12_append_44 : decode cX12_append 44 = .ok (.invokevirtual 120, 3) := by decide +kernel
theorem dX12_append_47 : decode cX12_append 47 = .ok (.aload_n 0, 1) := by decide +kernel
theorem dX12_append_48 : decode cX12_append 48 = .ok (.getfield 117, 3) := by decide +kernel
theorem dX12_append_51 : decode cX12_append 51 = .ok (.ireturn, 1) := by decide +kernel
theorem dX12_truncate_0 : decode cX12_truncate 0 = .ok (.aload_n 0, 1) := by decide +kernel
theorem dX12_truncate_1 : decode cX12_truncate 1 = .ok (.iconst 0, 1) := by decide +kernel
theorem dX12_truncate_2 : decode cX12_truncate 2 = .ok (.putfield 1, 3) := by decide +kernel
theorem dX12_truncate_5 : decode cX12_truncate 5 = .ok (.iload_n 1, 1) := by decide +kernel
theorem dX12_truncate_6 : decode cX12_truncate 6 = .ok (.iconst 0, 1) := by decide +kernel
theorem dX12_truncate_7 : decode cX12_truncate 7 = .ok (.aload_n 0, 1) := by decide +kernel
theorem dX12_truncate_8 : decode cX12_truncate 8 = .ok (.getfield 117, 3) := by decide +kernel
theorem dX12_truncate_11 : decode cX12_truncate 11 = .ok (.invokestatic 124, 3) := by decide +kernel
theorem dX12_truncate_14 : decode cX12_truncate 14 = .ok (.ifCond .ne 5, 3) := by decide +kernel
theorem dX12_truncate_17 : decode cX12_truncate 17 = .ok (.iconst 0, 1) := by decide +kernel
theorem dX12_truncate_18 : decode cX12_truncate 18 = .ok (.ireturn, 1) := by decide +kernel
theorem dX12_truncate_19 : decode cX12_truncate 19 = .ok (.aload_n 0, 1) := by decide +kernel
theorem dX12_truncate_20 : decode cX12_truncate 20 = .ok (.iload_n 1, 1) := by decide +kernel
theorem dX12_truncate_21 : decode cX12_truncate 21 = .ok (.putfield 117, 3) := by decide +kernel
theorem dX12_truncate_24 : decode cX12_truncate 24 = .ok (.iconst 1, 1) := by decide +kernel
theorem dX12_truncate_25 : decode cX12_truncate 25 = .ok (.ireturn, 1) := by decide +kernel
theorem dX12_bufferLength_0 : decode cX12_bufferLength 0 = .ok (.aload_n 0, 1) := by decide +kernel
theorem dX12_bufferLength_1 : decode cX12_bufferLength 1 = .ok (.iconst 0, 1) := by decide +kernel
theorem dX12_bufferLength_2 : decode cX12_bufferLength 2 = .ok (.putfield 1, 3) := by decide +kernel
theorem dX12_bufferLength_5 : decode cX12_bufferLength 5 = .ok (.aload_n 0, 1) := by decide +kernel
theorem dX12_bufferLength_6 : decode cX12_bufferLength 6 = .ok (.getfield 117, 3) := by decide +kernel
theorem dX12_bufferLength_9 : decode cX12_bufferLength 9 = .ok (.ireturn, 1) := by decide +kernel
theorem dX12_at_0 : decode cX12_at 0 = .ok (.aload_n 0, 1) := by decide +kernel
theorem dX12_at_1 : decode cX12_at 1 = .ok (.bipush 6, 2) := by decide +kernel
theorem dX12_at_3 : decode cX12_at 3 = .ok (.bipush 6, 2) := by decide +kernel
theorem dX12_at_5 : decode cX12_at 5 = .ok (.iload_n 1, 1) := by decide +kernel
theorem dX12_at_6 : decode cX12_at 6 = .ok (.imul, 1) := by decide +kernel
theorem dX12_at_7 : decode cX12_at 7 = .ok (.iadd, 1) := by decide +kernel
theorem dX12_at_8 : decode cX12_at 8 = .ok (.iload_n 2, 1) := by decide +kernel
theorem dX12_at_9 : decode cX12_at 9 = .ok (.iadd, 1) := by decide +kernel
theorem dX12_at_10 : decode cX12_at 10 = .ok (.iaload, 1) := by decide +kernel
theorem dX12_at_11 : decode cX12_at 11 = .ok (.ireturn, 1) := by decide +kernel
theorem dX12_of_0 : decode cX12_of 0 = .ok (.aload_n 0, 1) := by decide +kernel
theorem dX12_of_1 : decode cX12_of 1 = .ok (.getfield 17, 3) := by decide +kernel
theorem dX12_of_4 : decode cX12_of 4 = .ok (.iload_n 1, 1) := by decide +kernel
theorem dX12_of_5 : decode cX12_of 5 = .ok (.iload_n 2, 1) := by decide +kernel
theorem dX12_of_6 : decode cX12_of 6 = .ok (.invokestatic 128, 3) := by decide +kernel
theorem dX12_of_9 : decode cX12_of 9 = .ok (.ireturn, 1) := by decide +kernel
theorem dX12_isInstruction_0 : decode cX12_isInstruction 0 = .ok (.iload_n 1, 1) := by decide +kernel
theorem dX12_isInstruction_1 : decode cX12_isInstruction 1 = .ok (.iconst 0, 1) := by decide +kernel
theorem dX12_isInstruction_2 : decode cX12_isInstruction 2 = .ok (.aload_n 0, 1) := by decide +kernel
theorem dX12_isInstruction_3 : decode cX12_isInstruction 3 = .ok (.getfield 17, 3) := by decide +kernel
theorem dX12_isInstruction_6 : decode cX12_isInstruction 6 = .ok (.iconst 0, 1) := by decide +kernel
theorem dX12_isInstruction_7 : decode cX12_isInstruction 7 = .ok (.iaload, 1) := by decide +kernel
theorem dX12_isInstruction_8 : decode cX12_isInstruction 8 = .ok (.iconst 1, 1) := by decide +kernel
theorem dX12_isInstruction_9 : decode cX12_isInstruction 9 = .ok (.isub, 1) := by decide +kernel
theorem dX12_isInstruction_10 : decode cX12_isInstruction 10 = .ok (.invokestatic 124, 3) := by decide +kernel
theorem dX12_isInstruction_13 : decode cX12_isInstruction 13 = .ok (.ireturn, 1) := by decide +kernel
theorem dX12_remembers_0 : decode cX12_remembers 0 = .ok (.aload_n 0, 1) := by decide +kernel
theorem dX12_remembers_1 : decode cX12_remembers 1 = .ok (.getfield 132, 3) := by decide +kernel
theorem dX12_remembers_4 : decode cX12_remembers 4 = .ok (.bipush 8, 2) := by decide +kernel
theorem dX12_remembers_6 : decode cX12_remembers 6 = .ok (.if_icmp .ne 46, 3) := by decide +kernel
theorem dX12_remembers_9 : decode cX12_remembers 9 = .ok (.sipush 174, 3) := by decide +kernel
theorem dX12_remembers_12 : decode cX12_remembers 12 = .ok (.istore_n 1, 1) := by decide +kernel
theorem dX12_remembers_13 : decode cX12_remembers 13 = .ok (.iload_n 1, 1) := by decide +kernel
theorem dX12_remembers_14 : decode cX12_remembers 14 = .ok (.sipush 1392, 3) := by decide +kernel
theorem dX12_remembers_17 : decode cX12_remembers 17 = .ok (.if_icmp .ge 25, 3) := by decide +kernel
theorem dX12_remembers_20 : decode cX12_remembers 20 = .ok (.aload_n 0, 1) := by decide +kernel
theorem dX12_remembers_21 : decode cX12_remembers 21 = .ok (.getfield 23, 3) := by decide +kernel
theorem dX12_remembers_24 : decode cX12_remembers 24 = .ok (.iload_n 1, 1) := by decide +kernel
theorem dX12_remembers_25 : decode cX12_remembers 25 = .ok (.sipush 174, 3) := by decide +kernel
theorem dX12_remembers_28 : decode cX12_remembers 28 = .ok (.isub, 1) := by decide +kernel
theorem dX12_remembers_29 : decode cX12_remembers 29 = .ok (.aload_n 0, 1) := by decide +kernel
theorem dX12_remembers_30 : decode cX12_remembers 30 = .ok (.getfield 23, 3) := by decide +kernel
theorem dX12_remembers_33 : decode cX12_remembers 33 = .ok (.iload_n 1, 1) := by decide +kernel
theorem dX12_remembers_34 : decode cX12_remembers 34 = .ok (.iaload, 1) := by decide +kernel
theorem dX12_remembers_35 : decode cX12_remembers 35 = .ok (.iastore, 1) := by decide +kernel
theorem dX12_remembers_36 : decode cX12_remembers 36 = .ok (.iinc 1 1, 3) := by decide +kernel
theorem dX12_remembers_39 : decode cX12_remembers 39 = .ok (.goto (-26), 3) := by decide +kernel
theorem dX12_remembers_42 : decode cX12_remembers 42 = .ok (.aload_n 0, 1) := by decide +kernel
theorem dX12_remembers_43 : decode cX12_remembers 43 = .ok (.dup, 1) := by decide +kernel
theorem dX12_remembers_44 : decode cX12_remembers 44 = .ok (.getfield 132, 3) := by decide +kernel
theorem dX12_remembers_47 : decode cX12_remembers 47 = .ok (.iconst 1, 1) := by decide +kernel
theorem dX12_remembers_48 : decode cX12_remembers 48 = .ok (.isub, 1) := by decide +kernel
theorem dX12_remembers_49 : decode cX12_remembers 49 = .ok (.putfield 132, 3) := by decide +kernel
theorem dX12_remembers_52 : decode cX12_remembers 52 = .ok (.iconst 0, 1) := by decide +kernel
theorem dX12_remembers_53 : decode cX12_remembers 53 = .ok (.istore_n 1, 1) := by decide +kernel
theorem dX12_remembers_54 : decode cX12_remembers 54 = .ok (.iload_n 1, 1) := by decide +kernel
theorem dX12_remembers_55 : decode cX12_remembers 55 = .ok (.sipush 174, 3) := by decide +kernel
theorem dX12_remembers_58 : decode cX12_remembers 58 = .ok (.if_icmp .ge 30, 3) := by decide +kernel
theorem dX12_remembers_61 : decode cX12_remembers 61 = .ok (.aload_n 0, 1) := by decide +kernel
theorem dX12_remembers_62 : decode cX12_remembers 62 = .ok (.getfield 23, 3) := by decide +kernel
theorem dX12_remembers_65 : decode cX12_remembers 65 = .ok (.sipush 174, 3) := by decide +kernel
theorem dX12_remembers_68 : decode cX12_remembers 68 = .ok (.aload_n 0, 1) := by decide +kernel
theorem dX12_remembers_69 : decode cX12_remembers 69 = .ok (.getfield 132, 3) := by decide +kernel
theorem dX12_remembers_72 : decode cX12_remembers 72 = .ok (.imul, 1) := by decide +kernel
theorem dX12_remembers_73 : decode cX12_remembers 73 = .ok (.iload_n 1, 1) := by decide +kernel
theorem dX12_remembers_74 : decode cX12_remembers 74 = .ok (.iadd, 1) := by decide +kernel
theorem dX12_remembers_75 : decode cX12_remembers 75 = .ok (.aload_n 0, 1) := by decide +kernel
theorem dX12_remembers_76 : decode cX12_remembers 76 = .ok (.getfield 17, 3) := by decide +kernel
theorem dX12_remembers_79 : decode cX12_remembers 79 = .ok (.iload_n 1, 1) := by decide +kernel
theorem dX12_remembers_80 : decode cX12_remembers 80 = .ok (.iaload, 1) := by decide +kernel
theorem dX12_remembers_81 : decode cX12_remembers 81 = .ok (.iastore, 1) := by decide +kernel
theorem dX12_remembers_82 : decode cX12_remembers 82 = .ok (.iinc 1 1, 3) := by decide +kernel
theorem dX12_remembers_85 : decode cX12_remembers 85 = .ok (.goto (-31), 3) := by decide +kernel
theorem dX12_remembers_88 : decode cX12_remembers 88 = .ok (.aload_n 0, 1) := by decide +kernel
theorem dX12_remembers_89 : decode cX12_remembers 89 = .ok (.dup, 1) := by decide +kernel
theorem dX12_remembers_90 : decode cX12_remembers 90 = .ok (.getfield 132, 3) := by decide +kernel
theorem dX12_remembers_93 : decode cX12_remembers 93 = .ok (.iconst 1, 1) := by decide +kernel
theorem dX12_remembers_94 : decode cX12_remembers 94 = .ok (.iadd, 1) := by decide +kernel
theorem dX12_remembers_95 : decode cX12_remembers 95 = .ok (.putfield 132, 3) := by decide +kernel
theorem dX12_remembers_98 : decode cX12_remembers 98 = .ok (.aload_n 0, 1) := by decide +kernel
theorem dX12_remembers_99 : decode cX12_remembers 99 = .ok (.iconst 0, 1) := by decide +kernel
theorem dX12_remembers_100 : decode cX12_remembers 100 = .ok (.putfield 135, 3) := by decide +kernel
theorem dX12_remembers_103 : decode cX12_remembers 103 = .ok (.return_, 1) := by decide +kernel
theorem dX12_undo_0 : decode cX12_undo 0 = .ok (.aload_n 0, 1) := by decide +kernel
theorem dX12_undo_1 : decode cX12_undo 1 = .ok (.iconst 0, 1) := by decide +kernel
theorem dX12_undo_2 : decode cX12_undo 2 = .ok (.putfield 1, 3) := by decide +kernel
theorem dX12_undo_5 : decode cX12_undo 5 = .ok (.aload_n 0, 1) := by decide +kernel
theorem dX12_undo_6 : decode cX12_undo 6 = .ok (.getfield 132, 3) := by decide +kernel
theorem dX12_undo_9 : decode cX12_undo 9 = .ok (.ifCond .ne 5, 3) := by decide +kernel
theorem dX12_undo_12 : decode cX12_undo 12 = .ok (.iconst (-1), 1) := by decide +kernel
theorem dX12_undo_13 : decode cX12_undo 13 = .ok (.ireturn, 1) := by decide +kernel
theorem dX12_undo_14 : decode cX12_undo 14 = .ok (.aload_n 0, 1) := by decide +kernel
theorem dX12_undo_15 : decode cX12_undo 15 = .ok (.dup, 1) := by decide +kernel
theorem dX12_undo_16 : decode cX12_undo 16 = .ok (.getfield 132, 3) := by decide +kernel
theorem dX12_undo_19 : decode cX12_undo 19 = .ok (.iconst 1, 1) := by decide +kernel
theorem dX12_undo_20 : decode cX12_undo 20 = .ok (.isub, 1) := by decide +kernel
theorem dX12_undo_21 : decode cX12_undo 21 = .ok (.putfield 132, 3) := by decide +kernel
theorem dX12_undo_24 : decode cX12_undo 24 = .ok (.iconst 0, 1) := by decide +kernel
theorem dX12_undo_25 : decode cX12_undo 25 = .ok (.istore_n 1, 1) := by decide +kernel
theorem dX12_undo_26 : decode cX12_undo 26 = .ok (.iload_n 1, 1) := by decide +kernel
theorem dX12_undo_27 : decode cX12_undo 27 = .ok (.sipush 174, 3) := by decide +kernel
theorem dX12_undo_30 : decode cX12_undo 30 = .ok (.if_icmp .ge 30, 3) := by decide +kernel
theorem dX12_undo_33 : decode cX12_undo 33 = .ok (.aload_n 0, 1) := by decide +kernel
theorem dX12_undo_34 : decode cX12_undo 34 = .ok (.getfield 17, 3) := by decide +kernel
theorem dX12_undo_37 : decode cX12_undo 37 = .ok (.iload_n 1, 1) := by decide +kernel
theorem dX12_undo_38 : decode cX12_undo 38 = .ok (.aload_n 0, 1) := by decide +kernel
theorem dX12_undo_39 : decode cX12_undo 39 = .ok (.getfield 23, 3) := by decide +kernel
theorem dX12_undo_42 : decode cX12_undo 42 = .ok (.sipush 174, 3) := by decide +kernel
theorem dX12_undo_45 : decode cX12_undo 45 = .ok (.aload_n 0, 1) := by decide +kernel
theorem dX12_undo_46 : decode cX12_undo 46 = .ok (.getfield 132, 3) := by decide +kernel
theorem dX12_undo_49 : decode cX12_undo 49 = .ok (.imul, 1) := by decide +kernel
theorem dX12_undo_50 : decode cX12_undo 50 = .ok (.iload_n 1, 1) := by decide +kernel
theorem dX12_undo_51 : decode cX12_undo 51 = .ok (.iadd, 1) := by decide +kernel
theorem dX12_undo_52 : decode cX12_undo 52 = .ok (.iaload, 1) := by decide +kernel
theorem dX12_undo_53 : decode cX12_undo 53 = .ok (.iastore, 1) := by decide +kernel
theorem dX12_undo_54 : decode cX12_undo 54 = .ok (.iinc 1 1, 3) := by decide +kernel
theorem dX12_undo_57 : decode cX12_undo 57 = .ok (.goto (-31), 3) := by decide +kernel
theorem dX12_undo_60 : decode cX12_undo 60 = .ok (.aload_n 0, 1) := by decide +kernel
theorem dX12_undo_61 : decode cX12_undo 61 = .ok (.iconst 0, 1) := by decide +kernel
theorem dX12_undo_62 : decode cX12_undo 62 = .ok (.putfield 135, 3) := by decide +kernel
theorem dX12_undo_65 : decode cX12_undo 65 = .ok (.aload_n 0, 1) := by decide +kernel
theorem dX12_undo_66 : decode cX12_undo 66 = .ok (.getfield 132, 3) := by decide +kernel
theorem dX12_undo_69 : decode cX12_undo 69 = .ok (.ireturn, 1) := by decide +kernel
theorem dX12_byteAt_0 : decode cX12_byteAt 0 = .ok (.iload_n 1, 1) := by decide +kernel
theorem dX12_byteAt_1 : decode cX12_byteAt 1 = .ok (.aload_n 0, 1) := by decide +kernel
theorem dX12_byteAt_2 : decode cX12_byteAt 2 = .ok (.getfield 139, 3) := by decide +kernel
theorem dX12_byteAt_5 : decode cX12_byteAt 5 = .ok (.if_icmp .ge 12, 3) := by decide +kernel
theorem dX12_byteAt_8 : decode cX12_byteAt 8 = .ok (.aload_n 0, 1) := by decide +kernel
theorem dX12_byteAt_9 : decode cX12_byteAt 9 = .ok (.getfield 13, 3) := by decide +kernel
theorem dX12_byteAt_12 : decode cX12_byteAt 12 = .ok (.iload_n 1, 1) := by decide +kernel
theorem dX12_byteAt_13 : decode cX12_byteAt 13 = .ok (.iaload, 1) := by decide +kernel
theorem dX12_byteAt_14 : decode cX12_byteAt 14 = .ok (.goto 4, 3) := by decide +kernel
theorem dX12_byteAt_17 : decode cX12_byteAt 17 = .ok (.iconst (-1), 1) := by decide +kernel
theorem dX12_byteAt_18 : decode cX12_byteAt 18 = .ok (.ireturn, 1) := by decide +kernel
theorem dX12_isSmall_0 : decode cX12_isSmall 0 = .ok (.iload_n 0, 1) := by decide +kernel
theorem dX12_isSmall_1 : decode cX12_isSmall 1 = .ok (.bipush 97, 2) := by decide +kernel
theorem dX12_isSmall_3 : decode cX12_isSmall 3 = .ok (.if_icmp .lt 13, 3) := by decide +kernel
theorem dX12_isSmall_6 : decode cX12_isSmall 6 = .ok (.iload_n 0, 1) := by decide +kernel
theorem dX12_isSmall_7 : decode cX12_isSmall 7 = .ok (.bipush 122, 2) := by decide +kernel
theorem dX12_isSmall_9 : decode cX12_isSmall 9 = .ok (.if_icmp .gt 7, 3) := by decide +kernel
theorem dX12_isSmall_12 : decode cX12_isSmall 12 = .ok (.iconst 1, 1) := by decide +kernel
theorem dX12_isSmall_13 : decode cX12_isSmall 13 = .ok (.goto 4, 3) := by decide +kernel
theorem dX12_isSmall_16 : decode cX12_isSmall 16 = .ok (.iconst 0, 1) := by decide +kernel
theorem dX12_isSmall_17 : decode cX12_isSmall 17 = .ok (.ireturn, 1) := by decide +kernel
theorem dX12_isDigit_0 : decode cX12_isDigit 0 = .ok (.iload_n 0, 1) := by decide +kernel
theorem dX12_isDigit_1 : decode cX12_isDigit 1 = .ok (.bipush 48, 2) := by decide +kernel
theorem dX12_isDigit_3 : decode cX12_isDigit 3 = .ok (.if_icmp .lt 13, 3) := by decide +kernel
theorem dX12_isDigit_6 : decode cX12_isDigit 6 = .ok (.iload_n 0, 1) := by decide +kernel
theorem dX12_isDigit_7 : decode cX12_isDigit 7 = .ok (.bipush 57, 2) := by decide +kernel
theorem dX12_isDigit_9 : decode cX12_isDigit 9 = .ok (.if_icmp .gt 7, 3) := by decide +kernel
theorem dX12_isDigit_12 : decode cX12_isDigit 12 = .ok (.iconst 1, 1) := by decide +kernel
theorem dX12_isDigit_13 : decode cX12_isDigit 13 = .ok (.goto 4, 3) := by decide +kernel
theorem dX12_isDigit_16 : decode cX12_isDigit 16 = .ok (.iconst 0, 1) := by decide +kernel
theorem dX12_isDigit_17 : decode cX12_isDigit 17 = .ok (.ireturn, 1) := by decide +kernel
theorem dX12_starts_0 : decode cX12_starts 0 = .ok (.aload_n 0, 1) := by decide +kernel
theorem dX12_starts_1 : decode cX12_starts 1 = .ok (.iconst 0, 1) := by decide +kernel
theorem dX12_starts_2 : decode cX12_starts 2 = .ok (.putfield 1, 3) := by decide +kernel
theorem dX12_starts_5 : decode cX12_starts 5 = .ok (.aload_n 0, 1) := by decide +kernel
theorem dX12_starts_6 : decode cX12_starts 6 = .ok (.aload_n 0, 1) := by decide +kernel
theorem dX12_starts_7 : decode cX12_starts 7 = .ok (.getfield 117, 3) := by decide +kernel
theorem dX12_starts_10 : decode cX12_starts 10 = .ok (.putfield 139, 3) := by decide +kernel
theorem dX12_starts_13 : decode cX12_starts 13 = .ok (.aload_n 0, 1) := by decide +kernel
theorem dX12_starts_14 : decode cX12_starts 14 = .ok (.iconst 0, 1) := by decide +kernel
theorem dX12_starts_15 : decode cX12_starts 15 = .ok (.putfield 117, 3) := by decide +kernel
theorem dX12_starts_18 : decode cX12_starts 18 = .ok (.aload_n 0, 1) := by decide +kernel
theorem dX12_starts_19 : decode cX12_starts 19 = .ok (.iconst 0, 1) := by decide +kernel
theorem dX12_starts_20 : decode cX12_starts 20 = .ok (.putfield 142, 3) := by decide +kernel
theorem dX12_starts_23 : decode cX12_starts 23 = .ok (.return_, 1) := by decide +kernel
theorem dX12_goWord_0 : decode cX12_goWord 0 = .ok (.iconst 1, 1) := by decide +kernel
theorem dX12_goWord_1 : decode cX12_goWord 1 = .ok (.istore_n 1, 1) := by decide +kernel
theorem dX12_goWord_2 : decode cX12_goWord 2 = .ok (.aload_n 0, 1) := by decide +kernel
theorem dX12_goWord_3 : decode cX12_goWord 3 = .ok (.aload_n 0, 1) := by decide +kernel
theorem dX12_goWord_4 : decode cX12_goWord 4 = .ok (.getfield 142, 3) := by decide +kernel
theorem dX12_goWord_7 : decode cX12_goWord 7 = .ok (.invokevirtual 145, 3) := by decide +kernel
theorem dX12_goWord_10 : decode cX12_goWord 10 = .ok (.invokestatic 149, 3) := by decide +kernel
theorem dX12_goWord_13 : decode cX12_goWord 13 = .ok (.ifCond .ne 17, 3) := by decide +kernel
theorem dX12_goWord_16 : decode cX12_goWord 16 = .ok (.aload_n 0, 1) := by decide +kernel
theorem dX12_goWord_17 : decode cX12_goWord 17 = .ok (.aload_n 0, 1) := by decide +kernel
theorem dX12_goWord_18 : decode cX12_goWord 18 = .ok (.getfield 142, 3) := by decide +kernel
theorem dX12_goWord_21 : decode cX12_goWord 21 = .ok (.invokevirtual 145, 3) := by decide +kernel
theorem dX12_goWord_24 : decode cX12_goWord 24 = .ok (.invokestatic 153, 3) := by decide +kernel
theorem dX12_goWord_27 : decode cX12_goWord 27 = .ok (.ifCond .eq 41, 3) := by decide +kernel
theorem dX12_goWord_30 : decode cX12_goWord 30 = .ok (.iload_n 1, 1) := by decide +kernel
theorem dX12_goWord_31 : decode cX12_goWord 31 = .ok (.ifCond .eq 22, 3) := by decide +kernel
theorem dX12_goWord_34 : decode cX12_goWord 34 = .ok (.aload_n 0, 1) := by decide +kernel
theorem dX12_goWord_35 : decode cX12_goWord 35 = .ok (.getfield 13, 3) := by decide +kernel
theorem dX12_goWord_38 : decode cX12_goWord 38 = .ok (.aload_n 0, 1) := by decide +kernel
theorem dX12_goWord_39 : decode cX12_goWord 39 = .ok (.getfield 142, 3) := by decide +kernel
theorem dX12_goWord_42 : decode cX12_goWord 42 = .ok (.iaload, 1) := by decide +kernel
theorem dX12_goWord_43 : decode cX12_goWord 43 = .ok (.invokestatic 149, 3) := by decide +kernel
theorem dX12_goWord_46 : decode cX12_goWord 46 = .ok (.ifCond .eq 7, 3) := by decide +kernel
theorem dX12_goWord_49 : decode cX12_goWord 49 = .ok (.iconst 1, 1) := by decide +kernel
theorem dX12_goWord_50 : decode cX12_goWord 50 = .ok (.goto 4, 3) := by decide +kernel
theorem dX12_goWord_53 : decode cX12_goWord 53 = .ok (.iconst 0, 1) := by decide +kernel
theorem dX12_goWord_54 : decode cX12_goWord 54 = .ok (.istore_n 1, 1) := by decide +kernel
theorem dX12_goWord_55 : decode cX12_goWord 55 = .ok (.aload_n 0, 1) := by decide +kernel
theorem dX12_goWord_56 : decode cX12_goWord 56 = .ok (.dup, 1) := by decide +kernel
theorem dX12_goWord_57 : decode cX12_goWord 57 = .ok (.getfield 142, 3) := by decide +kernel
theorem dX12_goWord_60 : decode cX12_goWord 60 = .ok (.iconst 1, 1) := by decide +kernel
theorem dX12_goWord_61 : decode cX12_goWord 61 = .ok (.iadd, 1) := by decide +kernel
theorem dX12_goWord_62 : decode cX12_goWord 62 = .ok (.putfield 142, 3) := by decide +kernel
theorem dX12_goWord_65 : decode cX12_goWord 65 = .ok (.goto (-63), 3) := by decide +kernel
theorem dX12_goWord_68 : decode cX12_goWord 68 = .ok (.aload_n 0, 1) := by decide +kernel
theorem dX12_goWord_69 : decode cX12_goWord 69 = .ok (.getfield 142, 3) := by decide +kernel
theorem dX12_goWord_72 : decode cX12_goWord 72 = .ok (.aload_n 0, 1) := by decide +kernel
theorem dX12_goWord_73 : decode cX12_goWord 73 = .ok (.getfield 156, 3) := by decide +kernel
theorem dX12_goWord_76 : decode cX12_goWord 76 = .ok (.isub, 1) := by decide +kernel
theorem dX12_goWord_77 : decode cX12_goWord 77 = .ok (.iconst 2, 1) := by decide +kernel
theorem dX12_goWord_78 : decode cX12_goWord 78 = .ok (.if_icmp .ne 53, 3) := by decide +kernel
theorem dX12_goWord_81 : decode cX12_goWord 81 = .ok (.aload_n 0, 1) := by decide +kernel
theorem dX12_goWord_82 : decode cX12_goWord 82 = .ok (.getfield 13, 3) := by decide +kernel
theorem dX12_goWord_85 : decode cX12_goWord 85 = .ok (.aload_n 0, 1) := by decide +kernel
theorem dX12_goWord_86 : decode cX12_goWord 86 = .ok (.getfield 156, 3) := by decide +kernel
theorem dX12_goWord_89 : decode cX12_goWord 89 = .ok (.iaload, 1) := by decide +kernel
theorem dX12_goWord_90 : decode cX12_goWord 90 = .ok (.bipush 114, 2) := by decide +kernel
theorem dX12_goWord_92 : decode cX12_goWord 92 = .ok (.if_icmp .ne 39, 3) := by decide +kernel
theorem dX12_goWord_95 : decode cX12_goWord 95 = .ok (.aload_n 0, 1) := by decide +kernel
theorem dX12_goWord_96 : decode cX12_goWord 96 = .ok (.getfield 13, 3) := by decide +kernel
theorem dX12_goWord_99 : decode cX12_goWord 99 = .ok (.aload_n 0, 1) := by decide +kernel
theorem dX12_goWord_100 : decode cX12_goWord 100 = .ok (.getfield 156, 3) := by decide +kernel
theorem dX12_goWord_103 : decode cX12_goWord 103 = .ok (.iconst 1, 1) := by decide +kernel
theorem dX12_goWord_104 : decode cX12_goWord 104 = .ok (.iadd, 1) := by decide +kernel
theorem dX12_goWord_105 : decode cX12_goWord 105 = .ok (.iaload, 1) := by decide +kernel
theorem dX12_goWord_106 : decode cX12_goWord 106 = .ok (.bipush 48, 2) := by decide +kernel
theorem dX12_goWord_108 : decode cX12_goWord 108 = .ok (.if_icmp .eq 19, 3) := by decide +kernel
theorem dX12_goWord_111 : decode cX12_goWord 111 = .ok (.aload_n 0, 1) := by decide +kernel
theorem dX12_goWord_112 : decode cX12_goWord 112 = .ok (.getfield 13, 3) := by decide +kernel
theorem dX12_goWord_115 : decode cX12_goWord 115 = .ok (.aload_n 0, 1) := by decide +kernel
theorem dX12_goWord_116 : decode cX12_goWord 116 = .ok (.getfield 156, 3) := by decide +kernel
theorem dX12_goWord_119 : decode cX12_goWord 119 = .ok (.iconst 1, 1) := by decide +kernel
theorem dX12_goWord_120 : decode cX12_goWord 120 = .ok (.iadd, 1) := by decide +kernel
theorem dX12_goWord_121 : decode cX12_goWord 121 = .ok (.iaload, 1) := by decide +kernel
theorem dX12_goWord_122 : decode cX12_goWord 122 = .ok (.bipush 49, 2) := by decide +kernel
theorem dX12_goWord_124 : decode cX12_goWord 124 = .ok (.if_icmp .ne 7, 3) := by decide +kernel
theorem dX12_goWord_127 : decode cX12_goWord 127 = .ok (.iconst 1, 1) := by decide +kernel
theorem dX12_goWord_128 : decode cX12_goWord 128 = .ok (.goto 4, 3) := by decide +kernel
theorem dX12_goWord_131 : decode cX12_goWord 131 = .ok (.iconst 0, 1) := by decide +kernel
theorem dX12_goWord_132 : decode cX12_goWord 132 = .ok (.istore_n 2, 1) := by decide +kernel
theorem dX12_goWord_133 : decode cX12_goWord 133 = .ok (.aload_n 0, 1) := by decide +kernel
theorem dX12_goWord_134 : decode cX12_goWord 134 = .ok (.iload_n 2, 1) := by decide +kernel
theorem dX12_goWord_135 : decode cX12_goWord 135 = .ok (.ifCond .eq 20, 3) := by decide +kernel
theorem dX12_goWord_138 : decode cX12_goWord 138 = .ok (.aload_n 0, 1) := by decide +kernel
theorem dX12_goWord_139 : decode cX12_goWord 139 = .ok (.getfield 13, 3) := by decide +kernel
theorem dX12_goWord_142 : decode cX12_goWord 142 = .ok (.aload_n 0, 1) := by decide +kernel
theorem dX12_goWord_143 : decode cX12_goWord 143 = .ok (.getfield 156, 3) := by decide +kernel
theorem dX12_goWord_146 : decode cX12_goWord 146 = .ok (.iconst 1, 1) := by decide +kernel
theorem dX12_goWord_147 : decode cX12_goWord 147 = .ok (.iadd, 1) := by decide +kernel
theorem dX12_goWord_148 : decode cX12_goWord 148 = .ok (.iaload, 1) := by decide +kernel
theorem dX12_goWord_149 : decode cX12_goWord 149 = .ok (.bipush 48, 2) := by decide +kernel
theorem dX12_goWord_151 : decode cX12_goWord 151 = .ok (.isub, 1) := by decide +kernel
theorem dX12_goWord_152 : decode cX12_goWord 152 = .ok (.goto 4, 3) := by decide +kernel
theorem dX12_goWord_155 : decode cX12_goWord 155 = .ok (.iconst 0, 1) := by decide +kernel
theorem dX12_goWord_156 : decode cX12_goWord 156 = .ok (.putfield 159, 3) := by decide +kernel
theorem dX12_goWord_159 : decode cX12_goWord 159 = .ok (.aload_n 0, 1) := by decide +kernel
theorem dX12_goWord_160 : decode cX12_goWord 160 = .ok (.iload_n 2, 1) := by decide +kernel
theorem dX12_goWord_161 : decode cX12_goWord 161 = .ok (.ifCond .eq 7, 3) := by decide +kernel
theorem dX12_goWord_164 : decode cX12_goWord 164 = .ok (.iconst 3, 1) := by decide +kernel
theorem dX12_goWord_165 : decode cX12_goWord 165 = .ok (.goto 26, 3) := by decide +kernel
theorem dX12_goWord_168 : decode cX12_goWord 168 = .ok (.iload_n 1, 1) := by decide +kernel
theorem dX12_goWord_169 : decode cX12_goWord 169 = .ok (.ifCond .eq 21, 3) := by decide +kernel
theorem dX12_goWord_172 : decode cX12_goWord 172 = .ok (.aload_n 0, 1) := by decide +kernel
theorem dX12_goWord_173 : decode cX12_goWord 173 = .ok (.getfield 142, 3) := by decide +kernel
theorem dX12_goWord_176 : decode cX12_goWord 176 = .ok (.aload_n 0, 1) := by decide +kernel
theorem dX12_goWord_177 : decode cX12_goWord 177 = .ok (.getfield 156, 3) := by decide +kernel
theorem dX12_goWord_180 : decode cX12_goWord 180 = .ok (.isub, 1) := by decide +kernel
theorem dX12_goWord_181 : decode cX12_goWord 181 = .ok (.bipush 8, 2) := by decide +kernel
theorem dX12_goWord_183 : decode cX12_goWord 183 = .ok (.if_icmp .gt 7, 3) := by decide +kernel
theorem dX12_goWord_186 : decode cX12_goWord 186 = .ok (.iconst 2, 1) := by decide +kernel
theorem dX12_goWord_187 : decode cX12_goWord 187 = .ok (.goto 4, 3) := by decide +kernel
theorem dX12_goWord_190 : decode cX12_goWord 190 = .ok (.iconst 1, 1) := by decide +kernel
theorem dX12_goWord_191 : decode cX12_goWord 191 = .ok (.putfield 162, 3) := by decide +kernel
theorem dX12_goWord_194 : decode cX12_goWord 194 = .ok (.return_, 1) := by decide +kernel
theorem dX12_go_0 : decode cX12_go 0 = .ok (.aload_n 0, 1) := by decide +kernel
theorem dX12_go_1 : decode cX12_go 1 = .ok (.aload_n 0, 1) := by decide +kernel
theorem dX12_go_2 : decode cX12_go 2 = .ok (.getfield 142, 3) := by decide +kernel
theorem dX12_go_5 : decode cX12_go 5 = .ok (.invokevirtual 145, 3) := by decide +kernel
theorem dX12_go_8 : decode cX12_go 8 = .ok (.bipush 32, 2) := by decide +kernel
theorem dX12_go_10 : decode cX12_go 10 = .ok (.if_icmp .eq 16, 3) := by decide +kernel
theorem dX12_go_13 : decode cX12_go 13 = .ok (.aload_n 0, 1) := by decide +kernel
theorem dX12_go_14 : decode cX12_go 14 = .ok (.aload_n 0, 1) := by decide +kernel
theorem dX12_go_15 : decode cX12_go 15 = .ok (.getfield 142, 3) := by decide +kernel
theorem dX12_go_18 : decode cX12_go 18 = .ok (.invokevirtual 145, 3) := by decide +kernel
theorem dX12_go_21 : decode cX12_go 21 = .ok (.bipush 10, 2) := by decide +kernel
theorem dX12_go_23 : decode cX12_go 23 = .ok (.if_icmp .ne 16, 3) := by decide +kernel
theorem dX12_go_26 : decode cX12_go 26 = .ok (.aload_n 0, 1) := by decide +kernel
theorem dX12_go_27 : decode cX12_go 27 = .ok (.dup, 1) := by decide +kernel
theorem dX12_go_28 : decode cX12_go 28 = .ok (.getfield 142, 3) := by decide +kernel
theorem dX12_go_31 : decode cX12_go 31 = .ok (.iconst 1, 1) := by decide +kernel
theorem dX12_go_32 : decode cX12_go 32 = .ok (.iadd, 1) := by decide +kernel
theorem dX12_go_33 : decode cX12_go 33 = .ok (.putfield 142, 3) := by decide +kernel
theorem dX12_go_36 : decode cX12_go 36 = .ok (.goto (-36), 3) := by decide +kernel
theorem dX12_go_39 : decode cX12_go 39 = .ok (.aload_n 0, 1) := by decide +kernel
theorem dX12_go_40 : decode cX12_go 40 = .ok (.aload_n 0, 1) := by decide +kernel
theorem dX12_go_41 : decode cX12_go 41 = .ok (.getfield 142, 3) := by decide +kernel
theorem dX12_go_44 : decode cX12_go 44 = .ok (.putfield 156, 3) := by decide +kernel
theorem dX12_go_47 : decode cX12_go 47 = .ok (.aload_n 0, 1) := by decide +kernel
theorem dX12_go_48 : decode cX12_go 48 = .ok (.aload_n 0, 1) := by decide +kernel
theorem dX12_go_49 : decode cX12_go 49 = .ok (.getfield 142, 3) := by decide +kernel
theorem dX12_go_52 : decode cX12_go 52 = .ok (.invokevirtual 145, 3) := by decide +kernel
theorem dX12_go_55 : decode cX12_go 55 = .ok (.istore_n 1, 1) := by decide +kernel
theorem dX12_go_56 : decode cX12_go 56 = .ok (.iload_n 1, 1) := by decide +kernel
theorem dX12_go_57 : decode cX12_go 57 = .ok (.iconst (-1), 1) := by decide +kernel
theorem dX12_go_58 : decode cX12_go 58 = .ok (.if_icmp .ne 11, 3) := by decide +kernel
theorem dX12_go_61 : decode cX12_go 61 = .ok (.aload_n 0, 1) := by decide +kernel
theorem dX12_go_62 : decode cX12_go 62 = .ok (.iconst 0, 1) := by decide +kernel
theorem dX12_go_63 : decode cX12_go 63 = .ok (.putfield 162, 3) := by decide +kernel
theorem dX12_go_66 : decode cX12_go 66 = .ok (.goto 173, 3) := by decide +kernel
theorem dX12_go_69 : decode cX12_go 69 = .ok (.iload_n 1, 1) := by decide +kernel
theorem dX12_go_70 : decode cX12_go 70 = .ok (.invokestatic 149, 3) := by decide +kernel
theorem dX12_go_73 : decode cX12_go 73 = .ok (.ifCond .eq 10, 3) := by decide +kernel
theorem dX12_go_76 : decode cX12_go 76 = .ok (.aload_n 0, 1) := by decide +kernel
theorem dX12_go_77 : decode cX12_go 77 = .ok (.invokevirtual 165, 3) := by decide +kernel
theorem dX12_go_80 : decode cX12_go 80 = .ok (.goto 159, 3) := by decide +kernel
theorem dX12_go_83 : decode cX12_go 83 = .ok (.iload_n 1, 1) := by decide +kernel
theorem dX12_go_84 : decode cX12_go 84 = .ok (.invokestatic 153, 3) := by decide +kernel
theorem dX12_go_87 : decode cX12_go 87 = .ok (.ifCond .eq 97, 3) := by decide +kernel
theorem dX12_go_90 : decode cX12_go 90 = .ok (.aload_n 0, 1) := by decide +kernel
theorem dX12_go_91 : decode cX12_go 91 = .ok (.iconst 0, 1) := by decide +kernel
theorem dX12_go_92 : decode cX12_go 92 = .ok (.putfield 159, 3) := by decide +kernel
theorem dX12_go_95 : decode cX12_go 95 = .ok (.aload_n 0, 1) := by decide +kernel
theorem dX12_go_96 : decode cX12_go 96 = .ok (.aload_n 0, 1) := by decide +kernel
theorem dX12_go_97 : decode cX12_go 97 = .ok (.getfield 142, 3) := by decide +kernel
theorem dX12_go_100 : decode cX12_go 100 = .ok (.invokevirtual 145, 3) := by decide +kernel
theorem dX12_go_103 : decode cX12_go 103 = .ok (.invokestatic 153, 3) := by decide +kernel
theorem dX12_go_106 : decode cX12_go 106 = .ok (.ifCond .eq 53, 3) := by decide +kernel
theorem dX12_go_109 : decode cX12_go 109 = .ok (.aload_n 0, 1) := by decide +kernel
theorem dX12_go_110 : decode cX12_go 110 = .ok (.getfield 142, 3) := by decide +kernel
theorem dX12_go_113 : decode cX12_go 113 = .ok (.aload_n 0, 1) := by decide +kernel
theorem dX12_go_114 : decode cX12_go 114 = .ok (.getfield 156, 3) := by decide +kernel
theorem dX12_go_117 : decode cX12_go 117 = .ok (.isub, 1) := by decide +kernel
theorem dX12_go_118 : decode cX12_go 118 = .ok (.iconst 2, 1) := by decide +kernel
theorem dX12_go_119 : decode cX12_go 119 = .ok (.if_icmp .ge 27, 3) := by decide +kernel
theorem dX12_go_122 : decode cX12_go 122 = .ok (.aload_n 0, 1) := by decide +kernel
theorem dX12_go_123 : decode cX12_go 123 = .ok (.bipush 10, 2) := by decide +kernel
theorem dX12_go_125 : decode cX12_go 125 = .ok (.aload_n 0, 1) := by decide +kernel
theorem dX12_go_126 : decode cX12_go 126 = .ok (.getfield 159, 3) := by decide +kernel
theorem dX12_go_129 : decode cX12_go 129 = .ok (.imul, 1) := by decide +kernel
theorem dX12_go_130 : decode cX12_go 130 = .ok (.aload_n 0, 1) := by decide +kernel
theorem dX12_go_131 : decode cX12_go 131 = .ok (.getfield 13, 3) := by decide +kernel
theorem dX12_go_134 : decode cX12_go 134 = .ok (.aload_n 0, 1) := by decide +kernel
theorem dX12_go_135 : decode cX12_go 135 = .ok (.getfield 142, 3) := by decide +kernel
theorem dX12_go_138 : decode cX12_go 138 = .ok (.iaload, 1) := by decide +kernel
theorem dX12_go_139 : decode cX12_go 139 = .ok (.iadd, 1) := by decide +kernel
theorem dX12_go_140 : decode cX12_go 140 = .ok (.bipush 48, 2) := by decide +kernel
theorem dX12_go_142 : decode cX12_go 142 = .ok (.isub, 1) := by decide +kernel
theorem dX12_go_143 : decode cX12_go 143 = .ok (.putfield 159, 3) := by decide +kernel
theorem dX12_go_146 : decode cX12_go 146 = .ok (.aload_n 0, 1) := by decide +kernel
theorem dX12_go_147 : decode cX12_go 147 = .ok (.dup, 1) := by decide +kernel
theorem dX12_go_148 : decode cX12_go 148 = .ok (.getfield 142, 3) := by decide +kernel
theorem dX12_go_151 : decode cX12_go 151 = .ok (.iconst 1, 1) := by decide +kernel
theorem dX12_go_152 : decode cX12_go 152 = .ok (.iadd, 1) := by decide +kernel
theorem dX12_go_153 : decode cX12_go 153 = .ok (.putfield 142, 3) := by decide +kernel
theorem dX12_go_156 : decode cX12_go 156 = .ok (.goto (-61), 3) := by decide +kernel
theorem dX12_go_159 : decode cX12_go 159 = .ok (.aload_n 0, 1) := by decide +kernel
theorem dX12_go_160 : decode cX12_go 160 = .ok (.aload_n 0, 1) := by decide +kernel
theorem dX12_go_161 : decode cX12_go 161 = .ok (.getfield 142, 3) := by decide +kernel
theorem dX12_go_164 : decode cX12_go 164 = .ok (.aload_n 0, 1) := by decide +kernel
theorem dX12_go_165 : decode cX12_go 165 = .ok (.getfield 156, 3) := by decide +kernel
theorem dX12_go_168 : decode cX12_go 168 = .ok (.isub, 1) := by decide +kernel
theorem dX12_go_169 : decode cX12_go 169 = .ok (.iconst 2, 1) := by decide +kernel
theorem dX12_go_170 : decode cX12_go 170 = .ok (.if_icmp .le 7, 3) := by decide +kernel
theorem dX12_go_173 : decode cX12_go 173 = .ok (.iconst 1, 1) := by decide +kernel
theorem dX12_go_174 : decode cX12_go 174 = .ok (.goto 4, 3) := by decide +kernel
theorem dX12_go_177 : decode cX12_go 177 = .ok (.iconst 4, 1) := by decide +kernel
theorem dX12_go_178 : decode cX12_go 178 = .ok (.putfield 162, 3) := by decide +kernel
theorem dX12_go_181 : decode cX12_go 181 = .ok (.goto 58, 3) := by decide +kernel
theorem dX12_go_184 : decode cX12_go 184 = .ok (.aload_n 0, 1) := by decide +kernel
theorem dX12_go_185 : decode cX12_go 185 = .ok (.dup, 1) := by decide +kernel
theorem dX12_go_186 : decode cX12_go 186 = .ok (.getfield 142, 3) := by decide +kernel
theorem dX12_go_189 : decode cX12_go 189 = .ok (.iconst 1, 1) := by decide +kernel
theorem dX12_go_190 : decode cX12_go 190 = .ok (.iadd, 1) := by decide +kernel
theorem dX12_go_191 : decode cX12_go 191 = .ok (.putfield 142, 3) := by decide +kernel
theorem dX12_go_194 : decode cX12_go 194 = .ok (.aload_n 0, 1) := by decide +kernel
theorem dX12_go_195 : decode cX12_go 195 = .ok (.iload_n 1, 1) := by decide +kernel
theorem dX12_go_196 : decode cX12_go 196 = .ok (.bipush 59, 2) := by decide +kernel
theorem dX12_go_198 : decode cX12_go 198 = .ok (.if_icmp .eq 33, 3) := by decide +kernel
theorem dX12_go_201 : decode cX12_go 201 = .ok (.iload_n 1, 1) := by decide +kernel
theorem dX12_go_202 : decode cX12_go 202 = .ok (.bipush 58, 2) := by decide +kernel
theorem dX12_go_204 : decode cX12_go 204 = .ok (.if_icmp .eq 27, 3) := by decide +kernel
theorem dX12_go_207 : decode cX12_go 207 = .ok (.iload_n 1, 1) := by decide +kernel
theorem dX12_go_208 : decode cX12_go 208 = .ok (.bipush 61, 2) := by decide +kernel
theorem dX12_go_210 : decode cX12_go 210 = .ok (.if_icmp .eq 21, 3) := by decide +kernel
theorem dX12_go_213 : decode cX12_go 213 = .ok (.iload_n 1, 1) := by decide +kernel
theorem dX12_go_214 : decode cX12_go 214 = .ok (.bipush 60, 2) := by decide +kernel
theorem dX12_go_216 : decode cX12_go 216 = .ok (.if_icmp .eq 15, 3) := by decide +kernel
theorem dX12_go_219 : decode cX12_go 219 = .ok (.iload_n 1, 1) := by decide +kernel
theorem dX12_go_220 : decode cX12_go 220 = .ok (.bipush 40, 2) := by decide +kernel
theorem dX12_go_222 : decode cX12_go 222 = .ok (.if_icmp .eq 9, 3) := by decide +kernel
theorem dX12_go_225 : decode cX12_go 225 = .ok (.iload_n 1, 1) := by decide +kernel
theorem dX12_go_226 : decode cX12_go 226 = .ok (.bipush 41, 2) := by decide +kernel
theorem dX12_go_228 : decode cX12_go 228 = .ok (.if_icmp .ne 7, 3) := by decide +kernel
theorem dX12_go_231 : decode cX12_go 231 = .ok (.iconst 5, 1) := by decide +kernel
theorem dX12_go_232 : decode cX12_go 232 = .ok (.goto 4, 3) := by decide +kernel
theorem dX12_go_235 : decode cX12_go 235 = .ok (.iconst 1, 1) := by decide +kernel
theorem dX12_go_236 : decode cX12_go 236 = .ok (.putfield 162, 3) := by decide +kernel
theorem dX12_go_239 : decode cX12_go 239 = .ok (.return_, 1) := by decide +kernel
theorem dX12_isSymbol_0 : decode cX12_isSymbol 0 = .ok (.aload_n 0, 1) := by decide +kernel
theorem dX12_isSymbol_1 : decode cX12_isSymbol 1 = .ok (.getfield 162, 3) := by decide +kernel
theorem dX12_isSymbol_4 : decode cX12_isSymbol 4 = .ok (.iconst 5, 1) := by decide +kernel
theorem dX12_isSymbol_5 : decode cX12_isSymbol 5 = .ok (.if_icmp .ne 19, 3) := by decide +kernel
theorem dX12_isSymbol_8 : decode cX12_isSymbol 8 = .ok (.aload_n 0, 1) := by decide +kernel
theorem dX12_isSymbol_9 : decode cX12_isSymbol 9 = .ok (.aload_n 0, 1) := by decide +kernel
theorem dX12_isSymbol_10 : decode cX12_isSymbol 10 = .ok (.getfield 156, 3) := by decide +kernel
theorem dX12_isSymbol_13 : decode cX12_isSymbol 13 = .ok (.invokevirtual 145, 3) := by decide +kernel
theorem dX12_isSymbol_16 : decode cX12_isSymbol 16 = .ok (.iload_n 1, 1) := by decide +kernel
theorem dX12_isSymbol_17 : decode cX12_isSymbol 17 = .ok (.if_icmp .ne 7, 3) := by decide +kernel
theorem dX12_isSymbol_20 : decode cX12_isSymbol 20 = .ok (.iconst 1, 1) := by decide +kernel
theorem dX12_isSymbol_21 : decode cX12_isSymbol 21 = .ok (.goto 4, 3) := by decide +kernel
theorem dX12_isSymbol_24 : decode cX12_isSymbol 24 = .ok (.iconst 0, 1) := by decide +kernel
theorem dX12_isSymbol_25 : decode cX12_isSymbol 25 = .ok (.ireturn, 1) := by decide +kernel
theorem dX12_isText_0 : decode cX12_isText 0 = .ok (.aload_n 0, 1) := by decide +kernel
theorem dX12_isText_1 : decode cX12_isText 1 = .ok (.getfield 162, 3) := by decide +kernel
theorem dX12_isText_4 : decode cX12_isText 4 = .ok (.iconst 2, 1) := by decide +kernel
theorem dX12_isText_5 : decode cX12_isText 5 = .ok (.if_icmp .ne 19, 3) := by decide +kernel
theorem dX12_isText_8 : decode cX12_isText 8 = .ok (.aload_n 0, 1) := by decide +kernel
theorem dX12_isText_9 : decode cX12_isText 9 = .ok (.getfield 142, 3) := by decide +kernel
theorem dX12_isText_12 : decode cX12_isText 12 = .ok (.aload_n 0, 1) := by decide +kernel
theorem dX12_isText_13 : decode cX12_isText 13 = .ok (.getfield 156, 3) := by decide +kernel
theorem dX12_isText_16 : decode cX12_isText 16 = .ok (.isub, 1) := by decide +kernel
theorem dX12_isText_17 : decode cX12_isText 17 = .ok (.aload_n 1, 1) := by decide +kernel
theorem dX12_isText_18 : decode cX12_isText 18 = .ok (.invokevirtual 168, 3) := by decide +kernel
theorem dX12_isText_21 : decode cX12_isText 21 = .ok (.if_icmp .eq 5, 3) := by decide +kernel
theorem dX12_isText_24 : decode cX12_isText 24 = .ok (.iconst 0, 1) := by decide +kernel
theorem dX12_isText_25 : decode cX12_isText 25 = .ok (.ireturn, 1) := by decide +kernel
theorem dX12_isText_26 : decode cX12_isText 26 = .ok (.iconst 0, 1) := by decide +kernel
theorem dX12_isText_27 : decode cX12_isText 27 = .ok (.istore_n 2, 1) := by decide +kernel
theorem dX12_isText_28 : decode cX12_isText 28 = .ok (.iload_n 2, 1) := by decide +kernel
theorem dX12_isText_29 : decode cX12_isText 29 = .ok (.aload_n 1, 1) := by decide +kernel
theorem dX12_isText_30 : decode cX12_isText 30 = .ok (.invokevirtual 168, 3) := by decide +kernel
theorem dX12_isText_33 : decode cX12_isText 33 = .ok (.if_icmp .ge 30, 3) := by decide +kernel
theorem dX12_isText_36 : decode cX12_isText 36 = .ok (.aload_n 0, 1) := by decide +kernel
theorem dX12_isText_37 : decode cX12_isText 37 = .ok (.getfield 13, 3) := by decide +kernel
theorem dX12_isText_40 : decode cX12_isText 40 = .ok (.aload_n 0, 1) := by decide +kernel
theorem dX12_isText_41 : decode cX12_isText 41 = .ok (.getfield 156, 3) := by decide +kernel
theorem dX12_isText_44 : decode cX12_isText 44 = .ok (.iload_n 2, 1) := by decide +kernel
theorem dX12_isText_45 : decode cX12_isText 45 = .ok (.iadd, 1) := by decide +kernel
theorem dX12_isText_46 : decode cX12_isText 46 = .ok (.iaload, 1) := by decide +kernel
theorem dX12_isText_47 : decode cX12_isText 47 = .ok (.aload_n 1, 1) := by decide +kernel
theorem dX12_isText_48 : decode cX12_isText 48 = .ok (.iload_n 2, 1) := by decide +kernel
theorem dX12_isText_49 : decode cX12_isText 49 = .ok (.invokevirtual 174, 3) := by decide +kernel
theorem dX12_isText_52 : decode cX12_isText 52 = .ok (.if_icmp .eq 5, 3) := by decide +kernel
theorem dX12_isText_55 : decode cX12_isText 55 = .ok (.iconst 0, 1) := by decide +kernel
theorem dX12_isText_56 : decode cX12_isText 56 = .ok (.ireturn, 1) := by decide +kernel
theorem dX12_isText_57 : decode cX12_isText 57 = .ok (.iinc 2 1, 3) := by decide +kernel
theorem dX12_isText_60 : decode cX12_isText 60 = .ok (.goto (-32), 3) := by decide +kernel
theorem dX12_isText_63 : decode cX12_isText 63 = .ok (.iconst 1, 1) := by decide +kernel
theorem dX12_isText_64 : decode cX12_isText 64 = .ok (.ireturn, 1) := by decide +kernel
theorem dX12_kindWord_0 : decode cX12_kindWord 0 = .ok (.iload_n 0, 1) := by decide +kernel
theorem dX12_kindWord_1 : decode cX12_kindWord 1 = .ok (.ifCond .ne 8, 3) := by decide +kernel
theorem dX12_kindWord_4 : decode cX12_kindWord 4 = .ok (.ldc 178, 2) := by decide +kernel
theorem dX12_kindWord_6 : decode cX12_kindWord 6 = .ok (.goto 25, 3) := by decide +kernel
theorem dX12_kindWord_9 : decode cX12_kindWord 9 = .ok (.iload_n 0, 1) := by decide +kernel
theorem dX12_kindWord_10 : decode cX12_kindWord 10 = .ok (.iconst 1, 1) := by decide +kernel
theorem dX12_kindWord_11 : decode cX12_kindWord 11 = .ok (.if_icmp .ne 8, 3) := by decide +kernel
theorem dX12_kindWord_14 : decode cX12_kindWord 14 = .ok (.ldc 180, 2) := by decide +kernel
theorem dX12_kindWord_16 : decode cX12_kindWord 16 = .ok (.goto 15, 3) := by decide +kernel
theorem dX12_kindWord_19 : decode cX12_kindWord 19 = .ok (.iload_n 0, 1) := by decide +kernel
theorem dX12_kindWord_20 : decode cX12_kindWord 20 = .ok (.iconst 2, 1) := by decide +kernel
theorem dX12_kindWord_21 : decode cX12_kindWord 21 = .ok (.if_icmp .ne 8, 3) := by decide +kernel
theorem dX12_kindWord_24 : decode cX12_kindWord 24 = .ok (.ldc 182, 2) := by decide +kernel
theorem dX12_kindWord_26 : decode cX12_kindWord 26 = .ok (.goto 5, 3) := by decide +kernel
theorem dX12_kindWord_29 : decode cX12_kindWord 29 = .ok (.ldc 184, 2) := by decide +kernel
theorem dX12_kindWord_31 : decode cX12_kindWord 31 = .ok (.areturn, 1) := by decide +kernel
theorem dX12_kindNow_0 : decode cX12_kindNow 0 = .ok (.iconst 0, 1) := by decide +kernel
theorem dX12_kindNow_1 : decode cX12_kindNow 1 = .ok (.istore_n 1, 1) := by decide +kernel
theorem dX12_kindNow_2 : decode cX12_kindNow 2 = .ok (.iload_n 1, 1) := by decide +kernel
theorem dX12_kindNow_3 : decode cX12_kindNow 3 = .ok (.iconst 3, 1) := by decide +kernel
theorem dX12_kindNow_4 : decode cX12_kindNow 4 = .ok (.if_icmp .gt 22, 3) := by decide +kernel
theorem dX12_kindNow_7 : decode cX12_kindNow 7 = .ok (.aload_n 0, 1) := by decide +kernel
theorem dX12_kindNow_8 : decode cX12_kindNow 8 = .ok (.iload_n 1, 1) := by decide +kernel
theorem dX12_kindNow_9 : decode cX12_kindNow 9 = .ok (.invokestatic 186, 3) := by decide +kernel
theorem dX12_kindNow_12 : decode cX12_kindNow 12 = .ok (.invokevirtual 190, 3) := by decide +kernel
theorem dX12_kindNow_15 : decode cX12_kindNow 15 = .ok (.ifCond .eq 5, 3) := by decide +kernel
theorem dX12_kindNow_18 : decode cX12_kindNow 18 = .ok (.iload_n 1, 1) := by decide +kernel
theorem dX12_kindNow_19 : decode cX12_kindNow 19 = .ok (.ireturn, 1) := by decide +kernel
theorem dX12_kindNow_20 : decode cX12_kindNow 20 = .ok (.iinc 1 1, 3) := by decide +kernel
theorem dX12_kindNow_23 : decode cX12_kindNow 23 = .ok (.goto (-21), 3) := by decide +kernel
theorem dX12_kindNow_26 : decode cX12_kindNow 26 = .ok (.iconst (-1), 1) := by decide +kernel
theorem dX12_kindNow_27 : decode cX12_kindNow 27 = .ok (.ireturn, 1) := by decide +kernel
theorem dX12_isName_0 : decode cX12_isName 0 = .ok (.aload_n 0, 1) := by decide +kernel
theorem dX12_isName_1 : decode cX12_isName 1 = .ok (.getfield 162, 3) := by decide +kernel
theorem dX12_isName_4 : decode cX12_isName 4 = .ok (.iconst 2, 1) := by decide +kernel
theorem dX12_isName_5 : decode cX12_isName 5 = .ok (.if_icmp .ne 69, 3) := by decide +kernel
theorem dX12_isName_8 : decode cX12_isName 8 = .ok (.aload_n 0, 1) := by decide +kernel
theorem dX12_isName_9 : decode cX12_isName 9 = .ok (.invokevirtual 194, 3) := by decide +kernel
theorem dX12_isName_12 : decode cX12_isName 12 = .ok (.iconst (-1), 1) := by decide +kernel
theorem dX12_isName_13 : decode cX12_isName 13 = .ok (.if_icmp .ne 61, 3) := by decide +kernel
theorem dX12_isName_16 : decode cX12_isName 16 = .ok (.aload_n 0, 1) := by decide +kernel
theorem dX12_isName_17 : decode cX12_isName 17 = .ok (.ldc 197, 2) := by decide +kernel
theorem dX12_isName_19 : decode cX12_isName 19 = .ok (.invokevirtual 190, 3) := by decide +kernel
theorem dX12_isName_22 : decode cX12_isName 22 = .ok (.ifCond .ne 52, 3) := by decide +kernel
theorem dX12_isName_25 : decode cX12_isName 25 = .ok (.aload_n 0, 1) := by decide +kernel
theorem dX12_isName_26 : decode cX12_isName 26 = .ok (.ldc 199, 2) := by decide +kernel
theorem dX12_isName_28 : decode cX12_isName 28 = .ok (.invokevirtual 190, 3) := by decide +kernel
theorem dX12_isName_31 : decode cX12_isName 31 = .ok (.ifCond .ne 43, 3) := by decide +kernel
theorem dX12_isName_34 : decode cX12_isName 34 = .ok (.aload_n 0, 1) := by decide +kernel
theorem dX12_isName_35 : decode cX12_isName 35 = .ok (.ldc 201, 2) := by decide +kernel
theorem dX12_isName_37 : decode cX12_isName 37 = .ok (.invokevirtual 190, 3) := by decide +kernel
theorem dX12_isName_40 : decode cX12_isName 40 = .ok (.ifCond .ne 34, 3) := by decide +kernel
theorem dX12_isName_43 : decode cX12_isName 43 = .ok (.aload_n 0, 1) := by decide +kernel
theorem dX12_isName_44 : decode cX12_isName 44 = .ok (.ldc 203, 2) := by decide +kernel
theorem dX12_isName_46 : decode cX12_isName 46 = .ok (.invokevirtual 190, 3) := by decide +kernel
theorem dX12_isName_49 : decode cX12_isName 49 = .ok (.ifCond .ne 25, 3) := by decide +kernel
theorem dX12_isName_52 : decode cX12_isName 52 = .ok (.aload_n 0, 1) := by decide +kernel
theorem dX12_isName_53 : decode cX12_isName 53 = .ok (.ldc 205, 2) := by decide +kernel
theorem dX12_isName_55 : decode cX12_isName 55 = .ok (.invokevirtual 190, 3) := by decide +kernel
theorem dX12_isName_58 : decode cX12_isName 58 = .ok (.ifCond .ne 16, 3) := by decide +kernel
theorem dX12_isName_61 : decode cX12_isName 61 = .ok (.aload_n 0, 1) := by decide +kernel
theorem dX12_isName_62 : decode cX12_isName 62 = .ok (.ldc 207, 2) := by decide +kernel
theorem dX12_isName_64 : decode cX12_isName 64 = .ok (.invokevirtual 190, 3) := by decide +kernel
theorem dX12_isName_67 : decode cX12_isName 67 = .ok (.ifCond .ne 7, 3) := by decide +kernel
theorem dX12_isName_70 : decode cX12_isName 70 = .ok (.iconst 1, 1) := by decide +kernel
theorem dX12_isName_71 : decode cX12_isName 71 = .ok (.goto 4, 3) := by decide +kernel
theorem dX12_isName_74 : decode cX12_isName 74 = .ok (.iconst 0, 1) := by decide +kernel
theorem dX12_isName_75 : decode cX12_isName 75 = .ok (.ireturn, 1) := by decide +kernel
theorem dX12_bad_0 : decode cX12_bad 0 = .ok (.aload_n 0, 1) := by decide +kernel
theorem dX12_bad_1 : decode cX12_bad 1 = .ok (.aload_n 0, 1) := by decide +kernel
theorem dX12_bad_2 : decode cX12_bad 2 = .ok (.getfield 162, 3) := by decide +kernel
theorem dX12_bad_5 : decode cX12_bad 5 = .ok (.iconst 1, 1) := by decide +kernel
theorem dX12_bad_6 : decode cX12_bad 6 = .ok (.if_icmp .ne 7, 3) := by decide +kernel
theorem dX12_bad_9 : decode cX12_bad 9 = .ok (.iconst 1, 1) := by decide +kernel
theorem dX12_bad_10 : decode cX12_bad 10 = .ok (.goto 4, 3) := by decide +kernel
theorem dX12_bad_13 : decode cX12_bad 13 = .ok (.iload_n 1, 1) := by decide +kernel
theorem dX12_bad_14 : decode cX12_bad 14 = .ok (.putfield 209, 3) := by decide +kernel
theorem dX12_bad_17 : decode cX12_bad 17 = .ok (.aload_n 0, 1) := by decide +kernel
theorem dX12_bad_18 : decode cX12_bad 18 = .ok (.aload_n 0, 1) := by decide +kernel
theorem dX12_bad_19 : decode cX12_bad 19 = .ok (.getfield 156, 3) := by decide +kernel
theorem dX12_bad_22 : decode cX12_bad 22 = .ok (.putfield 212, 3) := by decide +kernel
theorem dX12_bad_25 : decode cX12_bad 25 = .ok (.iconst 0, 1) := by decide +kernel
theorem dX12_bad_26 : decode cX12_bad 26 = .ok (.ireturn, 1) := by decide +kernel
theorem dX12_ends_0 : decode cX12_ends 0 = .ok (.aload_n 0, 1) := by decide +kernel
theorem dX12_ends_1 : decode cX12_ends 1 = .ok (.bipush 59, 2) := by decide +kernel
theorem dX12_ends_3 : decode cX12_ends 3 = .ok (.invokevirtual 215, 3) := by decide +kernel
theorem dX12_ends_6 : decode cX12_ends 6 = .ok (.ifCond .ne 9, 3) := by decide +kernel
theorem dX12_ends_9 : decode cX12_ends 9 = .ok (.aload_n 0, 1) := by decide +kernel
theorem dX12_ends_10 : decode cX12_ends 10 = .ok (.iconst 1, 1) := by decide +kernel
theorem dX12_ends_11 : decode cX12_ends 11 = .ok (.invokevirtual 218, 3) := by decide +kernel
theorem dX12_ends_14 : decode cX12_ends 14 = .ok (.ireturn, 1) := by decide +kernel
theorem dX12_ends_15 : decode cX12_ends 15 = .ok (.aload_n 0, 1) := by decide +kernel
theorem dX12_ends_16 : decode cX12_ends 16 = .ok (.invokevirtual 221, 3) := by decide +kernel
theorem dX12_ends_19 : decode cX12_ends 19 = .ok (.iconst 1, 1) := by decide +kernel
theorem dX12_ends_20 : decode cX12_ends 20 = .ok (.ireturn, 1) := by decide +kernel
theorem dX12_named_0 : decode cX12_named 0 = .ok (.iconst 0, 1) := by decide +kernel
theorem dX12_named_1 : decode cX12_named 1 = .ok (.istore_n 3, 1) := by decide +kernel
theorem dX12_named_2 : decode cX12_named 2 = .ok (.iload_n 3, 1) := by decide +kernel
theorem dX12_named_3 : decode cX12_named 3 = .ok (.aload_n 0, 1) := by decide +kernel
theorem dX12_named_4 : decode cX12_named 4 = .ok (.getfield 20, 3) := by decide +kernel
theorem dX12_named_7 : decode cX12_named 7 = .ok (.iconst 2, 1) := by decide +kernel
theorem dX12_named_8 : decode cX12_named 8 = .ok (.iaload, 1) := by decide +kernel
theorem dX12_named_9 : decode cX12_named 9 = .ok (.if_icmp .ge 84, 3) := by decide +kernel
theorem dX12_named_12 : decode cX12_named 12 = .ok (.aload_n 0, 1) := by decide +kernel
theorem dX12_named_13 : decode cX12_named 13 = .ok (.getfield 35, 3) := by decide +kernel
theorem dX12_named_16 : decode cX12_named 16 = .ok (.iload_n 3, 1) := by decide +kernel
theorem dX12_named_17 : decode cX12_named 17 = .ok (.iaload, 1) := by decide +kernel
theorem dX12_named_18 : decode cX12_named 18 = .ok (.iload_n 2, 1) := by decide +kernel
theorem dX12_named_19 : decode cX12_named 19 = .ok (.if_icmp .ne 7, 3) := by decide +kernel
theorem dX12_named_22 : decode cX12_named 22 = .ok (.iconst 1, 1) := by decide +kernel
theorem dX12_named_23 : decode cX12_named 23 = .ok (.goto 4, 3) := by decide +kernel
theorem dX12_named_26 : decode cX12_named 26 = .ok (.iconst 0, 1) := by decide +kernel
theorem dX12_named_27 : decode cX12_named 27 = .ok (.istore 4, 2) := by decide +kernel
theorem dX12_named_29 : decode cX12_named 29 = .ok (.iconst 0, 1) := by decide +kernel
theorem dX12_named_30 : decode cX12_named 30 = .ok (.istore 5, 2) := by decide +kernel
theorem dX12_named_32 : decode cX12_named 32 = .ok (.iload 5, 2) := by decide +kernel
theorem dX12_named_34 : decode cX12_named 34 = .ok (.iload_n 2, 1) := by decide +kernel
theorem dX12_named_35 : decode cX12_named 35 = .ok (.if_icmp .ge 45, 3) := by decide +kernel
theorem dX12_named_38 : decode cX12_named 38 = .ok (.iload 4, 2) := by decide +kernel
theorem dX12_named_40 : decode cX12_named 40 = .ok (.ifCond .eq 40, 3) := by decide +kernel
theorem dX12_named_43 : decode cX12_named 43 = .ok (.aload_n 0, 1) := by decide +kernel
theorem dX12_named_44 : decode cX12_named 44 = .ok (.getfield 32, 3) := by decide +kernel
theorem dX12_named_47 : decode cX12_named 47 = .ok (.bipush 8, 2) := by decide +kernel
theorem dX12_named_49 : decode cX12_named 49 = .ok (.iload_n 3, 1) := by decide +kernel
theorem dX12_named_50 : decode cX12_named 50 = .ok (.imul, 1) := by decide +kernel
theorem dX12_named_51 : decode cX12_named 51 = .ok (.iload 5, 2) := by decide +kernel
theorem dX12_named_53 : decode cX12_named 53 = .ok (.iadd, 1) := by decide +kernel
theorem dX12_named_54 : decode cX12_named 54 = .ok (.iaload, 1) := by decide +kernel
theorem dX12_named_55 : decode cX12_named 55 = .ok (.aload_n 0, 1) := by decide +kernel
theorem dX12_named_56 : decode cX12_named 56 = .ok (.getfield 13, 3) := by decide +kernel
theorem dX12_named_59 : decode cX12_named 59 = .ok (.iload_n 1, 1) := by decide +kernel
theorem dX12_named_60 : decode cX12_named 60 = .ok (.iload 5, 2) := by decide +kernel
theorem dX12_named_62 : decode cX12_named 62 = .ok (.iadd, 1) := by decide +kernel
theorem dX12_named_63 : decode cX12_named 63 = .ok (.iaload, 1) := by decide +kernel
theorem dX12_named_64 : decode cX12_named 64 = .ok (.if_icmp .ne 7, 3) := by decide +kernel
theorem dX12_named_67 : decode cX12_named 67 = .ok (.iconst 1, 1) := by decide +kernel
theorem dX12_named_68 : decode cX12_named 68 = .ok (.goto 4, 3) := by decide +kernel
theorem dX12_named_71 : decode cX12_named 71 = .ok (.iconst 0, 1) := by decide +kernel
theorem dX12_named_72 : decode cX12_named 72 = .ok (.istore 4, 2) := by decide +kernel
theorem dX12_named_74 : decode cX12_named 74 = .ok (.iinc 5 1, 3) := by decide +kernel
theorem dX12_named_77 : decode cX12_named 77 = .ok (.goto (-45), 3) := by decide +kernel
theorem dX12_named_80 : decode cX12_named 80 = .ok (.iload 4, 2) := by decide +kernel
theorem dX12_named_82 : decode cX12_named 82 = .ok (.ifCond .eq 5, 3) := by decide +kernel
theorem dX12_named_85 : decode cX12_named 85 = .ok (.iload_n 3, 1) := by decide +kernel
theorem dX12_named_86 : decode cX12_named 86 = .ok (.ireturn, 1) := by decide +kernel
theorem dX12_named_87 : decode cX12_named 87 = .ok (.iinc 3 1, 3) := by decide +kernel
theorem dX12_named_90 : decode cX12_named 90 = .ok (.goto (-88), 3) := by decide +kernel
theorem dX12_named_93 : decode cX12_named 93 = .ok (.iconst (-1), 1) := by decide +kernel
theorem dX12_named_94 : decode cX12_named 94 = .ok (.ireturn, 1) := by decide +kernel
theorem dX12_copies_0 : decode cX12_copies 0 = .ok (.iconst 0, 1) := by decide +kernel
theorem dX12_copies_1 : decode cX12_copies 1 = .ok (.istore_n 1, 1) := by decide +kernel
theorem dX12_copies_2 : decode cX12_copies 2 = .ok (.iload_n 1, 1) := by decide +kernel
theorem dX12_copies_3 : decode cX12_copies 3 = .ok (.sipush 174, 3) := by decide +kernel
theorem dX12_copies_6 : decode cX12_copies 6 = .ok (.if_icmp .ge 21, 3) := by decide +kernel
theorem dX12_copies_9 : decode cX12_copies 9 = .ok (.aload_n 0, 1) := by decide +kernel
theorem dX12_copies_10 : decode cX12_copies 10 = .ok (.getfield 20, 3) := by decide +kernel
theorem dX12_copies_13 : decode cX12_copies 13 = .ok (.iload_n 1, 1) := by decide +kernel
theorem dX12_copies_14 : decode cX12_copies 14 = .ok (.aload_n 0, 1) := by decide +kernel
theorem dX12_copies_15 : decode cX12_copies 15 = .ok (.getfield 17, 3) := by decide +kernel
theorem dX12_copies_18 : decode cX12_copies 18 = .ok (.iload_n 1, 1) := by decide +kernel
theorem dX12_copies_19 : decode cX12_copies 19 = .ok (.iaload, 1) := by decide +kernel
theorem dX12_copies_20 : decode cX12_copies 20 = .ok (.iastore, 1) := by decide +kernel
theorem dX12_copies_21 : decode cX12_copies 21 = .ok (.iinc 1 1, 3) := by decide +kernel
theorem dX12_copies_24 : decode cX12_copies 24 = .ok (.goto (-22), 3) := by decide +kernel
theorem dX12_copies_27 : decode cX12_copies 27 = .ok (.iconst 0, 1) := by decide +kernel
theorem dX12_copies_28 : decode cX12_copies 28 = .ok (.istore_n 1, 1) := by decide +kernel
theorem dX12_copies_29 : decode cX12_copies 29 = .ok (.iload_n 1, 1) := by decide +kernel
theorem dX12_copies_30 : decode cX12_copies 30 = .ok (.bipush 24, 2) := by decide +kernel
theorem dX12_copies_32 : decode cX12_copies 32 = .ok (.if_icmp .ge 21, 3) := by decide +kernel
theorem dX12_copies_35 : decode cX12_copies 35 = .ok (.aload_n 0, 1) := by decide +kernel
theorem dX12_copies_36 : decode cX12_copies 36 = .ok (.getfield 32, 3) := by decide +kernel
theorem dX12_copies_39 : decode cX12_copies 39 = .ok (.iload_n 1, 1) := by decide +kernel
theorem dX12_copies_40 : decode cX12_copies 40 = .ok (.aload_n 0, 1) := by decide +kernel
theorem dX12_copies_41 : decode cX12_copies 41 = .ok (.getfield 26, 3) := by decide +kernel
theorem dX12_copies_44 : decode cX12_copies 44 = .ok (.iload_n 1, 1) := by decide +kernel
theorem dX12_copies_45 : decode cX12_copies 45 = .ok (.iaload, 1) := by decide +kernel
theorem dX12_copies_46 : decode cX12_copies 46 = .ok (.iastore, 1) := by decide +kernel
theorem dX12_copies_47 : decode cX12_copies 47 = .ok (.iinc 1 1, 3) := by decide +kernel
theorem dX12_copies_50 : decode cX12_copies 50 = .ok (.goto (-21), 3) := by decide +kernel
theorem dX12_copies_53 : decode cX12_copies 53 = .ok (.iconst 0, 1) := by decide +kernel
theorem dX12_copies_54 : decode cX12_copies 54 = .ok (.istore_n 1, 1) := by decide +kernel
theorem dX12_copies_55 : decode cX12_copies 55 = .ok (.iload_n 1, 1) := by decide +kernel
theorem dX12_copies_56 : decode cX12_copies 56 = .ok (.iconst 3, 1) := by decide +kernel
theorem dX12_copies_57 : decode cX12_copies 57 = .ok (.if_icmp .ge 21, 3) := by decide +kernel
theorem dX12_copies_60 : decode cX12_copies 60 = .ok (.aload_n 0, 1) := by decide +kernel
theorem dX12_copies_61 : decode cX12_copies 61 = .ok (.getfield 35, 3) := by decide +kernel
theorem dX12_copies_64 : decode cX12_copies 64 = .ok (.iload_n 1, 1) := by decide +kernel
theorem dX12_copies_65 : decode cX12_copies 65 = .ok (.aload_n 0, 1) := by decide +kernel
theorem dX12_copies_66 : decode cX12_copies 66 = .ok (.getfield 29, 3) := by decide +kernel
theorem dX12_copies_69 : decode cX12_copies 69 = .ok (.iload_n 1, 1) := by decide +kernel
theorem dX12_copies_70 : decode cX12_copies 70 = .ok (.iaload, 1) := by decide +kernel
theorem dX12_copies_71 : decode cX12_copies 71 = .ok (.iastore, 1) := by decide +kernel
theorem dX12_copies_72 : decode cX12_copies 72 = .ok (.iinc 1 1, 3) := by decide +kernel
theorem dX12_copies_75 : decode cX12_copies 75 = .ok (.goto (-20), 3) := by decide +kernel
theorem dX12_copies_78 : decode cX12_copies 78 = .ok (.return_, 1) := by decide +kernel
theorem dX12_findLocation_0 : decode cX12_findLocation 0 = .ok (.aload_n 0, 1) := by decide +kernel
theorem dX12_findLocation_1 : decode cX12_findLocation 1 = .ok (.invokevirtual 224, 3) := by decide +kernel
theorem dX12_findLocation_4 : decode cX12_findLocation 4 = .ok (.aload_n 0, 1) := by decide +kernel
theorem dX12_findLocation_5 : decode cX12_findLocation 5 = .ok (.invokevirtual 227, 3) := by decide +kernel
theorem dX12_findLocation_8 : decode cX12_findLocation 8 = .ok (.aload_n 0, 1) := by decide +kernel
theorem dX12_findLocation_9 : decode cX12_findLocation 9 = .ok (.iconst 0, 1) := by decide +kernel
theorem dX12_findLocation_10 : decode cX12_findLocation 10 = .ok (.aload_n 0, 1) := by decide +kernel
theorem dX12_findLocation_11 : decode cX12_findLocation 11 = .ok (.getfield 139, 3) := by decide +kernel
theorem dX12_findLocation_14 : decode cX12_findLocation 14 = .ok (.invokevirtual 230, 3) := by decide +kernel
theorem dX12_findLocation_17 : decode cX12_findLocation 17 = .ok (.ireturn, 1) := by decide +kernel
theorem dX12_readsSmall_0 : decode cX12_readsSmall 0 = .ok (.aload_n 0, 1) := by decide +kernel
theorem dX12_readsSmall_1 : decode cX12_readsSmall 1 = .ok (.getfield 162, 3) := by decide +kernel
theorem dX12_readsSmall_4 : decode cX12_readsSmall 4 = .ok (.iconst 4, 1) := by decide +kernel
theorem dX12_readsSmall_5 : decode cX12_readsSmall 5 = .ok (.if_icmp .eq 9, 3) := by decide +kernel
theorem dX12_readsSmall_8 : decode cX12_readsSmall 8 = .ok (.aload_n 0, 1) := by decide +kernel
theorem dX12_readsSmall_9 : decode cX12_readsSmall 9 = .ok (.iconst 1, 1) := by decide +kernel
theorem dX12_readsSmall_10 : decode cX12_readsSmall 10 = .ok (.invokevirtual 218, 3) := by decide +kernel
theorem dX12_readsSmall_13 : decode cX12_readsSmall 13 = .ok (.ireturn, 1) := by decide +kernel
theorem dX12_readsSmall_14 : decode cX12_readsSmall 14 = .ok (.aload_n 0, 1) := by decide +kernel
theorem dX12_readsSmall_15 : decode cX12_readsSmall 15 = .ok (.getfield 159, 3) := by decide +kernel
theorem dX12_readsSmall_18 : decode cX12_readsSmall 18 = .ok (.iconst 3, 1) := by decide +kernel
theorem dX12_readsSmall_19 : decode cX12_readsSmall 19 = .ok (.if_icmp .le 9, 3) := by decide +kernel
theorem dX12_readsSmall_22 : decode cX12_readsSmall 22 = .ok (.aload_n 0, 1) := by decide +kernel
theorem dX12_readsSmall_23 : decode cX12_readsSmall 23 = .ok (.iconst 2, 1) := by decide +kernel
theorem dX12_readsSmall_24 : decode cX12_readsSmall 24 = .ok (.invokevirtual 218, 3) := by decide +kernel
theorem dX12_readsSmall_27 : decode cX12_readsSmall 27 = .ok (.ireturn, 1) := by decide +kernel
theorem dX12_readsSmall_28 : decode cX12_readsSmall 28 = .ok (.aload_n 0, 1) := by decide +kernel
theorem dX12_readsSmall_29 : decode cX12_readsSmall 29 = .ok (.getfield 20, 3) := by decide +kernel
theorem dX12_readsSmall_32 : decode cX12_readsSmall 32 = .ok (.iload_n 1, 1) := by decide +kernel
theorem dX12_readsSmall_33 : decode cX12_readsSmall 33 = .ok (.aload_n 0, 1) := by decide +kernel
theorem dX12_readsSmall_34 : decode cX12_readsSmall 34 = .ok (.getfield 159, 3) := by decide +kernel
theorem dX12_readsSmall_37 : decode cX12_readsSmall 37 = .ok (.iastore, 1) := by decide +kernel
theorem dX12_readsSmall_38 : decode cX12_readsSmall 38 = .ok (.aload_n 0, 1) := by decide +kernel
theorem dX12_readsSmall_39 : decode cX12_readsSmall 39 = .ok (.invokevirtual 221, 3) := by decide +kernel
theorem dX12_readsSmall_42 : decode cX12_readsSmall 42 = .ok (.iconst 1, 1) := by decide +kernel
theorem dX12_readsSmall_43 : decode cX12_readsSmall 43 = .ok (.ireturn, 1) := by decide +kernel
theorem dX12_readsLocation_0 : decode cX12_readsLocation 0 = .ok (.aload_n 0, 1) := by decide +kernel
theorem dX12_readsLocation_1 : decode cX12_readsLocation 1 = .ok (.getfield 20, 3) := by decide +kernel
theorem dX12_readsLocation_4 : decode cX12_readsLocation 4 = .ok (.iconst 2, 1) := by decide +kernel
theorem dX12_readsLocation_5 : decode cX12_readsLocation 5 = .ok (.iaload, 1) := by decide +kernel
theorem dX12_readsLocation_6 : decode cX12_readsLocation 6 = .ok (.iconst 3, 1) := by decide +kernel
theorem dX12_readsLocation_7 : decode cX12_readsLocation 7 = .ok (.if_icmp .ne 9, 3) := by decide +kernel
theorem dX12_readsLocation_10 : decode cX12_readsLocation 10 = .ok (.aload_n 0, 1) := by decide +kernel
theorem dX12_readsLocation_11 : decode cX12_readsLocation 11 = .ok (.iconst 5, 1) := by decide +kernel
theorem dX12_readsLocation_12 : decode cX12_readsLocation 12 = .ok (.invokevirtual 218, 3) := by decide +kernel
theorem dX12_readsLocation_15 : decode cX12_readsLocation 15 = .ok (.ireturn, 1) := by decide +kernel
theorem dX12_readsLocation_16 : decode cX12_readsLocation 16 = .ok (.aload_n 0, 1) := by decide +kernel
theorem dX12_readsLocation_17 : decode cX12_readsLocation 17 = .ok (.invokevirtual 221, 3) := by decide +kernel
theorem dX12_readsLocation_20 : decode cX12_readsLocation 20 = .ok (.aload_n 0, 1) := by decide +kernel
theorem dX12_readsLocation_21 : decode cX12_readsLocation 21 = .ok (.invokevirtual 234, 3) := by decide +kernel
theorem dX12_readsLocation_24 : decode cX12_readsLocation 24 = .ok (.ifCond .ne 9, 3) := by decide +kernel
theorem dX12_readsLocation_27 : decode cX12_readsLocation 27 = .ok (.aload_n 0, 1) := by decide +kernel
theorem dX12_readsLocation_28 : decode cX12_readsLocation 28 = .ok (.iconst 1, 1) := by decide +kernel
theorem dX12_readsLocation_29 : decode cX12_readsLocation 29 = .ok (.invokevirtual 218, 3) := by decide +kernel
theorem dX12_readsLocation_32 : decode cX12_readsLocation 32 = .ok (.ireturn, 1) := by decide +kernel
theorem dX12_readsLocation_33 : decode cX12_readsLocation 33 = .ok (.aload_n 0, 1) := by decide +kernel
theorem dX12_readsLocation_34 : decode cX12_readsLocation 34 = .ok (.aload_n 0, 1) := by decide +kernel
theorem dX12_readsLocation_35 : decode cX12_readsLocation 35 = .ok (.getfield 156, 3) := by decide +kernel
theorem dX12_readsLocation_38 : decode cX12_readsLocation 38 = .ok (.aload_n 0, 1) := by decide +kernel
theorem dX12_readsLocation_39 : decode cX12_readsLocation 39 = .ok (.getfield 142, 3) := by decide +kernel
theorem dX12_readsLocation_42 : decode cX12_readsLocation 42 = .ok (.aload_n 0, 1) := by decide +kernel
theorem dX12_readsLocation_43 : decode cX12_readsLocation 43 = .ok (.getfield 156, 3) := by decide +kernel
theorem dX12_readsLocation_46 : decode cX12_readsLocation 46 = .ok (.isub, 1) := by decide +kernel
theorem dX12_readsLocation_47 : decode cX12_readsLocation 47 = .ok (.invokevirtual 230, 3) := by decide +kernel
theorem dX12_readsLocation_50 : decode cX12_readsLocation 50 = .ok (.iconst (-1), 1) := by decide +kernel
theorem dX12_readsLocation_51 : decode cX12_readsLocation 51 = .ok (.if_icmp .eq 9, 3) := by decide +kernel
theorem dX12_readsLocation_54 : decode cX12_readsLocation 54 = .ok (.aload_n 0, 1) := by decide +kernel
theorem dX12_readsLocation_55 : decode cX12_readsLocation 55 = .ok (.iconst 3, 1) := by decide +kernel
theorem dX12_readsLocation_56 : decode cX12_readsLocation 56 = .ok (.invokevirtual 218, 3) := by decide +kernel
theorem dX12_readsLocation_59 : decode cX12_readsLocation 59 = .ok (.ireturn, 1) := by decide +kernel
theorem dX12_readsLocation_60 : decode cX12_readsLocation 60 = .ok (.aload_n 0, 1) := by decide +kernel
theorem dX12_readsLocation_61 : decode cX12_readsLocation 61 = .ok (.getfield 20, 3) := by decide +kernel
theorem dX12_readsLocation_64 : decode cX12_readsLocation 64 = .ok (.iconst 2, 1) := by decide +kernel
theorem dX12_readsLocation_65 : decode cX12_readsLocation 65 = .ok (.iaload, 1) := by decide +kernel
theorem dX12_readsLocation_66 : decode cX12_readsLocation 66 = .ok (.istore_n 1, 1) := by decide +kernel
theorem dX12_readsLocation_67 : decode cX12_readsLocation 67 = .ok (.aload_n 0, 1) := by decide +kernel
theorem dX12_readsLocation_68 : decode cX12_readsLocation 68 = .ok (.getfield 35, 3) := by decide +kernel
theorem dX12_readsLocation_71 : decode cX12_readsLocation 71 = .ok (.iload_n 1, 1) := by decide +kernel
theorem dX12_readsLocation_72 : decode cX12_readsLocation 72 = .ok (.aload_n 0, 1) := by decide +kernel
theorem dX12_readsLocation_73 : decode cX12_readsLocation 73 = .ok (.getfield 142, 3) := by decide +kernel
theorem dX12_readsLocation_76 : decode cX12_readsLocation 76 = .ok (.aload_n 0, 1) := by decide +kernel
theorem dX12_readsLocation_77 : decode cX12_readsLocation 77 = .ok (.getfield 156, 3) := by decide +kernel
theorem dX12_readsLocation_80 : decode cX12_readsLocation 80 = .ok (.isub, 1) := by decide +kernel
theorem dX12_readsLocation_81 : decode cX12_readsLocation 81 = .ok (.iastore, 1) := by decide +kernel
theorem dX12_readsLocation_82 : decode cX12_readsLocation 82 = .ok (.iconst 0, 1) := by decide +kernel
theorem dX12_readsLocation_83 : decode cX12_readsLocation 83 = .ok (.istore_n 2, 1) := by decide +kernel
theorem dX12_readsLocation_84 : decode cX12_readsLocation 84 = .ok (.iload_n 2, 1) := by decide +kernel
theorem dX12_readsLocation_85 : decode cX12_readsLocation 85 = .ok (.aload_n 0, 1) := by decide +kernel
theorem dX12_readsLocation_86 : decode cX12_readsLocation 86 = .ok (.getfield 142, 3) := by decide +kernel
theorem dX12_readsLocation_89 : decode cX12_readsLocation 89 = .ok (.aload_n 0, 1) := by decide +kernel
theorem dX12_readsLocation_90 : decode cX12_readsLocation 90 = .ok (.getfield 156, 3) := by decide +kernel
theorem dX12_readsLocation_93 : decode cX12_readsLocation 93 = .ok (.isub, 1) := by decide +kernel
theorem dX12_readsLocation_94 : decode cX12_readsLocation 94 = .ok (.if_icmp .ge 31, 3) := by decide +kernel
theorem dX12_readsLocation_97 : decode cX12_readsLocation 97 = .ok (.aload_n 0, 1) := by decide +kernel
theorem dX12_readsLocation_98 : decode cX12_readsLocation 98 = .ok (.getfield 32, 3) := by decide +kernel
theorem dX12_readsLocation_101 : decode cX12_readsLocation 101 = .ok (.bipush 8, 2) := by decide +kernel
theorem dX12_readsLocation_103 : decode cX12_readsLocation 103 = .ok (.iload_n 1, 1) := by decide +kernel
theorem dX12_readsLocation_104 : decode cX12_readsLocation 104 = .ok (.imul, 1) := by decide +kernel
theorem dX12_readsLocation_105 : decode cX12_readsLocation 105 = .ok (.iload_n 2, 1) := by decide +kernel
theorem dX12_readsLocation_106 : decode cX12_readsLocation 106 = .ok (.iadd, 1) := by decide +kernel
theorem dX12_readsLocation_107 : decode cX12_readsLocation 107 = .ok (.aload_n 0, 1) := by decide +kernel
theorem dX12_readsLocation_108 : decode cX12_readsLocation 108 = .ok (.getfield 13, 3) := by decide +kernel
theorem dX12_readsLocation_111 : decode cX12_readsLocation 111 = .ok (.aload_n 0, 1) := by decide +kernel
theorem dX12_readsLocation_112 : decode cX12_readsLocation 112 = .ok (.getfield 156, 3) := by decide +kernel
theorem dX12_readsLocation_115 : decode cX12_readsLocation 115 = .ok (.iload_n 2, 1) := by decide +kernel
theorem dX12_readsLocation_116 : decode cX12_readsLocation 116 = .ok (.iadd, 1) := by decide +kernel
theorem dX12_readsLocation_117 : decode cX12_readsLocation 117 = .ok (.iaload, 1) := by decide +kernel
theorem dX12_readsLocation_118 : decode cX12_readsLocation 118 = .ok (.iastore, 1) := by decide +kernel
theorem dX12_readsLocation_119 : decode cX12_readsLocation 119 = .ok (.iinc 2 1, 3) := by decide +kernel
theorem dX12_readsLocation_122 : decode cX12_readsLocation 122 = .ok (.goto (-38), 3) := by decide +kernel
theorem dX12_readsLocation_125 : decode cX12_readsLocation 125 = .ok (.aload_n 0, 1) := by decide +kernel
theorem dX12_readsLocation_126 : decode cX12_readsLocation 126 = .ok (.invokevirtual 221, 3) := by decide +kernel
theorem dX12_readsLocation_129 : decode cX12_readsLocation 129 = .ok (.aload_n 0, 1) := by decide +kernel
theorem dX12_readsLocation_130 : decode cX12_readsLocation 130 = .ok (.iconst 3, 1) := by decide +kernel
theorem dX12_readsLocation_131 : decode cX12_readsLocation 131 = .ok (.iload_n 1, 1) := by decide +kernel
theorem dX12_readsLocation_132 : decode cX12_readsLocation 132 = .ok (.iadd, 1) := by decide +kernel
theorem dX12_readsLocation_133 : decode cX12_readsLocation 133 = .ok (.invokevirtual 238, 3) := by decide +kernel
theorem dX12_readsLocation_136 : decode cX12_readsLocation 136 = .ok (.ifCond .ne 5, 3) := by decide +kernel
theorem dX12_readsLocation_139 : decode cX12_readsLocation 139 = .ok (.iconst 0, 1) := by decide +kernel
theorem dX12_readsLocation_140 : decode cX12_readsLocation 140 = .ok (.ireturn, 1) := by decide +kernel
theorem dX12_readsLocation_141 : decode cX12_readsLocation 141 = .ok (.aload_n 0, 1) := by decide +kernel
theorem dX12_readsLocation_142 : decode cX12_readsLocation 142 = .ok (.getfield 20, 3) := by decide +kernel
theorem dX12_readsLocation_145 : decode cX12_readsLocation 145 = .ok (.iconst 2, 1) := by decide +kernel
theorem dX12_readsLocation_146 : decode cX12_readsLocation 146 = .ok (.dup2, 1) := by decide +kernel
theorem dX12_readsLocation_147 : decode cX12_readsLocation 147 = .ok (.iaload, 1) := by decide +kernel
theorem dX12_readsLocation_148 : decode cX12_readsLocation 148 = .ok (.iconst 1, 1) := by decide +kernel
theorem dX12_readsLocation_149 : decode cX12_readsLocation 149 = .ok (.iadd, 1) := by decide +kernel
theorem dX12_readsLocation_150 : decode cX12_readsLocation 150 = .ok (.iastore, 1) := by decide +kernel
theorem dX12_readsLocation_151 : decode cX12_readsLocation 151 = .ok (.aload_n 0, 1) := by decide +kernel
theorem dX12_readsLocation_152 : decode cX12_readsLocation 152 = .ok (.invokevirtual 241, 3) := by decide +kernel
theorem dX12_readsLocation_155 : decode cX12_readsLocation 155 = .ok (.ireturn, 1) := by decide +kernel
theorem dX12_isTarget_0 : decode cX12_isTarget 0 = .ok (.iconst 0, 1) := by decide +kernel
theorem dX12_isTarget_1 : decode cX12_isTarget 1 = .ok (.istore_n 3, 1) := by decide +kernel
theorem dX12_isTarget_2 : decode cX12_isTarget 2 = .ok (.iload_n 3, 1) := by decide +kernel
theorem dX12_isTarget_3 : decode cX12_isTarget 3 = .ok (.aload_n 0, 1) := by decide +kernel
theorem dX12_isTarget_4 : decode cX12_isTarget 4 = .ok (.getfield 20, 3) := by decide +kernel
theorem dX12_isTarget_7 : decode cX12_isTarget 7 = .ok (.iconst 0, 1) := by decide +kernel
theorem dX12_isTarget_8 : decode cX12_isTarget 8 = .ok (.iaload, 1) := by decide +kernel
theorem dX12_isTarget_9 : decode cX12_isTarget 9 = .ok (.if_icmp .ge 37, 3) := by decide +kernel
theorem dX12_isTarget_12 : decode cX12_isTarget 12 = .ok (.aload_n 0, 1) := by decide +kernel
theorem dX12_isTarget_13 : decode cX12_isTarget 13 = .ok (.getfield 20, 3) := by decide +kernel
theorem dX12_isTarget_16 : decode cX12_isTarget 16 = .ok (.iload_n 3, 1) := by decide +kernel
theorem dX12_isTarget_17 : decode cX12_isTarget 17 = .ok (.iconst 0, 1) := by decide +kernel
theorem dX12_isTarget_18 : decode cX12_isTarget 18 = .ok (.invokestatic 128, 3) := by decide +kernel
theorem dX12_isTarget_21 : decode cX12_isTarget 21 = .ok (.iload_n 1, 1) := by decide +kernel
theorem dX12_isTarget_22 : decode cX12_isTarget 22 = .ok (.if_icmp .ne 18, 3) := by decide +kernel
theorem dX12_isTarget_25 : decode cX12_isTarget 25 = .ok (.aload_n 0, 1) := by decide +kernel
theorem dX12_isTarget_26 : decode cX12_isTarget 26 = .ok (.getfield 20, 3) := by decide +kernel
theorem dX12_isTarget_29 : decode cX12_isTarget 29 = .ok (.iload_n 3, 1) := by decide +kernel
theorem dX12_isTarget_30 : decode cX12_isTarget 30 = .ok (.iconst 3, 1) := by decide +kernel
theorem dX12_isTarget_31 : decode cX12_isTarget 31 = .ok (.invokestatic 128, 3) := by decide +kernel
theorem dX12_isTarget_34 : decode cX12_isTarget 34 = .ok (.iload_n 2, 1) := by decide +kernel
theorem dX12_isTarget_35 : decode cX12_isTarget 35 = .ok (.if_icmp .ne 5, 3) := by decide +kernel
theorem dX12_isTarget_38 : decode cX12_isTarget 38 = .ok (.iconst 1, 1) := by decide +kernel
theorem dX12_isTarget_39 : decode cX12_isTarget 39 = .ok (.ireturn, 1) := by decide +kernel
theorem dX12_isTarget_40 : decode cX12_isTarget 40 = .ok (.iinc 3 1, 3) := by decide +kernel
theorem dX12_isTarget_43 : decode cX12_isTarget 43 = .ok (.goto (-41), 3) := by decide +kernel
theorem dX12_isTarget_46 : decode cX12_isTarget 46 = .ok (.iconst 0, 1) := by decide +kernel
theorem dX12_isTarget_47 : decode cX12_isTarget 47 = .ok (.ireturn, 1) := by decide +kernel
theorem dX12_instructionsOf_0 : decode cX12_instructionsOf 0 = .ok (.iconst 0, 1) := by decide +kernel
theorem dX12_instructionsOf_1 : decode cX12_instructionsOf 1 = .ok (.istore_n 3, 1) := by decide +kernel
theorem dX12_instructionsOf_2 : decode cX12_instructionsOf 2 = .ok (.iconst 0, 1) := by decide +kernel
theorem dX12_instructionsOf_3 : decode cX12_instructionsOf 3 = .ok (.istore 4, 2) := by decide +kernel
theorem dX12_instructionsOf_5 : decode cX12_instructionsOf 5 = .ok (.iload 4, 2) := by decide +kernel
theorem dX12_instructionsOf_7 : decode cX12_instructionsOf 7 = .ok (.aload_n 0, 1) := by decide +kernel
theorem dX12_instructionsOf_8 : decode cX12_instructionsOf 8 = .ok (.getfield 20, 3) := by decide +kernel
theorem dX12_instructionsOf_11 : decode cX12_instructionsOf 11 = .ok (.iconst 0, 1) := by decide +kernel
theorem dX12_instructionsOf_12 : decode cX12_instructionsOf 12 = .ok (.iaload, 1) := by decide +kernel
theorem dX12_instructionsOf_13 : decode cX12_instructionsOf 13 = .ok (.if_icmp .ge 54, 3) := by decide +kernel
theorem dX12_instructionsOf_16 : decode cX12_instructionsOf 16 = .ok (.iload_n 3, 1) := by decide +kernel
theorem dX12_instructionsOf_17 : decode cX12_instructionsOf 17 = .ok (.iload_n 1, 1) := by decide +kernel
theorem dX12_instructionsOf_18 : decode cX12_instructionsOf 18 = .ok (.iconst (-1), 1) := by decide +kernel
theorem dX12_instructionsOf_19 : decode cX12_instructionsOf 19 = .ok (.if_icmp .eq 17, 3) := by decide +kernel
theorem dX12_instructionsOf_22 : decode cX12_instructionsOf 22 = .ok (.aload_n 0, 1) := by decide +kernel
theorem dX12_instructionsOf_23 : decode cX12_instructionsOf 23 = .ok (.getfield 20, 3) := by decide +kernel
theorem dX12_instructionsOf_26 : decode cX12_instructionsOf 26 = .ok (.iload 4, 2) := by decide +kernel
theorem dX12_instructionsOf_28 : decode cX12_instructionsOf 28 = .ok (.iconst 0, 1) := by decide +kernel
theorem dX12_instructionsOf_29 : decode cX12_instructionsOf 29 = .ok (.invokestatic 128, 3) := by decide +kernel
theorem dX12_instructionsOf_32 : decode cX12_instructionsOf 32 = .ok (.iload_n 1, 1) := by decide +kernel
theorem dX12_instructionsOf_33 : decode cX12_instructionsOf 33 = .ok (.if_icmp .ne 25, 3) := by decide +kernel
theorem dX12_instructionsOf_36 : decode cX12_instructionsOf 36 = .ok (.iload_n 2, 1) := by decide +kernel
theorem dX12_instructionsOf_37 : decode cX12_instructionsOf 37 = .ok (.ifCond .eq 17, 3) := by decide +kernel
theorem dX12_instructionsOf_40 : decode cX12_instructionsOf 40 = .ok (.aload_n 0, 1) := by decide +kernel
theorem dX12_instructionsOf_41 : decode cX12_instructionsOf 41 = .ok (.getfield 20, 3) := by decide +kernel
theorem dX12_instructionsOf_44 : decode cX12_instructionsOf 44 = .ok (.iload 4, 2) := by decide +kernel
theorem dX12_instructionsOf_46 : decode cX12_instructionsOf 46 = .ok (.iconst 1, 1) := by decide +kernel
theorem dX12_instructionsOf_47 : decode cX12_instructionsOf 47 = .ok (.invokestatic 128, 3) := by decide +kernel
theorem dX12_instructionsOf_50 : decode cX12_instructionsOf 50 = .ok (.iconst 3, 1) := by decide +kernel
theorem dX12_instructionsOf_51 : decode cX12_instructionsOf 51 = .ok (.if_icmp .eq 7, 3) := by decide +kernel
theorem dX12_instructionsOf_54 : decode cX12_instructionsOf 54 = .ok (.iconst 1, 1) := by decide +kernel
theorem dX12_instructionsOf_55 : decode cX12_instructionsOf 55 = .ok (.goto 4, 3) := by decide +kernel
theorem dX12_instructionsOf_58 : decode cX12_instructionsOf 58 = .ok (.iconst 0, 1) := by decide +kernel
theorem dX12_instructionsOf_59 : decode cX12_instructionsOf 59 = .ok (.iadd, 1) := by decide +kernel
theorem dX12_instructionsOf_60 : decode cX12_instructionsOf 60 = .ok (.istore_n 3, 1) := by decide +kernel
theorem dX12_instructionsOf_61 : decode cX12_instructionsOf 61 = .ok (.iinc 4 1, 3) := by decide +kernel
theorem dX12_instructionsOf_64 : decode cX12_instructionsOf 64 = .ok (.goto (-59), 3) := by decide +kernel
theorem dX12_instructionsOf_67 : decode cX12_instructionsOf 67 = .ok (.iload_n 3, 1) := by decide +kernel
theorem dX12_instructionsOf_68 : decode cX12_instructionsOf 68 = .ok (.ireturn, 1) := by decide +kernel
theorem dX12_readsTarget_0 : decode cX12_readsTarget 0 = .ok (.aload_n 0, 1) := by decide +kernel
theorem dX12_readsTarget_1 : decode cX12_readsTarget 1 = .ok (.getfield 162, 3) := by decide +kernel
theorem dX12_readsTarget_4 : decode cX12_readsTarget 4 = .ok (.iconst 3, 1) := by decide +kernel
theorem dX12_readsTarget_5 : decode cX12_readsTarget 5 = .ok (.if_icmp .eq 9, 3) := by decide +kernel
theorem dX12_readsTarget_8 : decode cX12_readsTarget 8 = .ok (.aload_n 0, 1) := by decide +kernel
theorem dX12_readsTarget_9 : decode cX12_readsTarget 9 = .ok (.iconst 1, 1) := by decide +kernel
theorem dX12_readsTarget_10 : decode cX12_readsTarget 10 = .ok (.invokevirtual 218, 3) := by decide +kernel
theorem dX12_readsTarget_13 : decode cX12_readsTarget 13 = .ok (.ireturn, 1) := by decide +kernel
theorem dX12_readsTarget_14 : decode cX12_readsTarget 14 = .ok (.aload_n 0, 1) := by decide +kernel
theorem dX12_readsTarget_15 : decode cX12_readsTarget 15 = .ok (.iload_n 2, 1) := by decide +kernel
theorem dX12_readsTarget_16 : decode cX12_readsTarget 16 = .ok (.aload_n 0, 1) := by decide +kernel
theorem dX12_readsTarget_17 : decode cX12_readsTarget 17 = .ok (.getfield 159, 3) := by decide +kernel
theorem dX12_readsTarget_20 : decode cX12_readsTarget 20 = .ok (.invokevirtual 244, 3) := by decide +kernel
theorem dX12_readsTarget_23 : decode cX12_readsTarget 23 = .ok (.ifCond .eq 9, 3) := by decide +kernel
theorem dX12_readsTarget_26 : decode cX12_readsTarget 26 = .ok (.aload_n 0, 1) := by decide +kernel
theorem dX12_readsTarget_27 : decode cX12_readsTarget 27 = .ok (.iconst 3, 1) := by decide +kernel
theorem dX12_readsTarget_28 : decode cX12_readsTarget 28 = .ok (.invokevirtual 218, 3) := by decide +kernel
theorem dX12_readsTarget_31 : decode cX12_readsTarget 31 = .ok (.ireturn, 1) := by decide +kernel
theorem dX12_readsTarget_32 : decode cX12_readsTarget 32 = .ok (.aload_n 0, 1) := by decide +kernel
theorem dX12_readsTarget_33 : decode cX12_readsTarget 33 = .ok (.getfield 20, 3) := by decide +kernel
theorem dX12_readsTarget_36 : decode cX12_readsTarget 36 = .ok (.iload_n 1, 1) := by decide +kernel
theorem dX12_readsTarget_37 : decode cX12_readsTarget 37 = .ok (.iconst 3, 1) := by decide +kernel
theorem dX12_readsTarget_38 : decode cX12_readsTarget 38 = .ok (.iadd, 1) := by decide +kernel
theorem dX12_readsTarget_39 : decode cX12_readsTarget 39 = .ok (.aload_n 0, 1) := by decide +kernel
theorem dX12_readsTarget_40 : decode cX12_readsTarget 40 = .ok (.getfield 159, 3) := by decide +kernel
theorem dX12_readsTarget_43 : decode cX12_readsTarget 43 = .ok (.iastore, 1) := by decide +kernel
theorem dX12_readsTarget_44 : decode cX12_readsTarget 44 = .ok (.aload_n 0, 1) := by decide +kernel
theorem dX12_readsTarget_45 : decode cX12_readsTarget 45 = .ok (.invokevirtual 221, 3) := by decide +kernel
theorem dX12_readsTarget_48 : decode cX12_readsTarget 48 = .ok (.iconst 1, 1) := by decide +kernel
theorem dX12_readsTarget_49 : decode cX12_readsTarget 49 = .ok (.ireturn, 1) := by decide +kernel
theorem dX12_readsPlace_0 : decode cX12_readsPlace 0 = .ok (.aload_n 0, 1) := by decide +kernel
theorem dX12_readsPlace_1 : decode cX12_readsPlace 1 = .ok (.invokevirtual 234, 3) := by decide +kernel
theorem dX12_readsPlace_4 : decode cX12_readsPlace 4 = .ok (.ifCond .ne 9, 3) := by decide +kernel
theorem dX12_readsPlace_7 : decode cX12_readsPlace 7 = .ok (.aload_n 0, 1) := by decide +kernel
theorem dX12_readsPlace_8 : decode cX12_readsPlace 8 = .ok (.iconst 1, 1) := by decide +kernel
theorem dX12_readsPlace_9 : decode cX12_readsPlace 9 = .ok (.invokevirtual 218, 3) := by decide +kernel
theorem dX12_readsPlace_12 : decode cX12_readsPlace 12 = .ok (.ireturn, 1) := by decide +kernel
theorem dX12_readsPlace_13 : decode cX12_readsPlace 13 = .ok (.aload_n 0, 1) := by decide +kernel
theorem dX12_readsPlace_14 : decode cX12_readsPlace 14 = .ok (.getfield 20, 3) := by decide +kernel
theorem dX12_readsPlace_17 : decode cX12_readsPlace 17 = .ok (.iload_n 1, 1) := by decide +kernel
theorem dX12_readsPlace_18 : decode cX12_readsPlace 18 = .ok (.iconst 2, 1) := by decide +kernel
theorem dX12_readsPlace_19 : decode cX12_readsPlace 19 = .ok (.iadd, 1) := by decide +kernel
theorem dX12_readsPlace_20 : decode cX12_readsPlace 20 = .ok (.aload_n 0, 1) := by decide +kernel
theorem dX12_readsPlace_21 : decode cX12_readsPlace 21 = .ok (.aload_n 0, 1) := by decide +kernel
theorem dX12_readsPlace_22 : decode cX12_readsPlace 22 = .ok (.getfield 156, 3) := by decide +kernel
theorem dX12_readsPlace_25 : decode cX12_readsPlace 25 = .ok (.aload_n 0, 1) := by decide +kernel
theorem dX12_readsPlace_26 : decode cX12_readsPlace 26 = .ok (.getfield 142, 3) := by decide +kernel
theorem dX12_readsPlace_29 : decode cX12_readsPlace 29 = .ok (.aload_n 0, 1) := by decide +kernel
theorem dX12_readsPlace_30 : decode cX12_readsPlace 30 = .ok (.getfield 156, 3) := by decide +kernel
theorem dX12_readsPlace_33 : decode cX12_readsPlace 33 = .ok (.isub, 1) := by decide +kernel
theorem dX12_readsPlace_34 : decode cX12_readsPlace 34 = .ok (.invokevirtual 230, 3) := by decide +kernel
theorem dX12_readsPlace_37 : decode cX12_readsPlace 37 = .ok (.iastore, 1) := by decide +kernel
theorem dX12_readsPlace_38 : decode cX12_readsPlace 38 = .ok (.aload_n 0, 1) := by decide +kernel
theorem dX12_readsPlace_39 : decode cX12_readsPlace 39 = .ok (.getfield 20, 3) := by decide +kernel
theorem dX12_readsPlace_42 : decode cX12_readsPlace 42 = .ok (.iload_n 1, 1) := by decide +kernel
theorem dX12_readsPlace_43 : decode cX12_readsPlace 43 = .ok (.iconst 2, 1) := by decide +kernel
theorem dX12_readsPlace_44 : decode cX12_readsPlace 44 = .ok (.iadd, 1) := by decide +kernel
theorem dX12_readsPlace_45 : decode cX12_readsPlace 45 = .ok (.iaload, 1) := by decide +kernel
theorem dX12_readsPlace_46 : decode cX12_readsPlace 46 = .ok (.iconst (-1), 1) := by decide +kernel
theorem dX12_readsPlace_47 : decode cX12_readsPlace 47 = .ok (.if_icmp .ne 9, 3) := by decide +kernel
theorem dX12_readsPlace_50 : decode cX12_readsPlace 50 = .ok (.aload_n 0, 1) := by decide +kernel
theorem dX12_readsPlace_51 : decode cX12_readsPlace 51 = .ok (.iconst 4, 1) := by decide +kernel
theorem dX12_readsPlace_52 : decode cX12_readsPlace 52 = .ok (.invokevirtual 218, 3) := by decide +kernel
theorem dX12_readsPlace_55 : decode cX12_readsPlace 55 = .ok (.ireturn, 1) := by decide +kernel
theorem dX12_readsPlace_56 : decode cX12_readsPlace 56 = .ok (.aload_n 0, 1) := by decide +kernel
theorem dX12_readsPlace_57 : decode cX12_readsPlace 57 = .ok (.invokevirtual 221, 3) := by decide +kernel
theorem dX12_readsPlace_60 : decode cX12_readsPlace 60 = .ok (.iconst 1, 1) := by decide +kernel
theorem dX12_readsPlace_61 : decode cX12_readsPlace 61 = .ok (.ireturn, 1) := by decide +kernel
theorem dX12_readsValue_0 : decode cX12_readsValue 0 = .ok (.aload_n 0, 1) := by decide +kernel
theorem dX12_readsValue_1 : decode cX12_readsValue 1 = .ok (.getfield 162, 3) := by decide +kernel
theorem dX12_readsValue_4 : decode cX12_readsValue 4 = .ok (.iconst 3, 1) := by decide +kernel
theorem dX12_readsValue_5 : decode cX12_readsValue 5 = .ok (.if_icmp .eq 11, 3) := by decide +kernel
theorem dX12_readsValue_8 : decode cX12_readsValue 8 = .ok (.aload_n 0, 1) := by decide +kernel
theorem dX12_readsValue_9 : decode cX12_readsValue 9 = .ok (.iload_n 1, 1) := by decide +kernel
theorem dX12_readsValue_10 : decode cX12_readsValue 10 = .ok (.iconst 4, 1) := by decide +kernel
theorem dX12_readsValue_11 : decode cX12_readsValue 11 = .ok (.iadd, 1) := by decide +kernel
theorem dX12_readsValue_12 : decode cX12_readsValue 12 = .ok (.invokevirtual 238, 3) := by decide +kernel
theorem dX12_readsValue_15 : decode cX12_readsValue 15 = .ok (.ireturn, 1) := by decide +kernel
theorem dX12_readsValue_16 : decode cX12_readsValue 16 = .ok (.aload_n 0, 1) := by decide +kernel
theorem dX12_readsValue_17 : decode cX12_readsValue 17 = .ok (.iload_n 2, 1) := by decide +kernel
theorem dX12_readsValue_18 : decode cX12_readsValue 18 = .ok (.aload_n 0, 1) := by decide +kernel
theorem dX12_readsValue_19 : decode cX12_readsValue 19 = .ok (.getfield 159, 3) := by decide +kernel
theorem dX12_readsValue_22 : decode cX12_readsValue 22 = .ok (.invokevirtual 244, 3) := by decide +kernel
theorem dX12_readsValue_25 : decode cX12_readsValue 25 = .ok (.ifCond .ne 9, 3) := by decide +kernel
theorem dX12_readsValue_28 : decode cX12_readsValue 28 = .ok (.aload_n 0, 1) := by decide +kernel
theorem dX12_readsValue_29 : decode cX12_readsValue 29 = .ok (.iconst 4, 1) := by decide +kernel
theorem dX12_readsValue_30 : decode cX12_readsValue 30 = .ok (.invokevirtual 218, 3) := by decide +kernel
theorem dX12_readsValue_33 : decode cX12_readsValue 33 = .ok (.ireturn, 1) := by decide +kernel
theorem dX12_readsValue_34 : decode cX12_readsValue 34 = .ok (.aload_n 0, 1) := by decide +kernel
theorem dX12_readsValue_35 : decode cX12_readsValue 35 = .ok (.getfield 20, 3) := by decide +kernel
theorem dX12_readsValue_38 : decode cX12_readsValue 38 = .ok (.iload_n 1, 1) := by decide +kernel
theorem dX12_readsValue_39 : decode cX12_readsValue 39 = .ok (.iconst 5, 1) := by decide +kernel
theorem dX12_readsValue_40 : decode cX12_readsValue 40 = .ok (.iadd, 1) := by decide +kernel
theorem dX12_readsValue_41 : decode cX12_readsValue 41 = .ok (.aload_n 0, 1) := by decide +kernel
theorem dX12_readsValue_42 : decode cX12_readsValue 42 = .ok (.getfield 159, 3) := by decide +kernel
theorem dX12_readsValue_45 : decode cX12_readsValue 45 = .ok (.iastore, 1) := by decide +kernel
theorem dX12_readsValue_46 : decode cX12_readsValue 46 = .ok (.aload_n 0, 1) := by decide +kernel
theorem dX12_readsValue_47 : decode cX12_readsValue 47 = .ok (.invokevirtual 221, 3) := by decide +kernel
theorem dX12_readsValue_50 : decode cX12_readsValue 50 = .ok (.iconst 1, 1) := by decide +kernel
theorem dX12_readsValue_51 : decode cX12_readsValue 51 = .ok (.ireturn, 1) := by decide +kernel
theorem dX12_readsInstruction_0 : decode cX12_readsInstruction 0 = .ok (.aload_n 0, 1) := by decide +kernel
theorem dX12_readsInstruction_1 : decode cX12_readsInstruction 1 = .ok (.invokevirtual 194, 3) := by decide +kernel
theorem dX12_readsInstruction_4 : decode cX12_readsInstruction 4 = .ok (.istore_n 2, 1) := by decide +kernel
theorem dX12_readsInstruction_5 : decode cX12_readsInstruction 5 = .ok (.iload_n 2, 1) := by decide +kernel
theorem dX12_readsInstruction_6 : decode cX12_readsInstruction 6 = .ok (.iconst 3, 1) := by decide +kernel
theorem dX12_readsInstruction_7 : decode cX12_readsInstruction 7 = .ok (.if_icmp .eq 7, 3) := by decide +kernel
theorem dX12_readsInstruction_10 : decode cX12_readsInstruction 10 = .ok (.iconst 1, 1) := by decide +kernel
theorem dX12_readsInstruction_11 : decode cX12_readsInstruction 11 = .ok (.goto 4, 3) := by decide +kernel
theorem dX12_readsInstruction_14 : decode cX12_readsInstruction 14 = .ok (.iconst 0, 1) := by decide +kernel
theorem dX12_readsInstruction_15 : decode cX12_readsInstruction 15 = .ok (.istore_n 3, 1) := by decide +kernel
theorem dX12_readsInstruction_16 : decode cX12_readsInstruction 16 = .ok (.aload_n 0, 1) := by decide +kernel
theorem dX12_readsInstruction_17 : decode cX12_readsInstruction 17 = .ok (.iload_n 1, 1) := by decide +kernel
theorem dX12_readsInstruction_18 : decode cX12_readsInstruction 18 = .ok (.iconst 0, 1) := by decide +kernel
theorem dX12_readsInstruction_19 : decode cX12_readsInstruction 19 = .ok (.invokevirtual 248, 3) := by decide +kernel
theorem dX12_readsInstruction_22 : decode cX12_readsInstruction 22 = .ok (.bipush 7, 2) := by decide +kernel
theorem dX12_readsInstruction_24 : decode cX12_readsInstruction 24 = .ok (.if_icmp .eq 39, 3) := by decide +kernel
theorem dX12_readsInstruction_27 : decode cX12_readsInstruction 27 = .ok (.aload_n 0, 1) := by decide +kernel
theorem dX12_readsInstruction_28 : decode cX12_readsInstruction 28 = .ok (.iconst (-1), 1) := by decide +kernel
theorem dX12_readsInstruction_29 : decode cX12_readsInstruction 29 = .ok (.iconst 0, 1) := by decide +kernel
theorem dX12_readsInstruction_30 : decode cX12_readsInstruction 30 = .ok (.invokevirtual 248, 3) := by decide +kernel
theorem dX12_readsInstruction_33 : decode cX12_readsInstruction 33 = .ok (.bipush 10, 2) := by decide +kernel
theorem dX12_readsInstruction_35 : decode cX12_readsInstruction 35 = .ok (.if_icmp .eq 28, 3) := by decide +kernel
theorem dX12_readsInstruction_38 : decode cX12_readsInstruction 38 = .ok (.iload_n 3, 1) := by decide +kernel
theorem dX12_readsInstruction_39 : decode cX12_readsInstruction 39 = .ok (.ifCond .eq 30, 3) := by decide +kernel
theorem dX12_readsInstruction_42 : decode cX12_readsInstruction 42 = .ok (.aload_n 0, 1) := by decide +kernel
theorem dX12_readsInstruction_43 : decode cX12_readsInstruction 43 = .ok (.iload_n 1, 1) := by decide +kernel
theorem dX12_readsInstruction_44 : decode cX12_readsInstruction 44 = .ok (.iconst 1, 1) := by decide +kernel
theorem dX12_readsInstruction_45 : decode cX12_readsInstruction 45 = .ok (.invokevirtual 248, 3) := by decide +kernel
theorem dX12_readsInstruction_48 : decode cX12_readsInstruction 48 = .ok (.iconst 4, 1) := by decide +kernel
theorem dX12_readsInstruction_49 : decode cX12_readsInstruction 49 = .ok (.if_icmp .eq 14, 3) := by decide +kernel
theorem dX12_readsInstruction_52 : decode cX12_readsInstruction 52 = .ok (.aload_n 0, 1) := by decide +kernel
theorem dX12_readsInstruction_53 : decode cX12_readsInstruction 53 = .ok (.iconst (-1), 1) := by decide +kernel
theorem dX12_readsInstruction_54 : decode cX12_readsInstruction 54 = .ok (.iconst 1, 1) := by decide +kernel
theorem dX12_readsInstruction_55 : decode cX12_readsInstruction 55 = .ok (.invokevirtual 248, 3) := by decide +kernel
theorem dX12_readsInstruction_58 : decode cX12_readsInstruction 58 = .ok (.bipush 8, 2) := by decide +kernel
theorem dX12_readsInstruction_60 : decode cX12_readsInstruction 60 = .ok (.if_icmp .ne 9, 3) := by decide +kernel
theorem dX12_readsInstruction_63 : decode cX12_readsInstruction 63 = .ok (.aload_n 0, 1) := by decide +kernel
theorem dX12_readsInstruction_64 : decode cX12_readsInstruction 64 = .ok (.iconst 5, 1) := by decide +kernel
theorem dX12_readsInstruction_65 : decode cX12_readsInstruction 65 = .ok (.invokevirtual 218, 3) := by decide +kernel
theorem dX12_readsInstruction_68 : decode cX12_readsInstruction 68 = .ok (.ireturn, 1) := by decide +kernel
theorem dX12_readsInstruction_69 : decode cX12_readsInstruction 69 = .ok (.bipush 6, 2) := by decide +kernel
theorem dX12_readsInstruction_71 : decode cX12_readsInstruction 71 = .ok (.bipush 6, 2) := by decide +kernel
theorem dX12_readsInstruction_73 : decode cX12_readsInstruction 73 = .ok (.aload_n 0, 1) := by decide +kernel
theorem dX12_readsInstruction_74 : decode cX12_readsInstruction 74 = .ok (.getfield 20, 3) := by decide +kernel
theorem dX12_readsInstruction_77 : decode cX12_readsInstruction 77 = .ok (.iconst 0, 1) := by decide +kernel
theorem dX12_readsInstruction_78 : decode cX12_readsInstruction 78 = .ok (.iaload, 1) := by decide +kernel
theorem dX12_readsInstruction_79 : decode cX12_readsInstruction 79 = .ok (.imul, 1) := by decide +kernel
theorem dX12_readsInstruction_80 : decode cX12_readsInstruction 80 = .ok (.iadd, 1) := by decide +kernel
theorem dX12_readsInstruction_81 : decode cX12_readsInstruction 81 = .ok (.istore 4, 2) := by decide +kernel
theorem dX12_readsInstruction_83 : decode cX12_readsInstruction 83 = .ok (.iconst 0, 1) := by decide +kernel
theorem dX12_readsInstruction_84 : decode cX12_readsInstruction 84 = .ok (.istore 5, 2) := by decide +kernel
theorem dX12_readsInstruction_86 : decode cX12_readsInstruction 86 = .ok (.iload 5, 2) := by decide +kernel
theorem dX12_readsInstruction_88 : decode cX12_readsInstruction 88 = .ok (.bipush 6, 2) := by decide +kernel
theorem dX12_readsInstruction_90 : decode cX12_readsInstruction 90 = .ok (.if_icmp .ge 20, 3) := by decide +kernel
theorem dX12_readsInstruction_93 : decode cX12_readsInstruction 93 = .ok (.aload_n 0, 1) := by decide +kernel
theorem dX12_readsInstruction_94 : decode cX12_readsInstruction 94 = .ok (.getfield 20, 3) := by decide +kernel
theorem dX12_readsInstruction_97 : decode cX12_readsInstruction 97 = .ok (.iload 4, 2) := by decide +kernel
theorem dX12_readsInstruction_99 : decode cX12_readsInstruction 99 = .ok (.iload 5, 2) := by decide +kernel
theorem dX12_readsInstruction_101 : decode cX12_readsInstruction 101 = .ok (.iadd, 1) := by decide +kernel
theorem dX12_readsInstruction_102 : decode cX12_readsInstruction 102 = .ok (.iconst (-1), 1) := by decide +kernel
theorem dX12_readsInstruction_103 : decode cX12_readsInstruction 103 = .ok (.iastore, 1) := by decide +kernel
theorem dX12_readsInstruction_104 : decode cX12_readsInstruction 104 = .ok (.iinc 5 1, 3) := by decide +kernel
theorem dX12_readsInstruction_107 : decode cX12_readsInstruction 107 = .ok (.goto (-21), 3) := by decide +kernel
theorem dX12_readsInstruction_110 : decode cX12_readsInstruction 110 = .ok (.aload_n 0, 1) := by decide +kernel
theorem dX12_readsInstruction_111 : decode cX12_readsInstruction 111 = .ok (.invokevirtual 221, 3) := by decide +kernel
theorem dX12_readsInstruction_114 : decode cX12_readsInstruction 114 = .ok (.iload_n 2, 1) := by decide +kernel
theorem dX12_readsInstruction_115 : decode cX12_readsInstruction 115 = .ok (.iconst 1, 1) := by decide +kernel
theorem dX12_readsInstruction_116 : decode cX12_readsInstruction 116 = .ok (.if_icmp .eq 8, 3) := by decide +kernel
theorem dX12_readsInstruction_119 : decode cX12_readsInstruction 119 = .ok (.iload_n 2, 1) := by decide +kernel
theorem dX12_readsInstruction_120 : decode cX12_readsInstruction 120 = .ok (.iconst 2, 1) := by decide +kernel
theorem dX12_readsInstruction_121 : decode cX12_readsInstruction 121 = .ok (.if_icmp .ne 15, 3) := by decide +kernel
theorem dX12_readsInstruction_124 : decode cX12_readsInstruction 124 = .ok (.aload_n 0, 1) := by decide +kernel
theorem dX12_readsInstruction_125 : decode cX12_readsInstruction 125 = .ok (.iload 4, 2) := by decide +kernel
theorem dX12_readsInstruction_127 : decode cX12_readsInstruction 127 = .ok (.iload_n 1, 1) := by decide +kernel
theorem dX12_readsInstruction_128 : decode cX12_readsInstruction 128 = .ok (.invokevirtual 252, 3) := by decide +kernel
theorem dX12_readsInstruction_131 : decode cX12_readsInstruction 131 = .ok (.ifCond .ne 5, 3) := by decide +kernel
theorem dX12_readsInstruction_134 : decode cX12_readsInstruction 134 = .ok (.iconst 0, 1) := by decide +kernel
theorem dX12_readsInstruction_135 : decode cX12_readsInstruction 135 = .ok (.ireturn, 1) := by decide +kernel
theorem dX12_readsInstruction_136 : decode cX12_readsInstruction 136 = .ok (.iload_n 3, 1) := by decide +kernel
theorem dX12_readsInstruction_137 : decode cX12_readsInstruction 137 = .ok (.ifCond .eq 14, 3) := by decide +kernel
theorem dX12_readsInstruction_140 : decode cX12_readsInstruction 140 = .ok (.aload_n 0, 1) := by decide +kernel
theorem dX12_readsInstruction_141 : decode cX12_readsInstruction 141 = .ok (.iload 4, 2) := by decide +kernel
theorem dX12_readsInstruction_143 : decode cX12_readsInstruction 143 = .ok (.invokevirtual 255, 3) := by decide +kernel
theorem dX12_readsInstruction_146 : decode cX12_readsInstruction 146 = .ok (.ifCond .ne 5, 3) := by decide +kernel
theorem dX12_readsInstruction_149 : decode cX12_readsInstruction 149 = .ok (.iconst 0, 1) := by decide +kernel
theorem dX12_readsInstruction_150 : decode cX12_readsInstruction 150 = .ok (.ireturn, 1) := by decide +kernel
theorem dX12_readsInstruction_151 : decode cX12_readsInstruction 151 = .ok (.aload_n 0, 1) := by decide +kernel
theorem dX12_readsInstruction_152 : decode cX12_readsInstruction 152 = .ok (.getfield 20, 3) := by decide +kernel
theorem dX12_readsInstruction_155 : decode cX12_readsInstruction 155 = .ok (.iload 4, 2) := by decide +kernel
theorem dX12_readsInstruction_157 : decode cX12_readsInstruction 157 = .ok (.iconst 3, 1) := by decide +kernel
theorem dX12_readsInstruction_158 : decode cX12_readsInstruction 158 = .ok (.iadd, 1) := by decide +kernel
theorem dX12_readsInstruction_159 : decode cX12_readsInstruction 159 = .ok (.iaload, 1) := by decide +kernel
theorem dX12_readsInstruction_160 : decode cX12_readsInstruction 160 = .ok (.istore 5, 2) := by decide +kernel
theorem dX12_readsInstruction_162 : decode cX12_readsInstruction 162 = .ok (.aload_n 0, 1) := by decide +kernel
theorem dX12_readsInstruction_163 : decode cX12_readsInstruction 163 = .ok (.getfield 20, 3) := by decide +kernel
theorem dX12_readsInstruction_166 : decode cX12_readsInstruction 166 = .ok (.iload 4, 2) := by decide +kernel
theorem dX12_readsInstruction_168 : decode cX12_readsInstruction 168 = .ok (.iconst 3, 1) := by decide +kernel
theorem dX12_readsInstruction_169 : decode cX12_readsInstruction 169 = .ok (.iadd, 1) := by decide +kernel
theorem dX12_readsInstruction_170 : decode cX12_readsInstruction 170 = .ok (.iconst (-1), 1) := by decide +kernel
theorem dX12_readsInstruction_171 : decode cX12_readsInstruction 171 = .ok (.iastore, 1) := by decide +kernel
theorem dX12_readsInstruction_172 : decode cX12_readsInstruction 172 = .ok (.iload_n 2, 1) := by decide +kernel
theorem dX12_readsInstruction_173 : decode cX12_readsInstruction 173 = .ok (.ifCond .eq 8, 3) := by decide +kernel
theorem dX12_readsInstruction_176 : decode cX12_readsInstruction 176 = .ok (.iload_n 2, 1) := by decide +kernel
theorem dX12_readsInstruction_177 : decode cX12_readsInstruction 177 = .ok (.iconst 2, 1) := by decide +kernel
theorem dX12_readsInstruction_178 : decode cX12_readsInstruction 178 = .ok (.if_icmp .ne 15, 3) := by decide +kernel
theorem dX12_readsInstruction_181 : decode cX12_readsInstruction 181 = .ok (.aload_n 0, 1) := by decide +kernel
theorem dX12_readsInstruction_182 : decode cX12_readsInstruction 182 = .ok (.iload 4, 2) := by decide +kernel
theorem dX12_readsInstruction_184 : decode cX12_readsInstruction 184 = .ok (.iload_n 1, 1) := by decide +kernel
theorem dX12_readsInstruction_185 : decode cX12_readsInstruction 185 = .ok (.invokevirtual 258, 3) := by decide +kernel
theorem dX12_readsInstruction_188 : decode cX12_readsInstruction 188 = .ok (.ifCond .ne 5, 3) := by decide +kernel
theorem dX12_readsInstruction_191 : decode cX12_readsInstruction 191 = .ok (.iconst 0, 1) := by decide +kernel
theorem dX12_readsInstruction_192 : decode cX12_readsInstruction 192 = .ok (.ireturn, 1) := by decide +kernel
theorem dX12_readsInstruction_193 : decode cX12_readsInstruction 193 = .ok (.aload_n 0, 1) := by decide +kernel
theorem dX12_readsInstruction_194 : decode cX12_readsInstruction 194 = .ok (.getfield 20, 3) := by decide +kernel
theorem dX12_readsInstruction_197 : decode cX12_readsInstruction 197 = .ok (.iload 4, 2) := by decide +kernel
theorem dX12_readsInstruction_199 : decode cX12_readsInstruction 199 = .ok (.iconst 0, 1) := by decide +kernel
theorem dX12_readsInstruction_200 : decode cX12_readsInstruction 200 = .ok (.iadd, 1) := by decide +kernel
theorem dX12_readsInstruction_201 : decode cX12_readsInstruction 201 = .ok (.iload_n 1, 1) := by decide +kernel
theorem dX12_readsInstruction_202 : decode cX12_readsInstruction 202 = .ok (.iastore, 1) := by decide +kernel
theorem dX12_readsInstruction_203 : decode cX12_readsInstruction 203 = .ok (.aload_n 0, 1) := by decide +kernel
theorem dX12_readsInstruction_204 : decode cX12_readsInstruction 204 = .ok (.getfield 20, 3) := by decide +kernel
theorem dX12_readsInstruction_207 : decode cX12_readsInstruction 207 = .ok (.iload 4, 2) := by decide +kernel
theorem dX12_readsInstruction_209 : decode cX12_readsInstruction 209 = .ok (.iconst 1, 1) := by decide +kernel
theorem dX12_readsInstruction_210 : decode cX12_readsInstruction 210 = .ok (.iadd, 1) := by decide +kernel
theorem dX12_readsInstruction_211 : decode cX12_readsInstruction 211 = .ok (.iload_n 2, 1) := by decide +kernel
theorem dX12_readsInstruction_212 : decode cX12_readsInstruction 212 = .ok (.iastore, 1) := by decide +kernel
theorem dX12_readsInstruction_213 : decode cX12_readsInstruction 213 = .ok (.aload_n 0, 1) := by decide +kernel
theorem dX12_readsInstruction_214 : decode cX12_readsInstruction 214 = .ok (.getfield 20, 3) := by decide +kernel
theorem dX12_readsInstruction_217 : decode cX12_readsInstruction 217 = .ok (.iload 4, 2) := by decide +kernel
theorem dX12_readsInstruction_219 : decode cX12_readsInstruction 219 = .ok (.iconst 3, 1) := by decide +kernel
theorem dX12_readsInstruction_220 : decode cX12_readsInstruction 220 = .ok (.iadd, 1) := by decide +kernel
theorem dX12_readsInstruction_221 : decode cX12_readsInstruction 221 = .ok (.iload 5, 2) := by decide +kernel
theorem dX12_readsInstruction_223 : decode cX12_readsInstruction 223 = .ok (.iastore, 1) := by decide +kernel
theorem dX12_readsInstruction_224 : decode cX12_readsInstruction 224 = .ok (.aload_n 0, 1) := by decide +kernel
theorem dX12_readsInstruction_225 : decode cX12_readsInstruction 225 = .ok (.getfield 20, 3) := by decide +kernel
theorem dX12_readsInstruction_228 : decode cX12_readsInstruction 228 = .ok (.iconst 0, 1) := by decide +kernel
theorem dX12_readsInstruction_229 : decode cX12_readsInstruction 229 = .ok (.dup2, 1) := by decide +kernel
theorem dX12_readsInstruction_230 : decode cX12_readsInstruction 230 = .ok (.iaload, 1) := by decide +kernel
theorem dX12_readsInstruction_231 : decode cX12_readsInstruction 231 = .ok (.iconst 1, 1) := by decide +kernel
theorem dX12_readsInstruction_232 : decode cX12_readsInstruction 232 = .ok (.iadd, 1) := by decide +kernel
theorem dX12_readsInstruction_233 : decode cX12_readsInstruction 233 = .ok (.iastore, 1) := by decide +kernel
theorem dX12_readsInstruction_234 : decode cX12_readsInstruction 234 = .ok (.aload_n 0, 1) := by decide +kernel
theorem dX12_readsInstruction_235 : decode cX12_readsInstruction 235 = .ok (.invokevirtual 241, 3) := by decide +kernel
theorem dX12_readsInstruction_238 : decode cX12_readsInstruction 238 = .ok (.ireturn, 1) := by decide +kernel
theorem dX12_readsThread_0 : decode cX12_readsThread 0 = .ok (.aload_n 0, 1) := by decide +kernel
theorem dX12_readsThread_1 : decode cX12_readsThread 1 = .ok (.getfield 20, 3) := by decide +kernel
theorem dX12_readsThread_4 : decode cX12_readsThread 4 = .ok (.iconst 1, 1) := by decide +kernel
theorem dX12_readsThread_5 : decode cX12_readsThread 5 = .ok (.iaload, 1) := by decide +kernel
theorem dX12_readsThread_6 : decode cX12_readsThread 6 = .ok (.iconst 4, 1) := by decide +kernel
theorem dX12_readsThread_7 : decode cX12_readsThread 7 = .ok (.if_icmp .ne 9, 3) := by decide +kernel
theorem dX12_readsThread_10 : decode cX12_readsThread 10 = .ok (.aload_n 0, 1) := by decide +kernel
theorem dX12_readsThread_11 : decode cX12_readsThread 11 = .ok (.iconst 5, 1) := by decide +kernel
theorem dX12_readsThread_12 : decode cX12_readsThread 12 = .ok (.invokevirtual 218, 3) := by decide +kernel
theorem dX12_readsThread_15 : decode cX12_readsThread 15 = .ok (.ireturn, 1) := by decide +kernel
theorem dX12_readsThread_16 : decode cX12_readsThread 16 = .ok (.aload_n 0, 1) := by decide +kernel
theorem dX12_readsThread_17 : decode cX12_readsThread 17 = .ok (.invokevirtual 221, 3) := by decide +kernel
theorem dX12_readsThread_20 : decode cX12_readsThread 20 = .ok (.aload_n 0, 1) := by decide +kernel
theorem dX12_readsThread_21 : decode cX12_readsThread 21 = .ok (.getfield 20, 3) := by decide +kernel
theorem dX12_readsThread_24 : decode cX12_readsThread 24 = .ok (.iconst 1, 1) := by decide +kernel
theorem dX12_readsThread_25 : decode cX12_readsThread 25 = .ok (.dup2, 1) := by decide +kernel
theorem dX12_readsThread_26 : decode cX12_readsThread 26 = .ok (.iaload, 1) := by decide +kernel
theorem dX12_readsThread_27 : decode cX12_readsThread 27 = .ok (.iconst 1, 1) := by decide +kernel
theorem dX12_readsThread_28 : decode cX12_readsThread 28 = .ok (.iadd, 1) := by decide +kernel
theorem dX12_readsThread_29 : decode cX12_readsThread 29 = .ok (.iastore, 1) := by decide +kernel
theorem dX12_readsThread_30 : decode cX12_readsThread 30 = .ok (.aload_n 0, 1) := by decide +kernel
theorem dX12_readsThread_31 : decode cX12_readsThread 31 = .ok (.invokevirtual 241, 3) := by decide +kernel
theorem dX12_readsThread_34 : decode cX12_readsThread 34 = .ok (.ifCond .ne 5, 3) := by decide +kernel
theorem dX12_readsThread_37 : decode cX12_readsThread 37 = .ok (.iconst 0, 1) := by decide +kernel
theorem dX12_readsThread_38 : decode cX12_readsThread 38 = .ok (.ireturn, 1) := by decide +kernel
theorem dX12_readsThread_39 : decode cX12_readsThread 39 = .ok (.aload_n 0, 1) := by decide +kernel
theorem dX12_readsThread_40 : decode cX12_readsThread 40 = .ok (.invokevirtual 194, 3) := by decide +kernel
theorem dX12_readsThread_43 : decode cX12_readsThread 43 = .ok (.iconst (-1), 1) := by decide +kernel
theorem dX12_readsThread_44 : decode cX12_readsThread 44 = .ok (.if_icmp .eq 20, 3) := by decide +kernel
theorem dX12_readsThread_47 : decode cX12_readsThread 47 = .ok (.aload_n 0, 1) := by decide +kernel
theorem dX12_readsThread_48 : decode cX12_readsThread 48 = .ok (.aload_n 0, 1) := by decide +kernel
theorem dX12_readsThread_49 : decode cX12_readsThread 49 = .ok (.getfield 20, 3) := by decide +kernel
theorem dX12_readsThread_52 : decode cX12_readsThread 52 = .ok (.iconst 1, 1) := by decide +kernel
theorem dX12_readsThread_53 : decode cX12_readsThread 53 = .ok (.iaload, 1) := by decide +kernel
theorem dX12_readsThread_54 : decode cX12_readsThread 54 = .ok (.iconst 1, 1) := by decide +kernel
theorem dX12_readsThread_55 : decode cX12_readsThread 55 = .ok (.isub, 1) := by decide +kernel
theorem dX12_readsThread_56 : decode cX12_readsThread 56 = .ok (.invokevirtual 261, 3) := by decide +kernel
theorem dX12_readsThread_59 : decode cX12_readsThread 59 = .ok (.ifCond .ne (-20), 3) := by decide +kernel
theorem dX12_readsThread_62 : decode cX12_readsThread 62 = .ok (.iconst 0, 1) := by decide +kernel
theorem dX12_readsThread_63 : decode cX12_readsThread 63 = .ok (.ireturn, 1) := by decide +kernel
theorem dX12_readsThread_64 : decode cX12_readsThread 64 = .ok (.iconst 1, 1) := by decide +kernel
theorem dX12_readsThread_65 : decode cX12_readsThread 65 = .ok (.ireturn, 1) := by decide +kernel
theorem dX12_tells_0 : decode cX12_tells 0 = .ok (.aload_n 0, 1) := by decide +kernel
theorem dX12_tells_1 : decode cX12_tells 1 = .ok (.getfield 41, 3) := by decide +kernel
theorem dX12_tells_4 : decode cX12_tells 4 = .ok (.aload_n 0, 1) := by decide +kernel
theorem dX12_tells_5 : decode cX12_tells 5 = .ok (.getfield 264, 3) := by decide +kernel
theorem dX12_tells_8 : decode cX12_tells 8 = .ok (.iload_n 1, 1) := by decide +kernel
theorem dX12_tells_9 : decode cX12_tells 9 = .ok (.iastore, 1) := by decide +kernel
theorem dX12_tells_10 : decode cX12_tells 10 = .ok (.aload_n 0, 1) := by decide +kernel
theorem dX12_tells_11 : decode cX12_tells 11 = .ok (.dup, 1) := by decide +kernel
theorem dX12_tells_12 : decode cX12_tells 12 = .ok (.getfield 264, 3) := by decide +kernel
theorem dX12_tells_15 : decode cX12_tells 15 = .ok (.iconst 1, 1) := by decide +kernel
theorem dX12_tells_16 : decode cX12_tells 16 = .ok (.iadd, 1) := by decide +kernel
theorem dX12_tells_17 : decode cX12_tells 17 = .ok (.putfield 264, 3) := by decide +kernel
theorem dX12_tells_20 : decode cX12_tells 20 = .ok (.return_, 1) := by decide +kernel
theorem dX12_readsCompare_0 : decode cX12_readsCompare 0 = .ok (.aload_n 0, 1) := by decide +kernel
theorem dX12_readsCompare_1 : decode cX12_readsCompare 1 = .ok (.bipush 61, 2) := by decide +kernel
theorem dX12_readsCompare_3 : decode cX12_readsCompare 3 = .ok (.invokevirtual 215, 3) := by decide +kernel
theorem dX12_readsCompare_6 : decode cX12_readsCompare 6 = .ok (.ifCond .ne 18, 3) := by decide +kernel
theorem dX12_readsCompare_9 : decode cX12_readsCompare 9 = .ok (.aload_n 0, 1) := by decide +kernel
theorem dX12_readsCompare_10 : decode cX12_readsCompare 10 = .ok (.bipush 60, 2) := by decide +kernel
theorem dX12_readsCompare_12 : decode cX12_readsCompare 12 = .ok (.invokevirtual 215, 3) := by decide +kernel
theorem dX12_readsCompare_15 : decode cX12_readsCompare 15 = .ok (.ifCond .ne 9, 3) := by decide +kernel
theorem dX12_readsCompare_18 : decode cX12_readsCompare 18 = .ok (.aload_n 0, 1) := by decide +kernel
theorem dX12_readsCompare_19 : decode cX12_readsCompare 19 = .ok (.iconst 1, 1) := by decide +kernel
theorem dX12_readsCompare_20 : decode cX12_readsCompare 20 = .ok (.invokevirtual 218, 3) := by decide +kernel
theorem dX12_readsCompare_23 : decode cX12_readsCompare 23 = .ok (.ireturn, 1) := by decide +kernel
theorem dX12_readsCompare_24 : decode cX12_readsCompare 24 = .ok (.aload_n 0, 1) := by decide +kernel
theorem dX12_readsCompare_25 : decode cX12_readsCompare 25 = .ok (.bipush 60, 2) := by decide +kernel
theorem dX12_readsCompare_27 : decode cX12_readsCompare 27 = .ok (.invokevirtual 215, 3) := by decide +kernel
theorem dX12_readsCompare_30 : decode cX12_readsCompare 30 = .ok (.ifCond .eq 7, 3) := by decide +kernel
theorem dX12_readsCompare_33 : decode cX12_readsCompare 33 = .ok (.iconst 1, 1) := by decide +kernel
theorem dX12_readsCompare_34 : decode cX12_readsCompare 34 = .ok (.goto 4, 3) := by decide +kernel
theorem dX12_readsCompare_37 : decode cX12_readsCompare 37 = .ok (.iconst 0, 1) := by decide +kernel
theorem dX12_readsCompare_38 : decode cX12_readsCompare 38 = .ok (.istore_n 2, 1) := by decide +kernel
theorem dX12_readsCompare_39 : decode cX12_readsCompare 39 = .ok (.aload_n 0, 1) := by decide +kernel
theorem dX12_readsCompare_40 : decode cX12_readsCompare 40 = .ok (.invokevirtual 221, 3) := by decide +kernel
theorem dX12_readsCompare_43 : decode cX12_readsCompare 43 = .ok (.aload_n 0, 1) := by decide +kernel
theorem dX12_readsCompare_44 : decode cX12_readsCompare 44 = .ok (.getfield 162, 3) := by decide +kernel
theorem dX12_readsCompare_47 : decode cX12_readsCompare 47 = .ok (.iconst 4, 1) := by decide +kernel
theorem dX12_readsCompare_48 : decode cX12_readsCompare 48 = .ok (.if_icmp .eq 9, 3) := by decide +kernel
theorem dX12_readsCompare_51 : decode cX12_readsCompare 51 = .ok (.aload_n 0, 1) := by decide +kernel
theorem dX12_readsCompare_52 : decode cX12_readsCompare 52 = .ok (.iconst 1, 1) := by decide +kernel
theorem dX12_readsCompare_53 : decode cX12_readsCompare 53 = .ok (.invokevirtual 218, 3) := by decide +kernel
theorem dX12_readsCompare_56 : decode cX12_readsCompare 56 = .ok (.ireturn, 1) := by decide +kernel
theorem dX12_readsCompare_57 : decode cX12_readsCompare 57 = .ok (.aload_n 0, 1) := by decide +kernel
theorem dX12_readsCompare_58 : decode cX12_readsCompare 58 = .ok (.getfield 159, 3) := by decide +kernel
theorem dX12_readsCompare_61 : decode cX12_readsCompare 61 = .ok (.iconst 3, 1) := by decide +kernel
theorem dX12_readsCompare_62 : decode cX12_readsCompare 62 = .ok (.if_icmp .le 9, 3) := by decide +kernel
theorem dX12_readsCompare_65 : decode cX12_readsCompare 65 = .ok (.aload_n 0, 1) := by decide +kernel
theorem dX12_readsCompare_66 : decode cX12_readsCompare 66 = .ok (.iconst 2, 1) := by decide +kernel
theorem dX12_readsCompare_67 : decode cX12_readsCompare 67 = .ok (.invokevirtual 218, 3) := by decide +kernel
theorem dX12_readsCompare_70 : decode cX12_readsCompare 70 = .ok (.ireturn, 1) := by decide +kernel
theorem dX12_readsCompare_71 : decode cX12_readsCompare 71 = .ok (.aload_n 0, 1) := by decide +kernel
theorem dX12_readsCompare_72 : decode cX12_readsCompare 72 = .ok (.bipush 8, 2) := by decide +kernel
theorem dX12_readsCompare_74 : decode cX12_readsCompare 74 = .ok (.iload_n 1, 1) := by decide +kernel
theorem dX12_readsCompare_75 : decode cX12_readsCompare 75 = .ok (.imul, 1) := by decide +kernel
theorem dX12_readsCompare_76 : decode cX12_readsCompare 76 = .ok (.iconst 4, 1) := by decide +kernel
theorem dX12_readsCompare_77 : decode cX12_readsCompare 77 = .ok (.iload_n 2, 1) := by decide +kernel
theorem dX12_readsCompare_78 : decode cX12_readsCompare 78 = .ok (.imul, 1) := by decide +kernel
theorem dX12_readsCompare_79 : decode cX12_readsCompare 79 = .ok (.iadd, 1) := by decide +kernel
theorem dX12_readsCompare_80 : decode cX12_readsCompare 80 = .ok (.aload_n 0, 1) := by decide +kernel
theorem dX12_readsCompare_81 : decode cX12_readsCompare 81 = .ok (.getfield 159, 3) := by decide +kernel
theorem dX12_readsCompare_84 : decode cX12_readsCompare 84 = .ok (.iadd, 1) := by decide +kernel
theorem dX12_readsCompare_85 : decode cX12_readsCompare 85 = .ok (.invokevirtual 267, 3) := by decide +kernel
theorem dX12_readsCompare_88 : decode cX12_readsCompare 88 = .ok (.aload_n 0, 1) := by decide +kernel
theorem dX12_readsCompare_89 : decode cX12_readsCompare 89 = .ok (.invokevirtual 221, 3) := by decide +kernel
theorem dX12_readsCompare_92 : decode cX12_readsCompare 92 = .ok (.iconst 1, 1) := by decide +kernel
theorem dX12_readsCompare_93 : decode cX12_readsCompare 93 = .ok (.ireturn, 1) := by decide +kernel
theorem dX12_readsUnit_0 : decode cX12_readsUnit 0 = .ok (.aload_n 0, 1) := by decide +kernel
theorem dX12_readsUnit_1 : decode cX12_readsUnit 1 = .ok (.ldc 207, 2) := by decide +kernel
theorem dX12_readsUnit_3 : decode cX12_readsUnit 3 = .ok (.invokevirtual 190, 3) := by decide +kernel
theorem dX12_readsUnit_6 : decode cX12_readsUnit 6 = .ok (.istore_n 2, 1) := by decide +kernel
theorem dX12_readsUnit_7 : decode cX12_readsUnit 7 = .ok (.aload_n 0, 1) := by decide +kernel
theorem dX12_readsUnit_8 : decode cX12_readsUnit 8 = .ok (.bipush 40, 2) := by decide +kernel
theorem dX12_readsUnit_10 : decode cX12_readsUnit 10 = .ok (.invokevirtual 215, 3) := by decide +kernel
theorem dX12_readsUnit_13 : decode cX12_readsUnit 13 = .ok (.istore_n 3, 1) := by decide +kernel
theorem dX12_readsUnit_14 : decode cX12_readsUnit 14 = .ok (.iload_n 2, 1) := by decide +kernel
theorem dX12_readsUnit_15 : decode cX12_readsUnit 15 = .ok (.ifCond .ne 28, 3) := by decide +kernel
theorem dX12_readsUnit_18 : decode cX12_readsUnit 18 = .ok (.iload_n 3, 1) := by decide +kernel
theorem dX12_readsUnit_19 : decode cX12_readsUnit 19 = .ok (.ifCond .ne 24, 3) := by decide +kernel
theorem dX12_readsUnit_22 : decode cX12_readsUnit 22 = .ok (.aload_n 0, 1) := by decide +kernel
theorem dX12_readsUnit_23 : decode cX12_readsUnit 23 = .ok (.getfield 162, 3) := by decide +kernel
theorem dX12_readsUnit_26 : decode cX12_readsUnit 26 = .ok (.iconst 4, 1) := by decide +kernel
theorem dX12_readsUnit_27 : decode cX12_readsUnit 27 = .ok (.if_icmp .eq 16, 3) := by decide +kernel
theorem dX12_readsUnit_30 : decode cX12_readsUnit 30 = .ok (.aload_n 0, 1) := by decide +kernel
theorem dX12_readsUnit_31 : decode cX12_readsUnit 31 = .ok (.invokevirtual 234, 3) := by decide +kernel
theorem dX12_readsUnit_34 : decode cX12_readsUnit 34 = .ok (.ifCond .ne 9, 3) := by decide +kernel
theorem dX12_readsUnit_37 : decode cX12_readsUnit 37 = .ok (.aload_n 0, 1) := by decide +kernel
theorem dX12_readsUnit_38 : decode cX12_readsUnit 38 = .ok (.iconst 1, 1) := by decide +kernel
theorem dX12_readsUnit_39 : decode cX12_readsUnit 39 = .ok (.invokevirtual 218, 3) := by decide +kernel
theorem dX12_readsUnit_42 : decode cX12_readsUnit 42 = .ok (.ireturn, 1) := by decide +kernel
theorem dX12_readsUnit_43 : decode cX12_readsUnit 43 = .ok (.aload_n 0, 1) := by decide +kernel
theorem dX12_readsUnit_44 : decode cX12_readsUnit 44 = .ok (.getfield 162, 3) := by decide +kernel
theorem dX12_readsUnit_47 : decode cX12_readsUnit 47 = .ok (.iconst 4, 1) := by decide +kernel
theorem dX12_readsUnit_48 : decode cX12_readsUnit 48 = .ok (.if_icmp .ne 22, 3) := by decide +kernel
theorem dX12_readsUnit_51 : decode cX12_readsUnit 51 = .ok (.aload_n 0, 1) := by decide +kernel
theorem dX12_readsUnit_52 : decode cX12_readsUnit 52 = .ok (.getfield 159, 3) := by decide +kernel
theorem dX12_readsUnit_55 : decode cX12_readsUnit 55 = .ok (.aload_n 0, 1) := by decide +kernel
theorem dX12_readsUnit_56 : decode cX12_readsUnit 56 = .ok (.getfield 20, 3) := by decide +kernel
theorem dX12_readsUnit_59 : decode cX12_readsUnit 59 = .ok (.iconst 1, 1) := by decide +kernel
theorem dX12_readsUnit_60 : decode cX12_readsUnit 60 = .ok (.iaload, 1) := by decide +kernel
theorem dX12_readsUnit_61 : decode cX12_readsUnit 61 = .ok (.if_icmp .lt 9, 3) := by decide +kernel
theorem dX12_readsUnit_64 : decode cX12_readsUnit 64 = .ok (.aload_n 0, 1) := by decide +kernel
theorem dX12_readsUnit_65 : decode cX12_readsUnit 65 = .ok (.iconst 2, 1) := by decide +kernel
theorem dX12_readsUnit_66 : decode cX12_readsUnit 66 = .ok (.invokevirtual 218, 3) := by decide +kernel
theorem dX12_readsUnit_69 : decode cX12_readsUnit 69 = .ok (.ireturn, 1) := by decide +kernel
theorem dX12_readsUnit_70 : decode cX12_readsUnit 70 = .ok (.aload_n 0, 1) := by decide +kernel
theorem dX12_readsUnit_71 : decode cX12_readsUnit 71 = .ok (.invokevirtual 234, 3) := by decide +kernel
theorem dX12_readsUnit_74 : decode cX12_readsUnit 74 = .ok (.ifCond .eq 23, 3) := by decide +kernel
theorem dX12_readsUnit_77 : decode cX12_readsUnit 77 = .ok (.aload_n 0, 1) := by decide +kernel
theorem dX12_readsUnit_78 : decode cX12_readsUnit 78 = .ok (.aload_n 0, 1) := by decide +kernel
theorem dX12_readsUnit_79 : decode cX12_readsUnit 79 = .ok (.getfield 156, 3) := by decide +kernel
theorem dX12_readsUnit_82 : decode cX12_readsUnit 82 = .ok (.aload_n 0, 1) := by decide +kernel
theorem dX12_readsUnit_83 : decode cX12_readsUnit 83 = .ok (.getfield 142, 3) := by decide +kernel
theorem dX12_readsUnit_86 : decode cX12_readsUnit 86 = .ok (.aload_n 0, 1) := by decide +kernel
theorem dX12_readsUnit_87 : decode cX12_readsUnit 87 = .ok (.getfield 156, 3) := by decide +kernel
theorem dX12_readsUnit_90 : decode cX12_readsUnit 90 = .ok (.isub, 1) := by decide +kernel
theorem dX12_readsUnit_91 : decode cX12_readsUnit 91 = .ok (.invokevirtual 230, 3) := by decide +kernel
theorem dX12_readsUnit_94 : decode cX12_readsUnit 94 = .ok (.goto 4, 3) := by decide +kernel
theorem dX12_readsUnit_97 : decode cX12_readsUnit 97 = .ok (.iconst 0, 1) := by decide +kernel
theorem dX12_readsUnit_98 : decode cX12_readsUnit 98 = .ok (.istore 4, 2) := by decide +kernel
theorem dX12_readsUnit_100 : decode cX12_readsUnit 100 = .ok (.iload 4, 2) := by decide +kernel
theorem dX12_readsUnit_102 : decode cX12_readsUnit 102 = .ok (.iconst (-1), 1) := by decide +kernel
theorem dX12_readsUnit_103 : decode cX12_readsUnit 103 = .ok (.if_icmp .ne 9, 3) := by decide +kernel
theorem dX12_readsUnit_106 : decode cX12_readsUnit 106 = .ok (.aload_n 0, 1) := by decide +kernel
theorem dX12_readsUnit_107 : decode cX12_readsUnit 107 = .ok (.iconst 4, 1) := by decide +kernel
theorem dX12_readsUnit_108 : decode cX12_readsUnit 108 = .ok (.invokevirtual 218, 3) := by decide +kernel
theorem dX12_readsUnit_111 : decode cX12_readsUnit 111 = .ok (.ireturn, 1) := by decide +kernel
theorem dX12_readsUnit_112 : decode cX12_readsUnit 112 = .ok (.iload_n 1, 1) := by decide +kernel
theorem dX12_readsUnit_113 : decode cX12_readsUnit 113 = .ok (.iconst 4, 1) := by decide +kernel
theorem dX12_readsUnit_114 : decode cX12_readsUnit 114 = .ok (.if_icmp .gt 12, 3) := by decide +kernel
theorem dX12_readsUnit_117 : decode cX12_readsUnit 117 = .ok (.aload_n 0, 1) := by decide +kernel
theorem dX12_readsUnit_118 : decode cX12_readsUnit 118 = .ok (.getfield 270, 3) := by decide +kernel
theorem dX12_readsUnit_121 : decode cX12_readsUnit 121 = .ok (.bipush 16, 2) := by decide +kernel
theorem dX12_readsUnit_123 : decode cX12_readsUnit 123 = .ok (.if_icmp .ne 9, 3) := by decide +kernel
theorem dX12_readsUnit_126 : decode cX12_readsUnit 126 = .ok (.aload_n 0, 1) := by decide +kernel
theorem dX12_readsUnit_127 : decode cX12_readsUnit 127 = .ok (.iconst 5, 1) := by decide +kernel
theorem dX12_readsUnit_128 : decode cX12_readsUnit 128 = .ok (.invokevirtual 218, 3) := by decide +kernel
theorem dX12_readsUnit_131 : decode cX12_readsUnit 131 = .ok (.ireturn, 1) := by decide +kernel
theorem dX12_readsUnit_132 : decode cX12_readsUnit 132 = .ok (.aload_n 0, 1) := by decide +kernel
theorem dX12_readsUnit_133 : decode cX12_readsUnit 133 = .ok (.dup, 1) := by decide +kernel
theorem dX12_readsUnit_134 : decode cX12_readsUnit 134 = .ok (.getfield 270, 3) := by decide +kernel
theorem dX12_readsUnit_137 : decode cX12_readsUnit 137 = .ok (.iconst 1, 1) := by decide +kernel
theorem dX12_readsUnit_138 : decode cX12_readsUnit 138 = .ok (.iadd, 1) := by decide +kernel
theorem dX12_readsUnit_139 : decode cX12_readsUnit 139 = .ok (.putfield 270, 3) := by decide +kernel
theorem dX12_readsUnit_142 : decode cX12_readsUnit 142 = .ok (.aload_n 0, 1) := by decide +kernel
theorem dX12_readsUnit_143 : decode cX12_readsUnit 143 = .ok (.getfield 159, 3) := by decide +kernel
theorem dX12_readsUnit_146 : decode cX12_readsUnit 146 = .ok (.istore 5, 2) := by decide +kernel
theorem dX12_readsUnit_148 : decode cX12_readsUnit 148 = .ok (.aload_n 0, 1) := by decide +kernel
theorem dX12_readsUnit_149 : decode cX12_readsUnit 149 = .ok (.getfield 162, 3) := by decide +kernel
theorem dX12_readsUnit_152 : decode cX12_readsUnit 152 = .ok (.iconst 4, 1) := by decide +kernel
theorem dX12_readsUnit_153 : decode cX12_readsUnit 153 = .ok (.if_icmp .ne 7, 3) := by decide +kernel
theorem dX12_readsUnit_156 : decode cX12_readsUnit 156 = .ok (.iconst 1, 1) := by decide +kernel
theorem dX12_readsUnit_157 : decode cX12_readsUnit 157 = .ok (.goto 4, 3) := by decide +kernel
theorem dX12_readsUnit_160 : decode cX12_readsUnit 160 = .ok (.iconst 0, 1) := by decide +kernel
theorem dX12_readsUnit_161 : decode cX12_readsUnit 161 = .ok (.istore 6, 2) := by decide +kernel
theorem dX12_readsUnit_163 : decode cX12_readsUnit 163 = .ok (.aload_n 0, 1) := by decide +kernel
theorem dX12_readsUnit_164 : decode cX12_readsUnit 164 = .ok (.invokevirtual 221, 3) := by decide +kernel
theorem dX12_readsUnit_167 : decode cX12_readsUnit 167 = .ok (.iload_n 2, 1) := by decide +kernel
theorem dX12_readsUnit_168 : decode cX12_readsUnit 168 = .ok (.ifCond .eq 23, 3) := by decide +kernel
theorem dX12_readsUnit_171 : decode cX12_readsUnit 171 = .ok (.aload_n 0, 1) := by decide +kernel
theorem dX12_readsUnit_172 : decode cX12_readsUnit 172 = .ok (.iload_n 1, 1) := by decide +kernel
theorem dX12_readsUnit_173 : decode cX12_readsUnit 173 = .ok (.iconst 1, 1) := by decide +kernel
theorem dX12_readsUnit_174 : decode cX12_readsUnit 174 = .ok (.iadd, 1) := by decide +kernel
theorem dX12_readsUnit_175 : decode cX12_readsUnit 175 = .ok (.invokevirtual 273, 3) := by decide +kernel
theorem dX12_readsUnit_178 : decode cX12_readsUnit 178 = .ok (.ifCond .ne 5, 3) := by decide +kernel
theorem dX12_readsUnit_181 : decode cX12_readsUnit 181 = .ok (.iconst 0, 1) := by decide +kernel
theorem dX12_readsUnit_182 : decode cX12_readsUnit 182 = .ok (.ireturn, 1) := by decide +kernel
theorem dX12_readsUnit_183 : decode cX12_readsUnit 183 = .ok (.aload_n 0, 1) := by decide +kernel
theorem dX12_readsUnit_184 : decode cX12_readsUnit 184 = .ok (.bipush (-3), 2) := by decide +kernel
theorem dX12_readsUnit_186 : decode cX12_readsUnit 186 = .ok (.invokevirtual 267, 3) := by decide +kernel
theorem dX12_readsUnit_189 : decode cX12_readsUnit 189 = .ok (.iconst 1, 1) := by decide +kernel
theorem dX12_readsUnit_190 : decode cX12_readsUnit 190 = .ok (.ireturn, 1) := by decide +kernel
theorem dX12_readsUnit_191 : decode cX12_readsUnit 191 = .ok (.iload_n 3, 1) := by decide +kernel
theorem dX12_readsUnit_192 : decode cX12_readsUnit 192 = .ok (.ifCond .eq 36, 3) := by decide +kernel
theorem dX12_readsUnit_195 : decode cX12_readsUnit 195 = .ok (.aload_n 0, 1) := by decide +kernel
theorem dX12_readsUnit_196 : decode cX12_readsUnit 196 = .ok (.iload_n 1, 1) := by decide +kernel
theorem dX12_readsUnit_197 : decode cX12_readsUnit 197 = .ok (.iconst 1, 1) := by decide +kernel
theorem dX12_readsUnit_198 : decode cX12_readsUnit 198 = .ok (.iadd, 1) := by decide +kernel
theorem dX12_readsUnit_199 : decode cX12_readsUnit 199 = .ok (.invokevirtual 276, 3) := by decide +kernel
theorem dX12_readsUnit_202 : decode cX12_readsUnit 202 = .ok (.ifCond .ne 5, 3) := by decide +kernel
theorem dX12_readsUnit_205 : decode cX12_readsUnit 205 = .ok (.iconst 0, 1) := by decide +kernel
theorem dX12_readsUnit_206 : decode cX12_readsUnit 206 = .ok (.ireturn, 1) := by decide +kernel
theorem dX12_readsUnit_207 : decode cX12_readsUnit 207 = .ok (.aload_n 0, 1) := by decide +kernel
theorem dX12_readsUnit_208 : decode cX12_readsUnit 208 = .ok (.bipush 41, 2) := by decide +kernel
theorem dX12_readsUnit_210 : decode cX12_readsUnit 210 = .ok (.invokevirtual 215, 3) := by decide +kernel
theorem dX12_readsUnit_213 : decode cX12_readsUnit 213 = .ok (.ifCond .ne 9, 3) := by decide +kernel
theorem dX12_readsUnit_216 : decode cX12_readsUnit 216 = .ok (.aload_n 0, 1) := by decide +kernel
theorem dX12_readsUnit_217 : decode cX12_readsUnit 217 = .ok (.iconst 1, 1) := by decide +kernel
theorem dX12_readsUnit_218 : decode cX12_readsUnit 218 = .ok (.invokevirtual 218, 3) := by decide +kernel
theorem dX12_readsUnit_221 : decode cX12_readsUnit 221 = .ok (.ireturn, 1) := by decide +kernel
theorem dX12_readsUnit_222 : decode cX12_readsUnit 222 = .ok (.aload_n 0, 1) := by decide +kernel
theorem dX12_readsUnit_223 : decode cX12_readsUnit 223 = .ok (.invokevirtual 221, 3) := by decide +kernel
theorem dX12_readsUnit_226 : decode cX12_readsUnit 226 = .ok (.iconst 1, 1) := by decide +kernel
theorem dX12_readsUnit_227 : decode cX12_readsUnit 227 = .ok (.ireturn, 1) := by decide +kernel
theorem dX12_readsUnit_228 : decode cX12_readsUnit 228 = .ok (.iload 6, 2) := by decide +kernel
theorem dX12_readsUnit_230 : decode cX12_readsUnit 230 = .ok (.ifCond .ne 19, 3) := by decide +kernel
theorem dX12_readsUnit_233 : decode cX12_readsUnit 233 = .ok (.aload_n 0, 1) := by decide +kernel
theorem dX12_readsUnit_234 : decode cX12_readsUnit 234 = .ok (.iconst 2, 1) := by decide +kernel
theorem dX12_readsUnit_235 : decode cX12_readsUnit 235 = .ok (.aload_n 0, 1) := by decide +kernel
theorem dX12_readsUnit_236 : decode cX12_readsUnit 236 = .ok (.getfield 20, 3) := by decide +kernel
theorem dX12_readsUnit_239 : decode cX12_readsUnit 239 = .ok (.iconst 1, 1) := by decide +kernel
theorem dX12_readsUnit_240 : decode cX12_readsUnit 240 = .ok (.iaload, 1) := by decide +kernel
theorem dX12_readsUnit_241 : decode cX12_readsUnit 241 = .ok (.imul, 1) := by decide +kernel
theorem dX12_readsUnit_242 : decode cX12_readsUnit 242 = .ok (.iload 4, 2) := by decide +kernel
theorem dX12_readsUnit_244 : decode cX12_readsUnit 244 = .ok (.iadd, 1) := by decide +kernel
theorem dX12_readsUnit_245 : decode cX12_readsUnit 245 = .ok (.invokevirtual 279, 3) := by decide +kernel
theorem dX12_readsUnit_248 : decode cX12_readsUnit 248 = .ok (.ireturn, 1) := by decide +kernel
theorem dX12_readsUnit_249 : decode cX12_readsUnit 249 = .ok (.aload_n 0, 1) := by decide +kernel
theorem dX12_readsUnit_250 : decode cX12_readsUnit 250 = .ok (.bipush 58, 2) := by decide +kernel
theorem dX12_readsUnit_252 : decode cX12_readsUnit 252 = .ok (.invokevirtual 215, 3) := by decide +kernel
theorem dX12_readsUnit_255 : decode cX12_readsUnit 255 = .ok (.ifCond .ne 9, 3) := by decide +kernel
theorem dX12_readsUnit_258 : decode cX12_readsUnit 258 = .ok (.aload_n 0, 1) := by decide +kernel
theorem dX12_readsUnit_259 : decode cX12_readsUnit 259 = .ok (.iconst 1, 1) := by decide +kernel
theorem dX12_readsUnit_260 : decode cX12_readsUnit 260 = .ok (.invokevirtual 218, 3) := by decide +kernel
theorem dX12_readsUnit_263 : decode cX12_readsUnit 263 = .ok (.ireturn, 1) := by decide +kernel
theorem dX12_readsUnit_264 : decode cX12_readsUnit 264 = .ok (.aload_n 0, 1) := by decide +kernel
theorem dX12_readsUnit_265 : decode cX12_readsUnit 265 = .ok (.invokevirtual 221, 3) := by decide +kernel
theorem dX12_readsUnit_268 : decode cX12_readsUnit 268 = .ok (.aload_n 0, 1) := by decide +kernel
theorem dX12_readsUnit_269 : decode cX12_readsUnit 269 = .ok (.getfield 162, 3) := by decide +kernel
theorem dX12_readsUnit_272 : decode cX12_readsUnit 272 = .ok (.iconst 3, 1) := by decide +kernel
theorem dX12_readsUnit_273 : decode cX12_readsUnit 273 = .ok (.if_icmp .eq 9, 3) := by decide +kernel
theorem dX12_readsUnit_276 : decode cX12_readsUnit 276 = .ok (.aload_n 0, 1) := by decide +kernel
theorem dX12_readsUnit_277 : decode cX12_readsUnit 277 = .ok (.iconst 1, 1) := by decide +kernel
theorem dX12_readsUnit_278 : decode cX12_readsUnit 278 = .ok (.invokevirtual 218, 3) := by decide +kernel
theorem dX12_readsUnit_281 : decode cX12_readsUnit 281 = .ok (.ireturn, 1) := by decide +kernel
theorem dX12_readsUnit_282 : decode cX12_readsUnit 282 = .ok (.aload_n 0, 1) := by decide +kernel
theorem dX12_readsUnit_283 : decode cX12_readsUnit 283 = .ok (.iload 5, 2) := by decide +kernel
theorem dX12_readsUnit_285 : decode cX12_readsUnit 285 = .ok (.aload_n 0, 1) := by decide +kernel
theorem dX12_readsUnit_286 : decode cX12_readsUnit 286 = .ok (.getfield 159, 3) := by decide +kernel
theorem dX12_readsUnit_289 : decode cX12_readsUnit 289 = .ok (.invokevirtual 244, 3) := by decide +kernel
theorem dX12_readsUnit_292 : decode cX12_readsUnit 292 = .ok (.ifCond .ne 9, 3) := by decide +kernel
theorem dX12_readsUnit_295 : decode cX12_readsUnit 295 = .ok (.aload_n 0, 1) := by decide +kernel
theorem dX12_readsUnit_296 : decode cX12_readsUnit 296 = .ok (.iconst 4, 1) := by decide +kernel
theorem dX12_readsUnit_297 : decode cX12_readsUnit 297 = .ok (.invokevirtual 218, 3) := by decide +kernel
theorem dX12_readsUnit_300 : decode cX12_readsUnit 300 = .ok (.ireturn, 1) := by decide +kernel
theorem dX12_readsUnit_301 : decode cX12_readsUnit 301 = .ok (.iconst 2, 1) := by decide +kernel
theorem dX12_readsUnit_302 : decode cX12_readsUnit 302 = .ok (.iload 5, 2) := by decide +kernel
theorem dX12_readsUnit_304 : decode cX12_readsUnit 304 = .ok (.imul, 1) := by decide +kernel
theorem dX12_readsUnit_305 : decode cX12_readsUnit 305 = .ok (.aload_n 0, 1) := by decide +kernel
theorem dX12_readsUnit_306 : decode cX12_readsUnit 306 = .ok (.getfield 159, 3) := by decide +kernel
theorem dX12_readsUnit_309 : decode cX12_readsUnit 309 = .ok (.iadd, 1) := by decide +kernel
theorem dX12_readsUnit_310 : decode cX12_readsUnit 310 = .ok (.istore 7, 2) := by decide +kernel
theorem dX12_readsUnit_312 : decode cX12_readsUnit 312 = .ok (.aload_n 0, 1) := by decide +kernel
theorem dX12_readsUnit_313 : decode cX12_readsUnit 313 = .ok (.invokevirtual 221, 3) := by decide +kernel
theorem dX12_readsUnit_316 : decode cX12_readsUnit 316 = .ok (.aload_n 0, 1) := by decide +kernel
theorem dX12_readsUnit_317 : decode cX12_readsUnit 317 = .ok (.iload 7, 2) := by decide +kernel
theorem dX12_readsUnit_319 : decode cX12_readsUnit 319 = .ok (.invokevirtual 279, 3) := by decide +kernel
theorem dX12_readsUnit_322 : decode cX12_readsUnit 322 = .ok (.ireturn, 1) := by decide +kernel
theorem dX12_readsBoth_0 : decode cX12_readsBoth 0 = .ok (.aload_n 0, 1) := by decide +kernel
theorem dX12_readsBoth_1 : decode cX12_readsBoth 1 = .ok (.iload_n 1, 1) := by decide +kernel
theorem dX12_readsBoth_2 : decode cX12_readsBoth 2 = .ok (.invokevirtual 273, 3) := by decide +kernel
theorem dX12_readsBoth_5 : decode cX12_readsBoth 5 = .ok (.ifCond .ne 5, 3) := by decide +kernel
theorem dX12_readsBoth_8 : decode cX12_readsBoth 8 = .ok (.iconst 0, 1) := by decide +kernel
theorem dX12_readsBoth_9 : decode cX12_readsBoth 9 = .ok (.ireturn, 1) := by decide +kernel
theorem dX12_readsBoth_10 : decode cX12_readsBoth 10 = .ok (.aload_n 0, 1) := by decide +kernel
theorem dX12_readsBoth_11 : decode cX12_readsBoth 11 = .ok (.ldc 205, 2) := by decide +kernel
theorem dX12_readsBoth_13 : decode cX12_readsBoth 13 = .ok (.invokevirtual 190, 3) := by decide +kernel
theorem dX12_readsBoth_16 : decode cX12_readsBoth 16 = .ok (.ifCond .eq 25, 3) := by decide +kernel
theorem dX12_readsBoth_19 : decode cX12_readsBoth 19 = .ok (.aload_n 0, 1) := by decide +kernel
theorem dX12_readsBoth_20 : decode cX12_readsBoth 20 = .ok (.invokevirtual 221, 3) := by decide +kernel
theorem dX12_readsBoth_23 : decode cX12_readsBoth 23 = .ok (.aload_n 0, 1) := by decide +kernel
theorem dX12_readsBoth_24 : decode cX12_readsBoth 24 = .ok (.iload_n 1, 1) := by decide +kernel
theorem dX12_readsBoth_25 : decode cX12_readsBoth 25 = .ok (.invokevirtual 273, 3) := by decide +kernel
theorem dX12_readsBoth_28 : decode cX12_readsBoth 28 = .ok (.ifCond .ne 5, 3) := by decide +kernel
theorem dX12_readsBoth_31 : decode cX12_readsBoth 31 = .ok (.iconst 0, 1) := by decide +kernel
theorem dX12_readsBoth_32 : decode cX12_readsBoth 32 = .ok (.ireturn, 1) := by decide +kernel
theorem dX12_readsBoth_33 : decode cX12_readsBoth 33 = .ok (.aload_n 0, 1) := by decide +kernel
theorem dX12_readsBoth_34 : decode cX12_readsBoth 34 = .ok (.iconst (-1), 1) := by decide +kernel
theorem dX12_readsBoth_35 : decode cX12_readsBoth 35 = .ok (.invokevirtual 267, 3) := by decide +kernel
theorem dX12_readsBoth_38 : decode cX12_readsBoth 38 = .ok (.goto (-28), 3) := by decide +kernel
theorem dX12_readsBoth_41 : decode cX12_readsBoth 41 = .ok (.iconst 1, 1) := by decide +kernel
theorem dX12_readsBoth_42 : decode cX12_readsBoth 42 = .ok (.ireturn, 1) := by decide +kernel
theorem dX12_readsCondition_0 : decode cX12_readsCondition 0 = .ok (.aload_n 0, 1) := by decide +kernel
theorem dX12_readsCondition_1 : decode cX12_readsCondition 1 = .ok (.iload_n 1, 1) := by decide +kernel
theorem dX12_readsCondition_2 : decode cX12_readsCondition 2 = .ok (.invokevirtual 282, 3) := by decide +kernel
theorem dX12_readsCondition_5 : decode cX12_readsCondition 5 = .ok (.ifCond .ne 5, 3) := by decide +kernel
theorem dX12_readsCondition_8 : decode cX12_readsCondition 8 = .ok (.iconst 0, 1) := by decide +kernel
theorem dX12_readsCondition_9 : decode cX12_readsCondition 9 = .ok (.ireturn, 1) := by decide +kernel
theorem dX12_readsCondition_10 : decode cX12_readsCondition 10 = .ok (.aload_n 0, 1) := by decide +kernel
theorem dX12_readsCondition_11 : decode cX12_readsCondition 11 = .ok (.ldc 203, 2) := by decide +kernel
theorem dX12_readsCondition_13 : decode cX12_readsCondition 13 = .ok (.invokevirtual 190, 3) := by decide +kernel
theorem dX12_readsCondition_16 : decode cX12_readsCondition 16 = .ok (.ifCond .eq 26, 3) := by decide +kernel
theorem dX12_readsCondition_19 : decode cX12_readsCondition 19 = .ok (.aload_n 0, 1) := by decide +kernel
theorem dX12_readsCondition_20 : decode cX12_readsCondition 20 = .ok (.invokevirtual 221, 3) := by decide +kernel
theorem dX12_readsCondition_23 : decode cX12_readsCondition 23 = .ok (.aload_n 0, 1) := by decide +kernel
theorem dX12_readsCondition_24 : decode cX12_readsCondition 24 = .ok (.iload_n 1, 1) := by decide +kernel
theorem dX12_readsCondition_25 : decode cX12_readsCondition 25 = .ok (.invokevirtual 282, 3) := by decide +kernel
theorem dX12_readsCondition_28 : decode cX12_readsCondition 28 = .ok (.ifCond .ne 5, 3) := by decide +kernel
theorem dX12_readsCondition_31 : decode cX12_readsCondition 31 = .ok (.iconst 0, 1) := by decide +kernel
theorem dX12_readsCondition_32 : decode cX12_readsCondition 32 = .ok (.ireturn, 1) := by decide +kernel
theorem dX12_readsCondition_33 : decode cX12_readsCondition 33 = .ok (.aload_n 0, 1) := by decide +kernel
theorem dX12_readsCondition_34 : decode cX12_readsCondition 34 = .ok (.bipush (-2), 2) := by decide +kernel
theorem dX12_readsCondition_36 : decode cX12_readsCondition 36 = .ok (.invokevirtual 267, 3) := by decide +kernel
theorem dX12_readsCondition_39 : decode cX12_readsCondition 39 = .ok (.goto (-29), 3) := by decide +kernel
theorem dX12_readsCondition_42 : decode cX12_readsCondition 42 = .ok (.iconst 1, 1) := by decide +kernel
theorem dX12_readsCondition_43 : decode cX12_readsCondition 43 = .ok (.ireturn, 1) := by decide +kernel
theorem dX12_readsProgram_0 : decode cX12_readsProgram 0 = .ok (.aload_n 0, 1) := by decide +kernel
theorem dX12_readsProgram_1 : decode cX12_readsProgram 1 = .ok (.ldc 197, 2) := by decide +kernel
theorem dX12_readsProgram_3 : decode cX12_readsProgram 3 = .ok (.invokevirtual 190, 3) := by decide +kernel
theorem dX12_readsProgram_6 : decode cX12_readsProgram 6 = .ok (.ifCond .eq 12, 3) := by decide +kernel
theorem dX12_readsProgram_9 : decode cX12_readsProgram 9 = .ok (.aload_n 0, 1) := by decide +kernel
theorem dX12_readsProgram_10 : decode cX12_readsProgram 10 = .ok (.invokevirtual 285, 3) := by decide +kernel
theorem dX12_readsProgram_13 : decode cX12_readsProgram 13 = .ok (.ifCond .ne (-13), 3) := by decide +kernel
theorem dX12_readsProgram_16 : decode cX12_readsProgram 16 = .ok (.iconst 0, 1) := by decide +kernel
theorem dX12_readsProgram_17 : decode cX12_readsProgram 17 = .ok (.ireturn, 1) := by decide +kernel
theorem dX12_readsProgram_18 : decode cX12_readsProgram 18 = .ok (.aload_n 0, 1) := by decide +kernel
theorem dX12_readsProgram_19 : decode cX12_readsProgram 19 = .ok (.ldc 199, 2) := by decide +kernel
theorem dX12_readsProgram_21 : decode cX12_readsProgram 21 = .ok (.invokevirtual 190, 3) := by decide +kernel
theorem dX12_readsProgram_24 : decode cX12_readsProgram 24 = .ok (.ifCond .eq 12, 3) := by decide +kernel
theorem dX12_readsProgram_27 : decode cX12_readsProgram 27 = .ok (.aload_n 0, 1) := by decide +kernel
theorem dX12_readsProgram_28 : decode cX12_readsProgram 28 = .ok (.invokevirtual 288, 3) := by decide +kernel
theorem dX12_readsProgram_31 : decode cX12_readsProgram 31 = .ok (.ifCond .ne (-13), 3) := by decide +kernel
theorem dX12_readsProgram_34 : decode cX12_readsProgram 34 = .ok (.iconst 0, 1) := by decide +kernel
theorem dX12_readsProgram_35 : decode cX12_readsProgram 35 = .ok (.ireturn, 1) := by decide +kernel
theorem dX12_readsProgram_36 : decode cX12_readsProgram 36 = .ok (.aload_n 0, 1) := by decide +kernel
theorem dX12_readsProgram_37 : decode cX12_readsProgram 37 = .ok (.ldc 201, 2) := by decide +kernel
theorem dX12_readsProgram_39 : decode cX12_readsProgram 39 = .ok (.invokevirtual 190, 3) := by decide +kernel
theorem dX12_readsProgram_42 : decode cX12_readsProgram 42 = .ok (.ifCond .eq 24, 3) := by decide +kernel
theorem dX12_readsProgram_45 : decode cX12_readsProgram 45 = .ok (.aload_n 0, 1) := by decide +kernel
theorem dX12_readsProgram_46 : decode cX12_readsProgram 46 = .ok (.invokevirtual 221, 3) := by decide +kernel
theorem dX12_readsProgram_49 : decode cX12_readsProgram 49 = .ok (.aload_n 0, 1) := by decide +kernel
theorem dX12_readsProgram_50 : decode cX12_readsProgram 50 = .ok (.iconst 0, 1) := by decide +kernel
theorem dX12_readsProgram_51 : decode cX12_readsProgram 51 = .ok (.invokevirtual 276, 3) := by decide +kernel
theorem dX12_readsProgram_54 : decode cX12_readsProgram 54 = .ok (.ifCond .eq 10, 3) := by decide +kernel
theorem dX12_readsProgram_57 : decode cX12_readsProgram 57 = .ok (.aload_n 0, 1) := by decide +kernel
theorem dX12_readsProgram_58 : decode cX12_readsProgram 58 = .ok (.invokevirtual 241, 3) := by decide +kernel
theorem dX12_readsProgram_61 : decode cX12_readsProgram 61 = .ok (.ifCond .ne 5, 3) := by decide +kernel
theorem dX12_readsProgram_64 : decode cX12_readsProgram 64 = .ok (.iconst 0, 1) := by decide +kernel
theorem dX12_readsProgram_65 : decode cX12_readsProgram 65 = .ok (.ireturn, 1) := by decide +kernel
theorem dX12_readsProgram_66 : decode cX12_readsProgram 66 = .ok (.aload_n 0, 1) := by decide +kernel
theorem dX12_readsProgram_67 : decode cX12_readsProgram 67 = .ok (.getfield 162, 3) := by decide +kernel
theorem dX12_readsProgram_70 : decode cX12_readsProgram 70 = .ok (.ifCond .eq 11, 3) := by decide +kernel
theorem dX12_readsProgram_73 : decode cX12_readsProgram 73 = .ok (.aload_n 0, 1) := by decide +kernel
theorem dX12_readsProgram_74 : decode cX12_readsProgram 74 = .ok (.iconst 1, 1) := by decide +kernel
theorem dX12_readsProgram_75 : decode cX12_readsProgram 75 = .ok (.invokevirtual 218, 3) := by decide +kernel
theorem dX12_readsProgram_78 : decode cX12_readsProgram 78 = .ok (.ifCond .eq 7, 3) := by decide +kernel
theorem dX12_readsProgram_81 : decode cX12_readsProgram 81 = .ok (.iconst 1, 1) := by decide +kernel
theorem dX12_readsProgram_82 : decode cX12_readsProgram 82 = .ok (.goto 4, 3) := by decide +kernel
theorem dX12_readsProgram_85 : decode cX12_readsProgram 85 = .ok (.iconst 0, 1) := by decide +kernel
theorem dX12_readsProgram_86 : decode cX12_readsProgram 86 = .ok (.ireturn, 1) := by decide +kernel
theorem dX12_define_0 : decode cX12_define 0 = .ok (.aload_n 0, 1) := by decide +kernel
theorem dX12_define_1 : decode cX12_define 1 = .ok (.invokevirtual 224, 3) := by decide +kernel
theorem dX12_define_4 : decode cX12_define 4 = .ok (.iconst 0, 1) := by decide +kernel
theorem dX12_define_5 : decode cX12_define 5 = .ok (.istore_n 1, 1) := by decide +kernel
theorem dX12_define_6 : decode cX12_define 6 = .ok (.iload_n 1, 1) := by decide +kernel
theorem dX12_define_7 : decode cX12_define 7 = .ok (.sipush 174, 3) := by decide +kernel
theorem dX12_define_10 : decode cX12_define 10 = .ok (.if_icmp .ge 16, 3) := by decide +kernel
theorem dX12_define_13 : decode cX12_define 13 = .ok (.aload_n 0, 1) := by decide +kernel
theorem dX12_define_14 : decode cX12_define 14 = .ok (.getfield 20, 3) := by decide +kernel
theorem dX12_define_17 : decode cX12_define 17 = .ok (.iload_n 1, 1) := by decide +kernel
theorem dX12_define_18 : decode cX12_define 18 = .ok (.iconst 0, 1) := by decide +kernel
theorem dX12_define_19 : decode cX12_define 19 = .ok (.iastore, 1) := by decide +kernel
theorem dX12_define_20 : decode cX12_define 20 = .ok (.iinc 1 1, 3) := by decide +kernel
theorem dX12_define_23 : decode cX12_define 23 = .ok (.goto (-17), 3) := by decide +kernel
theorem dX12_define_26 : decode cX12_define 26 = .ok (.aload_n 0, 1) := by decide +kernel
theorem dX12_define_27 : decode cX12_define 27 = .ok (.iconst 0, 1) := by decide +kernel
theorem dX12_define_28 : decode cX12_define 28 = .ok (.putfield 264, 3) := by decide +kernel
theorem dX12_define_31 : decode cX12_define 31 = .ok (.aload_n 0, 1) := by decide +kernel
theorem dX12_define_32 : decode cX12_define 32 = .ok (.iconst 0, 1) := by decide +kernel
theorem dX12_define_33 : decode cX12_define 33 = .ok (.putfield 270, 3) := by decide +kernel
theorem dX12_define_36 : decode cX12_define 36 = .ok (.aload_n 0, 1) := by decide +kernel
theorem dX12_define_37 : decode cX12_define 37 = .ok (.invokevirtual 221, 3) := by decide +kernel
theorem dX12_define_40 : decode cX12_define 40 = .ok (.aload_n 0, 1) := by decide +kernel
theorem dX12_define_41 : decode cX12_define 41 = .ok (.invokevirtual 291, 3) := by decide +kernel
theorem dX12_define_44 : decode cX12_define 44 = .ok (.ifCond .ne 17, 3) := by decide +kernel
theorem dX12_define_47 : decode cX12_define 47 = .ok (.bipush 8, 2) := by decide +kernel
theorem dX12_define_49 : decode cX12_define 49 = .ok (.aload_n 0, 1) := by decide +kernel
theorem dX12_define_50 : decode cX12_define 50 = .ok (.getfield 212, 3) := by decide +kernel
theorem dX12_define_53 : decode cX12_define 53 = .ok (.imul, 1) := by decide +kernel
theorem dX12_define_54 : decode cX12_define 54 = .ok (.aload_n 0, 1) := by decide +kernel
theorem dX12_define_55 : decode cX12_define 55 = .ok (.getfield 209, 3) := by decide +kernel
theorem dX12_define_58 : decode cX12_define 58 = .ok (.iadd, 1) := by decide +kernel
theorem dX12_define_59 : decode cX12_define 59 = .ok (.ineg, 1) := by decide +kernel
theorem dX12_define_60 : decode cX12_define 60 = .ok (.ireturn, 1) := by decide +kernel
theorem dX12_define_61 : decode cX12_define 61 = .ok (.iconst 0, 1) := by decide +kernel
theorem dX12_define_62 : decode cX12_define 62 = .ok (.istore_n 1, 1) := by decide +kernel
theorem dX12_define_63 : decode cX12_define 63 = .ok (.iload_n 1, 1) := by decide +kernel
theorem dX12_define_64 : decode cX12_define 64 = .ok (.sipush 174, 3) := by decide +kernel
theorem dX12_define_67 : decode cX12_define 67 = .ok (.if_icmp .ge 21, 3) := by decide +kernel
theorem dX12_define_70 : decode cX12_define 70 = .ok (.aload_n 0, 1) := by decide +kernel
theorem dX12_define_71 : decode cX12_define 71 = .ok (.getfield 17, 3) := by decide +kernel
theorem dX12_define_74 : decode cX12_define 74 = .ok (.iload_n 1, 1) := by decide +kernel
theorem dX12_define_75 : decode cX12_define 75 = .ok (.aload_n 0, 1) := by decide +kernel
theorem dX12_define_76 : decode cX12_define 76 = .ok (.getfield 20, 3) := by decide +kernel
theorem dX12_define_79 : decode cX12_define 79 = .ok (.iload_n 1, 1) := by decide +kernel
theorem dX12_define_80 : decode cX12_define 80 = .ok (.iaload, 1) := by decide +kernel
theorem dX12_define_81 : decode cX12_define 81 = .ok (.iastore, 1) := by decide +kernel
theorem dX12_define_82 : decode cX12_define 82 = .ok (.iinc 1 1, 3) := by decide +kernel
theorem dX12_define_85 : decode cX12_define 85 = .ok (.goto (-22), 3) := by decide +kernel
theorem dX12_define_88 : decode cX12_define 88 = .ok (.iconst 0, 1) := by decide +kernel
theorem dX12_define_89 : decode cX12_define 89 = .ok (.istore_n 1, 1) := by decide +kernel
theorem dX12_define_90 : decode cX12_define 90 = .ok (.iload_n 1, 1) := by decide +kernel
theorem dX12_define_91 : decode cX12_define 91 = .ok (.bipush 24, 2) := by decide +kernel
theorem dX12_define_93 : decode cX12_define 93 = .ok (.if_icmp .ge 21, 3) := by decide +kernel
theorem dX12_define_96 : decode cX12_define 96 = .ok (.aload_n 0, 1) := by decide +kernel
theorem dX12_define_97 : decode cX12_define 97 = .ok (.getfield 26, 3) := by decide +kernel
theorem dX12_define_100 : decode cX12_define 100 = .ok (.iload_n 1, 1) := by decide +kernel
theorem dX12_define_101 : decode cX12_define 101 = .ok (.aload_n 0, 1) := by decide +kernel
theorem dX12_define_102 : decode cX12_define 102 = .ok (.getfield 32, 3) := by decide +kernel
theorem dX12_define_105 : decode cX12_define 105 = .ok (.iload_n 1, 1) := by decide +kernel
theorem dX12_define_106 : decode cX12_define 106 = .ok (.iaload, 1) := by decide +kernel
theorem dX12_define_107 : decode cX12_define 107 = .ok (.iastore, 1) := by decide +kernel
theorem dX12_define_108 : decode cX12_define 108 = .ok (.iinc 1 1, 3) := by decide +kernel
theorem dX12_define_111 : decode cX12_define 111 = .ok (.goto (-21), 3) := by decide +kernel
theorem dX12_define_114 : decode cX12_define 114 = .ok (.iconst 0, 1) := by decide +kernel
theorem dX12_define_115 : decode cX12_define 115 = .ok (.istore_n 1, 1) := by decide +kernel
theorem dX12_define_116 : decode cX12_define 116 = .ok (.iload_n 1, 1) := by decide +kernel
theorem dX12_define_117 : decode cX12_define 117 = .ok (.iconst 3, 1) := by decide +kernel
theorem dX12_define_118 : decode cX12_define 118 = .ok (.if_icmp .ge 21, 3) := by decide +kernel
theorem dX12_define_121 : decode cX12_define 121 = .ok (.aload_n 0, 1) := by decide +kernel
theorem dX12_define_122 : decode cX12_define 122 = .ok (.getfield 29, 3) := by decide +kernel
theorem dX12_define_125 : decode cX12_define 125 = .ok (.iload_n 1, 1) := by decide +kernel
theorem dX12_define_126 : decode cX12_define 126 = .ok (.aload_n 0, 1) := by decide +kernel
theorem dX12_define_127 : decode cX12_define 127 = .ok (.getfield 35, 3) := by decide +kernel
theorem dX12_define_130 : decode cX12_define 130 = .ok (.iload_n 1, 1) := by decide +kernel
theorem dX12_define_131 : decode cX12_define 131 = .ok (.iaload, 1) := by decide +kernel
theorem dX12_define_132 : decode cX12_define 132 = .ok (.iastore, 1) := by decide +kernel
theorem dX12_define_133 : decode cX12_define 133 = .ok (.iinc 1 1, 3) := by decide +kernel
theorem dX12_define_136 : decode cX12_define 136 = .ok (.goto (-20), 3) := by decide +kernel
theorem dX12_define_139 : decode cX12_define 139 = .ok (.iconst 0, 1) := by decide +kernel
theorem dX12_define_140 : decode cX12_define 140 = .ok (.istore_n 1, 1) := by decide +kernel
theorem dX12_define_141 : decode cX12_define 141 = .ok (.iload_n 1, 1) := by decide +kernel
theorem dX12_define_142 : decode cX12_define 142 = .ok (.aload_n 0, 1) := by decide +kernel
theorem dX12_define_143 : decode cX12_define 143 = .ok (.getfield 264, 3) := by decide +kernel
theorem dX12_define_146 : decode cX12_define 146 = .ok (.if_icmp .ge 21, 3) := by decide +kernel
theorem dX12_define_149 : decode cX12_define 149 = .ok (.aload_n 0, 1) := by decide +kernel
theorem dX12_define_150 : decode cX12_define 150 = .ok (.getfield 38, 3) := by decide +kernel
theorem dX12_define_153 : decode cX12_define 153 = .ok (.iload_n 1, 1) := by decide +kernel
theorem dX12_define_154 : decode cX12_define 154 = .ok (.aload_n 0, 1) := by decide +kernel
theorem dX12_define_155 : decode cX12_define 155 = .ok (.getfield 41, 3) := by decide +kernel
theorem dX12_define_158 : decode cX12_define 158 = .ok (.iload_n 1, 1) := by decide +kernel
theorem dX12_define_159 : decode cX12_define 159 = .ok (.iaload, 1) := by decide +kernel
theorem dX12_define_160 : decode cX12_define 160 = .ok (.iastore, 1) := by decide +kernel
theorem dX12_define_161 : decode cX12_define 161 = .ok (.iinc 1 1, 3) := by decide +kernel
theorem dX12_define_164 : decode cX12_define 164 = .ok (.goto (-23), 3) := by decide +kernel
theorem dX12_define_167 : decode cX12_define 167 = .ok (.aload_n 0, 1) := by decide +kernel
theorem dX12_define_168 : decode cX12_define 168 = .ok (.aload_n 0, 1) := by decide +kernel
theorem dX12_define_169 : decode cX12_define 169 = .ok (.getfield 264, 3) := by decide +kernel
theorem dX12_define_172 : decode cX12_define 172 = .ok (.putfield 294, 3) := by decide +kernel
theorem dX12_define_175 : decode cX12_define 175 = .ok (.aload_n 0, 1) := by decide +kernel
theorem dX12_define_176 : decode cX12_define 176 = .ok (.iconst 0, 1) := by decide +kernel
theorem dX12_define_177 : decode cX12_define 177 = .ok (.putfield 132, 3) := by decide +kernel
theorem dX12_define_180 : decode cX12_define 180 = .ok (.aload_n 0, 1) := by decide +kernel
theorem dX12_define_181 : decode cX12_define 181 = .ok (.iconst 0, 1) := by decide +kernel
theorem dX12_define_182 : decode cX12_define 182 = .ok (.putfield 135, 3) := by decide +kernel
theorem dX12_define_185 : decode cX12_define 185 = .ok (.aload_n 0, 1) := by decide +kernel
theorem dX12_define_186 : decode cX12_define 186 = .ok (.getfield 17, 3) := by decide +kernel
theorem dX12_define_189 : decode cX12_define 189 = .ok (.iconst 0, 1) := by decide +kernel
theorem dX12_define_190 : decode cX12_define 190 = .ok (.iaload, 1) := by decide +kernel
theorem dX12_define_191 : decode cX12_define 191 = .ok (.ireturn, 1) := by decide +kernel
theorem dX12_threadCount_0 : decode cX12_threadCount 0 = .ok (.aload_n 0, 1) := by decide +kernel
theorem dX12_threadCount_1 : decode cX12_threadCount 1 = .ok (.iconst 0, 1) := by decide +kernel
theorem dX12_threadCount_2 : decode cX12_threadCount 2 = .ok (.putfield 1, 3) := by decide +kernel
theorem dX12_threadCount_5 : decode cX12_threadCount 5 = .ok (.aload_n 0, 1) := by decide +kernel
theorem dX12_threadCount_6 : decode cX12_threadCount 6 = .ok (.getfield 17, 3) := by decide +kernel
theorem dX12_threadCount_9 : decode cX12_threadCount 9 = .ok (.iconst 1, 1) := by decide +kernel
theorem dX12_threadCount_10 : decode cX12_threadCount 10 = .ok (.iaload, 1) := by decide +kernel
theorem dX12_threadCount_11 : decode cX12_threadCount 11 = .ok (.ireturn, 1) := by decide +kernel
theorem dX12_locationCount_0 : decode cX12_locationCount 0 = .ok (.aload_n 0, 1) := by decide +kernel
theorem dX12_locationCount_1 : decode cX12_locationCount 1 = .ok (.iconst 0, 1) := by decide +kernel
theorem dX12_locationCount_2 : decode cX12_locationCount 2 = .ok (.putfield 1, 3) := by decide +kernel
theorem dX12_locationCount_5 : decode cX12_locationCount 5 = .ok (.aload_n 0, 1) := by decide +kernel
theorem dX12_locationCount_6 : decode cX12_locationCount 6 = .ok (.getfield 17, 3) := by decide +kernel
theorem dX12_locationCount_9 : decode cX12_locationCount 9 = .ok (.iconst 2, 1) := by decide +kernel
theorem dX12_locationCount_10 : decode cX12_locationCount 10 = .ok (.iaload, 1) := by decide +kernel
theorem dX12_locationCount_11 : decode cX12_locationCount 11 = .ok (.ireturn, 1) := by decide +kernel
theorem dX12_instructionCount_0 : decode cX12_instructionCount 0 = .ok (.aload_n 0, 1) := by decide +kernel
theorem dX12_instructionCount_1 : decode cX12_instructionCount 1 = .ok (.iconst 0, 1) := by decide +kernel
theorem dX12_instructionCount_2 : decode cX12_instructionCount 2 = .ok (.putfield 1, 3) := by decide +kernel
theorem dX12_instructionCount_5 : decode cX12_instructionCount 5 = .ok (.aload_n 0, 1) := by decide +kernel
theorem dX12_instructionCount_6 : decode cX12_instructionCount 6 = .ok (.getfield 17, 3) := by decide +kernel
theorem dX12_instructionCount_9 : decode cX12_instructionCount 9 = .ok (.iconst 0, 1) := by decide +kernel
theorem dX12_instructionCount_10 : decode cX12_instructionCount 10 = .ok (.iaload, 1) := by decide +kernel
theorem dX12_instructionCount_11 : decode cX12_instructionCount 11 = .ok (.ireturn, 1) := by decide +kernel
theorem dX12_instruction_0 : decode cX12_instruction 0 = .ok (.aload_n 0, 1) := by decide +kernel
theorem dX12_instruction_1 : decode cX12_instruction 1 = .ok (.aload_n 0, 1) := by decide +kernel
theorem dX12_instruction_2 : decode cX12_instruction 2 = .ok (.iload_n 1, 1) := by decide +kernel
theorem dX12_instruction_3 : decode cX12_instruction 3 = .ok (.invokevirtual 297, 3) := by decide +kernel
theorem dX12_instruction_6 : decode cX12_instruction 6 = .ok (.ifCond .ne 7, 3) := by decide +kernel
theorem dX12_instruction_9 : decode cX12_instruction 9 = .ok (.iconst 1, 1) := by decide +kernel
theorem dX12_instruction_10 : decode cX12_instruction 10 = .ok (.goto 4, 3) := by decide +kernel
theorem dX12_instruction_13 : decode cX12_instruction 13 = .ok (.iconst 0, 1) := by decide +kernel
theorem dX12_instruction_14 : decode cX12_instruction 14 = .ok (.iconst 0, 1) := by decide +kernel
theorem dX12_instruction_15 : decode cX12_instruction 15 = .ok (.iconst 0, 1) := by decide +kernel
theorem dX12_instruction_16 : decode cX12_instruction 16 = .ok (.invokevirtual 300, 3) := by decide +kernel
theorem dX12_instruction_19 : decode cX12_instruction 19 = .ok (.ifCond .eq 5, 3) := by decide +kernel
theorem dX12_instruction_22 : decode cX12_instruction 22 = .ok (.iconst 0, 1) := by decide +kernel
theorem dX12_instruction_23 : decode cX12_instruction 23 = .ok (.ireturn, 1) := by decide +kernel
theorem dX12_instruction_24 : decode cX12_instruction 24 = .ok (.iload_n 2, 1) := by decide +kernel
theorem dX12_instruction_25 : decode cX12_instruction 25 = .ok (.iconst 0, 1) := by decide +kernel
theorem dX12_instruction_26 : decode cX12_instruction 26 = .ok (.iconst 5, 1) := by decide +kernel
theorem dX12_instruction_27 : decode cX12_instruction 27 = .ok (.invokestatic 124, 3) := by decide +kernel
theorem dX12_instruction_30 : decode cX12_instruction 30 = .ok (.ifCond .eq 12, 3) := by decide +kernel
theorem dX12_instruction_33 : decode cX12_instruction 33 = .ok (.aload_n 0, 1) := by decide +kernel
theorem dX12_instruction_34 : decode cX12_instruction 34 = .ok (.iload_n 1, 1) := by decide +kernel
theorem dX12_instruction_35 : decode cX12_instruction 35 = .ok (.iload_n 2, 1) := by decide +kernel
theorem dX12_instruction_36 : decode cX12_instruction 36 = .ok (.invokevirtual 304, 3) := by decide +kernel
theorem dX12_instruction_39 : decode cX12_instruction 39 = .ok (.goto 4, 3) := by decide +kernel
theorem dX12_instruction_42 : decode cX12_instruction 42 = .ok (.iconst (-1), 1) := by decide +kernel
theorem dX12_instruction_43 : decode cX12_instruction 43 = .ok (.ireturn, 1) := by decide +kernel
theorem dX12_isGap_0 : decode cX12_isGap 0 = .ok (.iload_n 1, 1) := by decide +kernel
theorem dX12_isGap_1 : decode cX12_isGap 1 = .ok (.ifCond .le 46, 3) := by decide +kernel
theorem dX12_isGap_4 : decode cX12_isGap 4 = .ok (.aload_n 0, 1) := by decide +kernel
theorem dX12_isGap_5 : decode cX12_isGap 5 = .ok (.iload_n 1, 1) := by decide +kernel
theorem dX12_isGap_6 : decode cX12_isGap 6 = .ok (.iconst 0, 1) := by decide +kernel
theorem dX12_isGap_7 : decode cX12_isGap 7 = .ok (.invokevirtual 304, 3) := by decide +kernel
theorem dX12_isGap_10 : decode cX12_isGap 10 = .ok (.aload_n 0, 1) := by decide +kernel
theorem dX12_isGap_11 : decode cX12_isGap 11 = .ok (.iload_n 1, 1) := by decide +kernel
theorem dX12_isGap_12 : decode cX12_isGap 12 = .ok (.iconst 1, 1) := by decide +kernel
theorem dX12_isGap_13 : decode cX12_isGap 13 = .ok (.isub, 1) := by decide +kernel
theorem dX12_isGap_14 : decode cX12_isGap 14 = .ok (.iconst 0, 1) := by decide +kernel
theorem dX12_isGap_15 : decode cX12_isGap 15 = .ok (.invokevirtual 304, 3) := by decide +kernel
theorem dX12_isGap_18 : decode cX12_isGap 18 = .ok (.if_icmp .ne 29, 3) := by decide +kernel
theorem dX12_isGap_21 : decode cX12_isGap 21 = .ok (.aload_n 0, 1) := by decide +kernel
theorem dX12_isGap_22 : decode cX12_isGap 22 = .ok (.iload_n 1, 1) := by decide +kernel
theorem dX12_isGap_23 : decode cX12_isGap 23 = .ok (.iconst 1, 1) := by decide +kernel
theorem dX12_isGap_24 : decode cX12_isGap 24 = .ok (.invokevirtual 304, 3) := by decide +kernel
theorem dX12_isGap_27 : decode cX12_isGap 27 = .ok (.iconst 3, 1) := by decide +kernel
theorem dX12_isGap_28 : decode cX12_isGap 28 = .ok (.if_icmp .eq 19, 3) := by decide +kernel
theorem dX12_isGap_31 : decode cX12_isGap 31 = .ok (.aload_n 0, 1) := by decide +kernel
theorem dX12_isGap_32 : decode cX12_isGap 32 = .ok (.iload_n 1, 1) := by decide +kernel
theorem dX12_isGap_33 : decode cX12_isGap 33 = .ok (.iconst 1, 1) := by decide +kernel
theorem dX12_isGap_34 : decode cX12_isGap 34 = .ok (.isub, 1) := by decide +kernel
theorem dX12_isGap_35 : decode cX12_isGap 35 = .ok (.iconst 1, 1) := by decide +kernel
theorem dX12_isGap_36 : decode cX12_isGap 36 = .ok (.invokevirtual 304, 3) := by decide +kernel
theorem dX12_isGap_39 : decode cX12_isGap 39 = .ok (.iconst 3, 1) := by decide +kernel
theorem dX12_isGap_40 : decode cX12_isGap 40 = .ok (.if_icmp .eq 7, 3) := by decide +kernel
theorem dX12_isGap_43 : decode cX12_isGap 43 = .ok (.iconst 1, 1) := by decide +kernel
theorem dX12_isGap_44 : decode cX12_isGap 44 = .ok (.goto 4, 3) := by decide +kernel
theorem dX12_isGap_47 : decode cX12_isGap 47 = .ok (.iconst 0, 1) := by decide +kernel
theorem dX12_isGap_48 : decode cX12_isGap 48 = .ok (.ireturn, 1) := by decide +kernel
theorem dX12_lays_0 : decode cX12_lays 0 = .ok (.aload_n 0, 1) := by decide +kernel
theorem dX12_lays_1 : decode cX12_lays 1 = .ok (.getfield 59, 3) := by decide +kernel
theorem dX12_lays_4 : decode cX12_lays 4 = .ok (.iload_n 1, 1) := by decide +kernel
theorem dX12_lays_5 : decode cX12_lays 5 = .ok (.iload_n 2, 1) := by decide +kernel
theorem dX12_lays_6 : decode cX12_lays 6 = .ok (.iastore, 1) := by decide +kernel
theorem dX12_lays_7 : decode cX12_lays 7 = .ok (.aload_n 0, 1) := by decide +kernel
theorem dX12_lays_8 : decode cX12_lays 8 = .ok (.getfield 44, 3) := by decide +kernel
theorem dX12_lays_11 : decode cX12_lays 11 = .ok (.iload_n 1, 1) := by decide +kernel
theorem dX12_lays_12 : decode cX12_lays 12 = .ok (.iload_n 2, 1) := by decide +kernel
theorem dX12_lays_13 : decode cX12_lays 13 = .ok (.iconst (-1), 1) := by decide +kernel
theorem dX12_lays_14 : decode cX12_lays 14 = .ok (.if_icmp .ne 7, 3) := by decide +kernel
theorem dX12_lays_17 : decode cX12_lays 17 = .ok (.iconst 3, 1) := by decide +kernel
theorem dX12_lays_18 : decode cX12_lays 18 = .ok (.goto 9, 3) := by decide +kernel
theorem dX12_lays_21 : decode cX12_lays 21 = .ok (.aload_n 0, 1) := by decide +kernel
theorem dX12_lays_22 : decode cX12_lays 22 = .ok (.iload_n 2, 1) := by decide +kernel
theorem dX12_lays_23 : decode cX12_lays 23 = .ok (.iconst 1, 1) := by decide +kernel
theorem dX12_lays_24 : decode cX12_lays 24 = .ok (.invokevirtual 304, 3) := by decide +kernel
theorem dX12_lays_27 : decode cX12_lays 27 = .ok (.iastore, 1) := by decide +kernel
theorem dX12_lays_28 : decode cX12_lays 28 = .ok (.aload_n 0, 1) := by decide +kernel
theorem dX12_lays_29 : decode cX12_lays 29 = .ok (.getfield 47, 3) := by decide +kernel
theorem dX12_lays_32 : decode cX12_lays 32 = .ok (.iload_n 1, 1) := by decide +kernel
theorem dX12_lays_33 : decode cX12_lays 33 = .ok (.iload_n 2, 1) := by decide +kernel
theorem dX12_lays_34 : decode cX12_lays 34 = .ok (.iconst (-1), 1) := by decide +kernel
theorem dX12_lays_35 : decode cX12_lays 35 = .ok (.if_icmp .ne 7, 3) := by decide +kernel
theorem dX12_lays_38 : decode cX12_lays 38 = .ok (.iconst (-1), 1) := by decide +kernel
theorem dX12_lays_39 : decode cX12_lays 39 = .ok (.goto 9, 3) := by decide +kernel
theorem dX12_lays_42 : decode cX12_lays 42 = .ok (.aload_n 0, 1) := by decide +kernel
theorem dX12_lays_43 : decode cX12_lays 43 = .ok (.iload_n 2, 1) := by decide +kernel
theorem dX12_lays_44 : decode cX12_lays 44 = .ok (.iconst 2, 1) := by decide +kernel
theorem dX12_lays_45 : decode cX12_lays 45 = .ok (.invokevirtual 304, 3) := by decide +kernel
theorem dX12_lays_48 : decode cX12_lays 48 = .ok (.iastore, 1) := by decide +kernel
theorem dX12_lays_49 : decode cX12_lays 49 = .ok (.aload_n 0, 1) := by decide +kernel
theorem dX12_lays_50 : decode cX12_lays 50 = .ok (.getfield 50, 3) := by decide +kernel
theorem dX12_lays_53 : decode cX12_lays 53 = .ok (.iload_n 1, 1) := by decide +kernel
theorem dX12_lays_54 : decode cX12_lays 54 = .ok (.iload_n 2, 1) := by decide +kernel
theorem dX12_lays_55 : decode cX12_lays 55 = .ok (.iconst (-1), 1) := by decide +kernel
theorem dX12_lays_56 : decode cX12_lays 56 = .ok (.if_icmp .ne 7, 3) := by decide +kernel
theorem dX12_lays_59 : decode cX12_lays 59 = .ok (.iconst (-1), 1) := by decide +kernel
theorem dX12_lays_60 : decode cX12_lays 60 = .ok (.goto 9, 3) := by decide +kernel
theorem dX12_lays_63 : decode cX12_lays 63 = .ok (.aload_n 0, 1) := by decide +kernel
theorem dX12_lays_64 : decode cX12_lays 64 = .ok (.iload_n 2, 1) := by decide +kernel
theorem dX12_lays_65 : decode cX12_lays 65 = .ok (.iconst 3, 1) := by decide +kernel
theorem dX12_lays_66 : decode cX12_lays 66 = .ok (.invokevirtual 304, 3) := by decide +kernel
theorem dX12_lays_69 : decode cX12_lays 69 = .ok (.iastore, 1) := by decide +kernel
theorem dX12_lays_70 : decode cX12_lays 70 = .ok (.aload_n 0, 1) := by decide +kernel
theorem dX12_lays_71 : decode cX12_lays 71 = .ok (.getfield 53, 3) := by decide +kernel
theorem dX12_lays_74 : decode cX12_lays 74 = .ok (.iload_n 1, 1) := by decide +kernel
theorem dX12_lays_75 : decode cX12_lays 75 = .ok (.iload_n 2, 1) := by decide +kernel
theorem dX12_lays_76 : decode cX12_lays 76 = .ok (.iconst (-1), 1) := by decide +kernel
theorem dX12_lays_77 : decode cX12_lays 77 = .ok (.if_icmp .ne 7, 3) := by decide +kernel
theorem dX12_lays_80 : decode cX12_lays 80 = .ok (.iconst (-1), 1) := by decide +kernel
theorem dX12_lays_81 : decode cX12_lays 81 = .ok (.goto 9, 3) := by decide +kernel
theorem dX12_lays_84 : decode cX12_lays 84 = .ok (.aload_n 0, 1) := by decide +kernel
theorem dX12_lays_85 : decode cX12_lays 85 = .ok (.iload_n 2, 1) := by decide +kernel
theorem dX12_lays_86 : decode cX12_lays 86 = .ok (.iconst 4, 1) := by decide +kernel
theorem dX12_lays_87 : decode cX12_lays 87 = .ok (.invokevirtual 304, 3) := by decide +kernel
theorem dX12_lays_90 : decode cX12_lays 90 = .ok (.iastore, 1) := by decide +kernel
theorem dX12_lays_91 : decode cX12_lays 91 = .ok (.aload_n 0, 1) := by decide +kernel
theorem dX12_lays_92 : decode cX12_lays 92 = .ok (.getfield 56, 3) := by decide +kernel
theorem dX12_lays_95 : decode cX12_lays 95 = .ok (.iload_n 1, 1) := by decide +kernel
theorem dX12_lays_96 : decode cX12_lays 96 = .ok (.iload_n 2, 1) := by decide +kernel
theorem dX12_lays_97 : decode cX12_lays 97 = .ok (.iconst (-1), 1) := by decide +kernel
theorem dX12_lays_98 : decode cX12_lays 98 = .ok (.if_icmp .ne 7, 3) := by decide +kernel
theorem dX12_lays_101 : decode cX12_lays 101 = .ok (.iconst (-1), 1) := by decide +kernel
theorem dX12_lays_102 : decode cX12_lays 102 = .ok (.goto 9, 3) := by decide +kernel
theorem dX12_lays_105 : decode cX12_lays 105 = .ok (.aload_n 0, 1) := by decide +kernel
theorem dX12_lays_106 : decode cX12_lays 106 = .ok (.iload_n 2, 1) := by decide +kernel
theorem dX12_lays_107 : decode cX12_lays 107 = .ok (.iconst 5, 1) := by decide +kernel
theorem dX12_lays_108 : decode cX12_lays 108 = .ok (.invokevirtual 304, 3) := by decide +kernel
theorem dX12_lays_111 : decode cX12_lays 111 = .ok (.iastore, 1) := by decide +kernel
theorem dX12_lays_112 : decode cX12_lays 112 = .ok (.return_, 1) := by decide +kernel
theorem dX12_laysProgram_0 : decode cX12_laysProgram 0 = .ok (.iconst 0, 1) := by decide +kernel
theorem dX12_laysProgram_1 : decode cX12_laysProgram 1 = .ok (.istore_n 3, 1) := by decide +kernel
theorem dX12_laysProgram_2 : decode cX12_laysProgram 2 = .ok (.iconst 0, 1) := by decide +kernel
theorem dX12_laysProgram_3 : decode cX12_laysProgram 3 = .ok (.istore 4, 2) := by decide +kernel
theorem dX12_laysProgram_5 : decode cX12_laysProgram 5 = .ok (.iconst 0, 1) := by decide +kernel
theorem dX12_laysProgram_6 : decode cX12_laysProgram 6 = .ok (.istore 5, 2) := by decide +kernel
theorem dX12_laysProgram_8 : decode cX12_laysProgram 8 = .ok (.iconst 0, 1) := by decide +kernel
theorem dX12_laysProgram_9 : decode cX12_laysProgram 9 = .ok (.istore 6, 2) := by decide +kernel
theorem dX12_laysProgram_11 : decode cX12_laysProgram 11 = .ok (.iconst 0, 1) := by decide +kernel
theorem dX12_laysProgram_12 : decode cX12_laysProgram 12 = .ok (.istore 7, 2) := by decide +kernel
theorem dX12_laysProgram_14 : decode cX12_laysProgram 14 = .ok (.iload 7, 2) := by decide +kernel
theorem dX12_laysProgram_16 : decode cX12_laysProgram 16 = .ok (.iconst 4, 1) := by decide +kernel
theorem dX12_laysProgram_17 : decode cX12_laysProgram 17 = .ok (.if_icmp .ge 123, 3) := by decide +kernel
theorem dX12_laysProgram_20 : decode cX12_laysProgram 20 = .ok (.aload_n 0, 1) := by decide +kernel
theorem dX12_laysProgram_21 : decode cX12_laysProgram 21 = .ok (.getfield 65, 3) := by decide +kernel
theorem dX12_laysProgram_24 : decode cX12_laysProgram 24 = .ok (.iload 7, 2) := by decide +kernel
theorem dX12_laysProgram_26 : decode cX12_laysProgram 26 = .ok (.iload_n 3, 1) := by decide +kernel
theorem dX12_laysProgram_27 : decode cX12_laysProgram 27 = .ok (.iastore, 1) := by decide +kernel
theorem dX12_laysProgram_28 : decode cX12_laysProgram 28 = .ok (.iload 6, 2) := by decide +kernel
theorem dX12_laysProgram_30 : decode cX12_laysProgram 30 = .ok (.aload_n 0, 1) := by decide +kernel
theorem dX12_laysProgram_31 : decode cX12_laysProgram 31 = .ok (.getfield 17, 3) := by decide +kernel
theorem dX12_laysProgram_34 : decode cX12_laysProgram 34 = .ok (.iconst 0, 1) := by decide +kernel
theorem dX12_laysProgram_35 : decode cX12_laysProgram 35 = .ok (.iaload, 1) := by decide +kernel
theorem dX12_laysProgram_36 : decode cX12_laysProgram 36 = .ok (.if_icmp .ge 98, 3) := by decide +kernel
theorem dX12_laysProgram_39 : decode cX12_laysProgram 39 = .ok (.aload_n 0, 1) := by decide +kernel
theorem dX12_laysProgram_40 : decode cX12_laysProgram 40 = .ok (.iload 6, 2) := by decide +kernel
theorem dX12_laysProgram_42 : decode cX12_laysProgram 42 = .ok (.iconst 0, 1) := by decide +kernel
theorem dX12_laysProgram_43 : decode cX12_laysProgram 43 = .ok (.invokevirtual 304, 3) := by decide +kernel
theorem dX12_laysProgram_46 : decode cX12_laysProgram 46 = .ok (.iload 7, 2) := by decide +kernel
theorem dX12_laysProgram_48 : decode cX12_laysProgram 48 = .ok (.if_icmp .ne 86, 3) := by decide +kernel
theorem dX12_laysProgram_51 : decode cX12_laysProgram 51 = .ok (.aload_n 0, 1) := by decide +kernel
theorem dX12_laysProgram_52 : decode cX12_laysProgram 52 = .ok (.iload 6, 2) := by decide +kernel
theorem dX12_laysProgram_54 : decode cX12_laysProgram 54 = .ok (.invokevirtual 307, 3) := by decide +kernel
theorem dX12_laysProgram_57 : decode cX12_laysProgram 57 = .ok (.ifCond .eq 25, 3) := by decide +kernel
theorem dX12_laysProgram_60 : decode cX12_laysProgram 60 = .ok (.iload_n 1, 1) := by decide +kernel
theorem dX12_laysProgram_61 : decode cX12_laysProgram 61 = .ok (.iload 4, 2) := by decide +kernel
theorem dX12_laysProgram_63 : decode cX12_laysProgram 63 = .ok (.ishr, 1) := by decide +kernel
theorem dX12_laysProgram_64 : decode cX12_laysProgram 64 = .ok (.iconst 1, 1) := by decide +kernel
theorem dX12_laysProgram_65 : decode cX12_laysProgram 65 = .ok (.iand, 1) := by decide +kernel
theorem dX12_laysProgram_66 : decode cX12_laysProgram 66 = .ok (.iconst 1, 1) := by decide +kernel
theorem dX12_laysProgram_67 : decode cX12_laysProgram 67 = .ok (.if_icmp .ne 12, 3) := by decide +kernel
theorem dX12_laysProgram_70 : decode cX12_laysProgram 70 = .ok (.aload_n 0, 1) := by decide +kernel
theorem dX12_laysProgram_71 : decode cX12_laysProgram 71 = .ok (.iload_n 3, 1) := by decide +kernel
theorem dX12_laysProgram_72 : decode cX12_laysProgram 72 = .ok (.iconst (-1), 1) := by decide +kernel
theorem dX12_laysProgram_73 : decode cX12_laysProgram 73 = .ok (.invokevirtual 310, 3) := by decide +kernel
theorem dX12_laysProgram_76 : decode cX12_laysProgram 76 = .ok (.iinc 3 1, 3) := by decide +kernel
theorem dX12_laysProgram_79 : decode cX12_laysProgram 79 = .ok (.iinc 4 1, 3) := by decide +kernel
theorem dX12_laysProgram_82 : decode cX12_laysProgram 82 = .ok (.iload 6, 2) := by decide +kernel
theorem dX12_laysProgram_84 : decode cX12_laysProgram 84 = .ok (.iload_n 2, 1) := by decide +kernel
theorem dX12_laysProgram_85 : decode cX12_laysProgram 85 = .ok (.if_icmp .ne 6, 3) := by decide +kernel
theorem dX12_laysProgram_88 : decode cX12_laysProgram 88 = .ok (.goto 40, 3) := by decide +kernel
theorem dX12_laysProgram_91 : decode cX12_laysProgram 91 = .ok (.aload_n 0, 1) := by decide +kernel
theorem dX12_laysProgram_92 : decode cX12_laysProgram 92 = .ok (.iload_n 3, 1) := by decide +kernel
theorem dX12_laysProgram_93 : decode cX12_laysProgram 93 = .ok (.iload 6, 2) := by decide +kernel
theorem dX12_laysProgram_95 : decode cX12_laysProgram 95 = .ok (.invokevirtual 310, 3) := by decide +kernel
theorem dX12_laysProgram_98 : decode cX12_laysProgram 98 = .ok (.aload_n 0, 1) := by decide +kernel
theorem dX12_laysProgram_99 : decode cX12_laysProgram 99 = .ok (.getfield 62, 3) := by decide +kernel
theorem dX12_laysProgram_102 : decode cX12_laysProgram 102 = .ok (.iload_n 3, 1) := by decide +kernel
theorem dX12_laysProgram_103 : decode cX12_laysProgram 103 = .ok (.iload 5, 2) := by decide +kernel
theorem dX12_laysProgram_105 : decode cX12_laysProgram 105 = .ok (.iastore, 1) := by decide +kernel
theorem dX12_laysProgram_106 : decode cX12_laysProgram 106 = .ok (.iload 5, 2) := by decide +kernel
theorem dX12_laysProgram_108 : decode cX12_laysProgram 108 = .ok (.aload_n 0, 1) := by decide +kernel
theorem dX12_laysProgram_109 : decode cX12_laysProgram 109 = .ok (.getfield 44, 3) := by decide +kernel
theorem dX12_laysProgram_112 : decode cX12_laysProgram 112 = .ok (.iload_n 3, 1) := by decide +kernel
theorem dX12_laysProgram_113 : decode cX12_laysProgram 113 = .ok (.iaload, 1) := by decide +kernel
theorem dX12_laysProgram_114 : decode cX12_laysProgram 114 = .ok (.ifCond .ne 7, 3) := by decide +kernel
theorem dX12_laysProgram_117 : decode cX12_laysProgram 117 = .ok (.iconst 1, 1) := by decide +kernel
theorem dX12_laysProgram_118 : decode cX12_laysProgram 118 = .ok (.goto 4, 3) := by decide +kernel
theorem dX12_laysProgram_121 : decode cX12_laysProgram 121 = .ok (.iconst 0, 1) := by decide +kernel
theorem dX12_laysProgram_122 : decode cX12_laysProgram 122 = .ok (.iadd, 1) := by decide +kernel
theorem dX12_laysProgram_123 : decode cX12_laysProgram 123 = .ok (.istore 5, 2) := by decide +kernel
theorem dX12_laysProgram_125 : decode cX12_laysProgram 125 = .ok (.iinc 3 1, 3) := by decide +kernel
theorem dX12_laysProgram_128 : decode cX12_laysProgram 128 = .ok (.iinc 6 1, 3) := by decide +kernel
theorem dX12_laysProgram_131 : decode cX12_laysProgram 131 = .ok (.goto (-103), 3) := by decide +kernel
theorem dX12_laysProgram_134 : decode cX12_laysProgram 134 = .ok (.iinc 7 1, 3) := by decide +kernel
theorem dX12_laysProgram_137 : decode cX12_laysProgram 137 = .ok (.goto (-123), 3) := by decide +kernel
theorem dX12_laysProgram_140 : decode cX12_laysProgram 140 = .ok (.aload_n 0, 1) := by decide +kernel
theorem dX12_laysProgram_141 : decode cX12_laysProgram 141 = .ok (.getfield 65, 3) := by decide +kernel
theorem dX12_laysProgram_144 : decode cX12_laysProgram 144 = .ok (.iconst 4, 1) := by decide +kernel
theorem dX12_laysProgram_145 : decode cX12_laysProgram 145 = .ok (.iload_n 3, 1) := by decide +kernel
theorem dX12_laysProgram_146 : decode cX12_laysProgram 146 = .ok (.iastore, 1) := by decide +kernel
theorem dX12_laysProgram_147 : decode cX12_laysProgram 147 = .ok (.return_, 1) := by decide +kernel
theorem dX12_nextOf_0 : decode cX12_nextOf 0 = .ok (.lload_n 0, 1) := by decide +kernel
theorem dX12_nextOf_1 : decode cX12_nextOf 1 = .ok (.iconst 4, 1) := by decide +kernel
theorem dX12_nextOf_2 : decode cX12_nextOf 2 = .ok (.iload_n 2, 1) := by decide +kernel
theorem dX12_nextOf_3 : decode cX12_nextOf 3 = .ok (.imul, 1) := by decide +kernel
theorem dX12_nextOf_4 : decode cX12_nextOf 4 = .ok (.lshr, 1) := by decide +kernel
theorem dX12_nextOf_5 : decode cX12_nextOf 5 = .ok (.ldc2_w 314, 3) := by decide +kernel
theorem dX12_nextOf_8 : decode cX12_nextOf 8 = .ok (.land, 1) := by decide +kernel
theorem dX12_nextOf_9 : decode cX12_nextOf 9 = .ok (.l2i, 1) := by decide +kernel
theorem dX12_nextOf_10 : decode cX12_nextOf 10 = .ok (.ireturn, 1) := by decide +kernel
theorem dX12_registerOf_0 : decode cX12_registerOf 0 = .ok (.lload_n 0, 1) := by decide +kernel
theorem dX12_registerOf_1 : decode cX12_registerOf 1 = .ok (.bipush 16, 2) := by decide +kernel
theorem dX12_registerOf_3 : decode cX12_registerOf 3 = .ok (.iconst 2, 1) := by decide +kernel
theorem dX12_registerOf_4 : decode cX12_registerOf 4 = .ok (.iconst 2, 1) := by decide +kernel
theorem dX12_registerOf_5 : decode cX12_registerOf 5 = .ok (.iload_n 2, 1) := by decide +kernel
theorem dX12_registerOf_6 : decode cX12_registerOf 6 = .ok (.imul, 1) := by decide +kernel
theorem dX12_registerOf_7 : decode cX12_registerOf 7 = .ok (.iload_n 3, 1) := by decide +kernel
theorem dX12_registerOf_8 : decode cX12_registerOf 8 = .ok (.iadd, 1) := by decide +kernel
theorem dX12_registerOf_9 : decode cX12_registerOf 9 = .ok (.imul, 1) := by decide +kernel
theorem dX12_registerOf_10 : decode cX12_registerOf 10 = .ok (.iadd, 1) := by decide +kernel
theorem dX12_registerOf_11 : decode cX12_registerOf 11 = .ok (.lshr, 1) := by decide +kernel
theorem dX12_registerOf_12 : decode cX12_registerOf 12 = .ok (.ldc2_w 316, 3) := by decide +kernel
theorem dX12_registerOf_15 : decode cX12_registerOf 15 = .ok (.land, 1) := by decide +kernel
theorem dX12_registerOf_16 : decode cX12_registerOf 16 = .ok (.l2i, 1) := by decide +kernel
theorem dX12_registerOf_17 : decode cX12_registerOf 17 = .ok (.ireturn, 1) := by decide +kernel
theorem dX12_memoryOf_0 : decode cX12_memoryOf 0 = .ok (.lload_n 0, 1) := by decide +kernel
theorem dX12_memoryOf_1 : decode cX12_memoryOf 1 = .ok (.bipush 32, 2) := by decide +kernel
theorem dX12_memoryOf_3 : decode cX12_memoryOf 3 = .ok (.iconst 2, 1) := by decide +kernel
theorem dX12_memoryOf_4 : decode cX12_memoryOf 4 = .ok (.iload_n 2, 1) := by decide +kernel
theorem dX12_memoryOf_5 : decode cX12_memoryOf 5 = .ok (.imul, 1) := by decide +kernel
theorem dX12_memoryOf_6 : decode cX12_memoryOf 6 = .ok (.iadd, 1) := by decide +kernel
theorem dX12_memoryOf_7 : decode cX12_memoryOf 7 = .ok (.lshr, 1) := by decide +kernel
theorem dX12_memoryOf_8 : decode cX12_memoryOf 8 = .ok (.ldc2_w 316, 3) := by decide +kernel
theorem dX12_memoryOf_11 : decode cX12_memoryOf 11 = .ok (.land, 1) := by decide +kernel
theorem dX12_memoryOf_12 : decode cX12_memoryOf 12 = .ok (.l2i, 1) := by decide +kernel
theorem dX12_memoryOf_13 : decode cX12_memoryOf 13 = .ok (.ireturn, 1) := by decide +kernel
theorem dX12_isWaiting_0 : decode cX12_isWaiting 0 = .ok (.lload_n 0, 1) := by decide +kernel
theorem dX12_isWaiting_1 : decode cX12_isWaiting 1 = .ok (.bipush 38, 2) := by decide +kernel
theorem dX12_isWaiting_3 : decode cX12_isWaiting 3 = .ok (.iload_n 2, 1) := by decide +kernel
theorem dX12_isWaiting_4 : decode cX12_isWaiting 4 = .ok (.iadd, 1) := by decide +kernel
theorem dX12_isWaiting_5 : decode cX12_isWaiting 5 = .ok (.lshr, 1) := by decide +kernel
theorem dX12_isWaiting_6 : decode cX12_isWaiting 6 = .ok (.lconst 1, 1) := by decide +kernel
theorem dX12_isWaiting_7 : decode cX12_isWaiting 7 = .ok (.land, 1) := by decide +kernel
theorem dX12_isWaiting_8 : decode cX12_isWaiting 8 = .ok (.lconst 1, 1) := by decide +kernel
theorem dX12_isWaiting_9 : decode cX12_isWaiting 9 = .ok (.lcmp, 1) := by decide +kernel
theorem dX12_isWaiting_10 : decode cX12_isWaiting 10 = .ok (.ifCond .ne 7, 3) := by decide +kernel
theorem dX12_isWaiting_13 : decode cX12_isWaiting 13 = .ok (.iconst 1, 1) := by decide +kernel
theorem dX12_isWaiting_14 : decode cX12_isWaiting 14 = .ok (.goto 4, 3) := by decide +kernel
theorem dX12_isWaiting_17 : decode cX12_isWaiting 17 = .ok (.iconst 0, 1) := by decide +kernel
theorem dX12_isWaiting_18 : decode cX12_isWaiting 18 = .ok (.ireturn, 1) := by decide +kernel
theorem dX12_with_0 : decode cX12_with 0 = .ok (.lload_n 0, 1) := by decide +kernel
theorem dX12_with_1 : decode cX12_with 1 = .ok (.ldc2_w 316, 3) := by decide +kernel
theorem dX12_with_4 : decode cX12_with 4 = .ok (.iload_n 2, 1) := by decide +kernel
theorem dX12_with_5 : decode cX12_with 5 = .ok (.lshl, 1) := by decide +kernel
theorem dX12_with_6 : decode cX12_with 6 = .ok (.ldc2_w 318, 3) := by decide +kernel
theorem dX12_with_9 : decode cX12_with 9 = .ok (.lxor, 1) := by decide +kernel
theorem dX12_with_10 : decode cX12_with 10 = .ok (.land, 1) := by decide +kernel
theorem dX12_with_11 : decode cX12_with 11 = .ok (.iload_n 3, 1) := by decide +kernel
theorem dX12_with_12 : decode cX12_with 12 = .ok (.i2l, 1) := by decide +kernel
theorem dX12_with_13 : decode cX12_with 13 = .ok (.iload_n 2, 1) := by decide +kernel
theorem dX12_with_14 : decode cX12_with 14 = .ok (.lshl, 1) := by decide +kernel
theorem dX12_with_15 : decode cX12_with 15 = .ok (.lor, 1) := by decide +kernel
theorem dX12_with_16 : decode cX12_with 16 = .ok (.lreturn, 1) := by decide +kernel
theorem dX12_valueOf_0 : decode cX12_valueOf 0 = .ok (.aload_n 0, 1) := by decide +kernel
theorem dX12_valueOf_1 : decode cX12_valueOf 1 = .ok (.getfield 56, 3) := by decide +kernel
theorem dX12_valueOf_4 : decode cX12_valueOf 4 = .ok (.iload 4, 2) := by decide +kernel
theorem dX12_valueOf_6 : decode cX12_valueOf 6 = .ok (.iaload, 1) := by decide +kernel
theorem dX12_valueOf_7 : decode cX12_valueOf 7 = .ok (.iconst (-1), 1) := by decide +kernel
theorem dX12_valueOf_8 : decode cX12_valueOf 8 = .ok (.if_icmp .ne 13, 3) := by decide +kernel
theorem dX12_valueOf_11 : decode cX12_valueOf 11 = .ok (.aload_n 0, 1) := by decide +kernel
theorem dX12_valueOf_12 : decode cX12_valueOf 12 = .ok (.getfield 53, 3) := by decide +kernel
theorem dX12_valueOf_15 : decode cX12_valueOf 15 = .ok (.iload 4, 2) := by decide +kernel
theorem dX12_valueOf_17 : decode cX12_valueOf 17 = .ok (.iaload, 1) := by decide +kernel
theorem dX12_valueOf_18 : decode cX12_valueOf 18 = .ok (.goto 15, 3) := by decide +kernel
theorem dX12_valueOf_21 : decode cX12_valueOf 21 = .ok (.lload_n 1, 1) := by decide +kernel
theorem dX12_valueOf_22 : decode cX12_valueOf 22 = .ok (.iload_n 3, 1) := by decide +kernel
theorem dX12_valueOf_23 : decode cX12_valueOf 23 = .ok (.aload_n 0, 1) := by decide +kernel
theorem dX12_valueOf_24 : decode cX12_valueOf 24 = .ok (.getfield 56, 3) := by decide +kernel
theorem dX12_valueOf_27 : decode cX12_valueOf 27 = .ok (.iload 4, 2) := by decide +kernel
theorem dX12_valueOf_29 : decode cX12_valueOf 29 = .ok (.iaload, 1) := by decide +kernel
theorem dX12_valueOf_30 : decode cX12_valueOf 30 = .ok (.invokestatic 320, 3) := by decide +kernel
theorem dX12_valueOf_33 : decode cX12_valueOf 33 = .ok (.ireturn, 1) := by decide +kernel
theorem dX12_waiting_0 : decode cX12_waiting 0 = .ok (.iconst (-1), 1) := by decide +kernel
theorem dX12_waiting_1 : decode cX12_waiting 1 = .ok (.istore 6, 2) := by decide +kernel
theorem dX12_waiting_3 : decode cX12_waiting 3 = .ok (.aload_n 0, 1) := by decide +kernel
theorem dX12_waiting_4 : decode cX12_waiting 4 = .ok (.getfield 65, 3) := by decide +kernel
theorem dX12_waiting_7 : decode cX12_waiting 7 = .ok (.iload_n 3, 1) := by decide +kernel
theorem dX12_waiting_8 : decode cX12_waiting 8 = .ok (.iaload, 1) := by decide +kernel
theorem dX12_waiting_9 : decode cX12_waiting 9 = .ok (.istore 7, 2) := by decide +kernel
theorem dX12_waiting_11 : decode cX12_waiting 11 = .ok (.iload 7, 2) := by decide +kernel
theorem dX12_waiting_13 : decode cX12_waiting 13 = .ok (.aload_n 0, 1) := by decide +kernel
theorem dX12_waiting_14 : decode cX12_waiting 14 = .ok (.getfield 65, 3) := by decide +kernel
theorem dX12_waiting_17 : decode cX12_waiting 17 = .ok (.iload_n 3, 1) := by decide +kernel
theorem dX12_waiting_18 : decode cX12_waiting 18 = .ok (.iaload, 1) := by decide +kernel
theorem dX12_waiting_19 : decode cX12_waiting 19 = .ok (.lload_n 1, 1) := by decide +kernel
theorem dX12_waiting_20 : decode cX12_waiting 20 = .ok (.iload_n 3, 1) := by decide +kernel
theorem dX12_waiting_21 : decode cX12_waiting 21 = .ok (.invokestatic 324, 3) := by decide +kernel
theorem dX12_waiting_24 : decode cX12_waiting 24 = .ok (.iadd, 1) := by decide +kernel
theorem dX12_waiting_25 : decode cX12_waiting 25 = .ok (.if_icmp .ge 66, 3) := by decide +kernel
theorem dX12_waiting_28 : decode cX12_waiting 28 = .ok (.aload_n 0, 1) := by decide +kernel
theorem dX12_waiting_29 : decode cX12_waiting 29 = .ok (.getfield 44, 3) := by decide +kernel
theorem dX12_waiting_32 : decode cX12_waiting 32 = .ok (.iload 7, 2) := by decide +kernel
theorem dX12_waiting_34 : decode cX12_waiting 34 = .ok (.iaload, 1) := by decide +kernel
theorem dX12_waiting_35 : decode cX12_waiting 35 = .ok (.ifCond .ne 50, 3) := by decide +kernel
theorem dX12_waiting_38 : decode cX12_waiting 38 = .ok (.lload_n 1, 1) := by decide +kernel
theorem dX12_waiting_39 : decode cX12_waiting 39 = .ok (.aload_n 0, 1) := by decide +kernel
theorem dX12_waiting_40 : decode cX12_waiting 40 = .ok (.getfield 62, 3) := by decide +kernel
theorem dX12_waiting_43 : decode cX12_waiting 43 = .ok (.iload 7, 2) := by decide +kernel
theorem dX12_waiting_45 : decode cX12_waiting 45 = .ok (.iaload, 1) := by decide +kernel
theorem dX12_waiting_46 : decode cX12_waiting 46 = .ok (.invokestatic 328, 3) := by decide +kernel
theorem dX12_waiting_49 : decode cX12_waiting 49 = .ok (.ifCond .eq 36, 3) := by decide +kernel
theorem dX12_waiting_52 : decode cX12_waiting 52 = .ok (.iload 4, 2) := by decide +kernel
theorem dX12_waiting_54 : decode cX12_waiting 54 = .ok (.iconst (-1), 1) := by decide +kernel
theorem dX12_waiting_55 : decode cX12_waiting 55 = .ok (.if_icmp .eq 15, 3) := by decide +kernel
theorem dX12_waiting_58 : decode cX12_waiting 58 = .ok (.aload_n 0, 1) := by decide +kernel
theorem dX12_waiting_59 : decode cX12_waiting 59 = .ok (.getfield 47, 3) := by decide +kernel
theorem dX12_waiting_62 : decode cX12_waiting 62 = .ok (.iload 7, 2) := by decide +kernel
theorem dX12_waiting_64 : decode cX12_waiting 64 = .ok (.iaload, 1) := by decide +kernel
theorem dX12_waiting_65 : decode cX12_waiting 65 = .ok (.iload 4, 2) := by decide +kernel
theorem dX12_waiting_67 : decode cX12_waiting 67 = .ok (.if_icmp .ne 18, 3) := by decide +kernel
theorem dX12_waiting_70 : decode cX12_waiting 70 = .ok (.iload 5, 2) := by decide +kernel
theorem dX12_waiting_72 : decode cX12_waiting 72 = .ok (.ifCond .ne 9, 3) := by decide +kernel
theorem dX12_waiting_75 : decode cX12_waiting 75 = .ok (.iload 6, 2) := by decide +kernel
theorem dX12_waiting_77 : decode cX12_waiting 77 = .ok (.iconst (-1), 1) := by decide +kernel
theorem dX12_waiting_78 : decode cX12_waiting 78 = .ok (.if_icmp .ne 7, 3) := by decide +kernel
theorem dX12_waiting_81 : decode cX12_waiting 81 = .ok (.iload 7, 2) := by decide +kernel
theorem dX12_waiting_83 : decode cX12_waiting 83 = .ok (.istore 6, 2) := by decide +kernel
theorem dX12_waiting_85 : decode cX12_waiting 85 = .ok (.iinc 7 1, 3) := by decide +kernel
theorem dX12_waiting_88 : decode cX12_waiting 88 = .ok (.goto (-77), 3) := by decide +kernel
theorem dX12_waiting_91 : decode cX12_waiting 91 = .ok (.iload 6, 2) := by decide +kernel
theorem dX12_waiting_93 : decode cX12_waiting 93 = .ok (.ireturn, 1) := by decide +kernel
theorem dX12_waitingMany_0 : decode cX12_waitingMany 0 = .ok (.iconst 0, 1) := by decide +kernel
theorem dX12_waitingMany_1 : decode cX12_waitingMany 1 = .ok (.istore 4, 2) := by decide +kernel
theorem dX12_waitingMany_3 : decode cX12_waitingMany 3 = .ok (.aload_n 0, 1) := by decide +kernel
theorem dX12_waitingMany_4 : decode cX12_waitingMany 4 = .ok (.getfield 65, 3) := by decide +kernel
theorem dX12_waitingMany_7 : decode cX12_waitingMany 7 = .ok (.iload_n 3, 1) := by decide +kernel
theorem dX12_waitingMany_8 : decode cX12_waitingMany 8 = .ok (.iaload, 1) := by decide +kernel
theorem dX12_waitingMany_9 : decode cX12_waitingMany 9 = .ok (.istore 5, 2) := by decide +kernel
theorem dX12_waitingMany_11 : decode cX12_waitingMany 11 = .ok (.iload 5, 2) := by decide +kernel
theorem dX12_waitingMany_13 : decode cX12_waitingMany 13 = .ok (.aload_n 0, 1) := by decide +kernel
theorem dX12_waitingMany_14 : decode cX12_waitingMany 14 = .ok (.getfield 65, 3) := by decide +kernel
theorem dX12_waitingMany_17 : decode cX12_waitingMany 17 = .ok (.iload_n 3, 1) := by decide +kernel
theorem dX12_waitingMany_18 : decode cX12_waitingMany 18 = .ok (.iaload, 1) := by decide +kernel
theorem dX12_waitingMany_19 : decode cX12_waitingMany 19 = .ok (.lload_n 1, 1) := by decide +kernel
theorem dX12_waitingMany_20 : decode cX12_waitingMany 20 = .ok (.iload_n 3, 1) := by decide +kernel
theorem dX12_waitingMany_21 : decode cX12_waitingMany 21 = .ok (.invokestatic 324, 3) := by decide +kernel
theorem dX12_waitingMany_24 : decode cX12_waitingMany 24 = .ok (.iadd, 1) := by decide +kernel
theorem dX12_waitingMany_25 : decode cX12_waitingMany 25 = .ok (.if_icmp .ge 43, 3) := by decide +kernel
theorem dX12_waitingMany_28 : decode cX12_waitingMany 28 = .ok (.iload 4, 2) := by decide +kernel
theorem dX12_waitingMany_30 : decode cX12_waitingMany 30 = .ok (.aload_n 0, 1) := by decide +kernel
theorem dX12_waitingMany_31 : decode cX12_waitingMany 31 = .ok (.getfield 44, 3) := by decide +kernel
theorem dX12_waitingMany_34 : decode cX12_waitingMany 34 = .ok (.iload 5, 2) := by decide +kernel
theorem dX12_waitingMany_36 : decode cX12_waitingMany 36 = .ok (.iaload, 1) := by decide +kernel
theorem dX12_waitingMany_37 : decode cX12_waitingMany 37 = .ok (.ifCond .ne 21, 3) := by decide +kernel
theorem dX12_waitingMany_40 : decode cX12_waitingMany 40 = .ok (.lload_n 1, 1) := by decide +kernel
theorem dX12_waitingMany_41 : decode cX12_waitingMany 41 = .ok (.aload_n 0, 1) := by decide +kernel
theorem dX12_waitingMany_42 : decode cX12_waitingMany 42 = .ok (.getfield 62, 3) := by decide +kernel
theorem dX12_waitingMany_45 : decode cX12_waitingMany 45 = .ok (.iload 5, 2) := by decide +kernel
theorem dX12_waitingMany_47 : decode cX12_waitingMany 47 = .ok (.iaload, 1) := by decide +kernel
theorem dX12_waitingMany_48 : decode cX12_waitingMany 48 = .ok (.invokestatic 328, 3) := by decide +kernel
theorem dX12_waitingMany_51 : decode cX12_waitingMany 51 = .ok (.ifCond .eq 7, 3) := by decide +kernel
theorem dX12_waitingMany_54 : decode cX12_waitingMany 54 = .ok (.iconst 1, 1) := by decide +kernel
theorem dX12_waitingMany_55 : decode cX12_waitingMany 55 = .ok (.goto 4, 3) := by decide +kernel
theorem dX12_waitingMany_58 : decode cX12_waitingMany 58 = .ok (.iconst 0, 1) := by decide +kernel
theorem dX12_waitingMany_59 : decode cX12_waitingMany 59 = .ok (.iadd, 1) := by decide +kernel
theorem dX12_waitingMany_60 : decode cX12_waitingMany 60 = .ok (.istore 4, 2) := by decide +kernel
theorem dX12_waitingMany_62 : decode cX12_waitingMany 62 = .ok (.iinc 5 1, 3) := by decide +kernel
theorem dX12_waitingMany_65 : decode cX12_waitingMany 65 = .ok (.goto (-54), 3) := by decide +kernel
theorem dX12_waitingMany_68 : decode cX12_waitingMany 68 = .ok (.iload 4, 2) := by decide +kernel
theorem dX12_waitingMany_70 : decode cX12_waitingMany 70 = .ok (.ireturn, 1) := by decide +kernel
theorem dX12_canStep_0 : decode cX12_canStep 0 = .ok (.iload 4, 2) := by decide +kernel
theorem dX12_canStep_2 : decode cX12_canStep 2 = .ok (.ifCond .ne 12, 3) := by decide +kernel
theorem dX12_canStep_5 : decode cX12_canStep 5 = .ok (.aload_n 0, 1) := by decide +kernel
theorem dX12_canStep_6 : decode cX12_canStep 6 = .ok (.lload_n 1, 1) := by decide +kernel
theorem dX12_canStep_7 : decode cX12_canStep 7 = .ok (.iload_n 3, 1) := by decide +kernel
theorem dX12_canStep_8 : decode cX12_canStep 8 = .ok (.invokevirtual 332, 3) := by decide +kernel
theorem dX12_canStep_11 : decode cX12_canStep 11 = .ok (.goto 28, 3) := by decide +kernel
theorem dX12_canStep_14 : decode cX12_canStep 14 = .ok (.aload_n 0, 1) := by decide +kernel
theorem dX12_canStep_15 : decode cX12_canStep 15 = .ok (.getfield 335, 3) := by decide +kernel
theorem dX12_canStep_18 : decode cX12_canStep 18 = .ok (.ifCond .le 20, 3) := by decide +kernel
theorem dX12_canStep_21 : decode cX12_canStep 21 = .ok (.aload_n 0, 1) := by decide +kernel
theorem dX12_canStep_22 : decode cX12_canStep 22 = .ok (.lload_n 1, 1) := by decide +kernel
theorem dX12_canStep_23 : decode cX12_canStep 23 = .ok (.iload_n 3, 1) := by decide +kernel
theorem dX12_canStep_24 : decode cX12_canStep 24 = .ok (.iload 4, 2) := by decide +kernel
theorem dX12_canStep_26 : decode cX12_canStep 26 = .ok (.iconst 1, 1) := by decide +kernel
theorem dX12_canStep_27 : decode cX12_canStep 27 = .ok (.isub, 1) := by decide +kernel
theorem dX12_canStep_28 : decode cX12_canStep 28 = .ok (.invokevirtual 338, 3) := by decide +kernel
theorem dX12_canStep_31 : decode cX12_canStep 31 = .ok (.ifCond .eq 7, 3) := by decide +kernel
theorem dX12_canStep_34 : decode cX12_canStep 34 = .ok (.iconst 1, 1) := by decide +kernel
theorem dX12_canStep_35 : decode cX12_canStep 35 = .ok (.goto 4, 3) := by decide +kernel
theorem dX12_canStep_38 : decode cX12_canStep 38 = .ok (.iconst 0, 1) := by decide +kernel
theorem dX12_canStep_39 : decode cX12_canStep 39 = .ok (.ireturn, 1) := by decide +kernel
theorem dX12_canCommit_0 : decode cX12_canCommit 0 = .ok (.aload_n 0, 1) := by decide +kernel
theorem dX12_canCommit_1 : decode cX12_canCommit 1 = .ok (.lload_n 1, 1) := by decide +kernel
theorem dX12_canCommit_2 : decode cX12_canCommit 2 = .ok (.iload_n 3, 1) := by decide +kernel
theorem dX12_canCommit_3 : decode cX12_canCommit 3 = .ok (.aload_n 0, 1) := by decide +kernel
theorem dX12_canCommit_4 : decode cX12_canCommit 4 = .ok (.getfield 335, 3) := by decide +kernel
theorem dX12_canCommit_7 : decode cX12_canCommit 7 = .ok (.iconst 1, 1) := by decide +kernel
theorem dX12_canCommit_8 : decode cX12_canCommit 8 = .ok (.if_icmp .ne 7, 3) := by decide +kernel
theorem dX12_canCommit_11 : decode cX12_canCommit 11 = .ok (.iconst (-1), 1) := by decide +kernel
theorem dX12_canCommit_12 : decode cX12_canCommit 12 = .ok (.goto 5, 3) := by decide +kernel
theorem dX12_canCommit_15 : decode cX12_canCommit 15 = .ok (.iload 4, 2) := by decide +kernel
theorem dX12_canCommit_17 : decode cX12_canCommit 17 = .ok (.iconst 0, 1) := by decide +kernel
theorem dX12_canCommit_18 : decode cX12_canCommit 18 = .ok (.invokevirtual 342, 3) := by decide +kernel
theorem dX12_canCommit_21 : decode cX12_canCommit 21 = .ok (.istore 5, 2) := by decide +kernel
theorem dX12_canCommit_23 : decode cX12_canCommit 23 = .ok (.iload 5, 2) := by decide +kernel
theorem dX12_canCommit_25 : decode cX12_canCommit 25 = .ok (.iconst (-1), 1) := by decide +kernel
theorem dX12_canCommit_26 : decode cX12_canCommit 26 = .ok (.if_icmp .eq 15, 3) := by decide +kernel
theorem dX12_canCommit_29 : decode cX12_canCommit 29 = .ok (.aload_n 0, 1) := by decide +kernel
theorem dX12_canCommit_30 : decode cX12_canCommit 30 = .ok (.getfield 47, 3) := by decide +kernel
theorem dX12_canCommit_33 : decode cX12_canCommit 33 = .ok (.iload 5, 2) := by decide +kernel
theorem dX12_canCommit_35 : decode cX12_canCommit 35 = .ok (.iaload, 1) := by decide +kernel
theorem dX12_canCommit_36 : decode cX12_canCommit 36 = .ok (.iload 4, 2) := by decide +kernel
theorem dX12_canCommit_38 : decode cX12_canCommit 38 = .ok (.if_icmp .eq 5, 3) := by decide +kernel
theorem dX12_canCommit_41 : decode cX12_canCommit 41 = .ok (.iconst 0, 1) := by decide +kernel
theorem dX12_canCommit_42 : decode cX12_canCommit 42 = .ok (.ireturn, 1) := by decide +kernel
theorem dX12_canCommit_43 : decode cX12_canCommit 43 = .ok (.aload_n 0, 1) := by decide +kernel
theorem dX12_canCommit_44 : decode cX12_canCommit 44 = .ok (.iload 5, 2) := by decide +kernel
theorem dX12_canCommit_46 : decode cX12_canCommit 46 = .ok (.putfield 346, 3) := by decide +kernel
theorem dX12_canCommit_49 : decode cX12_canCommit 49 = .ok (.aload_n 0, 1) := by decide +kernel
theorem dX12_canCommit_50 : decode cX12_canCommit 50 = .ok (.lload_n 1, 1) := by decide +kernel
theorem dX12_canCommit_51 : decode cX12_canCommit 51 = .ok (.lconst 1, 1) := by decide +kernel
theorem dX12_canCommit_52 : decode cX12_canCommit 52 = .ok (.bipush 38, 2) := by decide +kernel
theorem dX12_canCommit_54 : decode cX12_canCommit 54 = .ok (.aload_n 0, 1) := by decide +kernel
theorem dX12_canCommit_55 : decode cX12_canCommit 55 = .ok (.getfield 62, 3) := by decide +kernel
theorem dX12_canCommit_58 : decode cX12_canCommit 58 = .ok (.iload 5, 2) := by decide +kernel
theorem dX12_canCommit_60 : decode cX12_canCommit 60 = .ok (.iaload, 1) := by decide +kernel
theorem dX12_canCommit_61 : decode cX12_canCommit 61 = .ok (.iadd, 1) := by decide +kernel
theorem dX12_canCommit_62 : decode cX12_canCommit 62 = .ok (.lshl, 1) := by decide +kernel
theorem dX12_canCommit_63 : decode cX12_canCommit 63 = .ok (.ldc2_w 318, 3) := by decide +kernel
theorem dX12_canCommit_66 : decode cX12_canCommit 66 = .ok (.lxor, 1) := by decide +kernel
theorem dX12_canCommit_67 : decode cX12_canCommit 67 = .ok (.land, 1) := by decide +kernel
theorem dX12_canCommit_68 : decode cX12_canCommit 68 = .ok (.bipush 32, 2) := by decide +kernel
theorem dX12_canCommit_70 : decode cX12_canCommit 70 = .ok (.iconst 2, 1) := by decide +kernel
theorem dX12_canCommit_71 : decode cX12_canCommit 71 = .ok (.iload 4, 2) := by decide +kernel
theorem dX12_canCommit_73 : decode cX12_canCommit 73 = .ok (.imul, 1) := by decide +kernel
theorem dX12_canCommit_74 : decode cX12_canCommit 74 = .ok (.iadd, 1) := by decide +kernel
theorem dX12_canCommit_75 : decode cX12_canCommit 75 = .ok (.aload_n 0, 1) := by decide +kernel
theorem dX12_canCommit_76 : decode cX12_canCommit 76 = .ok (.lload_n 1, 1) := by decide +kernel
theorem dX12_canCommit_77 : decode cX12_canCommit 77 = .ok (.iload_n 3, 1) := by decide +kernel
theorem dX12_canCommit_78 : decode cX12_canCommit 78 = .ok (.iload 5, 2) := by decide +kernel
theorem dX12_canCommit_80 : decode cX12_canCommit 80 = .ok (.invokevirtual 349, 3) := by decide +kernel
theorem dX12_canCommit_83 : decode cX12_canCommit 83 = .ok (.invokestatic 352, 3) := by decide +kernel
theorem dX12_canCommit_86 : decode cX12_canCommit 86 = .ok (.putfield 356, 3) := by decide +kernel
theorem dX12_canCommit_89 : decode cX12_canCommit 89 = .ok (.iconst 1, 1) := by decide +kernel
theorem dX12_canCommit_90 : decode cX12_canCommit 90 = .ok (.ireturn, 1) := by decide +kernel
theorem dX12_canExecute_0 : decode cX12_canExecute 0 = .ok (.aload_n 0, 1) := by decide +kernel
theorem dX12_canExecute_1 : decode cX12_canExecute 1 = .ok (.getfield 65, 3) := by decide +kernel
theorem dX12_canExecute_4 : decode cX12_canExecute 4 = .ok (.iload_n 3, 1) := by decide +kernel
theorem dX12_canExecute_5 : decode cX12_canExecute 5 = .ok (.iaload, 1) := by decide +kernel
theorem dX12_canExecute_6 : decode cX12_canExecute 6 = .ok (.lload_n 1, 1) := by decide +kernel
theorem dX12_canExecute_7 : decode cX12_canExecute 7 = .ok (.iload_n 3, 1) := by decide +kernel
theorem dX12_canExecute_8 : decode cX12_canExecute 8 = .ok (.invokestatic 324, 3) := by decide +kernel
theorem dX12_canExecute_11 : decode cX12_canExecute 11 = .ok (.iadd, 1) := by decide +kernel
theorem dX12_canExecute_12 : decode cX12_canExecute 12 = .ok (.istore 4, 2) := by decide +kernel
theorem dX12_canExecute_14 : decode cX12_canExecute 14 = .ok (.iload 4, 2) := by decide +kernel
theorem dX12_canExecute_16 : decode cX12_canExecute 16 = .ok (.aload_n 0, 1) := by decide +kernel
theorem dX12_canExecute_17 : decode cX12_canExecute 17 = .ok (.getfield 65, 3) := by decide +kernel
theorem dX12_canExecute_20 : decode cX12_canExecute 20 = .ok (.iload_n 3, 1) := by decide +kernel
theorem dX12_canExecute_21 : decode cX12_canExecute 21 = .ok (.iconst 1, 1) := by decide +kernel
theorem dX12_canExecute_22 : decode cX12_canExecute 22 = .ok (.iadd, 1) := by decide +kernel
theorem dX12_canExecute_23 : decode cX12_canExecute 23 = .ok (.iaload, 1) := by decide +kernel
theorem dX12_canExecute_24 : decode cX12_canExecute 24 = .ok (.if_icmp .eq 26, 3) := by decide +kernel
theorem dX12_canExecute_27 : decode cX12_canExecute 27 = .ok (.aload_n 0, 1) := by decide +kernel
theorem dX12_canExecute_28 : decode cX12_canExecute 28 = .ok (.getfield 44, 3) := by decide +kernel
theorem dX12_canExecute_31 : decode cX12_canExecute 31 = .ok (.iload 4, 2) := by decide +kernel
theorem dX12_canExecute_33 : decode cX12_canExecute 33 = .ok (.iaload, 1) := by decide +kernel
theorem dX12_canExecute_34 : decode cX12_canExecute 34 = .ok (.iconst 2, 1) := by decide +kernel
theorem dX12_canExecute_35 : decode cX12_canExecute 35 = .ok (.if_icmp .lt 17, 3) := by decide +kernel
theorem dX12_canExecute_38 : decode cX12_canExecute 38 = .ok (.aload_n 0, 1) := by decide +kernel
theorem dX12_canExecute_39 : decode cX12_canExecute 39 = .ok (.lload_n 1, 1) := by decide +kernel
theorem dX12_canExecute_40 : decode cX12_canExecute 40 = .ok (.iload_n 3, 1) := by decide +kernel
theorem dX12_canExecute_41 : decode cX12_canExecute 41 = .ok (.iconst (-1), 1) := by decide +kernel
theorem dX12_canExecute_42 : decode cX12_canExecute 42 = .ok (.iconst 0, 1) := by decide +kernel
theorem dX12_canExecute_43 : decode cX12_canExecute 43 = .ok (.invokevirtual 342, 3) := by decide +kernel
theorem dX12_canExecute_46 : decode cX12_canExecute 46 = .ok (.iconst (-1), 1) := by decide +kernel
theorem dX12_canExecute_47 : decode cX12_canExecute 47 = .ok (.if_icmp .eq 5, 3) := by decide +kernel
theorem dX12_canExecute_50 : decode cX12_canExecute 50 = .ok (.iconst 0, 1) := by decide +kernel
theorem dX12_canExecute_51 : decode cX12_canExecute 51 = .ok (.ireturn, 1) := by decide +kernel
theorem dX12_canExecute_52 : decode cX12_canExecute 52 = .ok (.aload_n 0, 1) := by decide +kernel
theorem dX12_canExecute_53 : decode cX12_canExecute 53 = .ok (.iload 4, 2) := by decide +kernel
theorem dX12_canExecute_55 : decode cX12_canExecute 55 = .ok (.putfield 346, 3) := by decide +kernel
theorem dX12_canExecute_58 : decode cX12_canExecute 58 = .ok (.aload_n 0, 1) := by decide +kernel
theorem dX12_canExecute_59 : decode cX12_canExecute 59 = .ok (.lload_n 1, 1) := by decide +kernel
theorem dX12_canExecute_60 : decode cX12_canExecute 60 = .ok (.lconst 1, 1) := by decide +kernel
theorem dX12_canExecute_61 : decode cX12_canExecute 61 = .ok (.iconst 4, 1) := by decide +kernel
theorem dX12_canExecute_62 : decode cX12_canExecute 62 = .ok (.iload_n 3, 1) := by decide +kernel
theorem dX12_canExecute_63 : decode cX12_canExecute 63 = .ok (.imul, 1) := by decide +kernel
theorem dX12_canExecute_64 : decode cX12_canExecute 64 = .ok (.lshl, 1) := by decide +kernel
theorem dX12_canExecute_65 : decode cX12_canExecute 65 = .ok (.ladd, 1) := by decide +kernel
theorem dX12_canExecute_66 : decode cX12_canExecute 66 = .ok (.putfield 356, 3) := by decide +kernel
theorem dX12_canExecute_69 : decode cX12_canExecute 69 = .ok (.aload_n 0, 1) := by decide +kernel
theorem dX12_canExecute_70 : decode cX12_canExecute 70 = .ok (.iconst (-1), 1) := by decide +kernel
theorem dX12_canExecute_71 : decode cX12_canExecute 71 = .ok (.putfield 360, 3) := by decide +kernel
theorem dX12_canExecute_74 : decode cX12_canExecute 74 = .ok (.aload_n 0, 1) := by decide +kernel
theorem dX12_canExecute_75 : decode cX12_canExecute 75 = .ok (.getfield 44, 3) := by decide +kernel
theorem dX12_canExecute_78 : decode cX12_canExecute 78 = .ok (.iload 4, 2) := by decide +kernel
theorem dX12_canExecute_80 : decode cX12_canExecute 80 = .ok (.iaload, 1) := by decide +kernel
theorem dX12_canExecute_81 : decode cX12_canExecute 81 = .ok (.ifCond .ne 64, 3) := by decide +kernel
theorem dX12_canExecute_84 : decode cX12_canExecute 84 = .ok (.aload_n 0, 1) := by decide +kernel
theorem dX12_canExecute_85 : decode cX12_canExecute 85 = .ok (.aload_n 0, 1) := by decide +kernel
theorem dX12_canExecute_86 : decode cX12_canExecute 86 = .ok (.getfield 335, 3) := by decide +kernel
theorem dX12_canExecute_89 : decode cX12_canExecute 89 = .ok (.ifCond .ne 33, 3) := by decide +kernel
theorem dX12_canExecute_92 : decode cX12_canExecute 92 = .ok (.aload_n 0, 1) := by decide +kernel
theorem dX12_canExecute_93 : decode cX12_canExecute 93 = .ok (.getfield 356, 3) := by decide +kernel
theorem dX12_canExecute_96 : decode cX12_canExecute 96 = .ok (.bipush 32, 2) := by decide +kernel
theorem dX12_canExecute_98 : decode cX12_canExecute 98 = .ok (.iconst 2, 1) := by decide +kernel
theorem dX12_canExecute_99 : decode cX12_canExecute 99 = .ok (.aload_n 0, 1) := by decide +kernel
theorem dX12_canExecute_100 : decode cX12_canExecute 100 = .ok (.getfield 47, 3) := by decide +kernel
theorem dX12_canExecute_103 : decode cX12_canExecute 103 = .ok (.iload 4, 2) := by decide +kernel
theorem dX12_canExecute_105 : decode cX12_canExecute 105 = .ok (.iaload, 1) := by decide +kernel
theorem dX12_canExecute_106 : decode cX12_canExecute 106 = .ok (.imul, 1) := by decide +kernel
theorem dX12_canExecute_107 : decode cX12_canExecute 107 = .ok (.iadd, 1) := by decide +kernel
theorem dX12_canExecute_108 : decode cX12_canExecute 108 = .ok (.aload_n 0, 1) := by decide +kernel
theorem dX12_canExecute_109 : decode cX12_canExecute 109 = .ok (.lload_n 1, 1) := by decide +kernel
theorem dX12_canExecute_110 : decode cX12_canExecute 110 = .ok (.iload_n 3, 1) := by decide +kernel
theorem dX12_canExecute_111 : decode cX12_canExecute 111 = .ok (.iload 4, 2) := by decide +kernel
theorem dX12_canExecute_113 : decode cX12_canExecute 113 = .ok (.invokevirtual 349, 3) := by decide +kernel
theorem dX12_canExecute_116 : decode cX12_canExecute 116 = .ok (.invokestatic 352, 3) := by decide +kernel
theorem dX12_canExecute_119 : decode cX12_canExecute 119 = .ok (.goto 20, 3) := by decide +kernel
theorem dX12_canExecute_122 : decode cX12_canExecute 122 = .ok (.aload_n 0, 1) := by decide +kernel
theorem dX12_canExecute_123 : decode cX12_canExecute 123 = .ok (.getfield 356, 3) := by decide +kernel
theorem dX12_canExecute_126 : decode cX12_canExecute 126 = .ok (.lconst 1, 1) := by decide +kernel
theorem dX12_canExecute_127 : decode cX12_canExecute 127 = .ok (.bipush 38, 2) := by decide +kernel
theorem dX12_canExecute_129 : decode cX12_canExecute 129 = .ok (.aload_n 0, 1) := by decide +kernel
theorem dX12_canExecute_130 : decode cX12_canExecute 130 = .ok (.getfield 62, 3) := by decide +kernel
theorem dX12_canExecute_133 : decode cX12_canExecute 133 = .ok (.iload 4, 2) := by decide +kernel
theorem dX12_canExecute_135 : decode cX12_canExecute 135 = .ok (.iaload, 1) := by decide +kernel
theorem dX12_canExecute_136 : decode cX12_canExecute 136 = .ok (.iadd, 1) := by decide +kernel
theorem dX12_canExecute_137 : decode cX12_canExecute 137 = .ok (.lshl, 1) := by decide +kernel
theorem dX12_canExecute_138 : decode cX12_canExecute 138 = .ok (.lor, 1) := by decide +kernel
theorem dX12_canExecute_139 : decode cX12_canExecute 139 = .ok (.putfield 356, 3) := by decide +kernel
theorem dX12_canExecute_142 : decode cX12_canExecute 142 = .ok (.goto 163, 3) := by decide +kernel
theorem dX12_canExecute_145 : decode cX12_canExecute 145 = .ok (.aload_n 0, 1) := by decide +kernel
theorem dX12_canExecute_146 : decode cX12_canExecute 146 = .ok (.getfield 44, 3) := by decide +kernel
theorem dX12_canExecute_149 : decode cX12_canExecute 149 = .ok (.iload 4, 2) := by decide +kernel
theorem dX12_canExecute_151 : decode cX12_canExecute 151 = .ok (.iaload, 1) := by decide +kernel
theorem dX12_canExecute_152 : decode cX12_canExecute 152 = .ok (.iconst 3, 1) := by decide +kernel
theorem dX12_canExecute_153 : decode cX12_canExecute 153 = .ok (.if_icmp .eq 152, 3) := by decide +kernel
theorem dX12_canExecute_156 : decode cX12_canExecute 156 = .ok (.aload_n 0, 1) := by decide +kernel
theorem dX12_canExecute_157 : decode cX12_canExecute 157 = .ok (.getfield 44, 3) := by decide +kernel
theorem dX12_canExecute_160 : decode cX12_canExecute 160 = .ok (.iload 4, 2) := by decide +kernel
theorem dX12_canExecute_162 : decode cX12_canExecute 162 = .ok (.iaload, 1) := by decide +kernel
theorem dX12_canExecute_163 : decode cX12_canExecute 163 = .ok (.iconst 1, 1) := by decide +kernel
theorem dX12_canExecute_164 : decode cX12_canExecute 164 = .ok (.if_icmp .ne 20, 3) := by decide +kernel
theorem dX12_canExecute_167 : decode cX12_canExecute 167 = .ok (.aload_n 0, 1) := by decide +kernel
theorem dX12_canExecute_168 : decode cX12_canExecute 168 = .ok (.lload_n 1, 1) := by decide +kernel
theorem dX12_canExecute_169 : decode cX12_canExecute 169 = .ok (.iload_n 3, 1) := by decide +kernel
theorem dX12_canExecute_170 : decode cX12_canExecute 170 = .ok (.aload_n 0, 1) := by decide +kernel
theorem dX12_canExecute_171 : decode cX12_canExecute 171 = .ok (.getfield 47, 3) := by decide +kernel
theorem dX12_canExecute_174 : decode cX12_canExecute 174 = .ok (.iload 4, 2) := by decide +kernel
theorem dX12_canExecute_176 : decode cX12_canExecute 176 = .ok (.iaload, 1) := by decide +kernel
theorem dX12_canExecute_177 : decode cX12_canExecute 177 = .ok (.iconst 1, 1) := by decide +kernel
theorem dX12_canExecute_178 : decode cX12_canExecute 178 = .ok (.invokevirtual 342, 3) := by decide +kernel
theorem dX12_canExecute_181 : decode cX12_canExecute 181 = .ok (.goto 4, 3) := by decide +kernel
theorem dX12_canExecute_184 : decode cX12_canExecute 184 = .ok (.iconst (-1), 1) := by decide +kernel
theorem dX12_canExecute_185 : decode cX12_canExecute 185 = .ok (.istore 5, 2) := by decide +kernel
theorem dX12_canExecute_187 : decode cX12_canExecute 187 = .ok (.aload_n 0, 1) := by decide +kernel
theorem dX12_canExecute_188 : decode cX12_canExecute 188 = .ok (.iload 5, 2) := by decide +kernel
theorem dX12_canExecute_190 : decode cX12_canExecute 190 = .ok (.iconst (-1), 1) := by decide +kernel
theorem dX12_canExecute_191 : decode cX12_canExecute 191 = .ok (.if_icmp .ne 8, 3) := by decide +kernel
theorem dX12_canExecute_194 : decode cX12_canExecute 194 = .ok (.bipush (-2), 2) := by decide +kernel
theorem dX12_canExecute_196 : decode cX12_canExecute 196 = .ok (.goto 5, 3) := by decide +kernel
theorem dX12_canExecute_199 : decode cX12_canExecute 199 = .ok (.iload 5, 2) := by decide +kernel
theorem dX12_canExecute_201 : decode cX12_canExecute 201 = .ok (.putfield 360, 3) := by decide +kernel
theorem dX12_canExecute_204 : decode cX12_canExecute 204 = .ok (.iload 5, 2) := by decide +kernel
theorem dX12_canExecute_206 : decode cX12_canExecute 206 = .ok (.iconst (-1), 1) := by decide +kernel
theorem dX12_canExecute_207 : decode cX12_canExecute 207 = .ok (.if_icmp .ne 17, 3) := by decide +kernel
theorem dX12_canExecute_210 : decode cX12_canExecute 210 = .ok (.lload_n 1, 1) := by decide +kernel
