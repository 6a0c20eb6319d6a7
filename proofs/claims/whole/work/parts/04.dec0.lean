theorem dX0_init_0 : decode cX0_init 0 = .ok (.aload_n 0, 1) := by decide +kernel
theorem dX0_init_1 : decode cX0_init 1 = .ok (.invokespecial 3, 3) := by decide +kernel
theorem dX0_init_4 : decode cX0_init 4 = .ok (.aload_n 0, 1) := by decide +kernel
theorem dX0_init_5 : decode cX0_init 5 = .ok (.bipush 8, 2) := by decide +kernel
theorem dX0_init_7 : decode cX0_init 7 = .ok (.newarray .int, 2) := by decide +kernel
theorem dX0_init_9 : decode cX0_init 9 = .ok (.putfield 9, 3) := by decide +kernel
theorem dX0_init_12 : decode cX0_init 12 = .ok (.aload_n 0, 1) := by decide +kernel
theorem dX0_init_13 : decode cX0_init 13 = .ok (.iconst 0, 1) := by decide +kernel
theorem dX0_init_14 : decode cX0_init 14 = .ok (.putfield 15, 3) := by decide +kernel
theorem dX0_init_17 : decode cX0_init 17 = .ok (.return_, 1) := by decide +kernel
theorem dX0_inserted_0 : decode cX0_inserted 0 = .ok (.iload_n 0, 1) := by decide +kernel
theorem dX0_inserted_1 : decode cX0_inserted 1 = .ok (.iconst 3, 1) := by decide +kernel
theorem dX0_inserted_2 : decode cX0_inserted 2 = .ok (.ishl, 1) := by decide +kernel
theorem dX0_inserted_3 : decode cX0_inserted 3 = .ok (.iconst 4, 1) := by decide +kernel
theorem dX0_inserted_4 : decode cX0_inserted 4 = .ok (.ior, 1) := by decide +kernel
theorem dX0_inserted_5 : decode cX0_inserted 5 = .ok (.ireturn, 1) := by decide +kernel
theorem dX0_removed_0 : decode cX0_removed 0 = .ok (.iload_n 0, 1) := by decide +kernel
theorem dX0_removed_1 : decode cX0_removed 1 = .ok (.iconst 3, 1) := by decide +kernel
theorem dX0_removed_2 : decode cX0_removed 2 = .ok (.ishl, 1) := by decide +kernel
theorem dX0_removed_3 : decode cX0_removed 3 = .ok (.iload_n 1, 1) := by decide +kernel
theorem dX0_removed_4 : decode cX0_removed 4 = .ok (.ior, 1) := by decide +kernel
theorem dX0_removed_5 : decode cX0_removed 5 = .ok (.ireturn, 1) := by decide +kernel
theorem dX0_isInsertion_0 : decode cX0_isInsertion 0 = .ok (.iload_n 0, 1) := by decide +kernel
theorem dX0_isInsertion_1 : decode cX0_isInsertion 1 = .ok (.iconst 4, 1) := by decide +kernel
theorem dX0_isInsertion_2 : decode cX0_isInsertion 2 = .ok (.iand, 1) := by decide +kernel
theorem dX0_isInsertion_3 : decode cX0_isInsertion 3 = .ok (.ifCond .eq 7, 3) := by decide +kernel
theorem dX0_isInsertion_6 : decode cX0_isInsertion 6 = .ok (.iconst 1, 1) := by decide +kernel
theorem dX0_isInsertion_7 : decode cX0_isInsertion 7 = .ok (.goto 4, 3) := by decide +kernel
theorem dX0_isInsertion_10 : decode cX0_isInsertion 10 = .ok (.iconst 0, 1) := by decide +kernel
theorem dX0_isInsertion_11 : decode cX0_isInsertion 11 = .ok (.ireturn, 1) := by decide +kernel
theorem dX0_place_0 : decode cX0_place 0 = .ok (.iload_n 0, 1) := by decide +kernel
theorem dX0_place_1 : decode cX0_place 1 = .ok (.iconst 3, 1) := by decide +kernel
theorem dX0_place_2 : decode cX0_place 2 = .ok (.ishr, 1) := by decide +kernel
theorem dX0_place_3 : decode cX0_place 3 = .ok (.ireturn, 1) := by decide +kernel
theorem dX0_thread_0 : decode cX0_thread 0 = .ok (.iload_n 0, 1) := by decide +kernel
theorem dX0_thread_1 : decode cX0_thread 1 = .ok (.iconst 3, 1) := by decide +kernel
theorem dX0_thread_2 : decode cX0_thread 2 = .ok (.iand, 1) := by decide +kernel
theorem dX0_thread_3 : decode cX0_thread 3 = .ok (.ireturn, 1) := by decide +kernel
theorem dX0_clear_0 : decode cX0_clear 0 = .ok (.aload_n 0, 1) := by decide +kernel
theorem dX0_clear_1 : decode cX0_clear 1 = .ok (.iconst 0, 1) := by decide +kernel
theorem dX0_clear_2 : decode cX0_clear 2 = .ok (.putfield 15, 3) := by decide +kernel
theorem dX0_clear_5 : decode cX0_clear 5 = .ok (.return_, 1) := by decide +kernel
theorem dX0_size_0 : decode cX0_size 0 = .ok (.aload_n 0, 1) := by decide +kernel
theorem dX0_size_1 : decode cX0_size 1 = .ok (.getfield 15, 3) := by decide +kernel
theorem dX0_size_4 : decode cX0_size 4 = .ok (.ireturn, 1) := by decide +kernel
theorem dX0_add_0 : decode cX0_add 0 = .ok (.aload_n 0, 1) := by decide +kernel
theorem dX0_add_1 : decode cX0_add 1 = .ok (.getfield 15, 3) := by decide +kernel
theorem dX0_add_4 : decode cX0_add 4 = .ok (.bipush 8, 2) := by decide +kernel
theorem dX0_add_6 : decode cX0_add 6 = .ok (.if_icmp .ne 28, 3) := by decide +kernel
theorem dX0_add_9 : decode cX0_add 9 = .ok (.aload_n 0, 1) := by decide +kernel
theorem dX0_add_10 : decode cX0_add 10 = .ok (.getfield 9, 3) := by decide +kernel
theorem dX0_add_13 : decode cX0_add 13 = .ok (.iconst 1, 1) := by decide +kernel
theorem dX0_add_14 : decode cX0_add 14 = .ok (.aload_n 0, 1) := by decide +kernel
theorem dX0_add_15 : decode cX0_add 15 = .ok (.getfield 9, 3) := by decide +kernel
theorem dX0_add_18 : decode cX0_add 18 = .ok (.iconst 0, 1) := by decide +kernel
theorem dX0_add_19 : decode cX0_add 19 = .ok (.bipush 7, 2) := by decide +kernel
theorem dX0_add_21 : decode cX0_add 21 = .ok (.invokestatic 19, 3) := by decide +kernel
theorem dX0_add_24 : decode cX0_add 24 = .ok (.aload_n 0, 1) := by decide +kernel
theorem dX0_add_25 : decode cX0_add 25 = .ok (.dup, 1) := by decide +kernel
theorem dX0_add_26 : decode cX0_add 26 = .ok (.getfield 15, 3) := by decide +kernel
theorem dX0_add_29 : decode cX0_add 29 = .ok (.iconst 1, 1) := by decide +kernel
theorem dX0_add_30 : decode cX0_add 30 = .ok (.isub, 1) := by decide +kernel
theorem dX0_add_31 : decode cX0_add 31 = .ok (.putfield 15, 3) := by decide +kernel
theorem dX0_add_34 : decode cX0_add 34 = .ok (.aload_n 0, 1) := by decide +kernel
theorem dX0_add_35 : decode cX0_add 35 = .ok (.getfield 15, 3) := by decide +kernel
theorem dX0_add_38 : decode cX0_add 38 = .ok (.ifCond .lt 32, 3) := by decide +kernel
theorem dX0_add_41 : decode cX0_add 41 = .ok (.aload_n 0, 1) := by decide +kernel
theorem dX0_add_42 : decode cX0_add 42 = .ok (.getfield 15, 3) := by decide +kernel
theorem dX0_add_45 : decode cX0_add 45 = .ok (.bipush 8, 2) := by decide +kernel
theorem dX0_add_47 : decode cX0_add 47 = .ok (.if_icmp .ge 23, 3) := by decide +kernel
theorem dX0_add_50 : decode cX0_add 50 = .ok (.aload_n 0, 1) := by decide +kernel
theorem dX0_add_51 : decode cX0_add 51 = .ok (.getfield 9, 3) := by decide +kernel
theorem dX0_add_54 : decode cX0_add 54 = .ok (.aload_n 0, 1) := by decide +kernel
theorem dX0_add_55 : decode cX0_add 55 = .ok (.getfield 15, 3) := by decide +kernel
theorem dX0_add_58 : decode cX0_add 58 = .ok (.iload_n 1, 1) := by decide +kernel
theorem dX0_add_59 : decode cX0_add 59 = .ok (.iastore, 1) := by decide +kernel
theorem dX0_add_60 : decode cX0_add 60 = .ok (.aload_n 0, 1) := by decide +kernel
theorem dX0_add_61 : decode cX0_add 61 = .ok (.dup, 1) := by decide +kernel
theorem dX0_add_62 : decode cX0_add 62 = .ok (.getfield 15, 3) := by decide +kernel
theorem dX0_add_65 : decode cX0_add 65 = .ok (.iconst 1, 1) := by decide +kernel
theorem dX0_add_66 : decode cX0_add 66 = .ok (.iadd, 1) := by decide +kernel
theorem dX0_add_67 : decode cX0_add 67 = .ok (.putfield 15, 3) := by decide +kernel
theorem dX0_add_70 : decode cX0_add 70 = .ok (.return_, 1) := by decide +kernel
theorem dX0_takeLatest_0 : decode cX0_takeLatest 0 = .ok (.aload_n 0, 1) := by decide +kernel
theorem dX0_takeLatest_1 : decode cX0_takeLatest 1 = .ok (.getfield 15, 3) := by decide +kernel
theorem dX0_takeLatest_4 : decode cX0_takeLatest 4 = .ok (.ifCond .le 12, 3) := by decide +kernel
theorem dX0_takeLatest_7 : decode cX0_takeLatest 7 = .ok (.aload_n 0, 1) := by decide +kernel
theorem dX0_takeLatest_8 : decode cX0_takeLatest 8 = .ok (.getfield 15, 3) := by decide +kernel
theorem dX0_takeLatest_11 : decode cX0_takeLatest 11 = .ok (.bipush 8, 2) := by decide +kernel
theorem dX0_takeLatest_13 : decode cX0_takeLatest 13 = .ok (.if_icmp .le 5, 3) := by decide +kernel
theorem dX0_takeLatest_16 : decode cX0_takeLatest 16 = .ok (.iconst (-1), 1) := by decide +kernel
theorem dX0_takeLatest_17 : decode cX0_takeLatest 17 = .ok (.ireturn, 1) := by decide +kernel
theorem dX0_takeLatest_18 : decode cX0_takeLatest 18 = .ok (.aload_n 0, 1) := by decide +kernel
theorem dX0_takeLatest_19 : decode cX0_takeLatest 19 = .ok (.dup, 1) := by decide +kernel
theorem dX0_takeLatest_20 : decode cX0_takeLatest 20 = .ok (.getfield 15, 3) := by decide +kernel
theorem dX0_takeLatest_23 : decode cX0_takeLatest 23 = .ok (.iconst 1, 1) := by decide +kernel
theorem dX0_takeLatest_24 : decode cX0_takeLatest 24 = .ok (.isub, 1) := by decide +kernel
theorem dX0_takeLatest_25 : decode cX0_takeLatest 25 = .ok (.putfield 15, 3) := by decide +kernel
theorem dX0_takeLatest_28 : decode cX0_takeLatest 28 = .ok (.aload_n 0, 1) := by decide +kernel
theorem dX0_takeLatest_29 : decode cX0_takeLatest 29 = .ok (.getfield 9, 3) := by decide +kernel
theorem dX0_takeLatest_32 : decode cX0_takeLatest 32 = .ok (.aload_n 0, 1) := by decide +kernel
theorem dX0_takeLatest_33 : decode cX0_takeLatest 33 = .ok (.getfield 15, 3) := by decide +kernel
theorem dX0_takeLatest_36 : decode cX0_takeLatest 36 = .ok (.iaload, 1) := by decide +kernel
theorem dX0_takeLatest_37 : decode cX0_takeLatest 37 = .ok (.ireturn, 1) := by decide +kernel
theorem dX1_init_0 : decode cX1_init 0 = .ok (.aload_n 0, 1) := by decide +kernel
theorem dX1_init_1 : decode cX1_init 1 = .ok (.invokespecial 3, 3) := by decide +kernel
theorem dX1_init_4 : decode cX1_init 4 = .ok (.aload_n 0, 1) := by decide +kernel
theorem dX1_init_5 : decode cX1_init 5 = .ok (.bipush 18, 2) := by decide +kernel
theorem dX1_init_7 : decode cX1_init 7 = .ok (.newarray .int, 2) := by decide +kernel
theorem dX1_init_9 : decode cX1_init 9 = .ok (.putfield 9, 3) := by decide +kernel
theorem dX1_init_12 : decode cX1_init 12 = .ok (.aload_n 0, 1) := by decide +kernel
theorem dX1_init_13 : decode cX1_init 13 = .ok (.bipush 10, 2) := by decide +kernel
theorem dX1_init_15 : decode cX1_init 15 = .ok (.newarray .int, 2) := by decide +kernel
theorem dX1_init_17 : decode cX1_init 17 = .ok (.putfield 15, 3) := by decide +kernel
theorem dX1_init_20 : decode cX1_init 20 = .ok (.aload_n 0, 1) := by decide +kernel
theorem dX1_init_21 : decode cX1_init 21 = .ok (.bipush 8, 2) := by decide +kernel
theorem dX1_init_23 : decode cX1_init 23 = .ok (.newarray .int, 2) := by decide +kernel
theorem dX1_init_25 : decode cX1_init 25 = .ok (.putfield 18, 3) := by decide +kernel
theorem dX1_init_28 : decode cX1_init 28 = .ok (.aload_n 0, 1) := by decide +kernel
theorem dX1_init_29 : decode cX1_init 29 = .ok (.iconst 0, 1) := by decide +kernel
theorem dX1_init_30 : decode cX1_init 30 = .ok (.putfield 21, 3) := by decide +kernel
theorem dX1_init_33 : decode cX1_init 33 = .ok (.aload_n 0, 1) := by decide +kernel
theorem dX1_init_34 : decode cX1_init 34 = .ok (.iconst 0, 1) := by decide +kernel
theorem dX1_init_35 : decode cX1_init 35 = .ok (.putfield 25, 3) := by decide +kernel
theorem dX1_init_38 : decode cX1_init 38 = .ok (.aload_n 0, 1) := by decide +kernel
theorem dX1_init_39 : decode cX1_init 39 = .ok (.iconst 0, 1) := by decide +kernel
theorem dX1_init_40 : decode cX1_init 40 = .ok (.putfield 28, 3) := by decide +kernel
theorem dX1_init_43 : decode cX1_init 43 = .ok (.aload_n 0, 1) := by decide +kernel
theorem dX1_init_44 : decode cX1_init 44 = .ok (.aload_n 1, 1) := by decide +kernel
theorem dX1_init_45 : decode cX1_init 45 = .ok (.putfield 32, 3) := by decide +kernel
theorem dX1_init_48 : decode cX1_init 48 = .ok (.return_, 1) := by decide +kernel
theorem dX1_forget_0 : decode cX1_forget 0 = .ok (.aload_n 0, 1) := by decide +kernel
theorem dX1_forget_1 : decode cX1_forget 1 = .ok (.iconst 0, 1) := by decide +kernel
theorem dX1_forget_2 : decode cX1_forget 2 = .ok (.putfield 28, 3) := by decide +kernel
theorem dX1_forget_5 : decode cX1_forget 5 = .ok (.aload_n 0, 1) := by decide +kernel
theorem dX1_forget_6 : decode cX1_forget 6 = .ok (.iconst 0, 1) := by decide +kernel
theorem dX1_forget_7 : decode cX1_forget 7 = .ok (.putfield 21, 3) := by decide +kernel
theorem dX1_forget_10 : decode cX1_forget 10 = .ok (.aload_n 0, 1) := by decide +kernel
theorem dX1_forget_11 : decode cX1_forget 11 = .ok (.iconst 0, 1) := by decide +kernel
theorem dX1_forget_12 : decode cX1_forget 12 = .ok (.putfield 25, 3) := by decide +kernel
theorem dX1_forget_15 : decode cX1_forget 15 = .ok (.return_, 1) := by decide +kernel
theorem dX1_begin_0 : decode cX1_begin 0 = .ok (.aload_n 0, 1) := by decide +kernel
theorem dX1_begin_1 : decode cX1_begin 1 = .ok (.invokevirtual 36, 3) := by decide +kernel
theorem dX1_begin_4 : decode cX1_begin 4 = .ok (.aload_n 0, 1) := by decide +kernel
theorem dX1_begin_5 : decode cX1_begin 5 = .ok (.iconst 1, 1) := by decide +kernel
theorem dX1_begin_6 : decode cX1_begin 6 = .ok (.putfield 28, 3) := by decide +kernel
theorem dX1_begin_9 : decode cX1_begin 9 = .ok (.return_, 1) := by decide +kernel
theorem dX1_isPresent_0 : decode cX1_isPresent 0 = .ok (.aload_n 0, 1) := by decide +kernel
theorem dX1_isPresent_1 : decode cX1_isPresent 1 = .ok (.getfield 28, 3) := by decide +kernel
theorem dX1_isPresent_4 : decode cX1_isPresent 4 = .ok (.ireturn, 1) := by decide +kernel
theorem dX1_size_0 : decode cX1_size 0 = .ok (.aload_n 0, 1) := by decide +kernel
theorem dX1_size_1 : decode cX1_size 1 = .ok (.getfield 21, 3) := by decide +kernel
theorem dX1_size_4 : decode cX1_size 4 = .ok (.ireturn, 1) := by decide +kernel
theorem dX1_addStep_0 : decode cX1_addStep 0 = .ok (.aload_n 0, 1) := by decide +kernel
theorem dX1_addStep_1 : decode cX1_addStep 1 = .ok (.getfield 21, 3) := by decide +kernel
theorem dX1_addStep_4 : decode cX1_addStep 4 = .ok (.bipush 18, 2) := by decide +kernel
theorem dX1_addStep_6 : decode cX1_addStep 6 = .ok (.if_icmp .ge 30, 3) := by decide +kernel
theorem dX1_addStep_9 : decode cX1_addStep 9 = .ok (.aload_n 0, 1) := by decide +kernel
theorem dX1_addStep_10 : decode cX1_addStep 10 = .ok (.getfield 9, 3) := by decide +kernel
theorem dX1_addStep_13 : decode cX1_addStep 13 = .ok (.aload_n 0, 1) := by decide +kernel
theorem dX1_addStep_14 : decode cX1_addStep 14 = .ok (.getfield 21, 3) := by decide +kernel
theorem dX1_addStep_17 : decode cX1_addStep 17 = .ok (.bipush 10, 2) := by decide +kernel
theorem dX1_addStep_19 : decode cX1_addStep 19 = .ok (.iload 4, 2) := by decide +kernel
theorem dX1_addStep_21 : decode cX1_addStep 21 = .ok (.imul, 1) := by decide +kernel
theorem dX1_addStep_22 : decode cX1_addStep 22 = .ok (.iload 5, 2) := by decide +kernel
theorem dX1_addStep_24 : decode cX1_addStep 24 = .ok (.iadd, 1) := by decide +kernel
theorem dX1_addStep_25 : decode cX1_addStep 25 = .ok (.iastore, 1) := by decide +kernel
theorem dX1_addStep_26 : decode cX1_addStep 26 = .ok (.aload_n 0, 1) := by decide +kernel
theorem dX1_addStep_27 : decode cX1_addStep 27 = .ok (.dup, 1) := by decide +kernel
theorem dX1_addStep_28 : decode cX1_addStep 28 = .ok (.getfield 21, 3) := by decide +kernel
theorem dX1_addStep_31 : decode cX1_addStep 31 = .ok (.iconst 1, 1) := by decide +kernel
theorem dX1_addStep_32 : decode cX1_addStep 32 = .ok (.iadd, 1) := by decide +kernel
theorem dX1_addStep_33 : decode cX1_addStep 33 = .ok (.putfield 21, 3) := by decide +kernel
theorem dX1_addStep_36 : decode cX1_addStep 36 = .ok (.iload 5, 2) := by decide +kernel
theorem dX1_addStep_38 : decode cX1_addStep 38 = .ok (.ifCond .eq 19, 3) := by decide +kernel
theorem dX1_addStep_41 : decode cX1_addStep 41 = .ok (.aload_n 0, 1) := by decide +kernel
theorem dX1_addStep_42 : decode cX1_addStep 42 = .ok (.aload_n 1, 1) := by decide +kernel
theorem dX1_addStep_43 : decode cX1_addStep 43 = .ok (.lload_n 2, 1) := by decide +kernel
theorem dX1_addStep_44 : decode cX1_addStep 44 = .ok (.iload 4, 2) := by decide +kernel
theorem dX1_addStep_46 : decode cX1_addStep 46 = .ok (.iload 5, 2) := by decide +kernel
theorem dX1_addStep_48 : decode cX1_addStep 48 = .ok (.iconst 1, 1) := by decide +kernel
theorem dX1_addStep_49 : decode cX1_addStep 49 = .ok (.isub, 1) := by decide +kernel
theorem dX1_addStep_50 : decode cX1_addStep 50 = .ok (.invokevirtual 39, 3) := by decide +kernel
theorem dX1_addStep_53 : decode cX1_addStep 53 = .ok (.invokevirtual 45, 3) := by decide +kernel
theorem dX1_addStep_56 : decode cX1_addStep 56 = .ok (.return_, 1) := by decide +kernel
theorem dX1_addStep_57 : decode cX1_addStep 57 = .ok (.aload_n 1, 1) := by decide +kernel
theorem dX1_addStep_58 : decode cX1_addStep 58 = .ok (.lload_n 2, 1) := by decide +kernel
theorem dX1_addStep_59 : decode cX1_addStep 59 = .ok (.iload 4, 2) := by decide +kernel
theorem dX1_addStep_61 : decode cX1_addStep 61 = .ok (.invokevirtual 49, 3) := by decide +kernel
theorem dX1_addStep_64 : decode cX1_addStep 64 = .ok (.istore 6, 2) := by decide +kernel
theorem dX1_addStep_66 : decode cX1_addStep 66 = .ok (.aload_n 0, 1) := by decide +kernel
theorem dX1_addStep_67 : decode cX1_addStep 67 = .ok (.getfield 32, 3) := by decide +kernel
theorem dX1_addStep_70 : decode cX1_addStep 70 = .ok (.iload 6, 2) := by decide +kernel
theorem dX1_addStep_72 : decode cX1_addStep 72 = .ok (.iconst 1, 1) := by decide +kernel
theorem dX1_addStep_73 : decode cX1_addStep 73 = .ok (.invokevirtual 53, 3) := by decide +kernel
theorem dX1_addStep_76 : decode cX1_addStep 76 = .ok (.istore 7, 2) := by decide +kernel
theorem dX1_addStep_78 : decode cX1_addStep 78 = .ok (.aload_n 0, 1) := by decide +kernel
theorem dX1_addStep_79 : decode cX1_addStep 79 = .ok (.getfield 32, 3) := by decide +kernel
theorem dX1_addStep_82 : decode cX1_addStep 82 = .ok (.iload 6, 2) := by decide +kernel
theorem dX1_addStep_84 : decode cX1_addStep 84 = .ok (.iconst 2, 1) := by decide +kernel
theorem dX1_addStep_85 : decode cX1_addStep 85 = .ok (.invokevirtual 53, 3) := by decide +kernel
theorem dX1_addStep_88 : decode cX1_addStep 88 = .ok (.istore 8, 2) := by decide +kernel
theorem dX1_addStep_90 : decode cX1_addStep 90 = .ok (.iload 7, 2) := by decide +kernel
theorem dX1_addStep_92 : decode cX1_addStep 92 = .ok (.iconst 1, 1) := by decide +kernel
theorem dX1_addStep_93 : decode cX1_addStep 93 = .ok (.if_icmp .eq 9, 3) := by decide +kernel
theorem dX1_addStep_96 : decode cX1_addStep 96 = .ok (.iload 7, 2) := by decide +kernel
theorem dX1_addStep_98 : decode cX1_addStep 98 = .ok (.iconst 2, 1) := by decide +kernel
theorem dX1_addStep_99 : decode cX1_addStep 99 = .ok (.if_icmp .ne 50, 3) := by decide +kernel
theorem dX1_addStep_102 : decode cX1_addStep 102 = .ok (.iload 6, 2) := by decide +kernel
theorem dX1_addStep_104 : decode cX1_addStep 104 = .ok (.ifCond .lt 45, 3) := by decide +kernel
theorem dX1_addStep_107 : decode cX1_addStep 107 = .ok (.iload 6, 2) := by decide +kernel
theorem dX1_addStep_109 : decode cX1_addStep 109 = .ok (.bipush 10, 2) := by decide +kernel
theorem dX1_addStep_111 : decode cX1_addStep 111 = .ok (.if_icmp .ge 38, 3) := by decide +kernel
theorem dX1_addStep_114 : decode cX1_addStep 114 = .ok (.aload_n 1, 1) := by decide +kernel
theorem dX1_addStep_115 : decode cX1_addStep 115 = .ok (.lload_n 2, 1) := by decide +kernel
theorem dX1_addStep_116 : decode cX1_addStep 116 = .ok (.iload 4, 2) := by decide +kernel
theorem dX1_addStep_118 : decode cX1_addStep 118 = .ok (.iload 8, 2) := by decide +kernel
theorem dX1_addStep_120 : decode cX1_addStep 120 = .ok (.invokevirtual 59, 3) := by decide +kernel
theorem dX1_addStep_123 : decode cX1_addStep 123 = .ok (.istore 9, 2) := by decide +kernel
theorem dX1_addStep_125 : decode cX1_addStep 125 = .ok (.aload_n 0, 1) := by decide +kernel
theorem dX1_addStep_126 : decode cX1_addStep 126 = .ok (.getfield 15, 3) := by decide +kernel
theorem dX1_addStep_129 : decode cX1_addStep 129 = .ok (.iload 6, 2) := by decide +kernel
theorem dX1_addStep_131 : decode cX1_addStep 131 = .ok (.iload 9, 2) := by decide +kernel
theorem dX1_addStep_133 : decode cX1_addStep 133 = .ok (.iconst (-1), 1) := by decide +kernel
theorem dX1_addStep_134 : decode cX1_addStep 134 = .ok (.if_icmp .ne 12, 3) := by decide +kernel
theorem dX1_addStep_137 : decode cX1_addStep 137 = .ok (.aload_n 0, 1) := by decide +kernel
theorem dX1_addStep_138 : decode cX1_addStep 138 = .ok (.iload 8, 2) := by decide +kernel
theorem dX1_addStep_140 : decode cX1_addStep 140 = .ok (.invokevirtual 62, 3) := by decide +kernel
theorem dX1_addStep_143 : decode cX1_addStep 143 = .ok (.goto 5, 3) := by decide +kernel
theorem dX1_addStep_146 : decode cX1_addStep 146 = .ok (.iload 9, 2) := by decide +kernel
theorem dX1_addStep_148 : decode cX1_addStep 148 = .ok (.iastore, 1) := by decide +kernel
theorem dX1_addStep_149 : decode cX1_addStep 149 = .ok (.iload 7, 2) := by decide +kernel
theorem dX1_addStep_151 : decode cX1_addStep 151 = .ok (.iconst 2, 1) := by decide +kernel
theorem dX1_addStep_152 : decode cX1_addStep 152 = .ok (.if_icmp .eq 15, 3) := by decide +kernel
theorem dX1_addStep_155 : decode cX1_addStep 155 = .ok (.iload 7, 2) := by decide +kernel
theorem dX1_addStep_157 : decode cX1_addStep 157 = .ok (.ifCond .ne 16, 3) := by decide +kernel
theorem dX1_addStep_160 : decode cX1_addStep 160 = .ok (.aload_n 1, 1) := by decide +kernel
theorem dX1_addStep_161 : decode cX1_addStep 161 = .ok (.invokevirtual 66, 3) := by decide +kernel
theorem dX1_addStep_164 : decode cX1_addStep 164 = .ok (.ifCond .eq 9, 3) := by decide +kernel
theorem dX1_addStep_167 : decode cX1_addStep 167 = .ok (.aload_n 0, 1) := by decide +kernel
theorem dX1_addStep_168 : decode cX1_addStep 168 = .ok (.iload 6, 2) := by decide +kernel
theorem dX1_addStep_170 : decode cX1_addStep 170 = .ok (.invokevirtual 45, 3) := by decide +kernel
theorem dX1_addStep_173 : decode cX1_addStep 173 = .ok (.return_, 1) := by decide +kernel
theorem dX1_addWriter_0 : decode cX1_addWriter 0 = .ok (.aload_n 0, 1) := by decide +kernel
theorem dX1_addWriter_1 : decode cX1_addWriter 1 = .ok (.getfield 25, 3) := by decide +kernel
theorem dX1_addWriter_4 : decode cX1_addWriter 4 = .ok (.bipush 8, 2) := by decide +kernel
theorem dX1_addWriter_6 : decode cX1_addWriter 6 = .ok (.if_icmp .ge 23, 3) := by decide +kernel
theorem dX1_addWriter_9 : decode cX1_addWriter 9 = .ok (.aload_n 0, 1) := by decide +kernel
theorem dX1_addWriter_10 : decode cX1_addWriter 10 = .ok (.getfield 18, 3) := by decide +kernel
theorem dX1_addWriter_13 : decode cX1_addWriter 13 = .ok (.aload_n 0, 1) := by decide +kernel
theorem dX1_addWriter_14 : decode cX1_addWriter 14 = .ok (.getfield 25, 3) := by decide +kernel
theorem dX1_addWriter_17 : decode cX1_addWriter 17 = .ok (.iload_n 1, 1) := by decide +kernel
theorem dX1_addWriter_18 : decode cX1_addWriter 18 = .ok (.iastore, 1) := by decide +kernel
theorem dX1_addWriter_19 : decode cX1_addWriter 19 = .ok (.aload_n 0, 1) := by decide +kernel
theorem dX1_addWriter_20 : decode cX1_addWriter 20 = .ok (.dup, 1) := by decide +kernel
theorem dX1_addWriter_21 : decode cX1_addWriter 21 = .ok (.getfield 25, 3) := by decide +kernel
theorem dX1_addWriter_24 : decode cX1_addWriter 24 = .ok (.iconst 1, 1) := by decide +kernel
theorem dX1_addWriter_25 : decode cX1_addWriter 25 = .ok (.iadd, 1) := by decide +kernel
theorem dX1_addWriter_26 : decode cX1_addWriter 26 = .ok (.putfield 25, 3) := by decide +kernel
theorem dX1_addWriter_29 : decode cX1_addWriter 29 = .ok (.return_, 1) := by decide +kernel
theorem dX1_latestWriter_0 : decode cX1_latestWriter 0 = .ok (.iconst (-1), 1) := by decide +kernel
theorem dX1_latestWriter_1 : decode cX1_latestWriter 1 = .ok (.istore_n 2, 1) := by decide +kernel
theorem dX1_latestWriter_2 : decode cX1_latestWriter 2 = .ok (.iconst 0, 1) := by decide +kernel
theorem dX1_latestWriter_3 : decode cX1_latestWriter 3 = .ok (.istore_n 3, 1) := by decide +kernel
theorem dX1_latestWriter_4 : decode cX1_latestWriter 4 = .ok (.iload_n 3, 1) := by decide +kernel
theorem dX1_latestWriter_5 : decode cX1_latestWriter 5 = .ok (.aload_n 0, 1) := by decide +kernel
theorem dX1_latestWriter_6 : decode cX1_latestWriter 6 = .ok (.getfield 25, 3) := by decide +kernel
theorem dX1_latestWriter_9 : decode cX1_latestWriter 9 = .ok (.if_icmp .ge 40, 3) := by decide +kernel
theorem dX1_latestWriter_12 : decode cX1_latestWriter 12 = .ok (.iload_n 3, 1) := by decide +kernel
theorem dX1_latestWriter_13 : decode cX1_latestWriter 13 = .ok (.bipush 8, 2) := by decide +kernel
theorem dX1_latestWriter_15 : decode cX1_latestWriter 15 = .ok (.if_icmp .ge 34, 3) := by decide +kernel
theorem dX1_latestWriter_18 : decode cX1_latestWriter 18 = .ok (.aload_n 0, 1) := by decide +kernel
theorem dX1_latestWriter_19 : decode cX1_latestWriter 19 = .ok (.getfield 32, 3) := by decide +kernel
theorem dX1_latestWriter_22 : decode cX1_latestWriter 22 = .ok (.aload_n 0, 1) := by decide +kernel
theorem dX1_latestWriter_23 : decode cX1_latestWriter 23 = .ok (.getfield 18, 3) := by decide +kernel
theorem dX1_latestWriter_26 : decode cX1_latestWriter 26 = .ok (.iload_n 3, 1) := by decide +kernel
theorem dX1_latestWriter_27 : decode cX1_latestWriter 27 = .ok (.iaload, 1) := by decide +kernel
theorem dX1_latestWriter_28 : decode cX1_latestWriter 28 = .ok (.iconst 2, 1) := by decide +kernel
theorem dX1_latestWriter_29 : decode cX1_latestWriter 29 = .ok (.invokevirtual 53, 3) := by decide +kernel
theorem dX1_latestWriter_32 : decode cX1_latestWriter 32 = .ok (.iload_n 1, 1) := by decide +kernel
theorem dX1_latestWriter_33 : decode cX1_latestWriter 33 = .ok (.if_icmp .ne 10, 3) := by decide +kernel
theorem dX1_latestWriter_36 : decode cX1_latestWriter 36 = .ok (.aload_n 0, 1) := by decide +kernel
theorem dX1_latestWriter_37 : decode cX1_latestWriter 37 = .ok (.getfield 18, 3) := by decide +kernel
theorem dX1_latestWriter_40 : decode cX1_latestWriter 40 = .ok (.iload_n 3, 1) := by decide +kernel
theorem dX1_latestWriter_41 : decode cX1_latestWriter 41 = .ok (.iaload, 1) := by decide +kernel
theorem dX1_latestWriter_42 : decode cX1_latestWriter 42 = .ok (.istore_n 2, 1) := by decide +kernel
theorem dX1_latestWriter_43 : decode cX1_latestWriter 43 = .ok (.iinc 3 1, 3) := by decide +kernel
theorem dX1_latestWriter_46 : decode cX1_latestWriter 46 = .ok (.goto (-42), 3) := by decide +kernel
theorem dX1_latestWriter_49 : decode cX1_latestWriter 49 = .ok (.iload_n 2, 1) := by decide +kernel
theorem dX1_latestWriter_50 : decode cX1_latestWriter 50 = .ok (.ireturn, 1) := by decide +kernel
theorem dX1_stepAt_0 : decode cX1_stepAt 0 = .ok (.iload_n 1, 1) := by decide +kernel
theorem dX1_stepAt_1 : decode cX1_stepAt 1 = .ok (.ifCond .lt 26, 3) := by decide +kernel
theorem dX1_stepAt_4 : decode cX1_stepAt 4 = .ok (.iload_n 1, 1) := by decide +kernel
theorem dX1_stepAt_5 : decode cX1_stepAt 5 = .ok (.aload_n 0, 1) := by decide +kernel
theorem dX1_stepAt_6 : decode cX1_stepAt 6 = .ok (.getfield 21, 3) := by decide +kernel
theorem dX1_stepAt_9 : decode cX1_stepAt 9 = .ok (.if_icmp .ge 18, 3) := by decide +kernel
theorem dX1_stepAt_12 : decode cX1_stepAt 12 = .ok (.iload_n 1, 1) := by decide +kernel
theorem dX1_stepAt_13 : decode cX1_stepAt 13 = .ok (.bipush 18, 2) := by decide +kernel
theorem dX1_stepAt_15 : decode cX1_stepAt 15 = .ok (.if_icmp .ge 12, 3) := by decide +kernel
theorem dX1_stepAt_18 : decode cX1_stepAt 18 = .ok (.aload_n 0, 1) := by decide +kernel
theorem dX1_stepAt_19 : decode cX1_stepAt 19 = .ok (.getfield 9, 3) := by decide +kernel
theorem dX1_stepAt_22 : decode cX1_stepAt 22 = .ok (.iload_n 1, 1) := by decide +kernel
theorem dX1_stepAt_23 : decode cX1_stepAt 23 = .ok (.iaload, 1) := by decide +kernel
theorem dX1_stepAt_24 : decode cX1_stepAt 24 = .ok (.goto 4, 3) := by decide +kernel
theorem dX1_stepAt_27 : decode cX1_stepAt 27 = .ok (.iconst (-1), 1) := by decide +kernel
theorem dX1_stepAt_28 : decode cX1_stepAt 28 = .ok (.ireturn, 1) := by decide +kernel
theorem dX1_originOf_0 : decode cX1_originOf 0 = .ok (.iload_n 1, 1) := by decide +kernel
theorem dX1_originOf_1 : decode cX1_originOf 1 = .ok (.ifCond .lt 18, 3) := by decide +kernel
theorem dX1_originOf_4 : decode cX1_originOf 4 = .ok (.iload_n 1, 1) := by decide +kernel
theorem dX1_originOf_5 : decode cX1_originOf 5 = .ok (.bipush 10, 2) := by decide +kernel
theorem dX1_originOf_7 : decode cX1_originOf 7 = .ok (.if_icmp .ge 12, 3) := by decide +kernel
theorem dX1_originOf_10 : decode cX1_originOf 10 = .ok (.aload_n 0, 1) := by decide +kernel
theorem dX1_originOf_11 : decode cX1_originOf 11 = .ok (.getfield 15, 3) := by decide +kernel
theorem dX1_originOf_14 : decode cX1_originOf 14 = .ok (.iload_n 1, 1) := by decide +kernel
theorem dX1_originOf_15 : decode cX1_originOf 15 = .ok (.iaload, 1) := by decide +kernel
theorem dX1_originOf_16 : decode cX1_originOf 16 = .ok (.goto 4, 3) := by decide +kernel
theorem dX1_originOf_19 : decode cX1_originOf 19 = .ok (.iconst (-1), 1) := by decide +kernel
theorem dX1_originOf_20 : decode cX1_originOf 20 = .ok (.ireturn, 1) := by decide +kernel
theorem dX1_writerAt_0 : decode cX1_writerAt 0 = .ok (.iconst 0, 1) := by decide +kernel
theorem dX1_writerAt_1 : decode cX1_writerAt 1 = .ok (.istore_n 3, 1) := by decide +kernel
theorem dX1_writerAt_2 : decode cX1_writerAt 2 = .ok (.iconst 0, 1) := by decide +kernel
theorem dX1_writerAt_3 : decode cX1_writerAt 3 = .ok (.istore 4, 2) := by decide +kernel
theorem dX1_writerAt_5 : decode cX1_writerAt 5 = .ok (.iload 4, 2) := by decide +kernel
theorem dX1_writerAt_7 : decode cX1_writerAt 7 = .ok (.aload_n 0, 1) := by decide +kernel
theorem dX1_writerAt_8 : decode cX1_writerAt 8 = .ok (.getfield 25, 3) := by decide +kernel
theorem dX1_writerAt_11 : decode cX1_writerAt 11 = .ok (.if_icmp .ge 51, 3) := by decide +kernel
theorem dX1_writerAt_14 : decode cX1_writerAt 14 = .ok (.iload 4, 2) := by decide +kernel
theorem dX1_writerAt_16 : decode cX1_writerAt 16 = .ok (.bipush 8, 2) := by decide +kernel
theorem dX1_writerAt_18 : decode cX1_writerAt 18 = .ok (.if_icmp .ge 44, 3) := by decide +kernel
theorem dX1_writerAt_21 : decode cX1_writerAt 21 = .ok (.aload_n 0, 1) := by decide +kernel
theorem dX1_writerAt_22 : decode cX1_writerAt 22 = .ok (.getfield 32, 3) := by decide +kernel
theorem dX1_writerAt_25 : decode cX1_writerAt 25 = .ok (.aload_n 0, 1) := by decide +kernel
theorem dX1_writerAt_26 : decode cX1_writerAt 26 = .ok (.getfield 18, 3) := by decide +kernel
theorem dX1_writerAt_29 : decode cX1_writerAt 29 = .ok (.iload 4, 2) := by decide +kernel
theorem dX1_writerAt_31 : decode cX1_writerAt 31 = .ok (.iaload, 1) := by decide +kernel
theorem dX1_writerAt_32 : decode cX1_writerAt 32 = .ok (.iconst 2, 1) := by decide +kernel
theorem dX1_writerAt_33 : decode cX1_writerAt 33 = .ok (.invokevirtual 53, 3) := by decide +kernel
theorem dX1_writerAt_36 : decode cX1_writerAt 36 = .ok (.iload_n 1, 1) := by decide +kernel
theorem dX1_writerAt_37 : decode cX1_writerAt 37 = .ok (.if_icmp .ne 19, 3) := by decide +kernel
theorem dX1_writerAt_40 : decode cX1_writerAt 40 = .ok (.iload_n 3, 1) := by decide +kernel
theorem dX1_writerAt_41 : decode cX1_writerAt 41 = .ok (.iload_n 2, 1) := by decide +kernel
theorem dX1_writerAt_42 : decode cX1_writerAt 42 = .ok (.if_icmp .ne 11, 3) := by decide +kernel
theorem dX1_writerAt_45 : decode cX1_writerAt 45 = .ok (.aload_n 0, 1) := by decide +kernel
theorem dX1_writerAt_46 : decode cX1_writerAt 46 = .ok (.getfield 18, 3) := by decide +kernel
theorem dX1_writerAt_49 : decode cX1_writerAt 49 = .ok (.iload 4, 2) := by decide +kernel
theorem dX1_writerAt_51 : decode cX1_writerAt 51 = .ok (.iaload, 1) := by decide +kernel
theorem dX1_writerAt_52 : decode cX1_writerAt 52 = .ok (.ireturn, 1) := by decide +kernel
theorem dX1_writerAt_53 : decode cX1_writerAt 53 = .ok (.iinc 3 1, 3) := by decide +kernel
theorem dX1_writerAt_56 : decode cX1_writerAt 56 = .ok (.iinc 4 1, 3) := by decide +kernel
theorem dX1_writerAt_59 : decode cX1_writerAt 59 = .ok (.goto (-54), 3) := by decide +kernel
theorem dX1_writerAt_62 : decode cX1_writerAt 62 = .ok (.iconst (-1), 1) := by decide +kernel
theorem dX1_writerAt_63 : decode cX1_writerAt 63 = .ok (.ireturn, 1) := by decide +kernel
theorem dX2_init_0 : decode cX2_init 0 = .ok (.aload_n 0, 1) := by decide +kernel
theorem dX2_init_1 : decode cX2_init 1 = .ok (.invokespecial 3, 3) := by decide +kernel
theorem dX2_init_4 : decode cX2_init 4 = .ok (.aload_n 0, 1) := by decide +kernel
theorem dX2_init_5 : decode cX2_init 5 = .ok (.new 9, 3) := by decide +kernel
theorem dX2_init_8 : decode cX2_init 8 = .ok (.dup, 1) := by decide +kernel
theorem dX2_init_9 : decode cX2_init 9 = .ok (.invokespecial 11, 3) := by decide +kernel
theorem dX2_init_12 : decode cX2_init 12 = .ok (.putfield 12, 3) := by decide +kernel
theorem dX2_init_15 : decode cX2_init 15 = .ok (.aload_n 0, 1) := by decide +kernel
theorem dX2_init_16 : decode cX2_init 16 = .ok (.bipush 18, 2) := by decide +kernel
theorem dX2_init_18 : decode cX2_init 18 = .ok (.newarray .int, 2) := by decide +kernel
theorem dX2_init_20 : decode cX2_init 20 = .ok (.putfield 18, 3) := by decide +kernel
theorem dX2_init_23 : decode cX2_init 23 = .ok (.aload_n 0, 1) := by decide +kernel
theorem dX2_init_24 : decode cX2_init 24 = .ok (.aload_n 1, 1) := by decide +kernel
theorem dX2_init_25 : decode cX2_init 25 = .ok (.putfield 22, 3) := by decide +kernel
theorem dX2_init_28 : decode cX2_init 28 = .ok (.aload_n 0, 1) := by decide +kernel
theorem dX2_init_29 : decode cX2_init 29 = .ok (.new 26, 3) := by decide +kernel
theorem dX2_init_32 : decode cX2_init 32 = .ok (.dup, 1) := by decide +kernel
theorem dX2_init_33 : decode cX2_init 33 = .ok (.aload_n 1, 1) := by decide +kernel
theorem dX2_init_34 : decode cX2_init 34 = .ok (.invokespecial 28, 3) := by decide +kernel
theorem dX2_init_37 : decode cX2_init 37 = .ok (.putfield 31, 3) := by decide +kernel
theorem dX2_init_40 : decode cX2_init 40 = .ok (.return_, 1) := by decide +kernel
theorem dX2_explore_0 : decode cX2_explore 0 = .ok (.aload_n 0, 1) := by decide +kernel
theorem dX2_explore_1 : decode cX2_explore 1 = .ok (.getfield 31, 3) := by decide +kernel
theorem dX2_explore_4 : decode cX2_explore 4 = .ok (.iload_n 1, 1) := by decide +kernel
theorem dX2_explore_5 : decode cX2_explore 5 = .ok (.iload_n 2, 1) := by decide +kernel
theorem dX2_explore_6 : decode cX2_explore 6 = .ok (.invokevirtual 35, 3) := by decide +kernel
theorem dX2_explore_9 : decode cX2_explore 9 = .ok (.aload_n 0, 1) := by decide +kernel
theorem dX2_explore_10 : decode cX2_explore 10 = .ok (.getfield 12, 3) := by decide +kernel
theorem dX2_explore_13 : decode cX2_explore 13 = .ok (.invokevirtual 39, 3) := by decide +kernel
theorem dX2_explore_16 : decode cX2_explore 16 = .ok (.aload_n 0, 1) := by decide +kernel
theorem dX2_explore_17 : decode cX2_explore 17 = .ok (.getfield 12, 3) := by decide +kernel
theorem dX2_explore_20 : decode cX2_explore 20 = .ok (.aload_n 0, 1) := by decide +kernel
theorem dX2_explore_21 : decode cX2_explore 21 = .ok (.getfield 31, 3) := by decide +kernel
theorem dX2_explore_24 : decode cX2_explore 24 = .ok (.invokevirtual 42, 3) := by decide +kernel
theorem dX2_explore_27 : decode cX2_explore 27 = .ok (.lconst 1, 1) := by decide +kernel
theorem dX2_explore_28 : decode cX2_explore 28 = .ok (.invokevirtual 46, 3) := by decide +kernel
theorem dX2_explore_31 : decode cX2_explore 31 = .ok (.iconst 0, 1) := by decide +kernel
theorem dX2_explore_32 : decode cX2_explore 32 = .ok (.istore_n 3, 1) := by decide +kernel
theorem dX2_explore_33 : decode cX2_explore 33 = .ok (.iload_n 3, 1) := by decide +kernel
theorem dX2_explore_34 : decode cX2_explore 34 = .ok (.ldc 50, 2) := by decide +kernel
theorem dX2_explore_36 : decode cX2_explore 36 = .ok (.if_icmp .ge 125, 3) := by decide +kernel
theorem dX2_explore_39 : decode cX2_explore 39 = .ok (.iload_n 3, 1) := by decide +kernel
theorem dX2_explore_40 : decode cX2_explore 40 = .ok (.aload_n 0, 1) := by decide +kernel
theorem dX2_explore_41 : decode cX2_explore 41 = .ok (.getfield 12, 3) := by decide +kernel
theorem dX2_explore_44 : decode cX2_explore 44 = .ok (.invokevirtual 51, 3) := by decide +kernel
theorem dX2_explore_47 : decode cX2_explore 47 = .ok (.if_icmp .ge 114, 3) := by decide +kernel
theorem dX2_explore_50 : decode cX2_explore 50 = .ok (.aload_n 0, 1) := by decide +kernel
theorem dX2_explore_51 : decode cX2_explore 51 = .ok (.getfield 12, 3) := by decide +kernel
theorem dX2_explore_54 : decode cX2_explore 54 = .ok (.iload_n 3, 1) := by decide +kernel
theorem dX2_explore_55 : decode cX2_explore 55 = .ok (.invokevirtual 55, 3) := by decide +kernel
theorem dX2_explore_58 : decode cX2_explore 58 = .ok (.lstore 4, 2) := by decide +kernel
theorem dX2_explore_60 : decode cX2_explore 60 = .ok (.aload_n 0, 1) := by decide +kernel
theorem dX2_explore_61 : decode cX2_explore 61 = .ok (.getfield 12, 3) := by decide +kernel
theorem dX2_explore_64 : decode cX2_explore 64 = .ok (.iload_n 3, 1) := by decide +kernel
theorem dX2_explore_65 : decode cX2_explore 65 = .ok (.invokevirtual 59, 3) := by decide +kernel
theorem dX2_explore_68 : decode cX2_explore 68 = .ok (.lstore 6, 2) := by decide +kernel
theorem dX2_explore_70 : decode cX2_explore 70 = .ok (.iconst 0, 1) := by decide +kernel
theorem dX2_explore_71 : decode cX2_explore 71 = .ok (.istore 8, 2) := by decide +kernel
theorem dX2_explore_73 : decode cX2_explore 73 = .ok (.iload 8, 2) := by decide +kernel
theorem dX2_explore_75 : decode cX2_explore 75 = .ok (.aload_n 0, 1) := by decide +kernel
theorem dX2_explore_76 : decode cX2_explore 76 = .ok (.getfield 31, 3) := by decide +kernel
theorem dX2_explore_79 : decode cX2_explore 79 = .ok (.invokevirtual 62, 3) := by decide +kernel
theorem dX2_explore_82 : decode cX2_explore 82 = .ok (.if_icmp .ge 73, 3) := by decide +kernel
theorem dX2_explore_85 : decode cX2_explore 85 = .ok (.aload_n 0, 1) := by decide +kernel
theorem dX2_explore_86 : decode cX2_explore 86 = .ok (.getfield 31, 3) := by decide +kernel
theorem dX2_explore_89 : decode cX2_explore 89 = .ok (.lload 4, 2) := by decide +kernel
theorem dX2_explore_91 : decode cX2_explore 91 = .ok (.iload 8, 2) := by decide +kernel
theorem dX2_explore_93 : decode cX2_explore 93 = .ok (.invokevirtual 65, 3) := by decide +kernel
theorem dX2_explore_96 : decode cX2_explore 96 = .ok (.istore 9, 2) := by decide +kernel
theorem dX2_explore_98 : decode cX2_explore 98 = .ok (.iconst 0, 1) := by decide +kernel
theorem dX2_explore_99 : decode cX2_explore 99 = .ok (.istore 10, 2) := by decide +kernel
theorem dX2_explore_101 : decode cX2_explore 101 = .ok (.iload 10, 2) := by decide +kernel
theorem dX2_explore_103 : decode cX2_explore 103 = .ok (.iload 9, 2) := by decide +kernel
theorem dX2_explore_105 : decode cX2_explore 105 = .ok (.if_icmp .ge 44, 3) := by decide +kernel
theorem dX2_explore_108 : decode cX2_explore 108 = .ok (.aload_n 0, 1) := by decide +kernel
theorem dX2_explore_109 : decode cX2_explore 109 = .ok (.getfield 31, 3) := by decide +kernel
theorem dX2_explore_112 : decode cX2_explore 112 = .ok (.lload 4, 2) := by decide +kernel
theorem dX2_explore_114 : decode cX2_explore 114 = .ok (.iload 8, 2) := by decide +kernel
theorem dX2_explore_116 : decode cX2_explore 116 = .ok (.iload 10, 2) := by decide +kernel
theorem dX2_explore_118 : decode cX2_explore 118 = .ok (.invokevirtual 69, 3) := by decide +kernel
theorem dX2_explore_121 : decode cX2_explore 121 = .ok (.lstore 11, 2) := by decide +kernel
theorem dX2_explore_123 : decode cX2_explore 123 = .ok (.lload 11, 2) := by decide +kernel
theorem dX2_explore_125 : decode cX2_explore 125 = .ok (.ldc2_w 73, 3) := by decide +kernel
theorem dX2_explore_128 : decode cX2_explore 128 = .ok (.lcmp, 1) := by decide +kernel
theorem dX2_explore_129 : decode cX2_explore 129 = .ok (.ifCond .eq 14, 3) := by decide +kernel
theorem dX2_explore_132 : decode cX2_explore 132 = .ok (.aload_n 0, 1) := by decide +kernel
theorem dX2_explore_133 : decode cX2_explore 133 = .ok (.getfield 12, 3) := by decide +kernel
theorem dX2_explore_136 : decode cX2_explore 136 = .ok (.lload 11, 2) := by decide +kernel
theorem dX2_explore_138 : decode cX2_explore 138 = .ok (.lload 6, 2) := by decide +kernel
theorem dX2_explore_140 : decode cX2_explore 140 = .ok (.invokevirtual 46, 3) := by decide +kernel
theorem dX2_explore_143 : decode cX2_explore 143 = .ok (.iinc 10 1, 3) := by decide +kernel
theorem dX2_explore_146 : decode cX2_explore 146 = .ok (.goto (-45), 3) := by decide +kernel
theorem dX2_explore_149 : decode cX2_explore 149 = .ok (.iinc 8 1, 3) := by decide +kernel
theorem dX2_explore_152 : decode cX2_explore 152 = .ok (.goto (-79), 3) := by decide +kernel
theorem dX2_explore_155 : decode cX2_explore 155 = .ok (.iinc 3 1, 3) := by decide +kernel
theorem dX2_explore_158 : decode cX2_explore 158 = .ok (.goto (-125), 3) := by decide +kernel
theorem dX2_explore_161 : decode cX2_explore 161 = .ok (.return_, 1) := by decide +kernel
theorem dX2_outcomes_0 : decode cX2_outcomes 0 = .ok (.iconst 0, 1) := by decide +kernel
theorem dX2_outcomes_1 : decode cX2_outcomes 1 = .ok (.istore_n 1, 1) := by decide +kernel
theorem dX2_outcomes_2 : decode cX2_outcomes 2 = .ok (.iconst 0, 1) := by decide +kernel
theorem dX2_outcomes_3 : decode cX2_outcomes 3 = .ok (.istore_n 2, 1) := by decide +kernel
theorem dX2_outcomes_4 : decode cX2_outcomes 4 = .ok (.iload_n 2, 1) := by decide +kernel
theorem dX2_outcomes_5 : decode cX2_outcomes 5 = .ok (.aload_n 0, 1) := by decide +kernel
theorem dX2_outcomes_6 : decode cX2_outcomes 6 = .ok (.getfield 12, 3) := by decide +kernel
theorem dX2_outcomes_9 : decode cX2_outcomes 9 = .ok (.invokevirtual 51, 3) := by decide +kernel
theorem dX2_outcomes_12 : decode cX2_outcomes 12 = .ok (.if_icmp .ge 30, 3) := by decide +kernel
theorem dX2_outcomes_15 : decode cX2_outcomes 15 = .ok (.aload_n 0, 1) := by decide +kernel
theorem dX2_outcomes_16 : decode cX2_outcomes 16 = .ok (.getfield 31, 3) := by decide +kernel
theorem dX2_outcomes_19 : decode cX2_outcomes 19 = .ok (.aload_n 0, 1) := by decide +kernel
theorem dX2_outcomes_20 : decode cX2_outcomes 20 = .ok (.getfield 12, 3) := by decide +kernel
theorem dX2_outcomes_23 : decode cX2_outcomes 23 = .ok (.iload_n 2, 1) := by decide +kernel
theorem dX2_outcomes_24 : decode cX2_outcomes 24 = .ok (.invokevirtual 55, 3) := by decide +kernel
theorem dX2_outcomes_27 : decode cX2_outcomes 27 = .ok (.invokevirtual 75, 3) := by decide +kernel
theorem dX2_outcomes_30 : decode cX2_outcomes 30 = .ok (.ifCond .eq 6, 3) := by decide +kernel
theorem dX2_outcomes_33 : decode cX2_outcomes 33 = .ok (.iinc 1 1, 3) := by decide +kernel
theorem dX2_outcomes_36 : decode cX2_outcomes 36 = .ok (.iinc 2 1, 3) := by decide +kernel
theorem dX2_outcomes_39 : decode cX2_outcomes 39 = .ok (.goto (-35), 3) := by decide +kernel
theorem dX2_outcomes_42 : decode cX2_outcomes 42 = .ok (.iload_n 1, 1) := by decide +kernel
theorem dX2_outcomes_43 : decode cX2_outcomes 43 = .ok (.ireturn, 1) := by decide +kernel
theorem dX2_matches_0 : decode cX2_matches 0 = .ok (.iconst 0, 1) := by decide +kernel
theorem dX2_matches_1 : decode cX2_matches 1 = .ok (.istore_n 1, 1) := by decide +kernel
theorem dX2_matches_2 : decode cX2_matches 2 = .ok (.iconst 0, 1) := by decide +kernel
theorem dX2_matches_3 : decode cX2_matches 3 = .ok (.istore_n 2, 1) := by decide +kernel
theorem dX2_matches_4 : decode cX2_matches 4 = .ok (.iload_n 2, 1) := by decide +kernel
theorem dX2_matches_5 : decode cX2_matches 5 = .ok (.aload_n 0, 1) := by decide +kernel
theorem dX2_matches_6 : decode cX2_matches 6 = .ok (.getfield 12, 3) := by decide +kernel
theorem dX2_matches_9 : decode cX2_matches 9 = .ok (.invokevirtual 51, 3) := by decide +kernel
theorem dX2_matches_12 : decode cX2_matches 12 = .ok (.if_icmp .ge 46, 3) := by decide +kernel
theorem dX2_matches_15 : decode cX2_matches 15 = .ok (.aload_n 0, 1) := by decide +kernel
theorem dX2_matches_16 : decode cX2_matches 16 = .ok (.getfield 12, 3) := by decide +kernel
theorem dX2_matches_19 : decode cX2_matches 19 = .ok (.iload_n 2, 1) := by decide +kernel
theorem dX2_matches_20 : decode cX2_matches 20 = .ok (.invokevirtual 55, 3) := by decide +kernel
theorem dX2_matches_23 : decode cX2_matches 23 = .ok (.lstore_n 3, 1) := by decide +kernel
theorem dX2_matches_24 : decode cX2_matches 24 = .ok (.aload_n 0, 1) := by decide +kernel
theorem dX2_matches_25 : decode cX2_matches 25 = .ok (.getfield 31, 3) := by decide +kernel
theorem dX2_matches_28 : decode cX2_matches 28 = .ok (.lload_n 3, 1) := by decide +kernel
theorem dX2_matches_29 : decode cX2_matches 29 = .ok (.invokevirtual 75, 3) := by decide +kernel
theorem dX2_matches_32 : decode cX2_matches 32 = .ok (.ifCond .eq 20, 3) := by decide +kernel
theorem dX2_matches_35 : decode cX2_matches 35 = .ok (.aload_n 0, 1) := by decide +kernel
theorem dX2_matches_36 : decode cX2_matches 36 = .ok (.getfield 22, 3) := by decide +kernel
theorem dX2_matches_39 : decode cX2_matches 39 = .ok (.lload_n 3, 1) := by decide +kernel
theorem dX2_matches_40 : decode cX2_matches 40 = .ok (.invokestatic 79, 3) := by decide +kernel
theorem dX2_matches_43 : decode cX2_matches 43 = .ok (.invokevirtual 83, 3) := by decide +kernel
theorem dX2_matches_46 : decode cX2_matches 46 = .ok (.ifCond .eq 6, 3) := by decide +kernel
theorem dX2_matches_49 : decode cX2_matches 49 = .ok (.iinc 1 1, 3) := by decide +kernel
theorem dX2_matches_52 : decode cX2_matches 52 = .ok (.iinc 2 1, 3) := by decide +kernel
theorem dX2_matches_55 : decode cX2_matches 55 = .ok (.goto (-51), 3) := by decide +kernel
theorem dX2_matches_58 : decode cX2_matches 58 = .ok (.iload_n 1, 1) := by decide +kernel
theorem dX2_matches_59 : decode cX2_matches 59 = .ok (.ireturn, 1) := by decide +kernel
theorem dX2_report_0 : decode cX2_report 0 = .ok (.aload_n 1, 1) := by decide +kernel
theorem dX2_report_1 : decode cX2_report 1 = .ok (.aload_n 0, 1) := by decide +kernel
theorem dX2_report_2 : decode cX2_report 2 = .ok (.invokevirtual 89, 3) := by decide +kernel
theorem dX2_report_5 : decode cX2_report 5 = .ok (.aload_n 0, 1) := by decide +kernel
theorem dX2_report_6 : decode cX2_report 6 = .ok (.getfield 12, 3) := by decide +kernel
theorem dX2_report_9 : decode cX2_report 9 = .ok (.invokevirtual 51, 3) := by decide +kernel
theorem dX2_report_12 : decode cX2_report 12 = .ok (.invokevirtual 92, 3) := by decide +kernel
theorem dX2_report_15 : decode cX2_report 15 = .ok (.iconst 0, 1) := by decide +kernel
theorem dX2_report_16 : decode cX2_report 16 = .ok (.istore_n 2, 1) := by decide +kernel
theorem dX2_report_17 : decode cX2_report 17 = .ok (.iload_n 2, 1) := by decide +kernel
theorem dX2_report_18 : decode cX2_report 18 = .ok (.aload_n 0, 1) := by decide +kernel
theorem dX2_report_19 : decode cX2_report 19 = .ok (.getfield 12, 3) := by decide +kernel
theorem dX2_report_22 : decode cX2_report 22 = .ok (.invokevirtual 51, 3) := by decide +kernel
theorem dX2_report_25 : decode cX2_report 25 = .ok (.if_icmp .ge 45, 3) := by decide +kernel
theorem dX2_report_28 : decode cX2_report 28 = .ok (.aload_n 0, 1) := by decide +kernel
theorem dX2_report_29 : decode cX2_report 29 = .ok (.getfield 12, 3) := by decide +kernel
theorem dX2_report_32 : decode cX2_report 32 = .ok (.iload_n 2, 1) := by decide +kernel
theorem dX2_report_33 : decode cX2_report 33 = .ok (.invokevirtual 55, 3) := by decide +kernel
theorem dX2_report_36 : decode cX2_report 36 = .ok (.lstore_n 3, 1) := by decide +kernel
theorem dX2_report_37 : decode cX2_report 37 = .ok (.aload_n 0, 1) := by decide +kernel
theorem dX2_report_38 : decode cX2_report 38 = .ok (.getfield 31, 3) := by decide +kernel
theorem dX2_report_41 : decode cX2_report 41 = .ok (.lload_n 3, 1) := by decide +kernel
theorem dX2_report_42 : decode cX2_report 42 = .ok (.invokevirtual 75, 3) := by decide +kernel
theorem dX2_report_45 : decode cX2_report 45 = .ok (.ifCond .eq 19, 3) := by decide +kernel
theorem dX2_report_48 : decode cX2_report 48 = .ok (.aload_n 1, 1) := by decide +kernel
theorem dX2_report_49 : decode cX2_report 49 = .ok (.lload_n 3, 1) := by decide +kernel
theorem dX2_report_50 : decode cX2_report 50 = .ok (.invokestatic 79, 3) := by decide +kernel
theorem dX2_report_53 : decode cX2_report 53 = .ok (.aload_n 0, 1) := by decide +kernel
theorem dX2_report_54 : decode cX2_report 54 = .ok (.getfield 12, 3) := by decide +kernel
theorem dX2_report_57 : decode cX2_report 57 = .ok (.iload_n 2, 1) := by decide +kernel
theorem dX2_report_58 : decode cX2_report 58 = .ok (.invokevirtual 59, 3) := by decide +kernel
theorem dX2_report_61 : decode cX2_report 61 = .ok (.invokevirtual 97, 3) := by decide +kernel
theorem dX2_report_64 : decode cX2_report 64 = .ok (.iinc 2 1, 3) := by decide +kernel
theorem dX2_report_67 : decode cX2_report 67 = .ok (.goto (-50), 3) := by decide +kernel
theorem dX2_report_70 : decode cX2_report 70 = .ok (.aload_n 1, 1) := by decide +kernel
theorem dX2_report_71 : decode cX2_report 71 = .ok (.invokevirtual 100, 3) := by decide +kernel
theorem dX2_report_74 : decode cX2_report 74 = .ok (.return_, 1) := by decide +kernel
theorem dX2_findFirst_0 : decode cX2_findFirst 0 = .ok (.aload_n 0, 1) := by decide +kernel
theorem dX2_findFirst_1 : decode cX2_findFirst 1 = .ok (.getfield 31, 3) := by decide +kernel
theorem dX2_findFirst_4 : decode cX2_findFirst 4 = .ok (.iload_n 1, 1) := by decide +kernel
theorem dX2_findFirst_5 : decode cX2_findFirst 5 = .ok (.aload_n 0, 1) := by decide +kernel
theorem dX2_findFirst_6 : decode cX2_findFirst 6 = .ok (.getfield 22, 3) := by decide +kernel
theorem dX2_findFirst_9 : decode cX2_findFirst 9 = .ok (.invokevirtual 103, 3) := by decide +kernel
theorem dX2_findFirst_12 : decode cX2_findFirst 12 = .ok (.invokevirtual 35, 3) := by decide +kernel
theorem dX2_findFirst_15 : decode cX2_findFirst 15 = .ok (.aload_n 0, 1) := by decide +kernel
theorem dX2_findFirst_16 : decode cX2_findFirst 16 = .ok (.getfield 12, 3) := by decide +kernel
theorem dX2_findFirst_19 : decode cX2_findFirst 19 = .ok (.invokevirtual 39, 3) := by decide +kernel
theorem dX2_findFirst_22 : decode cX2_findFirst 22 = .ok (.aload_n 0, 1) := by decide +kernel
theorem dX2_findFirst_23 : decode cX2_findFirst 23 = .ok (.iload_n 2, 1) := by decide +kernel
theorem dX2_findFirst_24 : decode cX2_findFirst 24 = .ok (.aload_n 0, 1) := by decide +kernel
theorem dX2_findFirst_25 : decode cX2_findFirst 25 = .ok (.getfield 31, 3) := by decide +kernel
theorem dX2_findFirst_28 : decode cX2_findFirst 28 = .ok (.invokevirtual 42, 3) := by decide +kernel
theorem dX2_findFirst_31 : decode cX2_findFirst 31 = .ok (.iconst 0, 1) := by decide +kernel
theorem dX2_findFirst_32 : decode cX2_findFirst 32 = .ok (.invokevirtual 106, 3) := by decide +kernel
theorem dX2_findFirst_35 : decode cX2_findFirst 35 = .ok (.ifCond .ne 5, 3) := by decide +kernel
theorem dX2_findFirst_38 : decode cX2_findFirst 38 = .ok (.iconst 0, 1) := by decide +kernel
theorem dX2_findFirst_39 : decode cX2_findFirst 39 = .ok (.ireturn, 1) := by decide +kernel
theorem dX2_findFirst_40 : decode cX2_findFirst 40 = .ok (.aload_n 3, 1) := by decide +kernel
theorem dX2_findFirst_41 : decode cX2_findFirst 41 = .ok (.invokevirtual 110, 3) := by decide +kernel
theorem dX2_findFirst_44 : decode cX2_findFirst 44 = .ok (.aload_n 0, 1) := by decide +kernel
theorem dX2_findFirst_45 : decode cX2_findFirst 45 = .ok (.getfield 31, 3) := by decide +kernel
theorem dX2_findFirst_48 : decode cX2_findFirst 48 = .ok (.invokevirtual 42, 3) := by decide +kernel
theorem dX2_findFirst_51 : decode cX2_findFirst 51 = .ok (.lstore 4, 2) := by decide +kernel
theorem dX2_findFirst_53 : decode cX2_findFirst 53 = .ok (.iconst 0, 1) := by decide +kernel
theorem dX2_findFirst_54 : decode cX2_findFirst 54 = .ok (.istore 6, 2) := by decide +kernel
theorem dX2_findFirst_56 : decode cX2_findFirst 56 = .ok (.iload 6, 2) := by decide +kernel
theorem dX2_findFirst_58 : decode cX2_findFirst 58 = .ok (.bipush 18, 2) := by decide +kernel
theorem dX2_findFirst_60 : decode cX2_findFirst 60 = .ok (.if_icmp .ge 74, 3) := by decide +kernel
theorem dX2_findFirst_63 : decode cX2_findFirst 63 = .ok (.aload_n 0, 1) := by decide +kernel
theorem dX2_findFirst_64 : decode cX2_findFirst 64 = .ok (.getfield 31, 3) := by decide +kernel
theorem dX2_findFirst_67 : decode cX2_findFirst 67 = .ok (.lload 4, 2) := by decide +kernel
theorem dX2_findFirst_69 : decode cX2_findFirst 69 = .ok (.invokevirtual 75, 3) := by decide +kernel
theorem dX2_findFirst_72 : decode cX2_findFirst 72 = .ok (.ifCond .ne 62, 3) := by decide +kernel
theorem dX2_findFirst_75 : decode cX2_findFirst 75 = .ok (.aload_n 0, 1) := by decide +kernel
theorem dX2_findFirst_76 : decode cX2_findFirst 76 = .ok (.getfield 18, 3) := by decide +kernel
theorem dX2_findFirst_79 : decode cX2_findFirst 79 = .ok (.iload 6, 2) := by decide +kernel
theorem dX2_findFirst_81 : decode cX2_findFirst 81 = .ok (.iaload, 1) := by decide +kernel
theorem dX2_findFirst_82 : decode cX2_findFirst 82 = .ok (.bipush 10, 2) := by decide +kernel
theorem dX2_findFirst_84 : decode cX2_findFirst 84 = .ok (.idiv, 1) := by decide +kernel
theorem dX2_findFirst_85 : decode cX2_findFirst 85 = .ok (.istore 7, 2) := by decide +kernel
theorem dX2_findFirst_87 : decode cX2_findFirst 87 = .ok (.aload_n 0, 1) := by decide +kernel
theorem dX2_findFirst_88 : decode cX2_findFirst 88 = .ok (.getfield 18, 3) := by decide +kernel
theorem dX2_findFirst_91 : decode cX2_findFirst 91 = .ok (.iload 6, 2) := by decide +kernel
theorem dX2_findFirst_93 : decode cX2_findFirst 93 = .ok (.iaload, 1) := by decide +kernel
theorem dX2_findFirst_94 : decode cX2_findFirst 94 = .ok (.bipush 10, 2) := by decide +kernel
theorem dX2_findFirst_96 : decode cX2_findFirst 96 = .ok (.irem, 1) := by decide +kernel
theorem dX2_findFirst_97 : decode cX2_findFirst 97 = .ok (.istore 8, 2) := by decide +kernel
theorem dX2_findFirst_99 : decode cX2_findFirst 99 = .ok (.aload_n 3, 1) := by decide +kernel
theorem dX2_findFirst_100 : decode cX2_findFirst 100 = .ok (.aload_n 0, 1) := by decide +kernel
theorem dX2_findFirst_101 : decode cX2_findFirst 101 = .ok (.getfield 31, 3) := by decide +kernel
theorem dX2_findFirst_104 : decode cX2_findFirst 104 = .ok (.lload 4, 2) := by decide +kernel
theorem dX2_findFirst_106 : decode cX2_findFirst 106 = .ok (.iload 7, 2) := by decide +kernel
theorem dX2_findFirst_108 : decode cX2_findFirst 108 = .ok (.iload 8, 2) := by decide +kernel
theorem dX2_findFirst_110 : decode cX2_findFirst 110 = .ok (.invokevirtual 114, 3) := by decide +kernel
theorem dX2_findFirst_113 : decode cX2_findFirst 113 = .ok (.aload_n 0, 1) := by decide +kernel
theorem dX2_findFirst_114 : decode cX2_findFirst 114 = .ok (.getfield 31, 3) := by decide +kernel
theorem dX2_findFirst_117 : decode cX2_findFirst 117 = .ok (.lload 4, 2) := by decide +kernel
theorem dX2_findFirst_119 : decode cX2_findFirst 119 = .ok (.iload 7, 2) := by decide +kernel
theorem dX2_findFirst_121 : decode cX2_findFirst 121 = .ok (.iload 8, 2) := by decide +kernel
theorem dX2_findFirst_123 : decode cX2_findFirst 123 = .ok (.invokevirtual 69, 3) := by decide +kernel
theorem dX2_findFirst_126 : decode cX2_findFirst 126 = .ok (.lstore 4, 2) := by decide +kernel
theorem dX2_findFirst_128 : decode cX2_findFirst 128 = .ok (.iinc 6 1, 3) := by decide +kernel
theorem dX2_findFirst_131 : decode cX2_findFirst 131 = .ok (.goto (-75), 3) := by decide +kernel
theorem dX2_findFirst_134 : decode cX2_findFirst 134 = .ok (.iconst 1, 1) := by decide +kernel
theorem dX2_findFirst_135 : decode cX2_findFirst 135 = .ok (.ireturn, 1) := by decide +kernel
theorem dX2_leadsTo_0 : decode cX2_leadsTo 0 = .ok (.aload_n 0, 1) := by decide +kernel
theorem dX2_leadsTo_1 : decode cX2_leadsTo 1 = .ok (.getfield 31, 3) := by decide +kernel
theorem dX2_leadsTo_4 : decode cX2_leadsTo 4 = .ok (.lload_n 2, 1) := by decide +kernel
theorem dX2_leadsTo_5 : decode cX2_leadsTo 5 = .ok (.invokevirtual 75, 3) := by decide +kernel
theorem dX2_leadsTo_8 : decode cX2_leadsTo 8 = .ok (.ifCond .eq 17, 3) := by decide +kernel
theorem dX2_leadsTo_11 : decode cX2_leadsTo 11 = .ok (.lload_n 2, 1) := by decide +kernel
theorem dX2_leadsTo_12 : decode cX2_leadsTo 12 = .ok (.invokestatic 79, 3) := by decide +kernel
theorem dX2_leadsTo_15 : decode cX2_leadsTo 15 = .ok (.iload_n 1, 1) := by decide +kernel
theorem dX2_leadsTo_16 : decode cX2_leadsTo 16 = .ok (.if_icmp .ne 7, 3) := by decide +kernel
theorem dX2_leadsTo_19 : decode cX2_leadsTo 19 = .ok (.iconst 1, 1) := by decide +kernel
theorem dX2_leadsTo_20 : decode cX2_leadsTo 20 = .ok (.goto 4, 3) := by decide +kernel
theorem dX2_leadsTo_23 : decode cX2_leadsTo 23 = .ok (.iconst 0, 1) := by decide +kernel
theorem dX2_leadsTo_24 : decode cX2_leadsTo 24 = .ok (.ireturn, 1) := by decide +kernel
theorem dX2_leadsTo_25 : decode cX2_leadsTo 25 = .ok (.iload 4, 2) := by decide +kernel
theorem dX2_leadsTo_27 : decode cX2_leadsTo 27 = .ok (.bipush 18, 2) := by decide +kernel
theorem dX2_leadsTo_29 : decode cX2_leadsTo 29 = .ok (.if_icmp .ge 14, 3) := by decide +kernel
theorem dX2_leadsTo_32 : decode cX2_leadsTo 32 = .ok (.aload_n 0, 1) := by decide +kernel
theorem dX2_leadsTo_33 : decode cX2_leadsTo 33 = .ok (.getfield 12, 3) := by decide +kernel
theorem dX2_leadsTo_36 : decode cX2_leadsTo 36 = .ok (.lload_n 2, 1) := by decide +kernel
theorem dX2_leadsTo_37 : decode cX2_leadsTo 37 = .ok (.invokevirtual 118, 3) := by decide +kernel
theorem dX2_leadsTo_40 : decode cX2_leadsTo 40 = .ok (.ifCond .eq 5, 3) := by decide +kernel
theorem dX2_leadsTo_43 : decode cX2_leadsTo 43 = .ok (.iconst 0, 1) := by decide +kernel
theorem dX2_leadsTo_44 : decode cX2_leadsTo 44 = .ok (.ireturn, 1) := by decide +kernel
theorem dX2_leadsTo_45 : decode cX2_leadsTo 45 = .ok (.aload_n 0, 1) := by decide +kernel
theorem dX2_leadsTo_46 : decode cX2_leadsTo 46 = .ok (.getfield 12, 3) := by decide +kernel
theorem dX2_leadsTo_49 : decode cX2_leadsTo 49 = .ok (.lload_n 2, 1) := by decide +kernel
theorem dX2_leadsTo_50 : decode cX2_leadsTo 50 = .ok (.lconst 0, 1) := by decide +kernel
theorem dX2_leadsTo_51 : decode cX2_leadsTo 51 = .ok (.invokevirtual 46, 3) := by decide +kernel
theorem dX2_leadsTo_54 : decode cX2_leadsTo 54 = .ok (.aload_n 0, 1) := by decide +kernel
theorem dX2_leadsTo_55 : decode cX2_leadsTo 55 = .ok (.iload_n 1, 1) := by decide +kernel
theorem dX2_leadsTo_56 : decode cX2_leadsTo 56 = .ok (.lload_n 2, 1) := by decide +kernel
theorem dX2_leadsTo_57 : decode cX2_leadsTo 57 = .ok (.iload 4, 2) := by decide +kernel
theorem dX2_leadsTo_59 : decode cX2_leadsTo 59 = .ok (.invokevirtual 121, 3) := by decide +kernel
theorem dX2_leadsTo_62 : decode cX2_leadsTo 62 = .ok (.ireturn, 1) := by decide +kernel
theorem dX2_hasStepTo_0 : decode cX2_hasStepTo 0 = .ok (.iconst 0, 1) := by decide +kernel
theorem dX2_hasStepTo_1 : decode cX2_hasStepTo 1 = .ok (.istore 5, 2) := by decide +kernel
theorem dX2_hasStepTo_3 : decode cX2_hasStepTo 3 = .ok (.iload 5, 2) := by decide +kernel
theorem dX2_hasStepTo_5 : decode cX2_hasStepTo 5 = .ok (.aload_n 0, 1) := by decide +kernel
theorem dX2_hasStepTo_6 : decode cX2_hasStepTo 6 = .ok (.getfield 31, 3) := by decide +kernel
theorem dX2_hasStepTo_9 : decode cX2_hasStepTo 9 = .ok (.invokevirtual 62, 3) := by decide +kernel
theorem dX2_hasStepTo_12 : decode cX2_hasStepTo 12 = .ok (.if_icmp .ge 131, 3) := by decide +kernel
theorem dX2_hasStepTo_15 : decode cX2_hasStepTo 15 = .ok (.aload_n 0, 1) := by decide +kernel
theorem dX2_hasStepTo_16 : decode cX2_hasStepTo 16 = .ok (.getfield 31, 3) := by decide +kernel
theorem dX2_hasStepTo_19 : decode cX2_hasStepTo 19 = .ok (.lload_n 2, 1) := by decide +kernel
theorem dX2_hasStepTo_20 : decode cX2_hasStepTo 20 = .ok (.iload 5, 2) := by decide +kernel
theorem dX2_hasStepTo_22 : decode cX2_hasStepTo 22 = .ok (.invokevirtual 65, 3) := by decide +kernel
theorem dX2_hasStepTo_25 : decode cX2_hasStepTo 25 = .ok (.istore 6, 2) := by decide +kernel
theorem dX2_hasStepTo_27 : decode cX2_hasStepTo 27 = .ok (.iconst 0, 1) := by decide +kernel
theorem dX2_hasStepTo_28 : decode cX2_hasStepTo 28 = .ok (.istore 7, 2) := by decide +kernel
theorem dX2_hasStepTo_30 : decode cX2_hasStepTo 30 = .ok (.iload 7, 2) := by decide +kernel
theorem dX2_hasStepTo_32 : decode cX2_hasStepTo 32 = .ok (.iload 6, 2) := by decide +kernel
theorem dX2_hasStepTo_34 : decode cX2_hasStepTo 34 = .ok (.if_icmp .ge 103, 3) := by decide +kernel
theorem dX2_hasStepTo_37 : decode cX2_hasStepTo 37 = .ok (.aload_n 0, 1) := by decide +kernel
theorem dX2_hasStepTo_38 : decode cX2_hasStepTo 38 = .ok (.getfield 31, 3) := by decide +kernel
theorem dX2_hasStepTo_41 : decode cX2_hasStepTo 41 = .ok (.lload_n 2, 1) := by decide +kernel
theorem dX2_hasStepTo_42 : decode cX2_hasStepTo 42 = .ok (.iload 5, 2) := by decide +kernel
theorem dX2_hasStepTo_44 : decode cX2_hasStepTo 44 = .ok (.iload 7, 2) := by decide +kernel
theorem dX2_hasStepTo_46 : decode cX2_hasStepTo 46 = .ok (.invokevirtual 69, 3) := by decide +kernel
theorem dX2_hasStepTo_49 : decode cX2_hasStepTo 49 = .ok (.lstore 8, 2) := by decide +kernel
theorem dX2_hasStepTo_51 : decode cX2_hasStepTo 51 = .ok (.lload 8, 2) := by decide +kernel
theorem dX2_hasStepTo_53 : decode cX2_hasStepTo 53 = .ok (.ldc2_w 73, 3) := by decide +kernel
theorem dX2_hasStepTo_56 : decode cX2_hasStepTo 56 = .ok (.lcmp, 1) := by decide +kernel
theorem dX2_hasStepTo_57 : decode cX2_hasStepTo 57 = .ok (.ifCond .eq 23, 3) := by decide +kernel
theorem dX2_hasStepTo_60 : decode cX2_hasStepTo 60 = .ok (.aload_n 0, 1) := by decide +kernel
theorem dX2_hasStepTo_61 : decode cX2_hasStepTo 61 = .ok (.getfield 31, 3) := by decide +kernel
theorem dX2_hasStepTo_64 : decode cX2_hasStepTo 64 = .ok (.lload_n 2, 1) := by decide +kernel
theorem dX2_hasStepTo_65 : decode cX2_hasStepTo 65 = .ok (.lload 8, 2) := by decide +kernel
theorem dX2_hasStepTo_67 : decode cX2_hasStepTo 67 = .ok (.iload 5, 2) := by decide +kernel
theorem dX2_hasStepTo_69 : decode cX2_hasStepTo 69 = .ok (.iload_n 1, 1) := by decide +kernel
theorem dX2_hasStepTo_70 : decode cX2_hasStepTo 70 = .ok (.invokevirtual 124, 3) := by decide +kernel
theorem dX2_hasStepTo_73 : decode cX2_hasStepTo 73 = .ok (.ifCond .ne 7, 3) := by decide +kernel
theorem dX2_hasStepTo_76 : decode cX2_hasStepTo 76 = .ok (.iconst 1, 1) := by decide +kernel
theorem dX2_hasStepTo_77 : decode cX2_hasStepTo 77 = .ok (.goto 4, 3) := by decide +kernel
theorem dX2_hasStepTo_80 : decode cX2_hasStepTo 80 = .ok (.iconst 0, 1) := by decide +kernel
theorem dX2_hasStepTo_81 : decode cX2_hasStepTo 81 = .ok (.istore 10, 2) := by decide +kernel
theorem dX2_hasStepTo_83 : decode cX2_hasStepTo 83 = .ok (.iload 10, 2) := by decide +kernel
theorem dX2_hasStepTo_85 : decode cX2_hasStepTo 85 = .ok (.ifCond .eq 46, 3) := by decide +kernel
theorem dX2_hasStepTo_88 : decode cX2_hasStepTo 88 = .ok (.iload 4, 2) := by decide +kernel
theorem dX2_hasStepTo_90 : decode cX2_hasStepTo 90 = .ok (.ifCond .lt 41, 3) := by decide +kernel
theorem dX2_hasStepTo_93 : decode cX2_hasStepTo 93 = .ok (.iload 4, 2) := by decide +kernel
theorem dX2_hasStepTo_95 : decode cX2_hasStepTo 95 = .ok (.bipush 18, 2) := by decide +kernel
theorem dX2_hasStepTo_97 : decode cX2_hasStepTo 97 = .ok (.if_icmp .ge 34, 3) := by decide +kernel
theorem dX2_hasStepTo_100 : decode cX2_hasStepTo 100 = .ok (.aload_n 0, 1) := by decide +kernel
theorem dX2_hasStepTo_101 : decode cX2_hasStepTo 101 = .ok (.iload_n 1, 1) := by decide +kernel
theorem dX2_hasStepTo_102 : decode cX2_hasStepTo 102 = .ok (.lload 8, 2) := by decide +kernel
theorem dX2_hasStepTo_104 : decode cX2_hasStepTo 104 = .ok (.iload 4, 2) := by decide +kernel
theorem dX2_hasStepTo_106 : decode cX2_hasStepTo 106 = .ok (.iconst 1, 1) := by decide +kernel
theorem dX2_hasStepTo_107 : decode cX2_hasStepTo 107 = .ok (.iadd, 1) := by decide +kernel
theorem dX2_hasStepTo_108 : decode cX2_hasStepTo 108 = .ok (.invokevirtual 106, 3) := by decide +kernel
theorem dX2_hasStepTo_111 : decode cX2_hasStepTo 111 = .ok (.ifCond .eq 20, 3) := by decide +kernel
theorem dX2_hasStepTo_114 : decode cX2_hasStepTo 114 = .ok (.aload_n 0, 1) := by decide +kernel
theorem dX2_hasStepTo_115 : decode cX2_hasStepTo 115 = .ok (.getfield 18, 3) := by decide +kernel
theorem dX2_hasStepTo_118 : decode cX2_hasStepTo 118 = .ok (.iload 4, 2) := by decide +kernel
theorem dX2_hasStepTo_120 : decode cX2_hasStepTo 120 = .ok (.bipush 10, 2) := by decide +kernel
theorem dX2_hasStepTo_122 : decode cX2_hasStepTo 122 = .ok (.iload 5, 2) := by decide +kernel
theorem dX2_hasStepTo_124 : decode cX2_hasStepTo 124 = .ok (.imul, 1) := by decide +kernel
theorem dX2_hasStepTo_125 : decode cX2_hasStepTo 125 = .ok (.iload 7, 2) := by decide +kernel
theorem dX2_hasStepTo_127 : decode cX2_hasStepTo 127 = .ok (.iadd, 1) := by decide +kernel
theorem dX2_hasStepTo_128 : decode cX2_hasStepTo 128 = .ok (.iastore, 1) := by decide +kernel
theorem dX2_hasStepTo_129 : decode cX2_hasStepTo 129 = .ok (.iconst 1, 1) := by decide +kernel
theorem dX2_hasStepTo_130 : decode cX2_hasStepTo 130 = .ok (.ireturn, 1) := by decide +kernel
theorem dX2_hasStepTo_131 : decode cX2_hasStepTo 131 = .ok (.iinc 7 1, 3) := by decide +kernel
theorem dX2_hasStepTo_134 : decode cX2_hasStepTo 134 = .ok (.goto (-104), 3) := by decide +kernel
theorem dX2_hasStepTo_137 : decode cX2_hasStepTo 137 = .ok (.iinc 5 1, 3) := by decide +kernel
theorem dX2_hasStepTo_140 : decode cX2_hasStepTo 140 = .ok (.goto (-137), 3) := by decide +kernel
theorem dX2_hasStepTo_143 : decode cX2_hasStepTo 143 = .ok (.iconst 0, 1) := by decide +kernel
theorem dX2_hasStepTo_144 : decode cX2_hasStepTo 144 = .ok (.ireturn, 1) := by decide +kernel
theorem dX3_init_0 : decode cX3_init 0 = .ok (.aload_n 0, 1) := by decide +kernel
theorem dX3_init_1 : decode cX3_init 1 = .ok (.invokespecial 3, 3) := by decide +kernel
theorem dX3_init_4 : decode cX3_init 4 = .ok (.aload_n 0, 1) := by decide +kernel
theorem dX3_init_5 : decode cX3_init 5 = .ok (.bipush 16, 2) := by decide +kernel
theorem dX3_init_7 : decode cX3_init 7 = .ok (.newarray .int, 2) := by decide +kernel
theorem dX3_init_9 : decode cX3_init 9 = .ok (.putfield 11, 3) := by decide +kernel
theorem dX3_init_12 : decode cX3_init 12 = .ok (.aload_n 0, 1) := by decide +kernel
theorem dX3_init_13 : decode cX3_init 13 = .ok (.bipush 16, 2) := by decide +kernel
theorem dX3_init_15 : decode cX3_init 15 = .ok (.newarray .long, 2) := by decide +kernel
theorem dX3_init_17 : decode cX3_init 17 = .ok (.putfield 15, 3) := by decide +kernel
theorem dX3_init_20 : decode cX3_init 20 = .ok (.aload_n 0, 1) := by decide +kernel
theorem dX3_init_21 : decode cX3_init 21 = .ok (.iconst 0, 1) := by decide +kernel
theorem dX3_init_22 : decode cX3_init 22 = .ok (.putfield 19, 3) := by decide +kernel
theorem dX3_init_25 : decode cX3_init 25 = .ok (.aload_n 0, 1) := by decide +kernel
theorem dX3_init_26 : decode cX3_init 26 = .ok (.iconst 0, 1) := by decide +kernel
theorem dX3_init_27 : decode cX3_init 27 = .ok (.putfield 23, 3) := by decide +kernel
theorem dX3_init_30 : decode cX3_init 30 = .ok (.aload_n 0, 1) := by decide +kernel
theorem dX3_init_31 : decode cX3_init 31 = .ok (.iconst 0, 1) := by decide +kernel
theorem dX3_init_32 : decode cX3_init 32 = .ok (.putfield 26, 3) := by decide +kernel
theorem dX3_init_35 : decode cX3_init 35 = .ok (.aload_n 0, 1) := by decide +kernel
theorem dX3_init_36 : decode cX3_init 36 = .ok (.bipush 64, 2) := by decide +kernel
theorem dX3_init_38 : decode cX3_init 38 = .ok (.newarray .int, 2) := by decide +kernel
theorem dX3_init_40 : decode cX3_init 40 = .ok (.putfield 30, 3) := by decide +kernel
theorem dX3_init_43 : decode cX3_init 43 = .ok (.aload_n 0, 1) := by decide +kernel
theorem dX3_init_44 : decode cX3_init 44 = .ok (.bipush 64, 2) := by decide +kernel
theorem dX3_init_46 : decode cX3_init 46 = .ok (.newarray .int, 2) := by decide +kernel
theorem dX3_init_48 : decode cX3_init 48 = .ok (.putfield 33, 3) := by decide +kernel
theorem dX3_init_51 : decode cX3_init 51 = .ok (.aload_n 0, 1) := by decide +kernel
theorem dX3_init_52 : decode cX3_init 52 = .ok (.getfield 30, 3) := by decide +kernel
theorem dX3_init_55 : decode cX3_init 55 = .ok (.iconst (-1), 1) := by decide +kernel
theorem dX3_init_56 : decode cX3_init 56 = .ok (.invokestatic 36, 3) := by decide +kernel
theorem dX3_init_59 : decode cX3_init 59 = .ok (.return_, 1) := by decide +kernel
theorem dX3_isKnown_0 : decode cX3_isKnown 0 = .ok (.aload_n 0, 1) := by decide +kernel
theorem dX3_isKnown_1 : decode cX3_isKnown 1 = .ok (.getfield 26, 3) := by decide +kernel
theorem dX3_isKnown_4 : decode cX3_isKnown 4 = .ok (.ireturn, 1) := by decide +kernel
theorem dX3_forget_0 : decode cX3_forget 0 = .ok (.aload_n 0, 1) := by decide +kernel
theorem dX3_forget_1 : decode cX3_forget 1 = .ok (.iconst 0, 1) := by decide +kernel
theorem dX3_forget_2 : decode cX3_forget 2 = .ok (.putfield 26, 3) := by decide +kernel
theorem dX3_forget_5 : decode cX3_forget 5 = .ok (.aload_n 0, 1) := by decide +kernel
theorem dX3_forget_6 : decode cX3_forget 6 = .ok (.getfield 30, 3) := by decide +kernel
theorem dX3_forget_9 : decode cX3_forget 9 = .ok (.iconst (-1), 1) := by decide +kernel
theorem dX3_forget_10 : decode cX3_forget 10 = .ok (.invokestatic 36, 3) := by decide +kernel
theorem dX3_forget_13 : decode cX3_forget 13 = .ok (.return_, 1) := by decide +kernel
theorem dX3_keepFenced_0 : decode cX3_keepFenced 0 = .ok (.iload_n 1, 1) := by decide +kernel
theorem dX3_keepFenced_1 : decode cX3_keepFenced 1 = .ok (.ifCond .lt 35, 3) := by decide +kernel
theorem dX3_keepFenced_4 : decode cX3_keepFenced 4 = .ok (.iload_n 1, 1) := by decide +kernel
theorem dX3_keepFenced_5 : decode cX3_keepFenced 5 = .ok (.aload_n 0, 1) := by decide +kernel
theorem dX3_keepFenced_6 : decode cX3_keepFenced 6 = .ok (.getfield 30, 3) := by decide +kernel
theorem dX3_keepFenced_9 : decode cX3_keepFenced 9 = .ok (.arraylength, 1) := by decide +kernel
theorem dX3_keepFenced_10 : decode cX3_keepFenced 10 = .ok (.if_icmp .ge 26, 3) := by decide +kernel
theorem dX3_keepFenced_13 : decode cX3_keepFenced 13 = .ok (.iload_n 1, 1) := by decide +kernel
theorem dX3_keepFenced_14 : decode cX3_keepFenced 14 = .ok (.aload_n 0, 1) := by decide +kernel
theorem dX3_keepFenced_15 : decode cX3_keepFenced 15 = .ok (.getfield 33, 3) := by decide +kernel
theorem dX3_keepFenced_18 : decode cX3_keepFenced 18 = .ok (.arraylength, 1) := by decide +kernel
theorem dX3_keepFenced_19 : decode cX3_keepFenced 19 = .ok (.if_icmp .ge 17, 3) := by decide +kernel
theorem dX3_keepFenced_22 : decode cX3_keepFenced 22 = .ok (.aload_n 0, 1) := by decide +kernel
theorem dX3_keepFenced_23 : decode cX3_keepFenced 23 = .ok (.getfield 30, 3) := by decide +kernel
theorem dX3_keepFenced_26 : decode cX3_keepFenced 26 = .ok (.iload_n 1, 1) := by decide +kernel
theorem dX3_keepFenced_27 : decode cX3_keepFenced 27 = .ok (.iload_n 2, 1) := by decide +kernel
theorem dX3_keepFenced_28 : decode cX3_keepFenced 28 = .ok (.iastore, 1) := by decide +kernel
theorem dX3_keepFenced_29 : decode cX3_keepFenced 29 = .ok (.aload_n 0, 1) := by decide +kernel
theorem dX3_keepFenced_30 : decode cX3_keepFenced 30 = .ok (.getfield 33, 3) := by decide +kernel
theorem dX3_keepFenced_33 : decode cX3_keepFenced 33 = .ok (.iload_n 1, 1) := by decide +kernel
theorem dX3_keepFenced_34 : decode cX3_keepFenced 34 = .ok (.iload_n 3, 1) := by decide +kernel
theorem dX3_keepFenced_35 : decode cX3_keepFenced 35 = .ok (.iastore, 1) := by decide +kernel
theorem dX3_keepFenced_36 : decode cX3_keepFenced 36 = .ok (.return_, 1) := by decide +kernel
theorem dX3_fencedOutcomes_0 : decode cX3_fencedOutcomes 0 = .ok (.iload_n 1, 1) := by decide +kernel
theorem dX3_fencedOutcomes_1 : decode cX3_fencedOutcomes 1 = .ok (.ifCond .lt 21, 3) := by decide +kernel
theorem dX3_fencedOutcomes_4 : decode cX3_fencedOutcomes 4 = .ok (.iload_n 1, 1) := by decide +kernel
theorem dX3_fencedOutcomes_5 : decode cX3_fencedOutcomes 5 = .ok (.aload_n 0, 1) := by decide +kernel
theorem dX3_fencedOutcomes_6 : decode cX3_fencedOutcomes 6 = .ok (.getfield 30, 3) := by decide +kernel
theorem dX3_fencedOutcomes_9 : decode cX3_fencedOutcomes 9 = .ok (.arraylength, 1) := by decide +kernel
theorem dX3_fencedOutcomes_10 : decode cX3_fencedOutcomes 10 = .ok (.if_icmp .ge 12, 3) := by decide +kernel
theorem dX3_fencedOutcomes_13 : decode cX3_fencedOutcomes 13 = .ok (.aload_n 0, 1) := by decide +kernel
theorem dX3_fencedOutcomes_14 : decode cX3_fencedOutcomes 14 = .ok (.getfield 30, 3) := by decide +kernel
theorem dX3_fencedOutcomes_17 : decode cX3_fencedOutcomes 17 = .ok (.iload_n 1, 1) := by decide +kernel
theorem dX3_fencedOutcomes_18 : decode cX3_fencedOutcomes 18 = .ok (.iaload, 1) := by decide +kernel
theorem dX3_fencedOutcomes_19 : decode cX3_fencedOutcomes 19 = .ok (.goto 4, 3) := by decide +kernel
theorem dX3_fencedOutcomes_22 : decode cX3_fencedOutcomes 22 = .ok (.iconst (-1), 1) := by decide +kernel
theorem dX3_fencedOutcomes_23 : decode cX3_fencedOutcomes 23 = .ok (.ireturn, 1) := by decide +kernel
theorem dX3_fencedMatches_0 : decode cX3_fencedMatches 0 = .ok (.iload_n 1, 1) := by decide +kernel
theorem dX3_fencedMatches_1 : decode cX3_fencedMatches 1 = .ok (.ifCond .lt 21, 3) := by decide +kernel
theorem dX3_fencedMatches_4 : decode cX3_fencedMatches 4 = .ok (.iload_n 1, 1) := by decide +kernel
theorem dX3_fencedMatches_5 : decode cX3_fencedMatches 5 = .ok (.aload_n 0, 1) := by decide +kernel
theorem dX3_fencedMatches_6 : decode cX3_fencedMatches 6 = .ok (.getfield 33, 3) := by decide +kernel
theorem dX3_fencedMatches_9 : decode cX3_fencedMatches 9 = .ok (.arraylength, 1) := by decide +kernel
theorem dX3_fencedMatches_10 : decode cX3_fencedMatches 10 = .ok (.if_icmp .ge 12, 3) := by decide +kernel
theorem dX3_fencedMatches_13 : decode cX3_fencedMatches 13 = .ok (.aload_n 0, 1) := by decide +kernel
theorem dX3_fencedMatches_14 : decode cX3_fencedMatches 14 = .ok (.getfield 33, 3) := by decide +kernel
theorem dX3_fencedMatches_17 : decode cX3_fencedMatches 17 = .ok (.iload_n 1, 1) := by decide +kernel
theorem dX3_fencedMatches_18 : decode cX3_fencedMatches 18 = .ok (.iaload, 1) := by decide +kernel
theorem dX3_fencedMatches_19 : decode cX3_fencedMatches 19 = .ok (.goto 4, 3) := by decide +kernel
theorem dX3_fencedMatches_22 : decode cX3_fencedMatches 22 = .ok (.iconst (-1), 1) := by decide +kernel
theorem dX3_fencedMatches_23 : decode cX3_fencedMatches 23 = .ok (.ireturn, 1) := by decide +kernel
theorem dX3_size_0 : decode cX3_size 0 = .ok (.aload_n 0, 1) := by decide +kernel
theorem dX3_size_1 : decode cX3_size 1 = .ok (.getfield 19, 3) := by decide +kernel
theorem dX3_size_4 : decode cX3_size 4 = .ok (.ireturn, 1) := by decide +kernel
theorem dX3_states_0 : decode cX3_states 0 = .ok (.aload_n 0, 1) := by decide +kernel
theorem dX3_states_1 : decode cX3_states 1 = .ok (.getfield 23, 3) := by decide +kernel
theorem dX3_states_4 : decode cX3_states 4 = .ok (.ireturn, 1) := by decide +kernel
theorem dX3_begin_0 : decode cX3_begin 0 = .ok (.aload_n 0, 1) := by decide +kernel
theorem dX3_begin_1 : decode cX3_begin 1 = .ok (.iconst 0, 1) := by decide +kernel
theorem dX3_begin_2 : decode cX3_begin 2 = .ok (.putfield 19, 3) := by decide +kernel
theorem dX3_begin_5 : decode cX3_begin 5 = .ok (.aload_n 0, 1) := by decide +kernel
theorem dX3_begin_6 : decode cX3_begin 6 = .ok (.iload_n 2, 1) := by decide +kernel
theorem dX3_begin_7 : decode cX3_begin 7 = .ok (.putfield 23, 3) := by decide +kernel
theorem dX3_begin_10 : decode cX3_begin 10 = .ok (.aload_n 0, 1) := by decide +kernel
theorem dX3_begin_11 : decode cX3_begin 11 = .ok (.iconst 1, 1) := by decide +kernel
theorem dX3_begin_12 : decode cX3_begin 12 = .ok (.putfield 26, 3) := by decide +kernel
theorem dX3_begin_15 : decode cX3_begin 15 = .ok (.iload_n 1, 1) := by decide +kernel
theorem dX3_begin_16 : decode cX3_begin 16 = .ok (.aload_n 0, 1) := by decide +kernel
theorem dX3_begin_17 : decode cX3_begin 17 = .ok (.getfield 11, 3) := by decide +kernel
theorem dX3_begin_20 : decode cX3_begin 20 = .ok (.arraylength, 1) := by decide +kernel
theorem dX3_begin_21 : decode cX3_begin 21 = .ok (.if_icmp .gt 12, 3) := by decide +kernel
theorem dX3_begin_24 : decode cX3_begin 24 = .ok (.iload_n 1, 1) := by decide +kernel
theorem dX3_begin_25 : decode cX3_begin 25 = .ok (.aload_n 0, 1) := by decide +kernel
theorem dX3_begin_26 : decode cX3_begin 26 = .ok (.getfield 15, 3) := by decide +kernel
theorem dX3_begin_29 : decode cX3_begin 29 = .ok (.arraylength, 1) := by decide +kernel
theorem dX3_begin_30 : decode cX3_begin 30 = .ok (.if_icmp .le 21, 3) := by decide +kernel
theorem dX3_begin_33 : decode cX3_begin 33 = .ok (.aload_n 0, 1) := by decide +kernel
theorem dX3_begin_34 : decode cX3_begin 34 = .ok (.iconst 2, 1) := by decide +kernel
theorem dX3_begin_35 : decode cX3_begin 35 = .ok (.iload_n 1, 1) := by decide +kernel
theorem dX3_begin_36 : decode cX3_begin 36 = .ok (.imul, 1) := by decide +kernel
theorem dX3_begin_37 : decode cX3_begin 37 = .ok (.newarray .int, 2) := by decide +kernel
theorem dX3_begin_39 : decode cX3_begin 39 = .ok (.putfield 11, 3) := by decide +kernel
theorem dX3_begin_42 : decode cX3_begin 42 = .ok (.aload_n 0, 1) := by decide +kernel
theorem dX3_begin_43 : decode cX3_begin 43 = .ok (.iconst 2, 1) := by decide +kernel
theorem dX3_begin_44 : decode cX3_begin 44 = .ok (.iload_n 1, 1) := by decide +kernel
theorem dX3_begin_45 : decode cX3_begin 45 = .ok (.imul, 1) := by decide +kernel
theorem dX3_begin_46 : decode cX3_begin 46 = .ok (.newarray .long, 2) := by decide +kernel
theorem dX3_begin_48 : decode cX3_begin 48 = .ok (.putfield 15, 3) := by decide +kernel
theorem dX3_begin_51 : decode cX3_begin 51 = .ok (.return_, 1) := by decide +kernel
theorem dX3_add_0 : decode cX3_add 0 = .ok (.aload_n 0, 1) := by decide +kernel
theorem dX3_add_1 : decode cX3_add 1 = .ok (.getfield 19, 3) := by decide +kernel
theorem dX3_add_4 : decode cX3_add 4 = .ok (.aload_n 0, 1) := by decide +kernel
theorem dX3_add_5 : decode cX3_add 5 = .ok (.getfield 11, 3) := by decide +kernel
theorem dX3_add_8 : decode cX3_add 8 = .ok (.arraylength, 1) := by decide +kernel
theorem dX3_add_9 : decode cX3_add 9 = .ok (.if_icmp .ge 45, 3) := by decide +kernel
theorem dX3_add_12 : decode cX3_add 12 = .ok (.aload_n 0, 1) := by decide +kernel
theorem dX3_add_13 : decode cX3_add 13 = .ok (.getfield 19, 3) := by decide +kernel
theorem dX3_add_16 : decode cX3_add 16 = .ok (.aload_n 0, 1) := by decide +kernel
theorem dX3_add_17 : decode cX3_add 17 = .ok (.getfield 15, 3) := by decide +kernel
theorem dX3_add_20 : decode cX3_add 20 = .ok (.arraylength, 1) := by decide +kernel
theorem dX3_add_21 : decode cX3_add 21 = .ok (.if_icmp .ge 33, 3) := by decide +kernel
theorem dX3_add_24 : decode cX3_add 24 = .ok (.aload_n 0, 1) := by decide +kernel
theorem dX3_add_25 : decode cX3_add 25 = .ok (.getfield 11, 3) := by decide +kernel
theorem dX3_add_28 : decode cX3_add 28 = .ok (.aload_n 0, 1) := by decide +kernel
theorem dX3_add_29 : decode cX3_add 29 = .ok (.getfield 19, 3) := by decide +kernel
theorem dX3_add_32 : decode cX3_add 32 = .ok (.iload_n 1, 1) := by decide +kernel
theorem dX3_add_33 : decode cX3_add 33 = .ok (.iastore, 1) := by decide +kernel
theorem dX3_add_34 : decode cX3_add 34 = .ok (.aload_n 0, 1) := by decide +kernel
theorem dX3_add_35 : decode cX3_add 35 = .ok (.getfield 15, 3) := by decide +kernel
theorem dX3_add_38 : decode cX3_add 38 = .ok (.aload_n 0, 1) := by decide +kernel
theorem dX3_add_39 : decode cX3_add 39 = .ok (.getfield 19, 3) := by decide +kernel
theorem dX3_add_42 : decode cX3_add 42 = .ok (.lload_n 2, 1) := by decide +kernel
theorem dX3_add_43 : decode cX3_add 43 = .ok (.lastore, 1) := by decide +kernel
theorem dX3_add_44 : decode cX3_add 44 = .ok (.aload_n 0, 1) := by decide +kernel
theorem dX3_add_45 : decode cX3_add 45 = .ok (.dup, 1) := by decide +kernel
theorem dX3_add_46 : decode cX3_add 46 = .ok (.getfield 19, 3) := by decide +kernel
theorem dX3_add_49 : decode cX3_add 49 = .ok (.iconst 1, 1) := by decide +kernel
theorem dX3_add_50 : decode cX3_add 50 = .ok (.iadd, 1) := by decide +kernel
theorem dX3_add_51 : decode cX3_add 51 = .ok (.putfield 19, 3) := by decide +kernel
theorem dX3_add_54 : decode cX3_add 54 = .ok (.return_, 1) := by decide +kernel
theorem dX3_sort_0 : decode cX3_sort 0 = .ok (.aload_n 0, 1) := by decide +kernel
theorem dX3_sort_1 : decode cX3_sort 1 = .ok (.getfield 19, 3) := by decide +kernel
theorem dX3_sort_4 : decode cX3_sort 4 = .ok (.aload_n 0, 1) := by decide +kernel
theorem dX3_sort_5 : decode cX3_sort 5 = .ok (.getfield 11, 3) := by decide +kernel
theorem dX3_sort_8 : decode cX3_sort 8 = .ok (.arraylength, 1) := by decide +kernel
theorem dX3_sort_9 : decode cX3_sort 9 = .ok (.aload_n 0, 1) := by decide +kernel
theorem dX3_sort_10 : decode cX3_sort 10 = .ok (.getfield 15, 3) := by decide +kernel
theorem dX3_sort_13 : decode cX3_sort 13 = .ok (.arraylength, 1) := by decide +kernel
theorem dX3_sort_14 : decode cX3_sort 14 = .ok (.invokestatic 42, 3) := by decide +kernel
theorem dX3_sort_17 : decode cX3_sort 17 = .ok (.invokestatic 42, 3) := by decide +kernel
theorem dX3_sort_20 : decode cX3_sort 20 = .ok (.istore_n 1, 1) := by decide +kernel
theorem dX3_sort_21 : decode cX3_sort 21 = .ok (.iload_n 1, 1) := by decide +kernel
theorem dX3_sort_22 : decode cX3_sort 22 = .ok (.iconst 2, 1) := by decide +kernel
theorem dX3_sort_23 : decode cX3_sort 23 = .ok (.idiv, 1) := by decide +kernel
theorem dX3_sort_24 : decode cX3_sort 24 = .ok (.istore_n 2, 1) := by decide +kernel
theorem dX3_sort_25 : decode cX3_sort 25 = .ok (.iload_n 2, 1) := by decide +kernel
theorem dX3_sort_26 : decode cX3_sort 26 = .ok (.ifCond .le 121, 3) := by decide +kernel
theorem dX3_sort_29 : decode cX3_sort 29 = .ok (.iload_n 2, 1) := by decide +kernel
theorem dX3_sort_30 : decode cX3_sort 30 = .ok (.istore_n 3, 1) := by decide +kernel
theorem dX3_sort_31 : decode cX3_sort 31 = .ok (.iload_n 3, 1) := by decide +kernel
theorem dX3_sort_32 : decode cX3_sort 32 = .ok (.iload_n 1, 1) := by decide +kernel
theorem dX3_sort_33 : decode cX3_sort 33 = .ok (.if_icmp .ge 107, 3) := by decide +kernel
theorem dX3_sort_36 : decode cX3_sort 36 = .ok (.aload_n 0, 1) := by decide +kernel
theorem dX3_sort_37 : decode cX3_sort 37 = .ok (.getfield 11, 3) := by decide +kernel
theorem dX3_sort_40 : decode cX3_sort 40 = .ok (.iload_n 3, 1) := by decide +kernel
theorem dX3_sort_41 : decode cX3_sort 41 = .ok (.iaload, 1) := by decide +kernel
theorem dX3_sort_42 : decode cX3_sort 42 = .ok (.istore 4, 2) := by decide +kernel
theorem dX3_sort_44 : decode cX3_sort 44 = .ok (.aload_n 0, 1) := by decide +kernel
theorem dX3_sort_45 : decode cX3_sort 45 = .ok (.getfield 15, 3) := by decide +kernel
theorem dX3_sort_48 : decode cX3_sort 48 = .ok (.iload_n 3, 1) := by decide +kernel
theorem dX3_sort_49 : decode cX3_sort 49 = .ok (.laload, 1) := by decide +kernel
theorem dX3_sort_50 : decode cX3_sort 50 = .ok (.lstore 5, 2) := by decide +kernel
theorem dX3_sort_52 : decode cX3_sort 52 = .ok (.iload_n 3, 1) := by decide +kernel
theorem dX3_sort_53 : decode cX3_sort 53 = .ok (.istore 7, 2) := by decide +kernel
theorem dX3_sort_55 : decode cX3_sort 55 = .ok (.iload 7, 2) := by decide +kernel
theorem dX3_sort_57 : decode cX3_sort 57 = .ok (.iload_n 2, 1) := by decide +kernel
theorem dX3_sort_58 : decode cX3_sort 58 = .ok (.if_icmp .lt 58, 3) := by decide +kernel
theorem dX3_sort_61 : decode cX3_sort 61 = .ok (.aload_n 0, 1) := by decide +kernel
theorem dX3_sort_62 : decode cX3_sort 62 = .ok (.getfield 11, 3) := by decide +kernel
theorem dX3_sort_65 : decode cX3_sort 65 = .ok (.iload 7, 2) := by decide +kernel
theorem dX3_sort_67 : decode cX3_sort 67 = .ok (.iload_n 2, 1) := by decide +kernel
theorem dX3_sort_68 : decode cX3_sort 68 = .ok (.isub, 1) := by decide +kernel
theorem dX3_sort_69 : decode cX3_sort 69 = .ok (.iaload, 1) := by decide +kernel
theorem dX3_sort_70 : decode cX3_sort 70 = .ok (.iload 4, 2) := by decide +kernel
theorem dX3_sort_72 : decode cX3_sort 72 = .ok (.if_icmp .le 44, 3) := by decide +kernel
theorem dX3_sort_75 : decode cX3_sort 75 = .ok (.aload_n 0, 1) := by decide +kernel
theorem dX3_sort_76 : decode cX3_sort 76 = .ok (.getfield 11, 3) := by decide +kernel
theorem dX3_sort_79 : decode cX3_sort 79 = .ok (.iload 7, 2) := by decide +kernel
theorem dX3_sort_81 : decode cX3_sort 81 = .ok (.aload_n 0, 1) := by decide +kernel
theorem dX3_sort_82 : decode cX3_sort 82 = .ok (.getfield 11, 3) := by decide +kernel
theorem dX3_sort_85 : decode cX3_sort 85 = .ok (.iload 7, 2) := by decide +kernel
theorem dX3_sort_87 : decode cX3_sort 87 = .ok (.iload_n 2, 1) := by decide +kernel
theorem dX3_sort_88 : decode cX3_sort 88 = .ok (.isub, 1) := by decide +kernel
theorem dX3_sort_89 : decode cX3_sort 89 = .ok (.iaload, 1) := by decide +kernel
theorem dX3_sort_90 : decode cX3_sort 90 = .ok (.iastore, 1) := by decide +kernel
theorem dX3_sort_91 : decode cX3_sort 91 = .ok (.aload_n 0, 1) := by decide +kernel
theorem dX3_sort_92 : decode cX3_sort 92 = .ok (.getfield 15, 3) := by decide +kernel
theorem dX3_sort_95 : decode cX3_sort 95 = .ok (.iload 7, 2) := by decide +kernel
theorem dX3_sort_97 : decode cX3_sort 97 = .ok (.aload_n 0, 1) := by decide +kernel
theorem dX3_sort_98 : decode cX3_sort 98 = .ok (.getfield 15, 3) := by decide +kernel
theorem dX3_sort_101 : decode cX3_sort 101 = .ok (.iload 7, 2) := by decide +kernel
theorem dX3_sort_103 : decode cX3_sort 103 = .ok (.iload_n 2, 1) := by decide +kernel
theorem dX3_sort_104 : decode cX3_sort 104 = .ok (.isub, 1) := by decide +kernel
theorem dX3_sort_105 : decode cX3_sort 105 = .ok (.laload, 1) := by decide +kernel
theorem dX3_sort_106 : decode cX3_sort 106 = .ok (.lastore, 1) := by decide +kernel
theorem dX3_sort_107 : decode cX3_sort 107 = .ok (.iload 7, 2) := by decide +kernel
theorem dX3_sort_109 : decode cX3_sort 109 = .ok (.iload_n 2, 1) := by decide +kernel
theorem dX3_sort_110 : decode cX3_sort 110 = .ok (.isub, 1) := by decide +kernel
theorem dX3_sort_111 : decode cX3_sort 111 = .ok (.istore 7, 2) := by decide +kernel
theorem dX3_sort_113 : decode cX3_sort 113 = .ok (.goto (-58), 3) := by decide +kernel
theorem dX3_sort_116 : decode cX3_sort 116 = .ok (.aload_n 0, 1) := by decide +kernel
theorem dX3_sort_117 : decode cX3_sort 117 = .ok (.getfield 11, 3) := by decide +kernel
theorem dX3_sort_120 : decode cX3_sort 120 = .ok (.iload 7, 2) := by decide +kernel
theorem dX3_sort_122 : decode cX3_sort 122 = .ok (.iload 4, 2) := by decide +kernel
theorem dX3_sort_124 : decode cX3_sort 124 = .ok (.iastore, 1) := by decide +kernel
theorem dX3_sort_125 : decode cX3_sort 125 = .ok (.aload_n 0, 1) := by decide +kernel
theorem dX3_sort_126 : decode cX3_sort 126 = .ok (.getfield 15, 3) := by decide +kernel
theorem dX3_sort_129 : decode cX3_sort 129 = .ok (.iload 7, 2) := by decide +kernel
theorem dX3_sort_131 : decode cX3_sort 131 = .ok (.lload 5, 2) := by decide +kernel
theorem dX3_sort_133 : decode cX3_sort 133 = .ok (.lastore, 1) := by decide +kernel
theorem dX3_sort_134 : decode cX3_sort 134 = .ok (.iinc 3 1, 3) := by decide +kernel
theorem dX3_sort_137 : decode cX3_sort 137 = .ok (.goto (-106), 3) := by decide +kernel
theorem dX3_sort_140 : decode cX3_sort 140 = .ok (.iload_n 2, 1) := by decide +kernel
theorem dX3_sort_141 : decode cX3_sort 141 = .ok (.iconst 2, 1) := by decide +kernel
theorem dX3_sort_142 : decode cX3_sort 142 = .ok (.idiv, 1) := by decide +kernel
theorem dX3_sort_143 : decode cX3_sort 143 = .ok (.istore_n 2, 1) := by decide +kernel
theorem dX3_sort_144 : decode cX3_sort 144 = .ok (.goto (-119), 3) := by decide +kernel
theorem dX3_sort_147 : decode cX3_sort 147 = .ok (.return_, 1) := by decide +kernel
theorem dX3_codeAt_0 : decode cX3_codeAt 0 = .ok (.iload_n 1, 1) := by decide +kernel
theorem dX3_codeAt_1 : decode cX3_codeAt 1 = .ok (.ifCond .lt 29, 3) := by decide +kernel
theorem dX3_codeAt_4 : decode cX3_codeAt 4 = .ok (.iload_n 1, 1) := by decide +kernel
theorem dX3_codeAt_5 : decode cX3_codeAt 5 = .ok (.aload_n 0, 1) := by decide +kernel
theorem dX3_codeAt_6 : decode cX3_codeAt 6 = .ok (.getfield 19, 3) := by decide +kernel
theorem dX3_codeAt_9 : decode cX3_codeAt 9 = .ok (.if_icmp .ge 21, 3) := by decide +kernel
theorem dX3_codeAt_12 : decode cX3_codeAt 12 = .ok (.iload_n 1, 1) := by decide +kernel
theorem dX3_codeAt_13 : decode cX3_codeAt 13 = .ok (.aload_n 0, 1) := by decide +kernel
theorem dX3_codeAt_14 : decode cX3_codeAt 14 = .ok (.getfield 11, 3) := by decide +kernel
theorem dX3_codeAt_17 : decode cX3_codeAt 17 = .ok (.arraylength, 1) := by decide +kernel
theorem dX3_codeAt_18 : decode cX3_codeAt 18 = .ok (.if_icmp .ge 12, 3) := by decide +kernel
theorem dX3_codeAt_21 : decode cX3_codeAt 21 = .ok (.aload_n 0, 1) := by decide +kernel
theorem dX3_codeAt_22 : decode cX3_codeAt 22 = .ok (.getfield 11, 3) := by decide +kernel
theorem dX3_codeAt_25 : decode cX3_codeAt 25 = .ok (.iload_n 1, 1) := by decide +kernel
theorem dX3_codeAt_26 : decode cX3_codeAt 26 = .ok (.iaload, 1) := by decide +kernel
theorem dX3_codeAt_27 : decode cX3_codeAt 27 = .ok (.goto 4, 3) := by decide +kernel
theorem dX3_codeAt_30 : decode cX3_codeAt 30 = .ok (.iconst (-1), 1) := by decide +kernel
theorem dX3_codeAt_31 : decode cX3_codeAt 31 = .ok (.ireturn, 1) := by decide +kernel
theorem dX3_executionsAt_0 : decode cX3_executionsAt 0 = .ok (.iload_n 1, 1) := by decide +kernel
theorem dX3_executionsAt_1 : decode cX3_executionsAt 1 = .ok (.ifCond .lt 29, 3) := by decide +kernel
theorem dX3_executionsAt_4 : decode cX3_executionsAt 4 = .ok (.iload_n 1, 1) := by decide +kernel
theorem dX3_executionsAt_5 : decode cX3_executionsAt 5 = .ok (.aload_n 0, 1) := by decide +kernel
theorem dX3_executionsAt_6 : decode cX3_executionsAt 6 = .ok (.getfield 19, 3) := by decide +kernel
theorem dX3_executionsAt_9 : decode cX3_executionsAt 9 = .ok (.if_icmp .ge 21, 3) := by decide +kernel
theorem dX3_executionsAt_12 : decode cX3_executionsAt 12 = .ok (.iload_n 1, 1) := by decide +kernel
theorem dX3_executionsAt_13 : decode cX3_executionsAt 13 = .ok (.aload_n 0, 1) := by decide +kernel
theorem dX3_executionsAt_14 : decode cX3_executionsAt 14 = .ok (.getfield 15, 3) := by decide +kernel
theorem dX3_executionsAt_17 : decode cX3_executionsAt 17 = .ok (.arraylength, 1) := by decide +kernel
theorem dX3_executionsAt_18 : decode cX3_executionsAt 18 = .ok (.if_icmp .ge 12, 3) := by decide +kernel
theorem dX3_executionsAt_21 : decode cX3_executionsAt 21 = .ok (.aload_n 0, 1) := by decide +kernel
theorem dX3_executionsAt_22 : decode cX3_executionsAt 22 = .ok (.getfield 15, 3) := by decide +kernel
theorem dX3_executionsAt_25 : decode cX3_executionsAt 25 = .ok (.iload_n 1, 1) := by decide +kernel
theorem dX3_executionsAt_26 : decode cX3_executionsAt 26 = .ok (.laload, 1) := by decide +kernel
theorem dX3_executionsAt_27 : decode cX3_executionsAt 27 = .ok (.goto 4, 3) := by decide +kernel
theorem dX3_executionsAt_30 : decode cX3_executionsAt 30 = .ok (.lconst 0, 1) := by decide +kernel
theorem dX3_executionsAt_31 : decode cX3_executionsAt 31 = .ok (.lreturn, 1) := by decide +kernel
theorem dX3_placeOf_0 : decode cX3_placeOf 0 = .ok (.iconst 0, 1) := by decide +kernel
theorem dX3_placeOf_1 : decode cX3_placeOf 1 = .ok (.istore_n 2, 1) := by decide +kernel
theorem dX3_placeOf_2 : decode cX3_placeOf 2 = .ok (.aload_n 0, 1) := by decide +kernel
theorem dX3_placeOf_3 : decode cX3_placeOf 3 = .ok (.getfield 19, 3) := by decide +kernel
theorem dX3_placeOf_6 : decode cX3_placeOf 6 = .ok (.iconst 1, 1) := by decide +kernel
theorem dX3_placeOf_7 : decode cX3_placeOf 7 = .ok (.isub, 1) := by decide +kernel
theorem dX3_placeOf_8 : decode cX3_placeOf 8 = .ok (.istore_n 3, 1) := by decide +kernel
theorem dX3_placeOf_9 : decode cX3_placeOf 9 = .ok (.iconst 0, 1) := by decide +kernel
theorem dX3_placeOf_10 : decode cX3_placeOf 10 = .ok (.istore 4, 2) := by decide +kernel
theorem dX3_placeOf_12 : decode cX3_placeOf 12 = .ok (.iload 4, 2) := by decide +kernel
theorem dX3_placeOf_14 : decode cX3_placeOf 14 = .ok (.bipush 32, 2) := by decide +kernel
theorem dX3_placeOf_16 : decode cX3_placeOf 16 = .ok (.if_icmp .ge 57, 3) := by decide +kernel
theorem dX3_placeOf_19 : decode cX3_placeOf 19 = .ok (.iload_n 2, 1) := by decide +kernel
theorem dX3_placeOf_20 : decode cX3_placeOf 20 = .ok (.iload_n 3, 1) := by decide +kernel
theorem dX3_placeOf_21 : decode cX3_placeOf 21 = .ok (.if_icmp .gt 52, 3) := by decide +kernel
theorem dX3_placeOf_24 : decode cX3_placeOf 24 = .ok (.iload_n 2, 1) := by decide +kernel
theorem dX3_placeOf_25 : decode cX3_placeOf 25 = .ok (.iload_n 3, 1) := by decide +kernel
theorem dX3_placeOf_26 : decode cX3_placeOf 26 = .ok (.iadd, 1) := by decide +kernel
theorem dX3_placeOf_27 : decode cX3_placeOf 27 = .ok (.iconst 2, 1) := by decide +kernel
theorem dX3_placeOf_28 : decode cX3_placeOf 28 = .ok (.idiv, 1) := by decide +kernel
theorem dX3_placeOf_29 : decode cX3_placeOf 29 = .ok (.istore 5, 2) := by decide +kernel
theorem dX3_placeOf_31 : decode cX3_placeOf 31 = .ok (.aload_n 0, 1) := by decide +kernel
theorem dX3_placeOf_32 : decode cX3_placeOf 32 = .ok (.iload 5, 2) := by decide +kernel
theorem dX3_placeOf_34 : decode cX3_placeOf 34 = .ok (.invokevirtual 48, 3) := by decide +kernel
theorem dX3_placeOf_37 : decode cX3_placeOf 37 = .ok (.iload_n 1, 1) := by decide +kernel
theorem dX3_placeOf_38 : decode cX3_placeOf 38 = .ok (.if_icmp .ne 6, 3) := by decide +kernel
theorem dX3_placeOf_41 : decode cX3_placeOf 41 = .ok (.iload 5, 2) := by decide +kernel
theorem dX3_placeOf_43 : decode cX3_placeOf 43 = .ok (.ireturn, 1) := by decide +kernel
theorem dX3_placeOf_44 : decode cX3_placeOf 44 = .ok (.aload_n 0, 1) := by decide +kernel
theorem dX3_placeOf_45 : decode cX3_placeOf 45 = .ok (.iload 5, 2) := by decide +kernel
theorem dX3_placeOf_47 : decode cX3_placeOf 47 = .ok (.invokevirtual 48, 3) := by decide +kernel
theorem dX3_placeOf_50 : decode cX3_placeOf 50 = .ok (.iload_n 1, 1) := by decide +kernel
theorem dX3_placeOf_51 : decode cX3_placeOf 51 = .ok (.if_icmp .ge 11, 3) := by decide +kernel
theorem dX3_placeOf_54 : decode cX3_placeOf 54 = .ok (.iload 5, 2) := by decide +kernel
theorem dX3_placeOf_56 : decode cX3_placeOf 56 = .ok (.iconst 1, 1) := by decide +kernel
theorem dX3_placeOf_57 : decode cX3_placeOf 57 = .ok (.iadd, 1) := by decide +kernel
theorem dX3_placeOf_58 : decode cX3_placeOf 58 = .ok (.istore_n 2, 1) := by decide +kernel
theorem dX3_placeOf_59 : decode cX3_placeOf 59 = .ok (.goto 8, 3) := by decide +kernel
theorem dX3_placeOf_62 : decode cX3_placeOf 62 = .ok (.iload 5, 2) := by decide +kernel
theorem dX3_placeOf_64 : decode cX3_placeOf 64 = .ok (.iconst 1, 1) := by decide +kernel
theorem dX3_placeOf_65 : decode cX3_placeOf 65 = .ok (.isub, 1) := by decide +kernel
theorem dX3_placeOf_66 : decode cX3_placeOf 66 = .ok (.istore_n 3, 1) := by decide +kernel
theorem dX3_placeOf_67 : decode cX3_placeOf 67 = .ok (.iinc 4 1, 3) := by decide +kernel
theorem dX3_placeOf_70 : decode cX3_placeOf 70 = .ok (.goto (-58), 3) := by decide +kernel
theorem dX3_placeOf_73 : decode cX3_placeOf 73 = .ok (.iconst (-1), 1) := by decide +kernel
theorem dX3_placeOf_74 : decode cX3_placeOf 74 = .ok (.ireturn, 1) := by decide +kernel
theorem dX3_valuesAt_0 : decode cX3_valuesAt 0 = .ok (.iconst 0, 1) := by decide +kernel
theorem dX3_valuesAt_1 : decode cX3_valuesAt 1 = .ok (.istore_n 2, 1) := by decide +kernel
theorem dX3_valuesAt_2 : decode cX3_valuesAt 2 = .ok (.iconst 0, 1) := by decide +kernel
theorem dX3_valuesAt_3 : decode cX3_valuesAt 3 = .ok (.istore_n 3, 1) := by decide +kernel
theorem dX3_valuesAt_4 : decode cX3_valuesAt 4 = .ok (.iload_n 3, 1) := by decide +kernel
theorem dX3_valuesAt_5 : decode cX3_valuesAt 5 = .ok (.aload_n 0, 1) := by decide +kernel
theorem dX3_valuesAt_6 : decode cX3_valuesAt 6 = .ok (.getfield 19, 3) := by decide +kernel
theorem dX3_valuesAt_9 : decode cX3_valuesAt 9 = .ok (.if_icmp .ge 23, 3) := by decide +kernel
theorem dX3_valuesAt_12 : decode cX3_valuesAt 12 = .ok (.iload_n 2, 1) := by decide +kernel
theorem dX3_valuesAt_13 : decode cX3_valuesAt 13 = .ok (.iconst 1, 1) := by decide +kernel
theorem dX3_valuesAt_14 : decode cX3_valuesAt 14 = .ok (.aload_n 0, 1) := by decide +kernel
theorem dX3_valuesAt_15 : decode cX3_valuesAt 15 = .ok (.iload_n 3, 1) := by decide +kernel
theorem dX3_valuesAt_16 : decode cX3_valuesAt 16 = .ok (.invokevirtual 48, 3) := by decide +kernel
theorem dX3_valuesAt_19 : decode cX3_valuesAt 19 = .ok (.iload_n 1, 1) := by decide +kernel
theorem dX3_valuesAt_20 : decode cX3_valuesAt 20 = .ok (.ishr, 1) := by decide +kernel
theorem dX3_valuesAt_21 : decode cX3_valuesAt 21 = .ok (.iconst 3, 1) := by decide +kernel
theorem dX3_valuesAt_22 : decode cX3_valuesAt 22 = .ok (.iand, 1) := by decide +kernel
theorem dX3_valuesAt_23 : decode cX3_valuesAt 23 = .ok (.ishl, 1) := by decide +kernel
theorem dX3_valuesAt_24 : decode cX3_valuesAt 24 = .ok (.ior, 1) := by decide +kernel
theorem dX3_valuesAt_25 : decode cX3_valuesAt 25 = .ok (.istore_n 2, 1) := by decide +kernel
theorem dX3_valuesAt_26 : decode cX3_valuesAt 26 = .ok (.iinc 3 1, 3) := by decide +kernel
theorem dX3_valuesAt_29 : decode cX3_valuesAt 29 = .ok (.goto (-25), 3) := by decide +kernel
theorem dX3_valuesAt_32 : decode cX3_valuesAt 32 = .ok (.iload_n 2, 1) := by decide +kernel
theorem dX3_valuesAt_33 : decode cX3_valuesAt 33 = .ok (.ireturn, 1) := by decide +kernel
theorem dX4_init_0 : decode cX4_init 0 = .ok (.aload_n 0, 1) := by decide +kernel
theorem dX4_init_1 : decode cX4_init 1 = .ok (.invokespecial 5, 3) := by decide +kernel
theorem dX4_init_4 : decode cX4_init 4 = .ok (.aload_n 0, 1) := by decide +kernel
theorem dX4_init_5 : decode cX4_init 5 = .ok (.bipush 10, 2) := by decide +kernel
theorem dX4_init_7 : decode cX4_init 7 = .ok (.newarray .int, 2) := by decide +kernel
theorem dX4_init_9 : decode cX4_init 9 = .ok (.putfield 11, 3) := by decide +kernel
theorem dX4_init_12 : decode cX4_init 12 = .ok (.aload_n 0, 1) := by decide +kernel
theorem dX4_init_13 : decode cX4_init 13 = .ok (.bipush 10, 2) := by decide +kernel
theorem dX4_init_15 : decode cX4_init 15 = .ok (.newarray .int, 2) := by decide +kernel
theorem dX4_init_17 : decode cX4_init 17 = .ok (.putfield 15, 3) := by decide +kernel
theorem dX4_init_20 : decode cX4_init 20 = .ok (.aload_n 0, 1) := by decide +kernel
theorem dX4_init_21 : decode cX4_init 21 = .ok (.bipush 10, 2) := by decide +kernel
theorem dX4_init_23 : decode cX4_init 23 = .ok (.newarray .int, 2) := by decide +kernel
theorem dX4_init_25 : decode cX4_init 25 = .ok (.putfield 18, 3) := by decide +kernel
theorem dX4_init_28 : decode cX4_init 28 = .ok (.aload_n 0, 1) := by decide +kernel
theorem dX4_init_29 : decode cX4_init 29 = .ok (.bipush 10, 2) := by decide +kernel
theorem dX4_init_31 : decode cX4_init 31 = .ok (.newarray .int, 2) := by decide +kernel
theorem dX4_init_33 : decode cX4_init 33 = .ok (.putfield 21, 3) := by decide +kernel
theorem dX4_init_36 : decode cX4_init 36 = .ok (.aload_n 0, 1) := by decide +kernel
theorem dX4_init_37 : decode cX4_init 37 = .ok (.bipush 10, 2) := by decide +kernel
theorem dX4_init_39 : decode cX4_init 39 = .ok (.newarray .int, 2) := by decide +kernel
theorem dX4_init_41 : decode cX4_init 41 = .ok (.putfield 24, 3) := by decide +kernel
theorem dX4_init_44 : decode cX4_init 44 = .ok (.aload_n 0, 1) := by decide +kernel
theorem dX4_init_45 : decode cX4_init 45 = .ok (.bipush 10, 2) := by decide +kernel
theorem dX4_init_47 : decode cX4_init 47 = .ok (.newarray .int, 2) := by decide +kernel
theorem dX4_init_49 : decode cX4_init 49 = .ok (.putfield 27, 3) := by decide +kernel
theorem dX4_init_52 : decode cX4_init 52 = .ok (.aload_n 0, 1) := by decide +kernel
theorem dX4_init_53 : decode cX4_init 53 = .ok (.iconst 4, 1) := by decide +kernel
theorem dX4_init_54 : decode cX4_init 54 = .ok (.newarray .int, 2) := by decide +kernel
theorem dX4_init_56 : decode cX4_init 56 = .ok (.putfield 30, 3) := by decide +kernel
theorem dX4_init_59 : decode cX4_init 59 = .ok (.aload_n 0, 1) := by decide +kernel
theorem dX4_init_60 : decode cX4_init 60 = .ok (.iconst 4, 1) := by decide +kernel
theorem dX4_init_61 : decode cX4_init 61 = .ok (.newarray .int, 2) := by decide +kernel
theorem dX4_init_63 : decode cX4_init 63 = .ok (.putfield 33, 3) := by decide +kernel
theorem dX4_init_66 : decode cX4_init 66 = .ok (.aload_n 0, 1) := by decide +kernel
theorem dX4_init_67 : decode cX4_init 67 = .ok (.iconst 4, 1) := by decide +kernel
theorem dX4_init_68 : decode cX4_init 68 = .ok (.newarray .int, 2) := by decide +kernel
theorem dX4_init_70 : decode cX4_init 70 = .ok (.putfield 36, 3) := by decide +kernel
theorem dX4_init_73 : decode cX4_init 73 = .ok (.aload_n 0, 1) := by decide +kernel
theorem dX4_init_74 : decode cX4_init 74 = .ok (.iconst 3, 1) := by decide +kernel
theorem dX4_init_75 : decode cX4_init 75 = .ok (.newarray .int, 2) := by decide +kernel
theorem dX4_init_77 : decode cX4_init 77 = .ok (.putfield 39, 3) := by decide +kernel
theorem dX4_init_80 : decode cX4_init 80 = .ok (.aload_n 0, 1) := by decide +kernel
theorem dX4_init_81 : decode cX4_init 81 = .ok (.iconst 0, 1) := by decide +kernel
theorem dX4_init_82 : decode cX4_init 82 = .ok (.putfield 42, 3) := by decide +kernel
theorem dX4_init_85 : decode cX4_init 85 = .ok (.aload_n 0, 1) := by decide +kernel
theorem dX4_init_86 : decode cX4_init 86 = .ok (.iconst 0, 1) := by decide +kernel
theorem dX4_init_87 : decode cX4_init 87 = .ok (.putfield 46, 3) := by decide +kernel
theorem dX4_init_90 : decode cX4_init 90 = .ok (.aload_n 0, 1) := by decide +kernel
theorem dX4_init_91 : decode cX4_init 91 = .ok (.lconst 0, 1) := by decide +kernel
theorem dX4_init_92 : decode cX4_init 92 = .ok (.putfield 49, 3) := by decide +kernel
theorem dX4_init_95 : decode cX4_init 95 = .ok (.aload_n 0, 1) := by decide +kernel
theorem dX4_init_96 : decode cX4_init 96 = .ok (.lconst 0, 1) := by decide +kernel
theorem dX4_init_97 : decode cX4_init 97 = .ok (.putfield 53, 3) := by decide +kernel
theorem dX4_init_100 : decode cX4_init 100 = .ok (.aload_n 0, 1) := by decide +kernel
theorem dX4_init_101 : decode cX4_init 101 = .ok (.aload_n 1, 1) := by decide +kernel
theorem dX4_init_102 : decode cX4_init 102 = .ok (.putfield 56, 3) := by decide +kernel
theorem dX4_init_105 : decode cX4_init 105 = .ok (.return_, 1) := by decide +kernel
theorem dX4_prepare_0 : decode cX4_prepare 0 = .ok (.aload_n 0, 1) := by decide +kernel
theorem dX4_prepare_1 : decode cX4_prepare 1 = .ok (.iload_n 1, 1) := by decide +kernel
theorem dX4_prepare_2 : decode cX4_prepare 2 = .ok (.putfield 42, 3) := by decide +kernel
theorem dX4_prepare_5 : decode cX4_prepare 5 = .ok (.aload_n 0, 1) := by decide +kernel
theorem dX4_prepare_6 : decode cX4_prepare 6 = .ok (.iload_n 2, 1) := by decide +kernel
theorem dX4_prepare_7 : decode cX4_prepare 7 = .ok (.putfield 46, 3) := by decide +kernel
theorem dX4_prepare_10 : decode cX4_prepare 10 = .ok (.aload_n 0, 1) := by decide +kernel
theorem dX4_prepare_11 : decode cX4_prepare 11 = .ok (.invokevirtual 60, 3) := by decide +kernel
theorem dX4_prepare_14 : decode cX4_prepare 14 = .ok (.aload_n 0, 1) := by decide +kernel
theorem dX4_prepare_15 : decode cX4_prepare 15 = .ok (.invokevirtual 63, 3) := by decide +kernel
theorem dX4_prepare_18 : decode cX4_prepare 18 = .ok (.iconst 0, 1) := by decide +kernel
theorem dX4_prepare_19 : decode cX4_prepare 19 = .ok (.istore_n 3, 1) := by decide +kernel
theorem dX4_prepare_20 : decode cX4_prepare 20 = .ok (.iload_n 3, 1) := by decide +kernel
theorem dX4_prepare_21 : decode cX4_prepare 21 = .ok (.aload_n 0, 1) := by decide +kernel
theorem dX4_prepare_22 : decode cX4_prepare 22 = .ok (.getfield 56, 3) := by decide +kernel
theorem dX4_prepare_25 : decode cX4_prepare 25 = .ok (.invokevirtual 66, 3) := by decide +kernel
theorem dX4_prepare_28 : decode cX4_prepare 28 = .ok (.if_icmp .ge 14, 3) := by decide +kernel
theorem dX4_prepare_31 : decode cX4_prepare 31 = .ok (.aload_n 0, 1) := by decide +kernel
theorem dX4_prepare_32 : decode cX4_prepare 32 = .ok (.iload_n 3, 1) := by decide +kernel
theorem dX4_prepare_33 : decode cX4_prepare 33 = .ok (.invokevirtual 72, 3) := by decide +kernel
theorem dX4_prepare_36 : decode cX4_prepare 36 = .ok (.iinc 3 1, 3) := by decide +kernel
theorem dX4_prepare_39 : decode cX4_prepare 39 = .ok (.goto (-19), 3) := by decide +kernel
theorem dX4_prepare_42 : decode cX4_prepare 42 = .ok (.return_, 1) := by decide +kernel
theorem dX4_prepareLocations_0 : decode cX4_prepareLocations 0 = .ok (.aload_n 0, 1) := by decide +kernel
theorem dX4_prepareLocations_1 : decode cX4_prepareLocations 1 = .ok (.lconst 0, 1) := by decide +kernel
theorem dX4_prepareLocations_2 : decode cX4_prepareLocations 2 = .ok (.putfield 49, 3) := by decide +kernel
theorem dX4_prepareLocations_5 : decode cX4_prepareLocations 5 = .ok (.iconst 0, 1) := by decide +kernel
theorem dX4_prepareLocations_6 : decode cX4_prepareLocations 6 = .ok (.istore_n 1, 1) := by decide +kernel
theorem dX4_prepareLocations_7 : decode cX4_prepareLocations 7 = .ok (.iload_n 1, 1) := by decide +kernel
theorem dX4_prepareLocations_8 : decode cX4_prepareLocations 8 = .ok (.aload_n 0, 1) := by decide +kernel
theorem dX4_prepareLocations_9 : decode cX4_prepareLocations 9 = .ok (.getfield 56, 3) := by decide +kernel
theorem dX4_prepareLocations_12 : decode cX4_prepareLocations 12 = .ok (.invokevirtual 76, 3) := by decide +kernel
theorem dX4_prepareLocations_15 : decode cX4_prepareLocations 15 = .ok (.if_icmp .ge 48, 3) := by decide +kernel
theorem dX4_prepareLocations_18 : decode cX4_prepareLocations 18 = .ok (.iload_n 1, 1) := by decide +kernel
theorem dX4_prepareLocations_19 : decode cX4_prepareLocations 19 = .ok (.iconst 3, 1) := by decide +kernel
theorem dX4_prepareLocations_20 : decode cX4_prepareLocations 20 = .ok (.if_icmp .ge 43, 3) := by decide +kernel
theorem dX4_prepareLocations_23 : decode cX4_prepareLocations 23 = .ok (.aload_n 0, 1) := by decide +kernel
theorem dX4_prepareLocations_24 : decode cX4_prepareLocations 24 = .ok (.getfield 39, 3) := by decide +kernel
theorem dX4_prepareLocations_27 : decode cX4_prepareLocations 27 = .ok (.iload_n 1, 1) := by decide +kernel
theorem dX4_prepareLocations_28 : decode cX4_prepareLocations 28 = .ok (.iconst 0, 1) := by decide +kernel
theorem dX4_prepareLocations_29 : decode cX4_prepareLocations 29 = .ok (.iastore, 1) := by decide +kernel
theorem dX4_prepareLocations_30 : decode cX4_prepareLocations 30 = .ok (.aload_n 0, 1) := by decide +kernel
theorem dX4_prepareLocations_31 : decode cX4_prepareLocations 31 = .ok (.dup, 1) := by decide +kernel
theorem dX4_prepareLocations_32 : decode cX4_prepareLocations 32 = .ok (.getfield 49, 3) := by decide +kernel
theorem dX4_prepareLocations_35 : decode cX4_prepareLocations 35 = .ok (.aload_n 0, 1) := by decide +kernel
theorem dX4_prepareLocations_36 : decode cX4_prepareLocations 36 = .ok (.getfield 56, 3) := by decide +kernel
theorem dX4_prepareLocations_39 : decode cX4_prepareLocations 39 = .ok (.iload_n 1, 1) := by decide +kernel
theorem dX4_prepareLocations_40 : decode cX4_prepareLocations 40 = .ok (.invokevirtual 78, 3) := by decide +kernel
theorem dX4_prepareLocations_43 : decode cX4_prepareLocations 43 = .ok (.i2l, 1) := by decide +kernel
theorem dX4_prepareLocations_44 : decode cX4_prepareLocations 44 = .ok (.aload_n 0, 1) := by decide +kernel
theorem dX4_prepareLocations_45 : decode cX4_prepareLocations 45 = .ok (.getfield 56, 3) := by decide +kernel
theorem dX4_prepareLocations_48 : decode cX4_prepareLocations 48 = .ok (.iload_n 1, 1) := by decide +kernel
theorem dX4_prepareLocations_49 : decode cX4_prepareLocations 49 = .ok (.invokevirtual 82, 3) := by decide +kernel
theorem dX4_prepareLocations_52 : decode cX4_prepareLocations 52 = .ok (.lshl, 1) := by decide +kernel
theorem dX4_prepareLocations_53 : decode cX4_prepareLocations 53 = .ok (.lor, 1) := by decide +kernel
theorem dX4_prepareLocations_54 : decode cX4_prepareLocations 54 = .ok (.putfield 49, 3) := by decide +kernel
theorem dX4_prepareLocations_57 : decode cX4_prepareLocations 57 = .ok (.iinc 1 1, 3) := by decide +kernel
theorem dX4_prepareLocations_60 : decode cX4_prepareLocations 60 = .ok (.goto (-53), 3) := by decide +kernel
theorem dX4_prepareLocations_63 : decode cX4_prepareLocations 63 = .ok (.return_, 1) := by decide +kernel
theorem dX4_prepareThreads_0 : decode cX4_prepareThreads 0 = .ok (.aload_n 0, 1) := by decide +kernel
theorem dX4_prepareThreads_1 : decode cX4_prepareThreads 1 = .ok (.lconst 0, 1) := by decide +kernel
theorem dX4_prepareThreads_2 : decode cX4_prepareThreads 2 = .ok (.putfield 53, 3) := by decide +kernel
theorem dX4_prepareThreads_5 : decode cX4_prepareThreads 5 = .ok (.iconst 0, 1) := by decide +kernel
theorem dX4_prepareThreads_6 : decode cX4_prepareThreads 6 = .ok (.istore_n 1, 1) := by decide +kernel
theorem dX4_prepareThreads_7 : decode cX4_prepareThreads 7 = .ok (.iconst 0, 1) := by decide +kernel
theorem dX4_prepareThreads_8 : decode cX4_prepareThreads 8 = .ok (.istore_n 2, 1) := by decide +kernel
theorem dX4_prepareThreads_9 : decode cX4_prepareThreads 9 = .ok (.iload_n 2, 1) := by decide +kernel
theorem dX4_prepareThreads_10 : decode cX4_prepareThreads 10 = .ok (.aload_n 0, 1) := by decide +kernel
theorem dX4_prepareThreads_11 : decode cX4_prepareThreads 11 = .ok (.getfield 56, 3) := by decide +kernel
theorem dX4_prepareThreads_14 : decode cX4_prepareThreads 14 = .ok (.invokevirtual 85, 3) := by decide +kernel
theorem dX4_prepareThreads_17 : decode cX4_prepareThreads 17 = .ok (.if_icmp .ge 72, 3) := by decide +kernel
theorem dX4_prepareThreads_20 : decode cX4_prepareThreads 20 = .ok (.iload_n 2, 1) := by decide +kernel
theorem dX4_prepareThreads_21 : decode cX4_prepareThreads 21 = .ok (.iconst 4, 1) := by decide +kernel
theorem dX4_prepareThreads_22 : decode cX4_prepareThreads 22 = .ok (.if_icmp .ge 67, 3) := by decide +kernel
theorem dX4_prepareThreads_25 : decode cX4_prepareThreads 25 = .ok (.aload_n 0, 1) := by decide +kernel
theorem dX4_prepareThreads_26 : decode cX4_prepareThreads 26 = .ok (.getfield 30, 3) := by decide +kernel
theorem dX4_prepareThreads_29 : decode cX4_prepareThreads 29 = .ok (.iload_n 2, 1) := by decide +kernel
theorem dX4_prepareThreads_30 : decode cX4_prepareThreads 30 = .ok (.iload_n 1, 1) := by decide +kernel
theorem dX4_prepareThreads_31 : decode cX4_prepareThreads 31 = .ok (.iastore, 1) := by decide +kernel
theorem dX4_prepareThreads_32 : decode cX4_prepareThreads 32 = .ok (.aload_n 0, 1) := by decide +kernel
theorem dX4_prepareThreads_33 : decode cX4_prepareThreads 33 = .ok (.getfield 33, 3) := by decide +kernel
theorem dX4_prepareThreads_36 : decode cX4_prepareThreads 36 = .ok (.iload_n 2, 1) := by decide +kernel
theorem dX4_prepareThreads_37 : decode cX4_prepareThreads 37 = .ok (.aload_n 0, 1) := by decide +kernel
theorem dX4_prepareThreads_38 : decode cX4_prepareThreads 38 = .ok (.getfield 56, 3) := by decide +kernel
theorem dX4_prepareThreads_41 : decode cX4_prepareThreads 41 = .ok (.iload_n 2, 1) := by decide +kernel
theorem dX4_prepareThreads_42 : decode cX4_prepareThreads 42 = .ok (.invokevirtual 88, 3) := by decide +kernel
theorem dX4_prepareThreads_45 : decode cX4_prepareThreads 45 = .ok (.iastore, 1) := by decide +kernel
theorem dX4_prepareThreads_46 : decode cX4_prepareThreads 46 = .ok (.aload_n 0, 1) := by decide +kernel
theorem dX4_prepareThreads_47 : decode cX4_prepareThreads 47 = .ok (.getfield 36, 3) := by decide +kernel
theorem dX4_prepareThreads_50 : decode cX4_prepareThreads 50 = .ok (.iload_n 2, 1) := by decide +kernel
theorem dX4_prepareThreads_51 : decode cX4_prepareThreads 51 = .ok (.iconst 0, 1) := by decide +kernel
theorem dX4_prepareThreads_52 : decode cX4_prepareThreads 52 = .ok (.iastore, 1) := by decide +kernel
theorem dX4_prepareThreads_53 : decode cX4_prepareThreads 53 = .ok (.iload_n 1, 1) := by decide +kernel
theorem dX4_prepareThreads_54 : decode cX4_prepareThreads 54 = .ok (.aload_n 0, 1) := by decide +kernel
theorem dX4_prepareThreads_55 : decode cX4_prepareThreads 55 = .ok (.getfield 33, 3) := by decide +kernel
theorem dX4_prepareThreads_58 : decode cX4_prepareThreads 58 = .ok (.iload_n 2, 1) := by decide +kernel
theorem dX4_prepareThreads_59 : decode cX4_prepareThreads 59 = .ok (.iaload, 1) := by decide +kernel
theorem dX4_prepareThreads_60 : decode cX4_prepareThreads 60 = .ok (.iadd, 1) := by decide +kernel
theorem dX4_prepareThreads_61 : decode cX4_prepareThreads 61 = .ok (.istore_n 1, 1) := by decide +kernel
theorem dX4_prepareThreads_62 : decode cX4_prepareThreads 62 = .ok (.aload_n 0, 1) := by decide +kernel
theorem dX4_prepareThreads_63 : decode cX4_prepareThreads 63 = .ok (.dup, 1) := by decide +kernel
theorem dX4_prepareThreads_64 : decode cX4_prepareThreads 64 = .ok (.getfield 53, 3) := by decide +kernel
theorem dX4_prepareThreads_67 : decode cX4_prepareThreads 67 = .ok (.aload_n 0, 1) := by decide +kernel
theorem dX4_prepareThreads_68 : decode cX4_prepareThreads 68 = .ok (.getfield 33, 3) := by decide +kernel
theorem dX4_prepareThreads_71 : decode cX4_prepareThreads 71 = .ok (.iload_n 2, 1) := by decide +kernel
theorem dX4_prepareThreads_72 : decode cX4_prepareThreads 72 = .ok (.iaload, 1) := by decide +kernel
theorem dX4_prepareThreads_73 : decode cX4_prepareThreads 73 = .ok (.i2l, 1) := by decide +kernel
theorem dX4_prepareThreads_74 : decode cX4_prepareThreads 74 = .ok (.iload_n 2, 1) := by decide +kernel
theorem dX4_prepareThreads_75 : decode cX4_prepareThreads 75 = .ok (.invokestatic 91, 3) := by decide +kernel
theorem dX4_prepareThreads_78 : decode cX4_prepareThreads 78 = .ok (.lshl, 1) := by decide +kernel
theorem dX4_prepareThreads_79 : decode cX4_prepareThreads 79 = .ok (.lor, 1) := by decide +kernel
theorem dX4_prepareThreads_80 : decode cX4_prepareThreads 80 = .ok (.putfield 53, 3) := by decide +kernel
theorem dX4_prepareThreads_83 : decode cX4_prepareThreads 83 = .ok (.iinc 2 1, 3) := by decide +kernel
theorem dX4_prepareThreads_86 : decode cX4_prepareThreads 86 = .ok (.goto (-77), 3) := by decide +kernel
theorem dX4_prepareThreads_89 : decode cX4_prepareThreads 89 = .ok (.return_, 1) := by decide +kernel
theorem dX4_prepareInstruction_0 : decode cX4_prepareInstruction 0 = .ok (.iload_n 1, 1) := by decide +kernel
theorem dX4_prepareInstruction_1 : decode cX4_prepareInstruction 1 = .ok (.ifCond .lt 9, 3) := by decide +kernel
theorem dX4_prepareInstruction_4 : decode cX4_prepareInstruction 4 = .ok (.iload_n 1, 1) := by decide +kernel
theorem dX4_prepareInstruction_5 : decode cX4_prepareInstruction 5 = .ok (.bipush 10, 2) := by decide +kernel
theorem dX4_prepareInstruction_7 : decode cX4_prepareInstruction 7 = .ok (.if_icmp .lt 4, 3) := by decide +kernel
theorem dX4_prepareInstruction_10 : decode cX4_prepareInstruction 10 = .ok (.return_, 1) := by decide +kernel
theorem dX4_prepareInstruction_11 : decode cX4_prepareInstruction 11 = .ok (.aload_n 0, 1) := by decide +kernel
theorem dX4_prepareInstruction_12 : decode cX4_prepareInstruction 12 = .ok (.getfield 56, 3) := by decide +kernel
theorem dX4_prepareInstruction_15 : decode cX4_prepareInstruction 15 = .ok (.iload_n 1, 1) := by decide +kernel
theorem dX4_prepareInstruction_16 : decode cX4_prepareInstruction 16 = .ok (.iconst 0, 1) := by decide +kernel
theorem dX4_prepareInstruction_17 : decode cX4_prepareInstruction 17 = .ok (.invokevirtual 94, 3) := by decide +kernel
theorem dX4_prepareInstruction_20 : decode cX4_prepareInstruction 20 = .ok (.istore_n 2, 1) := by decide +kernel
theorem dX4_prepareInstruction_21 : decode cX4_prepareInstruction 21 = .ok (.aload_n 0, 1) := by decide +kernel
theorem dX4_prepareInstruction_22 : decode cX4_prepareInstruction 22 = .ok (.getfield 56, 3) := by decide +kernel
theorem dX4_prepareInstruction_25 : decode cX4_prepareInstruction 25 = .ok (.iload_n 1, 1) := by decide +kernel
theorem dX4_prepareInstruction_26 : decode cX4_prepareInstruction 26 = .ok (.iconst 5, 1) := by decide +kernel
theorem dX4_prepareInstruction_27 : decode cX4_prepareInstruction 27 = .ok (.invokevirtual 94, 3) := by decide +kernel
theorem dX4_prepareInstruction_30 : decode cX4_prepareInstruction 30 = .ok (.istore_n 3, 1) := by decide +kernel
theorem dX4_prepareInstruction_31 : decode cX4_prepareInstruction 31 = .ok (.aload_n 0, 1) := by decide +kernel
theorem dX4_prepareInstruction_32 : decode cX4_prepareInstruction 32 = .ok (.getfield 11, 3) := by decide +kernel
theorem dX4_prepareInstruction_35 : decode cX4_prepareInstruction 35 = .ok (.iload_n 1, 1) := by decide +kernel
theorem dX4_prepareInstruction_36 : decode cX4_prepareInstruction 36 = .ok (.aload_n 0, 1) := by decide +kernel
theorem dX4_prepareInstruction_37 : decode cX4_prepareInstruction 37 = .ok (.getfield 56, 3) := by decide +kernel
theorem dX4_prepareInstruction_40 : decode cX4_prepareInstruction 40 = .ok (.iload_n 1, 1) := by decide +kernel
theorem dX4_prepareInstruction_41 : decode cX4_prepareInstruction 41 = .ok (.iconst 1, 1) := by decide +kernel
theorem dX4_prepareInstruction_42 : decode cX4_prepareInstruction 42 = .ok (.invokevirtual 94, 3) := by decide +kernel
theorem dX4_prepareInstruction_45 : decode cX4_prepareInstruction 45 = .ok (.iastore, 1) := by decide +kernel
theorem dX4_prepareInstruction_46 : decode cX4_prepareInstruction 46 = .ok (.aload_n 0, 1) := by decide +kernel
theorem dX4_prepareInstruction_47 : decode cX4_prepareInstruction 47 = .ok (.getfield 15, 3) := by decide +kernel
theorem dX4_prepareInstruction_50 : decode cX4_prepareInstruction 50 = .ok (.iload_n 1, 1) := by decide +kernel
theorem dX4_prepareInstruction_51 : decode cX4_prepareInstruction 51 = .ok (.aload_n 0, 1) := by decide +kernel
theorem dX4_prepareInstruction_52 : decode cX4_prepareInstruction 52 = .ok (.getfield 56, 3) := by decide +kernel
theorem dX4_prepareInstruction_55 : decode cX4_prepareInstruction 55 = .ok (.iload_n 1, 1) := by decide +kernel
theorem dX4_prepareInstruction_56 : decode cX4_prepareInstruction 56 = .ok (.iconst 2, 1) := by decide +kernel
theorem dX4_prepareInstruction_57 : decode cX4_prepareInstruction 57 = .ok (.invokevirtual 94, 3) := by decide +kernel
theorem dX4_prepareInstruction_60 : decode cX4_prepareInstruction 60 = .ok (.iastore, 1) := by decide +kernel
theorem dX4_prepareInstruction_61 : decode cX4_prepareInstruction 61 = .ok (.aload_n 0, 1) := by decide +kernel
theorem dX4_prepareInstruction_62 : decode cX4_prepareInstruction 62 = .ok (.getfield 27, 3) := by decide +kernel
theorem dX4_prepareInstruction_65 : decode cX4_prepareInstruction 65 = .ok (.iload_n 1, 1) := by decide +kernel
theorem dX4_prepareInstruction_66 : decode cX4_prepareInstruction 66 = .ok (.aload_n 0, 1) := by decide +kernel
theorem dX4_prepareInstruction_67 : decode cX4_prepareInstruction 67 = .ok (.getfield 56, 3) := by decide +kernel
theorem dX4_prepareInstruction_70 : decode cX4_prepareInstruction 70 = .ok (.iload_n 1, 1) := by decide +kernel
theorem dX4_prepareInstruction_71 : decode cX4_prepareInstruction 71 = .ok (.iconst 4, 1) := by decide +kernel
theorem dX4_prepareInstruction_72 : decode cX4_prepareInstruction 72 = .ok (.invokevirtual 94, 3) := by decide +kernel
theorem dX4_prepareInstruction_75 : decode cX4_prepareInstruction 75 = .ok (.iastore, 1) := by decide +kernel
theorem dX4_prepareInstruction_76 : decode cX4_prepareInstruction 76 = .ok (.aload_n 0, 1) := by decide +kernel
theorem dX4_prepareInstruction_77 : decode cX4_prepareInstruction 77 = .ok (.getfield 18, 3) := by decide +kernel
theorem dX4_prepareInstruction_80 : decode cX4_prepareInstruction 80 = .ok (.iload_n 1, 1) := by decide +kernel
theorem dX4_prepareInstruction_81 : decode cX4_prepareInstruction 81 = .ok (.aload_n 0, 1) := by decide +kernel
theorem dX4_prepareInstruction_82 : decode cX4_prepareInstruction 82 = .ok (.getfield 56, 3) := by decide +kernel
theorem dX4_prepareInstruction_85 : decode cX4_prepareInstruction 85 = .ok (.aload_n 0, 1) := by decide +kernel
theorem dX4_prepareInstruction_86 : decode cX4_prepareInstruction 86 = .ok (.getfield 15, 3) := by decide +kernel
theorem dX4_prepareInstruction_89 : decode cX4_prepareInstruction 89 = .ok (.iload_n 1, 1) := by decide +kernel
theorem dX4_prepareInstruction_90 : decode cX4_prepareInstruction 90 = .ok (.iaload, 1) := by decide +kernel
theorem dX4_prepareInstruction_91 : decode cX4_prepareInstruction 91 = .ok (.invokevirtual 82, 3) := by decide +kernel
theorem dX4_prepareInstruction_94 : decode cX4_prepareInstruction 94 = .ok (.iastore, 1) := by decide +kernel
theorem dX4_prepareInstruction_95 : decode cX4_prepareInstruction 95 = .ok (.aload_n 0, 1) := by decide +kernel
theorem dX4_prepareInstruction_96 : decode cX4_prepareInstruction 96 = .ok (.getfield 21, 3) := by decide +kernel
theorem dX4_prepareInstruction_99 : decode cX4_prepareInstruction 99 = .ok (.iload_n 1, 1) := by decide +kernel
theorem dX4_prepareInstruction_100 : decode cX4_prepareInstruction 100 = .ok (.aload_n 0, 1) := by decide +kernel
theorem dX4_prepareInstruction_101 : decode cX4_prepareInstruction 101 = .ok (.getfield 56, 3) := by decide +kernel
theorem dX4_prepareInstruction_104 : decode cX4_prepareInstruction 104 = .ok (.iload_n 2, 1) := by decide +kernel
theorem dX4_prepareInstruction_105 : decode cX4_prepareInstruction 105 = .ok (.aload_n 0, 1) := by decide +kernel
theorem dX4_prepareInstruction_106 : decode cX4_prepareInstruction 106 = .ok (.getfield 56, 3) := by decide +kernel
theorem dX4_prepareInstruction_109 : decode cX4_prepareInstruction 109 = .ok (.iload_n 1, 1) := by decide +kernel
theorem dX4_prepareInstruction_110 : decode cX4_prepareInstruction 110 = .ok (.iconst 3, 1) := by decide +kernel
theorem dX4_prepareInstruction_111 : decode cX4_prepareInstruction 111 = .ok (.invokevirtual 94, 3) := by decide +kernel
theorem dX4_prepareInstruction_114 : decode cX4_prepareInstruction 114 = .ok (.invokevirtual 98, 3) := by decide +kernel
theorem dX4_prepareInstruction_117 : decode cX4_prepareInstruction 117 = .ok (.iastore, 1) := by decide +kernel
theorem dX4_prepareInstruction_118 : decode cX4_prepareInstruction 118 = .ok (.aload_n 0, 1) := by decide +kernel
theorem dX4_prepareInstruction_119 : decode cX4_prepareInstruction 119 = .ok (.getfield 24, 3) := by decide +kernel
theorem dX4_prepareInstruction_122 : decode cX4_prepareInstruction 122 = .ok (.iload_n 1, 1) := by decide +kernel
theorem dX4_prepareInstruction_123 : decode cX4_prepareInstruction 123 = .ok (.iload_n 3, 1) := by decide +kernel
theorem dX4_prepareInstruction_124 : decode cX4_prepareInstruction 124 = .ok (.iconst (-1), 1) := by decide +kernel
theorem dX4_prepareInstruction_125 : decode cX4_prepareInstruction 125 = .ok (.if_icmp .ne 7, 3) := by decide +kernel
theorem dX4_prepareInstruction_128 : decode cX4_prepareInstruction 128 = .ok (.iconst (-1), 1) := by decide +kernel
theorem dX4_prepareInstruction_129 : decode cX4_prepareInstruction 129 = .ok (.goto 12, 3) := by decide +kernel
theorem dX4_prepareInstruction_132 : decode cX4_prepareInstruction 132 = .ok (.aload_n 0, 1) := by decide +kernel
theorem dX4_prepareInstruction_133 : decode cX4_prepareInstruction 133 = .ok (.getfield 56, 3) := by decide +kernel
theorem dX4_prepareInstruction_136 : decode cX4_prepareInstruction 136 = .ok (.iload_n 2, 1) := by decide +kernel
theorem dX4_prepareInstruction_137 : decode cX4_prepareInstruction 137 = .ok (.iload_n 3, 1) := by decide +kernel
theorem dX4_prepareInstruction_138 : decode cX4_prepareInstruction 138 = .ok (.invokevirtual 98, 3) := by decide +kernel
theorem dX4_prepareInstruction_141 : decode cX4_prepareInstruction 141 = .ok (.iastore, 1) := by decide +kernel
theorem dX4_prepareInstruction_142 : decode cX4_prepareInstruction 142 = .ok (.iload_n 2, 1) := by decide +kernel
theorem dX4_prepareInstruction_143 : decode cX4_prepareInstruction 143 = .ok (.ifCond .lt 31, 3) := by decide +kernel
theorem dX4_prepareInstruction_146 : decode cX4_prepareInstruction 146 = .ok (.iload_n 2, 1) := by decide +kernel
theorem dX4_prepareInstruction_147 : decode cX4_prepareInstruction 147 = .ok (.iconst 4, 1) := by decide +kernel
theorem dX4_prepareInstruction_148 : decode cX4_prepareInstruction 148 = .ok (.if_icmp .ge 26, 3) := by decide +kernel
theorem dX4_prepareInstruction_151 : decode cX4_prepareInstruction 151 = .ok (.aload_n 0, 1) := by decide +kernel
theorem dX4_prepareInstruction_152 : decode cX4_prepareInstruction 152 = .ok (.getfield 15, 3) := by decide +kernel
theorem dX4_prepareInstruction_155 : decode cX4_prepareInstruction 155 = .ok (.iload_n 1, 1) := by decide +kernel
theorem dX4_prepareInstruction_156 : decode cX4_prepareInstruction 156 = .ok (.iaload, 1) := by decide +kernel
theorem dX4_prepareInstruction_157 : decode cX4_prepareInstruction 157 = .ok (.ifCond .lt 17, 3) := by decide +kernel
theorem dX4_prepareInstruction_160 : decode cX4_prepareInstruction 160 = .ok (.aload_n 0, 1) := by decide +kernel
theorem dX4_prepareInstruction_161 : decode cX4_prepareInstruction 161 = .ok (.getfield 15, 3) := by decide +kernel
theorem dX4_prepareInstruction_164 : decode cX4_prepareInstruction 164 = .ok (.iload_n 1, 1) := by decide +kernel
theorem dX4_prepareInstruction_165 : decode cX4_prepareInstruction 165 = .ok (.iaload, 1) := by decide +kernel
theorem dX4_prepareInstruction_166 : decode cX4_prepareInstruction 166 = .ok (.iconst 3, 1) := by decide +kernel
theorem dX4_prepareInstruction_167 : decode cX4_prepareInstruction 167 = .ok (.if_icmp .ge 7, 3) := by decide +kernel
theorem dX4_prepareInstruction_170 : decode cX4_prepareInstruction 170 = .ok (.iconst 1, 1) := by decide +kernel
theorem dX4_prepareInstruction_171 : decode cX4_prepareInstruction 171 = .ok (.goto 4, 3) := by decide +kernel
theorem dX4_prepareInstruction_174 : decode cX4_prepareInstruction 174 = .ok (.iconst 0, 1) := by decide +kernel
theorem dX4_prepareInstruction_175 : decode cX4_prepareInstruction 175 = .ok (.istore 4, 2) := by decide +kernel
theorem dX4_prepareInstruction_177 : decode cX4_prepareInstruction 177 = .ok (.aload_n 0, 1) := by decide +kernel
theorem dX4_prepareInstruction_178 : decode cX4_prepareInstruction 178 = .ok (.getfield 11, 3) := by decide +kernel
theorem dX4_prepareInstruction_181 : decode cX4_prepareInstruction 181 = .ok (.iload_n 1, 1) := by decide +kernel
theorem dX4_prepareInstruction_182 : decode cX4_prepareInstruction 182 = .ok (.iaload, 1) := by decide +kernel
theorem dX4_prepareInstruction_183 : decode cX4_prepareInstruction 183 = .ok (.ifCond .ne 37, 3) := by decide +kernel
theorem dX4_prepareInstruction_186 : decode cX4_prepareInstruction 186 = .ok (.iload 4, 2) := by decide +kernel
theorem dX4_prepareInstruction_188 : decode cX4_prepareInstruction 188 = .ok (.ifCond .eq 32, 3) := by decide +kernel
theorem dX4_prepareInstruction_191 : decode cX4_prepareInstruction 191 = .ok (.aload_n 0, 1) := by decide +kernel
theorem dX4_prepareInstruction_192 : decode cX4_prepareInstruction 192 = .ok (.getfield 36, 3) := by decide +kernel
theorem dX4_prepareInstruction_195 : decode cX4_prepareInstruction 195 = .ok (.iload_n 2, 1) := by decide +kernel
theorem dX4_prepareInstruction_196 : decode cX4_prepareInstruction 196 = .ok (.dup2, 1) := by decide +kernel
theorem dX4_prepareInstruction_197 : decode cX4_prepareInstruction 197 = .ok (.iaload, 1) := by decide +kernel
theorem dX4_prepareInstruction_198 : decode cX4_prepareInstruction 198 = .ok (.iconst 1, 1) := by decide +kernel
theorem dX4_prepareInstruction_199 : decode cX4_prepareInstruction 199 = .ok (.iload_n 1, 1) := by decide +kernel
theorem dX4_prepareInstruction_200 : decode cX4_prepareInstruction 200 = .ok (.ishl, 1) := by decide +kernel
theorem dX4_prepareInstruction_201 : decode cX4_prepareInstruction 201 = .ok (.ior, 1) := by decide +kernel
theorem dX4_prepareInstruction_202 : decode cX4_prepareInstruction 202 = .ok (.iastore, 1) := by decide +kernel
theorem dX4_prepareInstruction_203 : decode cX4_prepareInstruction 203 = .ok (.aload_n 0, 1) := by decide +kernel
theorem dX4_prepareInstruction_204 : decode cX4_prepareInstruction 204 = .ok (.getfield 39, 3) := by decide +kernel
theorem dX4_prepareInstruction_207 : decode cX4_prepareInstruction 207 = .ok (.aload_n 0, 1) := by decide +kernel
theorem dX4_prepareInstruction_208 : decode cX4_prepareInstruction 208 = .ok (.getfield 15, 3) := by decide +kernel
theorem dX4_prepareInstruction_211 : decode cX4_prepareInstruction 211 = .ok (.iload_n 1, 1) := by decide +kernel
theorem dX4_prepareInstruction_212 : decode cX4_prepareInstruction 212 = .ok (.iaload, 1) := by decide +kernel
theorem dX4_prepareInstruction_213 : decode cX4_prepareInstruction 213 = .ok (.dup2, 1) := by decide +kernel
theorem dX4_prepareInstruction_214 : decode cX4_prepareInstruction 214 = .ok (.iaload, 1) := by decide +kernel
theorem dX4_prepareInstruction_215 : decode cX4_prepareInstruction 215 = .ok (.iconst 1, 1) := by decide +kernel
theorem dX4_prepareInstruction_216 : decode cX4_prepareInstruction 216 = .ok (.iload_n 1, 1) := by decide +kernel
theorem dX4_prepareInstruction_217 : decode cX4_prepareInstruction 217 = .ok (.ishl, 1) := by decide +kernel
theorem dX4_prepareInstruction_218 : decode cX4_prepareInstruction 218 = .ok (.ior, 1) := by decide +kernel
theorem dX4_prepareInstruction_219 : decode cX4_prepareInstruction 219 = .ok (.iastore, 1) := by decide +kernel
theorem dX4_prepareInstruction_220 : decode cX4_prepareInstruction 220 = .ok (.return_, 1) := by decide +kernel
theorem dX4_positionShift_0 : decode cX4_positionShift 0 = .ok (.bipush 32, 2) := by decide +kernel
theorem dX4_positionShift_2 : decode cX4_positionShift 2 = .ok (.iconst 3, 1) := by decide +kernel
theorem dX4_positionShift_3 : decode cX4_positionShift 3 = .ok (.iload_n 0, 1) := by decide +kernel
theorem dX4_positionShift_4 : decode cX4_positionShift 4 = .ok (.imul, 1) := by decide +kernel
theorem dX4_positionShift_5 : decode cX4_positionShift 5 = .ok (.iadd, 1) := by decide +kernel
theorem dX4_positionShift_6 : decode cX4_positionShift 6 = .ok (.ireturn, 1) := by decide +kernel
theorem dX4_start_0 : decode cX4_start 0 = .ok (.aload_n 0, 1) := by decide +kernel
theorem dX4_start_1 : decode cX4_start 1 = .ok (.getfield 49, 3) := by decide +kernel
theorem dX4_start_4 : decode cX4_start 4 = .ok (.lreturn, 1) := by decide +kernel
theorem dX4_threads_0 : decode cX4_threads 0 = .ok (.aload_n 0, 1) := by decide +kernel
theorem dX4_threads_1 : decode cX4_threads 1 = .ok (.getfield 56, 3) := by decide +kernel
theorem dX4_threads_4 : decode cX4_threads 4 = .ok (.invokevirtual 85, 3) := by decide +kernel
theorem dX4_threads_7 : decode cX4_threads 7 = .ok (.ireturn, 1) := by decide +kernel
theorem dX4_isUnbuffered_0 : decode cX4_isUnbuffered 0 = .ok (.aload_n 0, 1) := by decide +kernel
theorem dX4_isUnbuffered_1 : decode cX4_isUnbuffered 1 = .ok (.getfield 42, 3) := by decide +kernel
theorem dX4_isUnbuffered_4 : decode cX4_isUnbuffered 4 = .ok (.ifCond .ne 7, 3) := by decide +kernel
theorem dX4_isUnbuffered_7 : decode cX4_isUnbuffered 7 = .ok (.iconst 1, 1) := by decide +kernel
theorem dX4_isUnbuffered_8 : decode cX4_isUnbuffered 8 = .ok (.goto 4, 3) := by decide +kernel
theorem dX4_isUnbuffered_11 : decode cX4_isUnbuffered 11 = .ok (.iconst 0, 1) := by decide +kernel
theorem dX4_isUnbuffered_12 : decode cX4_isUnbuffered 12 = .ok (.ireturn, 1) := by decide +kernel
theorem dX4_isFinal_0 : decode cX4_isFinal 0 = .ok (.lload_n 1, 1) := by decide +kernel
theorem dX4_isFinal_1 : decode cX4_isFinal 1 = .ok (.bipush 22, 2) := by decide +kernel
theorem dX4_isFinal_3 : decode cX4_isFinal 3 = .ok (.lshr, 1) := by decide +kernel
theorem dX4_isFinal_4 : decode cX4_isFinal 4 = .ok (.aload_n 0, 1) := by decide +kernel
theorem dX4_isFinal_5 : decode cX4_isFinal 5 = .ok (.getfield 53, 3) := by decide +kernel
theorem dX4_isFinal_8 : decode cX4_isFinal 8 = .ok (.bipush 22, 2) := by decide +kernel
theorem dX4_isFinal_10 : decode cX4_isFinal 10 = .ok (.lshr, 1) := by decide +kernel
theorem dX4_isFinal_11 : decode cX4_isFinal 11 = .ok (.lcmp, 1) := by decide +kernel
theorem dX4_isFinal_12 : decode cX4_isFinal 12 = .ok (.ifCond .ne 7, 3) := by decide +kernel
theorem dX4_isFinal_15 : decode cX4_isFinal 15 = .ok (.iconst 1, 1) := by decide +kernel
theorem dX4_isFinal_16 : decode cX4_isFinal 16 = .ok (.goto 4, 3) := by decide +kernel
theorem dX4_isFinal_19 : decode cX4_isFinal 19 = .ok (.iconst 0, 1) := by decide +kernel
theorem dX4_isFinal_20 : decode cX4_isFinal 20 = .ok (.ireturn, 1) := by decide +kernel
theorem dX4_codeOf_0 : decode cX4_codeOf 0 = .ok (.lload_n 0, 1) := by decide +kernel
theorem dX4_codeOf_1 : decode cX4_codeOf 1 = .ok (.l2i, 1) := by decide +kernel
theorem dX4_codeOf_2 : decode cX4_codeOf 2 = .ok (.ldc 101, 2) := by decide +kernel
theorem dX4_codeOf_4 : decode cX4_codeOf 4 = .ok (.iand, 1) := by decide +kernel
theorem dX4_codeOf_5 : decode cX4_codeOf 5 = .ok (.ireturn, 1) := by decide +kernel
theorem dX4_waitingOf_0 : decode cX4_waitingOf 0 = .ok (.iload_n 3, 1) := by decide +kernel
theorem dX4_waitingOf_1 : decode cX4_waitingOf 1 = .ok (.ifCond .lt 12, 3) := by decide +kernel
theorem dX4_waitingOf_4 : decode cX4_waitingOf 4 = .ok (.iload_n 3, 1) := by decide +kernel
theorem dX4_waitingOf_5 : decode cX4_waitingOf 5 = .ok (.iconst 4, 1) := by decide +kernel
theorem dX4_waitingOf_6 : decode cX4_waitingOf 6 = .ok (.if_icmp .ge 7, 3) := by decide +kernel
theorem dX4_waitingOf_9 : decode cX4_waitingOf 9 = .ok (.iconst 1, 1) := by decide +kernel
theorem dX4_waitingOf_10 : decode cX4_waitingOf 10 = .ok (.goto 4, 3) := by decide +kernel
theorem dX4_waitingOf_13 : decode cX4_waitingOf 13 = .ok (.iconst 0, 1) := by decide +kernel
theorem dX4_waitingOf_14 : decode cX4_waitingOf 14 = .ok (.istore 4, 2) := by decide +kernel
theorem dX4_waitingOf_16 : decode cX4_waitingOf 16 = .ok (.iload 4, 2) := by decide +kernel
theorem dX4_waitingOf_18 : decode cX4_waitingOf 18 = .ok (.ifCond .eq 18, 3) := by decide +kernel
theorem dX4_waitingOf_21 : decode cX4_waitingOf 21 = .ok (.lload_n 1, 1) := by decide +kernel
theorem dX4_waitingOf_22 : decode cX4_waitingOf 22 = .ok (.bipush 22, 2) := by decide +kernel
theorem dX4_waitingOf_24 : decode cX4_waitingOf 24 = .ok (.lshr, 1) := by decide +kernel
theorem dX4_waitingOf_25 : decode cX4_waitingOf 25 = .ok (.l2i, 1) := by decide +kernel
theorem dX4_waitingOf_26 : decode cX4_waitingOf 26 = .ok (.aload_n 0, 1) := by decide +kernel
theorem dX4_waitingOf_27 : decode cX4_waitingOf 27 = .ok (.getfield 36, 3) := by decide +kernel
theorem dX4_waitingOf_30 : decode cX4_waitingOf 30 = .ok (.iload_n 3, 1) := by decide +kernel
theorem dX4_waitingOf_31 : decode cX4_waitingOf 31 = .ok (.iaload, 1) := by decide +kernel
theorem dX4_waitingOf_32 : decode cX4_waitingOf 32 = .ok (.iand, 1) := by decide +kernel
theorem dX4_waitingOf_33 : decode cX4_waitingOf 33 = .ok (.goto 4, 3) := by decide +kernel
theorem dX4_waitingOf_36 : decode cX4_waitingOf 36 = .ok (.iconst 0, 1) := by decide +kernel
theorem dX4_waitingOf_37 : decode cX4_waitingOf 37 = .ok (.ireturn, 1) := by decide +kernel
theorem dX4_waitingFor_0 : decode cX4_waitingFor 0 = .ok (.iload 4, 2) := by decide +kernel
theorem dX4_waitingFor_2 : decode cX4_waitingFor 2 = .ok (.ifCond .lt 13, 3) := by decide +kernel
theorem dX4_waitingFor_5 : decode cX4_waitingFor 5 = .ok (.iload 4, 2) := by decide +kernel
theorem dX4_waitingFor_7 : decode cX4_waitingFor 7 = .ok (.iconst 3, 1) := by decide +kernel
theorem dX4_waitingFor_8 : decode cX4_waitingFor 8 = .ok (.if_icmp .ge 7, 3) := by decide +kernel
theorem dX4_waitingFor_11 : decode cX4_waitingFor 11 = .ok (.iconst 1, 1) := by decide +kernel
theorem dX4_waitingFor_12 : decode cX4_waitingFor 12 = .ok (.goto 4, 3) := by decide +kernel
theorem dX4_waitingFor_15 : decode cX4_waitingFor 15 = .ok (.iconst 0, 1) := by decide +kernel
theorem dX4_waitingFor_16 : decode cX4_waitingFor 16 = .ok (.istore 5, 2) := by decide +kernel
theorem dX4_waitingFor_18 : decode cX4_waitingFor 18 = .ok (.iload 5, 2) := by decide +kernel
theorem dX4_waitingFor_20 : decode cX4_waitingFor 20 = .ok (.ifCond .eq 20, 3) := by decide +kernel
theorem dX4_waitingFor_23 : decode cX4_waitingFor 23 = .ok (.aload_n 0, 1) := by decide +kernel
theorem dX4_waitingFor_24 : decode cX4_waitingFor 24 = .ok (.lload_n 1, 1) := by decide +kernel
theorem dX4_waitingFor_25 : decode cX4_waitingFor 25 = .ok (.iload_n 3, 1) := by decide +kernel
theorem dX4_waitingFor_26 : decode cX4_waitingFor 26 = .ok (.invokevirtual 102, 3) := by decide +kernel
theorem dX4_waitingFor_29 : decode cX4_waitingFor 29 = .ok (.aload_n 0, 1) := by decide +kernel
theorem dX4_waitingFor_30 : decode cX4_waitingFor 30 = .ok (.getfield 39, 3) := by decide +kernel
theorem dX4_waitingFor_33 : decode cX4_waitingFor 33 = .ok (.iload 4, 2) := by decide +kernel
theorem dX4_waitingFor_35 : decode cX4_waitingFor 35 = .ok (.iaload, 1) := by decide +kernel
theorem dX4_waitingFor_36 : decode cX4_waitingFor 36 = .ok (.iand, 1) := by decide +kernel
theorem dX4_waitingFor_37 : decode cX4_waitingFor 37 = .ok (.goto 4, 3) := by decide +kernel
theorem dX4_waitingFor_40 : decode cX4_waitingFor 40 = .ok (.iconst 0, 1) := by decide +kernel
theorem dX4_waitingFor_41 : decode cX4_waitingFor 41 = .ok (.ireturn, 1) := by decide +kernel
theorem dX4_next_0 : decode cX4_next 0 = .ok (.iload_n 3, 1) := by decide +kernel
theorem dX4_next_1 : decode cX4_next 1 = .ok (.ifCond .lt 8, 3) := by decide +kernel
theorem dX4_next_4 : decode cX4_next 4 = .ok (.iload_n 3, 1) := by decide +kernel
theorem dX4_next_5 : decode cX4_next 5 = .ok (.iconst 4, 1) := by decide +kernel
theorem dX4_next_6 : decode cX4_next 6 = .ok (.if_icmp .lt 5, 3) := by decide +kernel
theorem dX4_next_9 : decode cX4_next 9 = .ok (.iconst (-1), 1) := by decide +kernel
theorem dX4_next_10 : decode cX4_next 10 = .ok (.ireturn, 1) := by decide +kernel
theorem dX4_next_11 : decode cX4_next 11 = .ok (.lload_n 1, 1) := by decide +kernel
theorem dX4_next_12 : decode cX4_next 12 = .ok (.iload_n 3, 1) := by decide +kernel
theorem dX4_next_13 : decode cX4_next 13 = .ok (.invokestatic 91, 3) := by decide +kernel
theorem dX4_next_16 : decode cX4_next 16 = .ok (.lshr, 1) := by decide +kernel
theorem dX4_next_17 : decode cX4_next 17 = .ok (.l2i, 1) := by decide +kernel
theorem dX4_next_18 : decode cX4_next 18 = .ok (.bipush 7, 2) := by decide +kernel
theorem dX4_next_20 : decode cX4_next 20 = .ok (.iand, 1) := by decide +kernel
theorem dX4_next_21 : decode cX4_next 21 = .ok (.istore 4, 2) := by decide +kernel
theorem dX4_next_23 : decode cX4_next 23 = .ok (.iload 4, 2) := by decide +kernel
theorem dX4_next_25 : decode cX4_next 25 = .ok (.aload_n 0, 1) := by decide +kernel
theorem dX4_next_26 : decode cX4_next 26 = .ok (.getfield 33, 3) := by decide +kernel
theorem dX4_next_29 : decode cX4_next 29 = .ok (.iload_n 3, 1) := by decide +kernel
theorem dX4_next_30 : decode cX4_next 30 = .ok (.iaload, 1) := by decide +kernel
theorem dX4_next_31 : decode cX4_next 31 = .ok (.if_icmp .ge 15, 3) := by decide +kernel
theorem dX4_next_34 : decode cX4_next 34 = .ok (.aload_n 0, 1) := by decide +kernel
theorem dX4_next_35 : decode cX4_next 35 = .ok (.getfield 30, 3) := by decide +kernel
theorem dX4_next_38 : decode cX4_next 38 = .ok (.iload_n 3, 1) := by decide +kernel
theorem dX4_next_39 : decode cX4_next 39 = .ok (.iaload, 1) := by decide +kernel
theorem dX4_next_40 : decode cX4_next 40 = .ok (.iload 4, 2) := by decide +kernel
theorem dX4_next_42 : decode cX4_next 42 = .ok (.iadd, 1) := by decide +kernel
theorem dX4_next_43 : decode cX4_next 43 = .ok (.goto 4, 3) := by decide +kernel
theorem dX4_next_46 : decode cX4_next 46 = .ok (.iconst (-1), 1) := by decide +kernel
theorem dX4_next_47 : decode cX4_next 47 = .ok (.ireturn, 1) := by decide +kernel
theorem dX4_committed_0 : decode cX4_committed 0 = .ok (.aload_n 0, 1) := by decide +kernel
theorem dX4_committed_1 : decode cX4_committed 1 = .ok (.lload_n 1, 1) := by decide +kernel
theorem dX4_committed_2 : decode cX4_committed 2 = .ok (.iload_n 3, 1) := by decide +kernel
theorem dX4_committed_3 : decode cX4_committed 3 = .ok (.iload 4, 2) := by decide +kernel
theorem dX4_committed_5 : decode cX4_committed 5 = .ok (.invokevirtual 106, 3) := by decide +kernel
theorem dX4_committed_8 : decode cX4_committed 8 = .ok (.istore 5, 2) := by decide +kernel
theorem dX4_committed_10 : decode cX4_committed 10 = .ok (.iload 5, 2) := by decide +kernel
theorem dX4_committed_12 : decode cX4_committed 12 = .ok (.iload 5, 2) := by decide +kernel
theorem dX4_committed_14 : decode cX4_committed 14 = .ok (.ineg, 1) := by decide +kernel
theorem dX4_committed_15 : decode cX4_committed 15 = .ok (.iand, 1) := by decide +kernel
theorem dX4_committed_16 : decode cX4_committed 16 = .ok (.istore 6, 2) := by decide +kernel
theorem dX4_committed_18 : decode cX4_committed 18 = .ok (.aload_n 0, 1) := by decide +kernel
theorem dX4_committed_19 : decode cX4_committed 19 = .ok (.lload_n 1, 1) := by decide +kernel
theorem dX4_committed_20 : decode cX4_committed 20 = .ok (.iload_n 3, 1) := by decide +kernel
theorem dX4_committed_21 : decode cX4_committed 21 = .ok (.invokevirtual 102, 3) := by decide +kernel
theorem dX4_committed_24 : decode cX4_committed 24 = .ok (.istore 7, 2) := by decide +kernel
theorem dX4_committed_26 : decode cX4_committed 26 = .ok (.aload_n 0, 1) := by decide +kernel
theorem dX4_committed_27 : decode cX4_committed 27 = .ok (.getfield 42, 3) := by decide +kernel
theorem dX4_committed_30 : decode cX4_committed 30 = .ok (.iconst 1, 1) := by decide +kernel
theorem dX4_committed_31 : decode cX4_committed 31 = .ok (.if_icmp .ne 14, 3) := by decide +kernel
theorem dX4_committed_34 : decode cX4_committed 34 = .ok (.iload 6, 2) := by decide +kernel
theorem dX4_committed_36 : decode cX4_committed 36 = .ok (.iload 7, 2) := by decide +kernel
theorem dX4_committed_38 : decode cX4_committed 38 = .ok (.iload 7, 2) := by decide +kernel
theorem dX4_committed_40 : decode cX4_committed 40 = .ok (.ineg, 1) := by decide +kernel
theorem dX4_committed_41 : decode cX4_committed 41 = .ok (.iand, 1) := by decide +kernel
theorem dX4_committed_42 : decode cX4_committed 42 = .ok (.if_icmp .ne 7, 3) := by decide +kernel
theorem dX4_committed_45 : decode cX4_committed 45 = .ok (.iconst 1, 1) := by decide +kernel
theorem dX4_committed_46 : decode cX4_committed 46 = .ok (.goto 4, 3) := by decide +kernel
theorem dX4_committed_49 : decode cX4_committed 49 = .ok (.iconst 0, 1) := by decide +kernel
theorem dX4_committed_50 : decode cX4_committed 50 = .ok (.istore 8, 2) := by decide +kernel
theorem dX4_committed_52 : decode cX4_committed 52 = .ok (.iload 6, 2) := by decide +kernel
theorem dX4_committed_54 : decode cX4_committed 54 = .ok (.ifCond .eq 18, 3) := by decide +kernel
theorem dX4_committed_57 : decode cX4_committed 57 = .ok (.iload 8, 2) := by decide +kernel
theorem dX4_committed_59 : decode cX4_committed 59 = .ok (.ifCond .eq 13, 3) := by decide +kernel
theorem dX4_committed_62 : decode cX4_committed 62 = .ok (.iload 6, 2) := by decide +kernel
theorem dX4_committed_64 : decode cX4_committed 64 = .ok (.iconst 1, 1) := by decide +kernel
theorem dX4_committed_65 : decode cX4_committed 65 = .ok (.isub, 1) := by decide +kernel
theorem dX4_committed_66 : decode cX4_committed 66 = .ok (.invokestatic 110, 3) := by decide +kernel
theorem dX4_committed_69 : decode cX4_committed 69 = .ok (.goto 4, 3) := by decide +kernel
theorem dX4_committed_72 : decode cX4_committed 72 = .ok (.iconst (-1), 1) := by decide +kernel
theorem dX4_committed_73 : decode cX4_committed 73 = .ok (.ireturn, 1) := by decide +kernel
theorem dX4_forwarding_0 : decode cX4_forwarding 0 = .ok (.aload_n 0, 1) := by decide +kernel
theorem dX4_forwarding_1 : decode cX4_forwarding 1 = .ok (.lload_n 1, 1) := by decide +kernel
theorem dX4_forwarding_2 : decode cX4_forwarding 2 = .ok (.iload_n 3, 1) := by decide +kernel
theorem dX4_forwarding_3 : decode cX4_forwarding 3 = .ok (.iload 4, 2) := by decide +kernel
theorem dX4_forwarding_5 : decode cX4_forwarding 5 = .ok (.invokevirtual 106, 3) := by decide +kernel
theorem dX4_forwarding_8 : decode cX4_forwarding 8 = .ok (.istore 5, 2) := by decide +kernel
theorem dX4_forwarding_10 : decode cX4_forwarding 10 = .ok (.bipush 9, 2) := by decide +kernel
theorem dX4_forwarding_12 : decode cX4_forwarding 12 = .ok (.istore 6, 2) := by decide +kernel
theorem dX4_forwarding_14 : decode cX4_forwarding 14 = .ok (.iload 6, 2) := by decide +kernel
theorem dX4_forwarding_16 : decode cX4_forwarding 16 = .ok (.ifCond .lt 22, 3) := by decide +kernel
theorem dX4_forwarding_19 : decode cX4_forwarding 19 = .ok (.iload 5, 2) := by decide +kernel
theorem dX4_forwarding_21 : decode cX4_forwarding 21 = .ok (.iload 6, 2) := by decide +kernel
theorem dX4_forwarding_23 : decode cX4_forwarding 23 = .ok (.ishr, 1) := by decide +kernel
theorem dX4_forwarding_24 : decode cX4_forwarding 24 = .ok (.iconst 1, 1) := by decide +kernel
theorem dX4_forwarding_25 : decode cX4_forwarding 25 = .ok (.iand, 1) := by decide +kernel
theorem dX4_forwarding_26 : decode cX4_forwarding 26 = .ok (.ifCond .eq 6, 3) := by decide +kernel
theorem dX4_forwarding_29 : decode cX4_forwarding 29 = .ok (.iload 6, 2) := by decide +kernel
theorem dX4_forwarding_31 : decode cX4_forwarding 31 = .ok (.ireturn, 1) := by decide +kernel
theorem dX4_forwarding_32 : decode cX4_forwarding 32 = .ok (.iinc 6 (-1), 3) := by decide +kernel
theorem dX4_forwarding_35 : decode cX4_forwarding 35 = .ok (.goto (-21), 3) := by decide +kernel
theorem dX4_forwarding_38 : decode cX4_forwarding 38 = .ok (.iconst (-1), 1) := by decide +kernel
theorem dX4_forwarding_39 : decode cX4_forwarding 39 = .ok (.ireturn, 1) := by decide +kernel
theorem dX4_parts_0 : decode cX4_parts 0 = .ok (.aload_n 0, 1) := by decide +kernel
theorem dX4_parts_1 : decode cX4_parts 1 = .ok (.lload_n 1, 1) := by decide +kernel
theorem dX4_parts_2 : decode cX4_parts 2 = .ok (.iload_n 3, 1) := by decide +kernel
theorem dX4_parts_3 : decode cX4_parts 3 = .ok (.invokevirtual 102, 3) := by decide +kernel
theorem dX4_parts_6 : decode cX4_parts 6 = .ok (.ifCond .ne 7, 3) := by decide +kernel
theorem dX4_parts_9 : decode cX4_parts 9 = .ok (.iconst 1, 1) := by decide +kernel
theorem dX4_parts_10 : decode cX4_parts 10 = .ok (.goto 12, 3) := by decide +kernel
theorem dX4_parts_13 : decode cX4_parts 13 = .ok (.iconst 1, 1) := by decide +kernel
theorem dX4_parts_14 : decode cX4_parts 14 = .ok (.aload_n 0, 1) := by decide +kernel
theorem dX4_parts_15 : decode cX4_parts 15 = .ok (.getfield 56, 3) := by decide +kernel
theorem dX4_parts_18 : decode cX4_parts 18 = .ok (.invokevirtual 76, 3) := by decide +kernel
theorem dX4_parts_21 : decode cX4_parts 21 = .ok (.iadd, 1) := by decide +kernel
theorem dX4_parts_22 : decode cX4_parts 22 = .ok (.ireturn, 1) := by decide +kernel
theorem dX4_after_0 : decode cX4_after 0 = .ok (.iload 4, 2) := by decide +kernel
theorem dX4_after_2 : decode cX4_after 2 = .ok (.ifCond .ne 12, 3) := by decide +kernel
theorem dX4_after_5 : decode cX4_after 5 = .ok (.aload_n 0, 1) := by decide +kernel
theorem dX4_after_6 : decode cX4_after 6 = .ok (.lload_n 1, 1) := by decide +kernel
theorem dX4_after_7 : decode cX4_after 7 = .ok (.iload_n 3, 1) := by decide +kernel
theorem dX4_after_8 : decode cX4_after 8 = .ok (.invokevirtual 115, 3) := by decide +kernel
theorem dX4_after_11 : decode cX4_after 11 = .ok (.goto 13, 3) := by decide +kernel
theorem dX4_after_14 : decode cX4_after 14 = .ok (.aload_n 0, 1) := by decide +kernel
theorem dX4_after_15 : decode cX4_after 15 = .ok (.lload_n 1, 1) := by decide +kernel
theorem dX4_after_16 : decode cX4_after 16 = .ok (.iload_n 3, 1) := by decide +kernel
theorem dX4_after_17 : decode cX4_after 17 = .ok (.iload 4, 2) := by decide +kernel
theorem dX4_after_19 : decode cX4_after 19 = .ok (.iconst 1, 1) := by decide +kernel
theorem dX4_after_20 : decode cX4_after 20 = .ok (.isub, 1) := by decide +kernel
theorem dX4_after_21 : decode cX4_after 21 = .ok (.invokevirtual 118, 3) := by decide +kernel
theorem dX4_after_24 : decode cX4_after 24 = .ok (.istore 5, 2) := by decide +kernel
theorem dX4_after_26 : decode cX4_after 26 = .ok (.iload 5, 2) := by decide +kernel
theorem dX4_after_28 : decode cX4_after 28 = .ok (.ifCond .lt 10, 3) := by decide +kernel
theorem dX4_after_31 : decode cX4_after 31 = .ok (.iload 5, 2) := by decide +kernel
theorem dX4_after_33 : decode cX4_after 33 = .ok (.bipush 10, 2) := by decide +kernel
theorem dX4_after_35 : decode cX4_after 35 = .ok (.if_icmp .lt 7, 3) := by decide +kernel
theorem dX4_after_38 : decode cX4_after 38 = .ok (.ldc2_w 121, 3) := by decide +kernel
theorem dX4_after_41 : decode cX4_after 41 = .ok (.lreturn, 1) := by decide +kernel
theorem dX4_after_42 : decode cX4_after 42 = .ok (.iload 4, 2) := by decide +kernel
theorem dX4_after_44 : decode cX4_after 44 = .ok (.ifCond .eq 26, 3) := by decide +kernel
theorem dX4_after_47 : decode cX4_after 47 = .ok (.aload_n 0, 1) := by decide +kernel
theorem dX4_after_48 : decode cX4_after 48 = .ok (.lload_n 1, 1) := by decide +kernel
theorem dX4_after_49 : decode cX4_after 49 = .ok (.lconst 1, 1) := by decide +kernel
theorem dX4_after_50 : decode cX4_after 50 = .ok (.bipush 22, 2) := by decide +kernel
theorem dX4_after_52 : decode cX4_after 52 = .ok (.iload 5, 2) := by decide +kernel
theorem dX4_after_54 : decode cX4_after 54 = .ok (.iadd, 1) := by decide +kernel
theorem dX4_after_55 : decode cX4_after 55 = .ok (.lshl, 1) := by decide +kernel
theorem dX4_after_56 : decode cX4_after 56 = .ok (.lxor, 1) := by decide +kernel
theorem dX4_after_57 : decode cX4_after 57 = .ok (.iload 5, 2) := by decide +kernel
theorem dX4_after_59 : decode cX4_after 59 = .ok (.aload_n 0, 1) := by decide +kernel
theorem dX4_after_60 : decode cX4_after 60 = .ok (.lload_n 1, 1) := by decide +kernel
theorem dX4_after_61 : decode cX4_after 61 = .ok (.iload 5, 2) := by decide +kernel
theorem dX4_after_63 : decode cX4_after 63 = .ok (.invokevirtual 123, 3) := by decide +kernel
theorem dX4_after_66 : decode cX4_after 66 = .ok (.invokevirtual 126, 3) := by decide +kernel
theorem dX4_after_69 : decode cX4_after 69 = .ok (.lreturn, 1) := by decide +kernel
theorem dX4_after_70 : decode cX4_after 70 = .ok (.aload_n 0, 1) := by decide +kernel
theorem dX4_after_71 : decode cX4_after 71 = .ok (.getfield 46, 3) := by decide +kernel
theorem dX4_after_74 : decode cX4_after 74 = .ok (.iload 5, 2) := by decide +kernel
theorem dX4_after_76 : decode cX4_after 76 = .ok (.ishr, 1) := by decide +kernel
theorem dX4_after_77 : decode cX4_after 77 = .ok (.iconst 1, 1) := by decide +kernel
theorem dX4_after_78 : decode cX4_after 78 = .ok (.iand, 1) := by decide +kernel
theorem dX4_after_79 : decode cX4_after 79 = .ok (.ifCond .eq 16, 3) := by decide +kernel
theorem dX4_after_82 : decode cX4_after 82 = .ok (.aload_n 0, 1) := by decide +kernel
theorem dX4_after_83 : decode cX4_after 83 = .ok (.lload_n 1, 1) := by decide +kernel
theorem dX4_after_84 : decode cX4_after 84 = .ok (.iload_n 3, 1) := by decide +kernel
theorem dX4_after_85 : decode cX4_after 85 = .ok (.invokevirtual 102, 3) := by decide +kernel
theorem dX4_after_88 : decode cX4_after 88 = .ok (.ifCond .eq 7, 3) := by decide +kernel
theorem dX4_after_91 : decode cX4_after 91 = .ok (.ldc2_w 121, 3) := by decide +kernel
theorem dX4_after_94 : decode cX4_after 94 = .ok (.lreturn, 1) := by decide +kernel
theorem dX4_after_95 : decode cX4_after 95 = .ok (.lload_n 1, 1) := by decide +kernel
theorem dX4_after_96 : decode cX4_after 96 = .ok (.lconst 1, 1) := by decide +kernel
theorem dX4_after_97 : decode cX4_after 97 = .ok (.iload_n 3, 1) := by decide +kernel
theorem dX4_after_98 : decode cX4_after 98 = .ok (.invokestatic 91, 3) := by decide +kernel
theorem dX4_after_101 : decode cX4_after 101 = .ok (.lshl, 1) := by decide +kernel
theorem dX4_after_102 : decode cX4_after 102 = .ok (.ladd, 1) := by decide +kernel
theorem dX4_after_103 : decode cX4_after 103 = .ok (.lstore 6, 2) := by decide +kernel
theorem dX4_after_105 : decode cX4_after 105 = .ok (.aload_n 0, 1) := by decide +kernel
theorem dX4_after_106 : decode cX4_after 106 = .ok (.getfield 11, 3) := by decide +kernel
theorem dX4_after_109 : decode cX4_after 109 = .ok (.iload 5, 2) := by decide +kernel
theorem dX4_after_111 : decode cX4_after 111 = .ok (.iaload, 1) := by decide +kernel
theorem dX4_after_112 : decode cX4_after 112 = .ok (.tableswitch 109 0 2 #[28, 64, 86], 28) := by decide +kernel
theorem dX4_after_140 : decode cX4_after 140 = .ok (.aload_n 0, 1) := by decide +kernel
theorem dX4_after_141 : decode cX4_after 141 = .ok (.getfield 42, 3) := by decide +kernel
theorem dX4_after_144 : decode cX4_after 144 = .ok (.ifCond .ne 21, 3) := by decide +kernel
theorem dX4_after_147 : decode cX4_after 147 = .ok (.aload_n 0, 1) := by decide +kernel
theorem dX4_after_148 : decode cX4_after 148 = .ok (.lload 6, 2) := by decide +kernel
theorem dX4_after_150 : decode cX4_after 150 = .ok (.iload 5, 2) := by decide +kernel
theorem dX4_after_152 : decode cX4_after 152 = .ok (.aload_n 0, 1) := by decide +kernel
theorem dX4_after_153 : decode cX4_after 153 = .ok (.lload_n 1, 1) := by decide +kernel
theorem dX4_after_154 : decode cX4_after 154 = .ok (.iload 5, 2) := by decide +kernel
theorem dX4_after_156 : decode cX4_after 156 = .ok (.invokevirtual 123, 3) := by decide +kernel
theorem dX4_after_159 : decode cX4_after 159 = .ok (.invokevirtual 126, 3) := by decide +kernel
theorem dX4_after_162 : decode cX4_after 162 = .ok (.goto 13, 3) := by decide +kernel
theorem dX4_after_165 : decode cX4_after 165 = .ok (.lload 6, 2) := by decide +kernel
theorem dX4_after_167 : decode cX4_after 167 = .ok (.lconst 1, 1) := by decide +kernel
theorem dX4_after_168 : decode cX4_after 168 = .ok (.bipush 22, 2) := by decide +kernel
theorem dX4_after_170 : decode cX4_after 170 = .ok (.iload 5, 2) := by decide +kernel
theorem dX4_after_172 : decode cX4_after 172 = .ok (.iadd, 1) := by decide +kernel
theorem dX4_after_173 : decode cX4_after 173 = .ok (.lshl, 1) := by decide +kernel
theorem dX4_after_174 : decode cX4_after 174 = .ok (.lor, 1) := by decide +kernel
theorem dX4_after_175 : decode cX4_after 175 = .ok (.lreturn, 1) := by decide +kernel
theorem dX4_after_176 : decode cX4_after 176 = .ok (.aload_n 0, 1) := by decide +kernel
theorem dX4_after_177 : decode cX4_after 177 = .ok (.lload 6, 2) := by decide +kernel
theorem dX4_after_179 : decode cX4_after 179 = .ok (.iload 5, 2) := by decide +kernel
theorem dX4_after_181 : decode cX4_after 181 = .ok (.aload_n 0, 1) := by decide +kernel
theorem dX4_after_182 : decode cX4_after 182 = .ok (.lload_n 1, 1) := by decide +kernel
theorem dX4_after_183 : decode cX4_after 183 = .ok (.iload_n 3, 1) := by decide +kernel
theorem dX4_after_184 : decode cX4_after 184 = .ok (.aload_n 0, 1) := by decide +kernel
theorem dX4_after_185 : decode cX4_after 185 = .ok (.getfield 15, 3) := by decide +kernel
theorem dX4_after_188 : decode cX4_after 188 = .ok (.iload 5, 2) := by decide +kernel
theorem dX4_after_190 : decode cX4_after 190 = .ok (.iaload, 1) := by decide +kernel
theorem dX4_after_191 : decode cX4_after 191 = .ok (.invokevirtual 130, 3) := by decide +kernel
theorem dX4_after_194 : decode cX4_after 194 = .ok (.invokevirtual 133, 3) := by decide +kernel
theorem dX4_after_197 : decode cX4_after 197 = .ok (.lreturn, 1) := by decide +kernel
theorem dX4_after_198 : decode cX4_after 198 = .ok (.aload_n 0, 1) := by decide +kernel
theorem dX4_after_199 : decode cX4_after 199 = .ok (.aload_n 0, 1) := by decide +kernel
theorem dX4_after_200 : decode cX4_after 200 = .ok (.lload 6, 2) := by decide +kernel
theorem dX4_after_202 : decode cX4_after 202 = .ok (.iload 5, 2) := by decide +kernel
theorem dX4_after_204 : decode cX4_after 204 = .ok (.iconst (-1), 1) := by decide +kernel
theorem dX4_after_205 : decode cX4_after 205 = .ok (.invokevirtual 133, 3) := by decide +kernel
theorem dX4_after_208 : decode cX4_after 208 = .ok (.iload 5, 2) := by decide +kernel
theorem dX4_after_210 : decode cX4_after 210 = .ok (.aload_n 0, 1) := by decide +kernel
theorem dX4_after_211 : decode cX4_after 211 = .ok (.lload_n 1, 1) := by decide +kernel
theorem dX4_after_212 : decode cX4_after 212 = .ok (.iload 5, 2) := by decide +kernel
theorem dX4_after_214 : decode cX4_after 214 = .ok (.invokevirtual 123, 3) := by decide +kernel
theorem dX4_after_217 : decode cX4_after 217 = .ok (.invokevirtual 126, 3) := by decide +kernel
theorem dX4_after_220 : decode cX4_after 220 = .ok (.lreturn, 1) := by decide +kernel
theorem dX4_after_221 : decode cX4_after 221 = .ok (.lload 6, 2) := by decide +kernel
theorem dX4_after_223 : decode cX4_after 223 = .ok (.lreturn, 1) := by decide +kernel
theorem dX4_isContradicted_0 : decode cX4_isContradicted 0 = .ok (.aload_n 0, 1) := by decide +kernel
theorem dX4_isContradicted_1 : decode cX4_isContradicted 1 = .ok (.lload_n 1, 1) := by decide +kernel
theorem dX4_isContradicted_2 : decode cX4_isContradicted 2 = .ok (.iload 5, 2) := by decide +kernel
theorem dX4_isContradicted_4 : decode cX4_isContradicted 4 = .ok (.invokevirtual 115, 3) := by decide +kernel
theorem dX4_isContradicted_7 : decode cX4_isContradicted 7 = .ok (.istore 7, 2) := by decide +kernel
theorem dX4_isContradicted_9 : decode cX4_isContradicted 9 = .ok (.iload 7, 2) := by decide +kernel
theorem dX4_isContradicted_11 : decode cX4_isContradicted 11 = .ok (.ifCond .lt 26, 3) := by decide +kernel
theorem dX4_isContradicted_14 : decode cX4_isContradicted 14 = .ok (.iload 7, 2) := by decide +kernel
theorem dX4_isContradicted_16 : decode cX4_isContradicted 16 = .ok (.bipush 10, 2) := by decide +kernel
theorem dX4_isContradicted_18 : decode cX4_isContradicted 18 = .ok (.if_icmp .ge 19, 3) := by decide +kernel
theorem dX4_isContradicted_21 : decode cX4_isContradicted 21 = .ok (.aload_n 0, 1) := by decide +kernel
theorem dX4_isContradicted_22 : decode cX4_isContradicted 22 = .ok (.lload_n 3, 1) := by decide +kernel
theorem dX4_isContradicted_23 : decode cX4_isContradicted 23 = .ok (.iload 5, 2) := by decide +kernel
theorem dX4_isContradicted_25 : decode cX4_isContradicted 25 = .ok (.invokevirtual 115, 3) := by decide +kernel
theorem dX4_isContradicted_28 : decode cX4_isContradicted 28 = .ok (.iload 7, 2) := by decide +kernel
theorem dX4_isContradicted_30 : decode cX4_isContradicted 30 = .ok (.if_icmp .eq 7, 3) := by decide +kernel
theorem dX4_isContradicted_33 : decode cX4_isContradicted 33 = .ok (.iconst 1, 1) := by decide +kernel
theorem dX4_isContradicted_34 : decode cX4_isContradicted 34 = .ok (.goto 4, 3) := by decide +kernel
theorem dX4_isContradicted_37 : decode cX4_isContradicted 37 = .ok (.iconst 0, 1) := by decide +kernel
theorem dX4_isContradicted_38 : decode cX4_isContradicted 38 = .ok (.istore 8, 2) := by decide +kernel
theorem dX4_isContradicted_40 : decode cX4_isContradicted 40 = .ok (.iload 8, 2) := by decide +kernel
theorem dX4_isContradicted_42 : decode cX4_isContradicted 42 = .ok (.ifCond .eq 29, 3) := by decide +kernel
theorem dX4_isContradicted_45 : decode cX4_isContradicted 45 = .ok (.aload_n 0, 1) := by decide +kernel
theorem dX4_isContradicted_46 : decode cX4_isContradicted 46 = .ok (.getfield 11, 3) := by decide +kernel
theorem dX4_isContradicted_49 : decode cX4_isContradicted 49 = .ok (.iload 7, 2) := by decide +kernel
theorem dX4_isContradicted_51 : decode cX4_isContradicted 51 = .ok (.iaload, 1) := by decide +kernel
theorem dX4_isContradicted_52 : decode cX4_isContradicted 52 = .ok (.iconst 1, 1) := by decide +kernel
theorem dX4_isContradicted_53 : decode cX4_isContradicted 53 = .ok (.if_icmp .eq 14, 3) := by decide +kernel
theorem dX4_isContradicted_56 : decode cX4_isContradicted 56 = .ok (.aload_n 0, 1) := by decide +kernel
theorem dX4_isContradicted_57 : decode cX4_isContradicted 57 = .ok (.getfield 11, 3) := by decide +kernel
theorem dX4_isContradicted_60 : decode cX4_isContradicted 60 = .ok (.iload 7, 2) := by decide +kernel
theorem dX4_isContradicted_62 : decode cX4_isContradicted 62 = .ok (.iaload, 1) := by decide +kernel
theorem dX4_isContradicted_63 : decode cX4_isContradicted 63 = .ok (.iconst 2, 1) := by decide +kernel
theorem dX4_isContradicted_64 : decode cX4_isContradicted 64 = .ok (.if_icmp .ne 7, 3) := by decide +kernel
theorem dX4_isContradicted_67 : decode cX4_isContradicted 67 = .ok (.iconst 1, 1) := by decide +kernel
theorem dX4_isContradicted_68 : decode cX4_isContradicted 68 = .ok (.goto 4, 3) := by decide +kernel
theorem dX4_isContradicted_71 : decode cX4_isContradicted 71 = .ok (.iconst 0, 1) := by decide +kernel
theorem dX4_isContradicted_72 : decode cX4_isContradicted 72 = .ok (.istore 9, 2) := by decide +kernel
theorem dX4_isContradicted_74 : decode cX4_isContradicted 74 = .ok (.iload 9, 2) := by decide +kernel
theorem dX4_isContradicted_76 : decode cX4_isContradicted 76 = .ok (.ifCond .eq 29, 3) := by decide +kernel
theorem dX4_isContradicted_79 : decode cX4_isContradicted 79 = .ok (.lload_n 3, 1) := by decide +kernel
theorem dX4_isContradicted_80 : decode cX4_isContradicted 80 = .ok (.iload 6, 2) := by decide +kernel
theorem dX4_isContradicted_82 : decode cX4_isContradicted 82 = .ok (.i2l, 1) := by decide +kernel
theorem dX4_isContradicted_83 : decode cX4_isContradicted 83 = .ok (.lxor, 1) := by decide +kernel
theorem dX4_isContradicted_84 : decode cX4_isContradicted 84 = .ok (.aload_n 0, 1) := by decide +kernel
theorem dX4_isContradicted_85 : decode cX4_isContradicted 85 = .ok (.getfield 21, 3) := by decide +kernel
theorem dX4_isContradicted_88 : decode cX4_isContradicted 88 = .ok (.iload 7, 2) := by decide +kernel
theorem dX4_isContradicted_90 : decode cX4_isContradicted 90 = .ok (.iaload, 1) := by decide +kernel
theorem dX4_isContradicted_91 : decode cX4_isContradicted 91 = .ok (.lshr, 1) := by decide +kernel
theorem dX4_isContradicted_92 : decode cX4_isContradicted 92 = .ok (.ldc2_w 136, 3) := by decide +kernel
theorem dX4_isContradicted_95 : decode cX4_isContradicted 95 = .ok (.land, 1) := by decide +kernel
theorem dX4_isContradicted_96 : decode cX4_isContradicted 96 = .ok (.lconst 0, 1) := by decide +kernel
theorem dX4_isContradicted_97 : decode cX4_isContradicted 97 = .ok (.lcmp, 1) := by decide +kernel
theorem dX4_isContradicted_98 : decode cX4_isContradicted 98 = .ok (.ifCond .eq 7, 3) := by decide +kernel
theorem dX4_isContradicted_101 : decode cX4_isContradicted 101 = .ok (.iconst 1, 1) := by decide +kernel
theorem dX4_isContradicted_102 : decode cX4_isContradicted 102 = .ok (.goto 4, 3) := by decide +kernel
theorem dX4_isContradicted_105 : decode cX4_isContradicted 105 = .ok (.iconst 0, 1) := by decide +kernel
theorem dX4_isContradicted_106 : decode cX4_isContradicted 106 = .ok (.ireturn, 1) := by decide +kernel
theorem dX4_written_0 : decode cX4_written 0 = .ok (.iload_n 3, 1) := by decide +kernel
theorem dX4_written_1 : decode cX4_written 1 = .ok (.ifCond .lt 13, 3) := by decide +kernel
theorem dX4_written_4 : decode cX4_written 4 = .ok (.iload_n 3, 1) := by decide +kernel
theorem dX4_written_5 : decode cX4_written 5 = .ok (.bipush 10, 2) := by decide +kernel
theorem dX4_written_7 : decode cX4_written 7 = .ok (.if_icmp .ge 7, 3) := by decide +kernel
theorem dX4_written_10 : decode cX4_written 10 = .ok (.iconst 1, 1) := by decide +kernel
theorem dX4_written_11 : decode cX4_written 11 = .ok (.goto 4, 3) := by decide +kernel
theorem dX4_written_14 : decode cX4_written 14 = .ok (.iconst 0, 1) := by decide +kernel
theorem dX4_written_15 : decode cX4_written 15 = .ok (.istore 5, 2) := by decide +kernel
theorem dX4_written_17 : decode cX4_written 17 = .ok (.iload 5, 2) := by decide +kernel
theorem dX4_written_19 : decode cX4_written 19 = .ok (.ifCond .eq 18, 3) := by decide +kernel
theorem dX4_written_22 : decode cX4_written 22 = .ok (.lload_n 1, 1) := by decide +kernel
theorem dX4_written_23 : decode cX4_written 23 = .ok (.aload_n 0, 1) := by decide +kernel
theorem dX4_written_24 : decode cX4_written 24 = .ok (.getfield 18, 3) := by decide +kernel
theorem dX4_written_27 : decode cX4_written 27 = .ok (.iload_n 3, 1) := by decide +kernel
theorem dX4_written_28 : decode cX4_written 28 = .ok (.iaload, 1) := by decide +kernel
theorem dX4_written_29 : decode cX4_written 29 = .ok (.iload 4, 2) := by decide +kernel
theorem dX4_written_31 : decode cX4_written 31 = .ok (.invokestatic 138, 3) := by decide +kernel
theorem dX4_written_34 : decode cX4_written 34 = .ok (.goto 4, 3) := by decide +kernel
theorem dX4_written_37 : decode cX4_written 37 = .ok (.lload_n 1, 1) := by decide +kernel
theorem dX4_written_38 : decode cX4_written 38 = .ok (.lreturn, 1) := by decide +kernel
theorem dX4_withRead_0 : decode cX4_withRead 0 = .ok (.iload_n 3, 1) := by decide +kernel
theorem dX4_withRead_1 : decode cX4_withRead 1 = .ok (.ifCond .lt 9, 3) := by decide +kernel
theorem dX4_withRead_4 : decode cX4_withRead 4 = .ok (.iload_n 3, 1) := by decide +kernel
theorem dX4_withRead_5 : decode cX4_withRead 5 = .ok (.bipush 10, 2) := by decide +kernel
theorem dX4_withRead_7 : decode cX4_withRead 7 = .ok (.if_icmp .lt 5, 3) := by decide +kernel
theorem dX4_withRead_10 : decode cX4_withRead 10 = .ok (.lload_n 1, 1) := by decide +kernel
theorem dX4_withRead_11 : decode cX4_withRead 11 = .ok (.lreturn, 1) := by decide +kernel
theorem dX4_withRead_12 : decode cX4_withRead 12 = .ok (.iload 4, 2) := by decide +kernel
theorem dX4_withRead_14 : decode cX4_withRead 14 = .ok (.iconst (-1), 1) := by decide +kernel
theorem dX4_withRead_15 : decode cX4_withRead 15 = .ok (.if_icmp .ne 17, 3) := by decide +kernel
theorem dX4_withRead_18 : decode cX4_withRead 18 = .ok (.lload_n 1, 1) := by decide +kernel
theorem dX4_withRead_19 : decode cX4_withRead 19 = .ok (.aload_n 0, 1) := by decide +kernel
theorem dX4_withRead_20 : decode cX4_withRead 20 = .ok (.getfield 18, 3) := by decide +kernel
theorem dX4_withRead_23 : decode cX4_withRead 23 = .ok (.iload_n 3, 1) := by decide +kernel
theorem dX4_withRead_24 : decode cX4_withRead 24 = .ok (.iaload, 1) := by decide +kernel
theorem dX4_withRead_25 : decode cX4_withRead 25 = .ok (.lshr, 1) := by decide +kernel
theorem dX4_withRead_26 : decode cX4_withRead 26 = .ok (.l2i, 1) := by decide +kernel
theorem dX4_withRead_27 : decode cX4_withRead 27 = .ok (.iconst 3, 1) := by decide +kernel
theorem dX4_withRead_28 : decode cX4_withRead 28 = .ok (.iand, 1) := by decide +kernel
theorem dX4_withRead_29 : decode cX4_withRead 29 = .ok (.goto 10, 3) := by decide +kernel
theorem dX4_withRead_32 : decode cX4_withRead 32 = .ok (.aload_n 0, 1) := by decide +kernel
theorem dX4_withRead_33 : decode cX4_withRead 33 = .ok (.lload_n 1, 1) := by decide +kernel
theorem dX4_withRead_34 : decode cX4_withRead 34 = .ok (.iload 4, 2) := by decide +kernel
theorem dX4_withRead_36 : decode cX4_withRead 36 = .ok (.invokevirtual 123, 3) := by decide +kernel
theorem dX4_withRead_39 : decode cX4_withRead 39 = .ok (.istore 5, 2) := by decide +kernel
theorem dX4_withRead_41 : decode cX4_withRead 41 = .ok (.lload_n 1, 1) := by decide +kernel
theorem dX4_withRead_42 : decode cX4_withRead 42 = .ok (.aload_n 0, 1) := by decide +kernel
theorem dX4_withRead_43 : decode cX4_withRead 43 = .ok (.getfield 21, 3) := by decide +kernel
theorem dX4_withRead_46 : decode cX4_withRead 46 = .ok (.iload_n 3, 1) := by decide +kernel
theorem dX4_withRead_47 : decode cX4_withRead 47 = .ok (.iaload, 1) := by decide +kernel
theorem dX4_withRead_48 : decode cX4_withRead 48 = .ok (.iload 5, 2) := by decide +kernel
theorem dX4_withRead_50 : decode cX4_withRead 50 = .ok (.invokestatic 138, 3) := by decide +kernel
theorem dX4_withRead_53 : decode cX4_withRead 53 = .ok (.lreturn, 1) := by decide +kernel
theorem dX4_valueOf_0 : decode cX4_valueOf 0 = .ok (.iload_n 3, 1) := by decide +kernel
theorem dX4_valueOf_1 : decode cX4_valueOf 1 = .ok (.ifCond .lt 9, 3) := by decide +kernel
theorem dX4_valueOf_4 : decode cX4_valueOf 4 = .ok (.iload_n 3, 1) := by decide +kernel
theorem dX4_valueOf_5 : decode cX4_valueOf 5 = .ok (.bipush 10, 2) := by decide +kernel
theorem dX4_valueOf_7 : decode cX4_valueOf 7 = .ok (.if_icmp .lt 5, 3) := by decide +kernel
theorem dX4_valueOf_10 : decode cX4_valueOf 10 = .ok (.iconst 0, 1) := by decide +kernel
theorem dX4_valueOf_11 : decode cX4_valueOf 11 = .ok (.ireturn, 1) := by decide +kernel
theorem dX4_valueOf_12 : decode cX4_valueOf 12 = .ok (.aload_n 0, 1) := by decide +kernel
theorem dX4_valueOf_13 : decode cX4_valueOf 13 = .ok (.getfield 24, 3) := by decide +kernel
theorem dX4_valueOf_16 : decode cX4_valueOf 16 = .ok (.iload_n 3, 1) := by decide +kernel
theorem dX4_valueOf_17 : decode cX4_valueOf 17 = .ok (.iaload, 1) := by decide +kernel
theorem dX4_valueOf_18 : decode cX4_valueOf 18 = .ok (.iconst (-1), 1) := by decide +kernel
theorem dX4_valueOf_19 : decode cX4_valueOf 19 = .ok (.if_icmp .ne 12, 3) := by decide +kernel
theorem dX4_valueOf_22 : decode cX4_valueOf 22 = .ok (.aload_n 0, 1) := by decide +kernel
theorem dX4_valueOf_23 : decode cX4_valueOf 23 = .ok (.getfield 27, 3) := by decide +kernel
theorem dX4_valueOf_26 : decode cX4_valueOf 26 = .ok (.iload_n 3, 1) := by decide +kernel
theorem dX4_valueOf_27 : decode cX4_valueOf 27 = .ok (.iaload, 1) := by decide +kernel
theorem dX4_valueOf_28 : decode cX4_valueOf 28 = .ok (.goto 14, 3) := by decide +kernel
theorem dX4_valueOf_31 : decode cX4_valueOf 31 = .ok (.lload_n 1, 1) := by decide +kernel
theorem dX4_valueOf_32 : decode cX4_valueOf 32 = .ok (.aload_n 0, 1) := by decide +kernel
theorem dX4_valueOf_33 : decode cX4_valueOf 33 = .ok (.getfield 24, 3) := by decide +kernel
theorem dX4_valueOf_36 : decode cX4_valueOf 36 = .ok (.iload_n 3, 1) := by decide +kernel
theorem dX4_valueOf_37 : decode cX4_valueOf 37 = .ok (.iaload, 1) := by decide +kernel
theorem dX4_valueOf_38 : decode cX4_valueOf 38 = .ok (.lshr, 1) := by decide +kernel
theorem dX4_valueOf_39 : decode cX4_valueOf 39 = .ok (.l2i, 1) := by decide +kernel
theorem dX4_valueOf_40 : decode cX4_valueOf 40 = .ok (.iconst 3, 1) := by decide +kernel
theorem dX4_valueOf_41 : decode cX4_valueOf 41 = .ok (.iand, 1) := by decide +kernel
theorem dX4_valueOf_42 : decode cX4_valueOf 42 = .ok (.ireturn, 1) := by decide +kernel
theorem dX4_withDigit_0 : decode cX4_withDigit 0 = .ok (.lload_n 0, 1) := by decide +kernel
theorem dX4_withDigit_1 : decode cX4_withDigit 1 = .ok (.ldc2_w 136, 3) := by decide +kernel
theorem dX4_withDigit_4 : decode cX4_withDigit 4 = .ok (.iload_n 2, 1) := by decide +kernel
theorem dX4_withDigit_5 : decode cX4_withDigit 5 = .ok (.lshl, 1) := by decide +kernel
theorem dX4_withDigit_6 : decode cX4_withDigit 6 = .ok (.ldc2_w 121, 3) := by decide +kernel
theorem dX4_withDigit_9 : decode cX4_withDigit 9 = .ok (.lxor, 1) := by decide +kernel
theorem dX4_withDigit_10 : decode cX4_withDigit 10 = .ok (.land, 1) := by decide +kernel
theorem dX4_withDigit_11 : decode cX4_withDigit 11 = .ok (.iload_n 3, 1) := by decide +kernel
theorem dX4_withDigit_12 : decode cX4_withDigit 12 = .ok (.i2l, 1) := by decide +kernel
theorem dX4_withDigit_13 : decode cX4_withDigit 13 = .ok (.iload_n 2, 1) := by decide +kernel
theorem dX4_withDigit_14 : decode cX4_withDigit 14 = .ok (.lshl, 1) := by decide +kernel
theorem dX4_withDigit_15 : decode cX4_withDigit 15 = .ok (.lor, 1) := by decide +kernel
theorem dX4_withDigit_16 : decode cX4_withDigit 16 = .ok (.lreturn, 1) := by decide +kernel
theorem dX5_init_0 : decode cX5_init 0 = .ok (.aload_n 0, 1) := by decide +kernel
theorem dX5_init_1 : decode cX5_init 1 = .ok (.invokespecial 3, 3) := by decide +kernel
theorem dX5_init_4 : decode cX5_init 4 = .ok (.aload_n 0, 1) := by decide +kernel
theorem dX5_init_5 : decode cX5_init 5 = .ok (.sipush 320, 3) := by decide +kernel
theorem dX5_init_8 : decode cX5_init 8 = .ok (.newarray .byte, 2) := by decide +kernel
theorem dX5_init_10 : decode cX5_init 10 = .ok (.putfield 9, 3) := by decide +kernel
theorem dX5_init_13 : decode cX5_init 13 = .ok (.aload_n 0, 1) := by decide +kernel
theorem dX5_init_14 : decode cX5_init 14 = .ok (.iconst 0, 1) := by decide +kernel
theorem dX5_init_15 : decode cX5_init 15 = .ok (.putfield 15, 3) := by decide +kernel
theorem dX5_init_18 : decode cX5_init 18 = .ok (.return_, 1) := by decide +kernel
theorem dX5_clear_0 : decode cX5_clear 0 = .ok (.aload_n 0, 1) := by decide +kernel
theorem dX5_clear_1 : decode cX5_clear 1 = .ok (.iconst 0, 1) := by decide +kernel
theorem dX5_clear_2 : decode cX5_clear 2 = .ok (.putfield 15, 3) := by decide +kernel
theorem dX5_clear_5 : decode cX5_clear 5 = .ok (.return_, 1) := by decide +kernel
theorem dX5_length_0 : decode cX5_length 0 = .ok (.aload_n 0, 1) := by decide +kernel
theorem dX5_length_1 : decode cX5_length 1 = .ok (.getfield 15, 3) := by decide +kernel
theorem dX5_length_4 : decode cX5_length 4 = .ok (.ireturn, 1) := by decide +kernel
theorem dX5_byteAt_0 : decode cX5_byteAt 0 = .ok (.iload_n 1, 1) := by decide +kernel
theorem dX5_byteAt_1 : decode cX5_byteAt 1 = .ok (.ifCond .lt 21, 3) := by decide +kernel
theorem dX5_byteAt_4 : decode cX5_byteAt 4 = .ok (.iload_n 1, 1) := by decide +kernel
theorem dX5_byteAt_5 : decode cX5_byteAt 5 = .ok (.aload_n 0, 1) := by decide +kernel
theorem dX5_byteAt_6 : decode cX5_byteAt 6 = .ok (.getfield 9, 3) := by decide +kernel
theorem dX5_byteAt_9 : decode cX5_byteAt 9 = .ok (.arraylength, 1) := by decide +kernel
theorem dX5_byteAt_10 : decode cX5_byteAt 10 = .ok (.if_icmp .ge 12, 3) := by decide +kernel
theorem dX5_byteAt_13 : decode cX5_byteAt 13 = .ok (.aload_n 0, 1) := by decide +kernel
theorem dX5_byteAt_14 : decode cX5_byteAt 14 = .ok (.getfield 9, 3) := by decide +kernel
theorem dX5_byteAt_17 : decode cX5_byteAt 17 = .ok (.iload_n 1, 1) := by decide +kernel
theorem dX5_byteAt_18 : decode cX5_byteAt 18 = .ok (.baload, 1) := by decide +kernel
theorem dX5_byteAt_19 : decode cX5_byteAt 19 = .ok (.goto 4, 3) := by decide +kernel
theorem dX5_byteAt_22 : decode cX5_byteAt 22 = .ok (.iconst (-1), 1) := by decide +kernel
theorem dX5_byteAt_23 : decode cX5_byteAt 23 = .ok (.ireturn, 1) := by decide +kernel
theorem dX5_put_0 : decode cX5_put 0 = .ok (.aload_n 0, 1) := by decide +kernel
theorem dX5_put_1 : decode cX5_put 1 = .ok (.getfield 15, 3) := by decide +kernel
theorem dX5_put_4 : decode cX5_put 4 = .ok (.ifCond .lt 36, 3) := by decide +kernel
theorem dX5_put_7 : decode cX5_put 7 = .ok (.aload_n 0, 1) := by decide +kernel
theorem dX5_put_8 : decode cX5_put 8 = .ok (.getfield 15, 3) := by decide +kernel
theorem dX5_put_11 : decode cX5_put 11 = .ok (.aload_n 0, 1) := by decide +kernel
theorem dX5_put_12 : decode cX5_put 12 = .ok (.getfield 9, 3) := by decide +kernel
theorem dX5_put_15 : decode cX5_put 15 = .ok (.arraylength, 1) := by decide +kernel
theorem dX5_put_16 : decode cX5_put 16 = .ok (.if_icmp .ge 24, 3) := by decide +kernel
theorem dX5_put_19 : decode cX5_put 19 = .ok (.aload_n 0, 1) := by decide +kernel
theorem dX5_put_20 : decode cX5_put 20 = .ok (.getfield 9, 3) := by decide +kernel
theorem dX5_put_23 : decode cX5_put 23 = .ok (.aload_n 0, 1) := by decide +kernel
theorem dX5_put_24 : decode cX5_put 24 = .ok (.getfield 15, 3) := by decide +kernel
theorem dX5_put_27 : decode cX5_put 27 = .ok (.iload_n 1, 1) := by decide +kernel
theorem dX5_put_28 : decode cX5_put 28 = .ok (.i2b, 1) := by decide +kernel
theorem dX5_put_29 : decode cX5_put 29 = .ok (.bastore, 1) := by decide +kernel
theorem dX5_put_30 : decode cX5_put 30 = .ok (.aload_n 0, 1) := by decide +kernel
theorem dX5_put_31 : decode cX5_put 31 = .ok (.dup, 1) := by decide +kernel
theorem dX5_put_32 : decode cX5_put 32 = .ok (.getfield 15, 3) := by decide +kernel
theorem dX5_put_35 : decode cX5_put 35 = .ok (.iconst 1, 1) := by decide +kernel
theorem dX5_put_36 : decode cX5_put 36 = .ok (.iadd, 1) := by decide +kernel
theorem dX5_put_37 : decode cX5_put 37 = .ok (.putfield 15, 3) := by decide +kernel
theorem dX5_put_40 : decode cX5_put 40 = .ok (.return_, 1) := by decide +kernel
theorem dX5_putText_0 : decode cX5_putText 0 = .ok (.iconst 0, 1) := by decide +kernel
theorem dX5_putText_1 : decode cX5_putText 1 = .ok (.istore_n 2, 1) := by decide +kernel
theorem dX5_putText_2 : decode cX5_putText 2 = .ok (.iload_n 2, 1) := by decide +kernel
theorem dX5_putText_3 : decode cX5_putText 3 = .ok (.aload_n 1, 1) := by decide +kernel
theorem dX5_putText_4 : decode cX5_putText 4 = .ok (.invokevirtual 19, 3) := by decide +kernel
theorem dX5_putText_7 : decode cX5_putText 7 = .ok (.if_icmp .ge 18, 3) := by decide +kernel
theorem dX5_putText_10 : decode cX5_putText 10 = .ok (.aload_n 0, 1) := by decide +kernel
theorem dX5_putText_11 : decode cX5_putText 11 = .ok (.aload_n 1, 1) := by decide +kernel
theorem dX5_putText_12 : decode cX5_putText 12 = .ok (.iload_n 2, 1) := by decide +kernel
theorem dX5_putText_13 : decode cX5_putText 13 = .ok (.invokevirtual 24, 3) := by decide +kernel
theorem dX5_putText_16 : decode cX5_putText 16 = .ok (.invokevirtual 28, 3) := by decide +kernel
theorem dX5_putText_19 : decode cX5_putText 19 = .ok (.iinc 2 1, 3) := by decide +kernel
theorem dX5_putText_22 : decode cX5_putText 22 = .ok (.goto (-20), 3) := by decide +kernel
theorem dX5_putText_25 : decode cX5_putText 25 = .ok (.return_, 1) := by decide +kernel
theorem dX5_putLine_0 : decode cX5_putLine 0 = .ok (.aload_n 0, 1) := by decide +kernel
theorem dX5_putLine_1 : decode cX5_putLine 1 = .ok (.aload_n 1, 1) := by decide +kernel
theorem dX5_putLine_2 : decode cX5_putLine 2 = .ok (.invokevirtual 32, 3) := by decide +kernel
theorem dX5_putLine_5 : decode cX5_putLine 5 = .ok (.aload_n 0, 1) := by decide +kernel
theorem dX5_putLine_6 : decode cX5_putLine 6 = .ok (.bipush 59, 2) := by decide +kernel
theorem dX5_putLine_8 : decode cX5_putLine 8 = .ok (.invokevirtual 28, 3) := by decide +kernel
theorem dX5_putLine_11 : decode cX5_putLine 11 = .ok (.return_, 1) := by decide +kernel
theorem dX5_putName_0 : decode cX5_putName 0 = .ok (.aload_n 0, 1) := by decide +kernel
theorem dX5_putName_1 : decode cX5_putName 1 = .ok (.bipush 32, 2) := by decide +kernel
theorem dX5_putName_3 : decode cX5_putName 3 = .ok (.invokevirtual 28, 3) := by decide +kernel
theorem dX5_putName_6 : decode cX5_putName 6 = .ok (.bipush 35, 2) := by decide +kernel
theorem dX5_putName_8 : decode cX5_putName 8 = .ok (.istore_n 3, 1) := by decide +kernel
theorem dX5_putName_9 : decode cX5_putName 9 = .ok (.iload_n 3, 1) := by decide +kernel
theorem dX5_putName_10 : decode cX5_putName 10 = .ok (.ifCond .lt 34, 3) := by decide +kernel
theorem dX5_putName_13 : decode cX5_putName 13 = .ok (.lload_n 1, 1) := by decide +kernel
theorem dX5_putName_14 : decode cX5_putName 14 = .ok (.iload_n 3, 1) := by decide +kernel
theorem dX5_putName_15 : decode cX5_putName 15 = .ok (.lshr, 1) := by decide +kernel
theorem dX5_putName_16 : decode cX5_putName 16 = .ok (.l2i, 1) := by decide +kernel
theorem dX5_putName_17 : decode cX5_putName 17 = .ok (.bipush 31, 2) := by decide +kernel
theorem dX5_putName_19 : decode cX5_putName 19 = .ok (.iand, 1) := by decide +kernel
theorem dX5_putName_20 : decode cX5_putName 20 = .ok (.istore 4, 2) := by decide +kernel
theorem dX5_putName_22 : decode cX5_putName 22 = .ok (.iload 4, 2) := by decide +kernel
theorem dX5_putName_24 : decode cX5_putName 24 = .ok (.ifCond .eq 14, 3) := by decide +kernel
theorem dX5_putName_27 : decode cX5_putName 27 = .ok (.aload_n 0, 1) := by decide +kernel
theorem dX5_putName_28 : decode cX5_putName 28 = .ok (.bipush 97, 2) := by decide +kernel
theorem dX5_putName_30 : decode cX5_putName 30 = .ok (.iload 4, 2) := by decide +kernel
theorem dX5_putName_32 : decode cX5_putName 32 = .ok (.iadd, 1) := by decide +kernel
theorem dX5_putName_33 : decode cX5_putName 33 = .ok (.iconst 1, 1) := by decide +kernel
theorem dX5_putName_34 : decode cX5_putName 34 = .ok (.isub, 1) := by decide +kernel
theorem dX5_putName_35 : decode cX5_putName 35 = .ok (.invokevirtual 28, 3) := by decide +kernel
theorem dX5_putName_38 : decode cX5_putName 38 = .ok (.iinc 3 (-5), 3) := by decide +kernel
theorem dX5_putName_41 : decode cX5_putName 41 = .ok (.goto (-32), 3) := by decide +kernel
theorem dX5_putName_44 : decode cX5_putName 44 = .ok (.return_, 1) := by decide +kernel
theorem dX5_putRegister_0 : decode cX5_putRegister 0 = .ok (.iload_n 1, 1) := by decide +kernel
theorem dX5_putRegister_1 : decode cX5_putRegister 1 = .ok (.iconst (-1), 1) := by decide +kernel
theorem dX5_putRegister_2 : decode cX5_putRegister 2 = .ok (.if_icmp .eq 17, 3) := by decide +kernel
theorem dX5_putRegister_5 : decode cX5_putRegister 5 = .ok (.aload_n 0, 1) := by decide +kernel
theorem dX5_putRegister_6 : decode cX5_putRegister 6 = .ok (.ldc 36, 2) := by decide +kernel
theorem dX5_putRegister_8 : decode cX5_putRegister 8 = .ok (.invokevirtual 32, 3) := by decide +kernel
theorem dX5_putRegister_11 : decode cX5_putRegister 11 = .ok (.aload_n 0, 1) := by decide +kernel
theorem dX5_putRegister_12 : decode cX5_putRegister 12 = .ok (.bipush 48, 2) := by decide +kernel
theorem dX5_putRegister_14 : decode cX5_putRegister 14 = .ok (.iload_n 1, 1) := by decide +kernel
theorem dX5_putRegister_15 : decode cX5_putRegister 15 = .ok (.iadd, 1) := by decide +kernel
theorem dX5_putRegister_16 : decode cX5_putRegister 16 = .ok (.invokevirtual 28, 3) := by decide +kernel
theorem dX5_putRegister_19 : decode cX5_putRegister 19 = .ok (.return_, 1) := by decide +kernel
theorem dX5_putNumber_0 : decode cX5_putNumber 0 = .ok (.iload_n 1, 1) := by decide +kernel
theorem dX5_putNumber_1 : decode cX5_putNumber 1 = .ok (.iconst (-1), 1) := by decide +kernel
theorem dX5_putNumber_2 : decode cX5_putNumber 2 = .ok (.if_icmp .eq 17, 3) := by decide +kernel
theorem dX5_putNumber_5 : decode cX5_putNumber 5 = .ok (.aload_n 0, 1) := by decide +kernel
theorem dX5_putNumber_6 : decode cX5_putNumber 6 = .ok (.bipush 32, 2) := by decide +kernel
theorem dX5_putNumber_8 : decode cX5_putNumber 8 = .ok (.invokevirtual 28, 3) := by decide +kernel
theorem dX5_putNumber_11 : decode cX5_putNumber 11 = .ok (.aload_n 0, 1) := by decide +kernel
theorem dX5_putNumber_12 : decode cX5_putNumber 12 = .ok (.bipush 48, 2) := by decide +kernel
theorem dX5_putNumber_14 : decode cX5_putNumber 14 = .ok (.iload_n 1, 1) := by decide +kernel
theorem dX5_putNumber_15 : decode cX5_putNumber 15 = .ok (.iadd, 1) := by decide +kernel
theorem dX5_putNumber_16 : decode cX5_putNumber 16 = .ok (.invokevirtual 28, 3) := by decide +kernel
theorem dX5_putNumber_19 : decode cX5_putNumber 19 = .ok (.return_, 1) := by decide +kernel
theorem dX5_putDeclaration_0 : decode cX5_putDeclaration 0 = .ok (.aload_n 0, 1) := by decide +kernel
theorem dX5_putDeclaration_1 : decode cX5_putDeclaration 1 = .ok (.ldc 38, 2) := by decide +kernel
theorem dX5_putDeclaration_3 : decode cX5_putDeclaration 3 = .ok (.invokevirtual 32, 3) := by decide +kernel
theorem dX5_putDeclaration_6 : decode cX5_putDeclaration 6 = .ok (.aload_n 0, 1) := by decide +kernel
theorem dX5_putDeclaration_7 : decode cX5_putDeclaration 7 = .ok (.aload_n 1, 1) := by decide +kernel
theorem dX5_putDeclaration_8 : decode cX5_putDeclaration 8 = .ok (.iload_n 2, 1) := by decide +kernel
theorem dX5_putDeclaration_9 : decode cX5_putDeclaration 9 = .ok (.invokevirtual 40, 3) := by decide +kernel
theorem dX5_putDeclaration_12 : decode cX5_putDeclaration 12 = .ok (.invokevirtual 46, 3) := by decide +kernel
theorem dX5_putDeclaration_15 : decode cX5_putDeclaration 15 = .ok (.aload_n 0, 1) := by decide +kernel
theorem dX5_putDeclaration_16 : decode cX5_putDeclaration 16 = .ok (.aload_n 1, 1) := by decide +kernel
theorem dX5_putDeclaration_17 : decode cX5_putDeclaration 17 = .ok (.iload_n 2, 1) := by decide +kernel
theorem dX5_putDeclaration_18 : decode cX5_putDeclaration 18 = .ok (.invokevirtual 50, 3) := by decide +kernel
theorem dX5_putDeclaration_21 : decode cX5_putDeclaration 21 = .ok (.invokevirtual 54, 3) := by decide +kernel
theorem dX5_putDeclaration_24 : decode cX5_putDeclaration 24 = .ok (.aload_n 0, 1) := by decide +kernel
theorem dX5_putDeclaration_25 : decode cX5_putDeclaration 25 = .ok (.bipush 59, 2) := by decide +kernel
theorem dX5_putDeclaration_27 : decode cX5_putDeclaration 27 = .ok (.invokevirtual 28, 3) := by decide +kernel
theorem dX5_putDeclaration_30 : decode cX5_putDeclaration 30 = .ok (.return_, 1) := by decide +kernel
theorem dX5_putInstruction_0 : decode cX5_putInstruction 0 = .ok (.aload_n 1, 1) := by decide +kernel
theorem dX5_putInstruction_1 : decode cX5_putInstruction 1 = .ok (.iload_n 2, 1) := by decide +kernel
theorem dX5_putInstruction_2 : decode cX5_putInstruction 2 = .ok (.iconst 1, 1) := by decide +kernel
theorem dX5_putInstruction_3 : decode cX5_putInstruction 3 = .ok (.invokevirtual 57, 3) := by decide +kernel
theorem dX5_putInstruction_6 : decode cX5_putInstruction 6 = .ok (.istore_n 3, 1) := by decide +kernel
theorem dX5_putInstruction_7 : decode cX5_putInstruction 7 = .ok (.aload_n 0, 1) := by decide +kernel
theorem dX5_putInstruction_8 : decode cX5_putInstruction 8 = .ok (.iload_n 3, 1) := by decide +kernel
theorem dX5_putInstruction_9 : decode cX5_putInstruction 9 = .ok (.ifCond .ne 8, 3) := by decide +kernel
theorem dX5_putInstruction_12 : decode cX5_putInstruction 12 = .ok (.ldc 61, 2) := by decide +kernel
theorem dX5_putInstruction_14 : decode cX5_putInstruction 14 = .ok (.goto 25, 3) := by decide +kernel
theorem dX5_putInstruction_17 : decode cX5_putInstruction 17 = .ok (.iload_n 3, 1) := by decide +kernel
theorem dX5_putInstruction_18 : decode cX5_putInstruction 18 = .ok (.iconst 1, 1) := by decide +kernel
theorem dX5_putInstruction_19 : decode cX5_putInstruction 19 = .ok (.if_icmp .ne 8, 3) := by decide +kernel
theorem dX5_putInstruction_22 : decode cX5_putInstruction 22 = .ok (.ldc 63, 2) := by decide +kernel
theorem dX5_putInstruction_24 : decode cX5_putInstruction 24 = .ok (.goto 15, 3) := by decide +kernel
theorem dX5_putInstruction_27 : decode cX5_putInstruction 27 = .ok (.iload_n 3, 1) := by decide +kernel
theorem dX5_putInstruction_28 : decode cX5_putInstruction 28 = .ok (.iconst 2, 1) := by decide +kernel
theorem dX5_putInstruction_29 : decode cX5_putInstruction 29 = .ok (.if_icmp .ne 8, 3) := by decide +kernel
theorem dX5_putInstruction_32 : decode cX5_putInstruction 32 = .ok (.ldc 65, 2) := by decide +kernel
theorem dX5_putInstruction_34 : decode cX5_putInstruction 34 = .ok (.goto 5, 3) := by decide +kernel
theorem dX5_putInstruction_37 : decode cX5_putInstruction 37 = .ok (.ldc 67, 2) := by decide +kernel
theorem dX5_putInstruction_39 : decode cX5_putInstruction 39 = .ok (.invokevirtual 32, 3) := by decide +kernel
theorem dX5_putInstruction_42 : decode cX5_putInstruction 42 = .ok (.aload_n 0, 1) := by decide +kernel
theorem dX5_putInstruction_43 : decode cX5_putInstruction 43 = .ok (.aload_n 1, 1) := by decide +kernel
theorem dX5_putInstruction_44 : decode cX5_putInstruction 44 = .ok (.iload_n 2, 1) := by decide +kernel
theorem dX5_putInstruction_45 : decode cX5_putInstruction 45 = .ok (.iconst 3, 1) := by decide +kernel
theorem dX5_putInstruction_46 : decode cX5_putInstruction 46 = .ok (.invokevirtual 57, 3) := by decide +kernel
theorem dX5_putInstruction_49 : decode cX5_putInstruction 49 = .ok (.invokevirtual 69, 3) := by decide +kernel
theorem dX5_putInstruction_52 : decode cX5_putInstruction 52 = .ok (.iload_n 3, 1) := by decide +kernel
theorem dX5_putInstruction_53 : decode cX5_putInstruction 53 = .ok (.iconst 3, 1) := by decide +kernel
theorem dX5_putInstruction_54 : decode cX5_putInstruction 54 = .ok (.if_icmp .eq 17, 3) := by decide +kernel
theorem dX5_putInstruction_57 : decode cX5_putInstruction 57 = .ok (.aload_n 0, 1) := by decide +kernel
theorem dX5_putInstruction_58 : decode cX5_putInstruction 58 = .ok (.aload_n 1, 1) := by decide +kernel
theorem dX5_putInstruction_59 : decode cX5_putInstruction 59 = .ok (.aload_n 1, 1) := by decide +kernel
theorem dX5_putInstruction_60 : decode cX5_putInstruction 60 = .ok (.iload_n 2, 1) := by decide +kernel
theorem dX5_putInstruction_61 : decode cX5_putInstruction 61 = .ok (.iconst 2, 1) := by decide +kernel
theorem dX5_putInstruction_62 : decode cX5_putInstruction 62 = .ok (.invokevirtual 57, 3) := by decide +kernel
theorem dX5_putInstruction_65 : decode cX5_putInstruction 65 = .ok (.invokevirtual 40, 3) := by decide +kernel
theorem dX5_putInstruction_68 : decode cX5_putInstruction 68 = .ok (.invokevirtual 46, 3) := by decide +kernel
theorem dX5_putInstruction_71 : decode cX5_putInstruction 71 = .ok (.aload_n 0, 1) := by decide +kernel
theorem dX5_putInstruction_72 : decode cX5_putInstruction 72 = .ok (.aload_n 1, 1) := by decide +kernel
theorem dX5_putInstruction_73 : decode cX5_putInstruction 73 = .ok (.iload_n 2, 1) := by decide +kernel
theorem dX5_putInstruction_74 : decode cX5_putInstruction 74 = .ok (.iconst 4, 1) := by decide +kernel
theorem dX5_putInstruction_75 : decode cX5_putInstruction 75 = .ok (.invokevirtual 57, 3) := by decide +kernel
theorem dX5_putInstruction_78 : decode cX5_putInstruction 78 = .ok (.invokevirtual 54, 3) := by decide +kernel
theorem dX5_putInstruction_81 : decode cX5_putInstruction 81 = .ok (.aload_n 0, 1) := by decide +kernel
theorem dX5_putInstruction_82 : decode cX5_putInstruction 82 = .ok (.aload_n 1, 1) := by decide +kernel
theorem dX5_putInstruction_83 : decode cX5_putInstruction 83 = .ok (.iload_n 2, 1) := by decide +kernel
theorem dX5_putInstruction_84 : decode cX5_putInstruction 84 = .ok (.iconst 5, 1) := by decide +kernel
theorem dX5_putInstruction_85 : decode cX5_putInstruction 85 = .ok (.invokevirtual 57, 3) := by decide +kernel
theorem dX5_putInstruction_88 : decode cX5_putInstruction 88 = .ok (.invokevirtual 69, 3) := by decide +kernel
theorem dX5_putInstruction_91 : decode cX5_putInstruction 91 = .ok (.aload_n 0, 1) := by decide +kernel
theorem dX5_putInstruction_92 : decode cX5_putInstruction 92 = .ok (.bipush 59, 2) := by decide +kernel
theorem dX5_putInstruction_94 : decode cX5_putInstruction 94 = .ok (.invokevirtual 28, 3) := by decide +kernel
theorem dX5_putInstruction_97 : decode cX5_putInstruction 97 = .ok (.return_, 1) := by decide +kernel
theorem dX6_init_0 : decode cX6_init 0 = .ok (.aload_n 0, 1) := by decide +kernel
theorem dX6_init_1 : decode cX6_init 1 = .ok (.invokespecial 3, 3) := by decide +kernel
theorem dX6_init_4 : decode cX6_init 4 = .ok (.aload_n 0, 1) := by decide +kernel
theorem dX6_init_5 : decode cX6_init 5 = .ok (.iconst 0, 1) := by decide +kernel
theorem dX6_init_6 : decode cX6_init 6 = .ok (.putfield 9, 3) := by decide +kernel
theorem dX6_init_9 : decode cX6_init 9 = .ok (.aload_n 0, 1) := by decide +kernel
theorem dX6_init_10 : decode cX6_init 10 = .ok (.iconst 0, 1) := by decide +kernel
theorem dX6_init_11 : decode cX6_init 11 = .ok (.putfield 15, 3) := by decide +kernel
theorem dX6_init_14 : decode cX6_init 14 = .ok (.aload_n 0, 1) := by decide +kernel
theorem dX6_init_15 : decode cX6_init 15 = .ok (.iconst (-1), 1) := by decide +kernel
theorem dX6_init_16 : decode cX6_init 16 = .ok (.putfield 18, 3) := by decide +kernel
theorem dX6_init_19 : decode cX6_init 19 = .ok (.aload_n 0, 1) := by decide +kernel
theorem dX6_init_20 : decode cX6_init 20 = .ok (.iconst (-1), 1) := by decide +kernel
theorem dX6_init_21 : decode cX6_init 21 = .ok (.putfield 21, 3) := by decide +kernel
theorem dX6_init_24 : decode cX6_init 24 = .ok (.aload_n 0, 1) := by decide +kernel
theorem dX6_init_25 : decode cX6_init 25 = .ok (.iconst (-1), 1) := by decide +kernel
theorem dX6_init_26 : decode cX6_init 26 = .ok (.putfield 24, 3) := by decide +kernel
theorem dX6_init_29 : decode cX6_init 29 = .ok (.aload_n 0, 1) := by decide +kernel
theorem dX6_init_30 : decode cX6_init 30 = .ok (.iconst (-1), 1) := by decide +kernel
theorem dX6_init_31 : decode cX6_init 31 = .ok (.putfield 27, 3) := by decide +kernel
theorem dX6_init_34 : decode cX6_init 34 = .ok (.aload_n 0, 1) := by decide +kernel
theorem dX6_init_35 : decode cX6_init 35 = .ok (.new 30, 3) := by decide +kernel
theorem dX6_init_38 : decode cX6_init 38 = .ok (.dup, 1) := by decide +kernel
theorem dX6_init_39 : decode cX6_init 39 = .ok (.aload_n 1, 1) := by decide +kernel
theorem dX6_init_40 : decode cX6_init 40 = .ok (.invokespecial 32, 3) := by decide +kernel
theorem dX6_init_43 : decode cX6_init 43 = .ok (.putfield 35, 3) := by decide +kernel
theorem dX6_init_46 : decode cX6_init 46 = .ok (.aload_n 0, 1) := by decide +kernel
theorem dX6_init_47 : decode cX6_init 47 = .ok (.aload_n 2, 1) := by decide +kernel
theorem dX6_init_48 : decode cX6_init 48 = .ok (.putfield 39, 3) := by decide +kernel
theorem dX6_init_51 : decode cX6_init 51 = .ok (.return_, 1) := by decide +kernel
theorem dX6_parse_0 : decode cX6_parse 0 = .ok (.aload_n 0, 1) := by decide +kernel
theorem dX6_parse_1 : decode cX6_parse 1 = .ok (.iconst 0, 1) := by decide +kernel
theorem dX6_parse_2 : decode cX6_parse 2 = .ok (.putfield 9, 3) := by decide +kernel
theorem dX6_parse_5 : decode cX6_parse 5 = .ok (.aload_n 0, 1) := by decide +kernel
theorem dX6_parse_6 : decode cX6_parse 6 = .ok (.iconst 0, 1) := by decide +kernel
theorem dX6_parse_7 : decode cX6_parse 7 = .ok (.putfield 15, 3) := by decide +kernel
theorem dX6_parse_10 : decode cX6_parse 10 = .ok (.aload_n 0, 1) := by decide +kernel
theorem dX6_parse_11 : decode cX6_parse 11 = .ok (.getfield 39, 3) := by decide +kernel
theorem dX6_parse_14 : decode cX6_parse 14 = .ok (.invokevirtual 43, 3) := by decide +kernel
theorem dX6_parse_17 : decode cX6_parse 17 = .ok (.aload_n 0, 1) := by decide +kernel
theorem dX6_parse_18 : decode cX6_parse 18 = .ok (.getfield 35, 3) := by decide +kernel
theorem dX6_parse_21 : decode cX6_parse 21 = .ok (.iload_n 1, 1) := by decide +kernel
theorem dX6_parse_22 : decode cX6_parse 22 = .ok (.invokevirtual 48, 3) := by decide +kernel
theorem dX6_parse_25 : decode cX6_parse 25 = .ok (.iconst 1, 1) := by decide +kernel
theorem dX6_parse_26 : decode cX6_parse 26 = .ok (.istore_n 2, 1) := by decide +kernel
theorem dX6_parse_27 : decode cX6_parse 27 = .ok (.iconst 0, 1) := by decide +kernel
theorem dX6_parse_28 : decode cX6_parse 28 = .ok (.istore_n 3, 1) := by decide +kernel
theorem dX6_parse_29 : decode cX6_parse 29 = .ok (.iload_n 3, 1) := by decide +kernel
theorem dX6_parse_30 : decode cX6_parse 30 = .ok (.iconst 3, 1) := by decide +kernel
theorem dX6_parse_31 : decode cX6_parse 31 = .ok (.if_icmp .gt 31, 3) := by decide +kernel
theorem dX6_parse_34 : decode cX6_parse 34 = .ok (.iload_n 2, 1) := by decide +kernel
theorem dX6_parse_35 : decode cX6_parse 35 = .ok (.ifCond .eq 27, 3) := by decide +kernel
theorem dX6_parse_38 : decode cX6_parse 38 = .ok (.aload_n 0, 1) := by decide +kernel
theorem dX6_parse_39 : decode cX6_parse 39 = .ok (.getfield 35, 3) := by decide +kernel
theorem dX6_parse_42 : decode cX6_parse 42 = .ok (.invokevirtual 52, 3) := by decide +kernel
theorem dX6_parse_45 : decode cX6_parse 45 = .ok (.getstatic 56, 3) := by decide +kernel
theorem dX6_parse_48 : decode cX6_parse 48 = .ok (.if_acmp .ne 14, 3) := by decide +kernel
theorem dX6_parse_51 : decode cX6_parse 51 = .ok (.aload_n 0, 1) := by decide +kernel
theorem dX6_parse_52 : decode cX6_parse 52 = .ok (.invokevirtual 62, 3) := by decide +kernel
theorem dX6_parse_55 : decode cX6_parse 55 = .ok (.istore_n 2, 1) := by decide +kernel
theorem dX6_parse_56 : decode cX6_parse 56 = .ok (.iinc 3 1, 3) := by decide +kernel
theorem dX6_parse_59 : decode cX6_parse 59 = .ok (.goto (-30), 3) := by decide +kernel
theorem dX6_parse_62 : decode cX6_parse 62 = .ok (.iconst 0, 1) := by decide +kernel
theorem dX6_parse_63 : decode cX6_parse 63 = .ok (.istore_n 3, 1) := by decide +kernel
theorem dX6_parse_64 : decode cX6_parse 64 = .ok (.iload_n 3, 1) := by decide +kernel
theorem dX6_parse_65 : decode cX6_parse 65 = .ok (.iconst 4, 1) := by decide +kernel
theorem dX6_parse_66 : decode cX6_parse 66 = .ok (.if_icmp .gt 31, 3) := by decide +kernel
theorem dX6_parse_69 : decode cX6_parse 69 = .ok (.iload_n 2, 1) := by decide +kernel
theorem dX6_parse_70 : decode cX6_parse 70 = .ok (.ifCond .eq 27, 3) := by decide +kernel
theorem dX6_parse_73 : decode cX6_parse 73 = .ok (.aload_n 0, 1) := by decide +kernel
theorem dX6_parse_74 : decode cX6_parse 74 = .ok (.getfield 35, 3) := by decide +kernel
theorem dX6_parse_77 : decode cX6_parse 77 = .ok (.invokevirtual 52, 3) := by decide +kernel
theorem dX6_parse_80 : decode cX6_parse 80 = .ok (.getstatic 66, 3) := by decide +kernel
theorem dX6_parse_83 : decode cX6_parse 83 = .ok (.if_acmp .ne 14, 3) := by decide +kernel
theorem dX6_parse_86 : decode cX6_parse 86 = .ok (.aload_n 0, 1) := by decide +kernel
theorem dX6_parse_87 : decode cX6_parse 87 = .ok (.invokevirtual 69, 3) := by decide +kernel
theorem dX6_parse_90 : decode cX6_parse 90 = .ok (.istore_n 2, 1) := by decide +kernel
theorem dX6_parse_91 : decode cX6_parse 91 = .ok (.iinc 3 1, 3) := by decide +kernel
theorem dX6_parse_94 : decode cX6_parse 94 = .ok (.goto (-30), 3) := by decide +kernel
theorem dX6_parse_97 : decode cX6_parse 97 = .ok (.iload_n 2, 1) := by decide +kernel
theorem dX6_parse_98 : decode cX6_parse 98 = .ok (.ifCond .eq 47, 3) := by decide +kernel
theorem dX6_parse_101 : decode cX6_parse 101 = .ok (.aload_n 0, 1) := by decide +kernel
theorem dX6_parse_102 : decode cX6_parse 102 = .ok (.getfield 35, 3) := by decide +kernel
theorem dX6_parse_105 : decode cX6_parse 105 = .ok (.invokevirtual 52, 3) := by decide +kernel
theorem dX6_parse_108 : decode cX6_parse 108 = .ok (.getstatic 72, 3) := by decide +kernel
theorem dX6_parse_111 : decode cX6_parse 111 = .ok (.if_acmp .ne 34, 3) := by decide +kernel
theorem dX6_parse_114 : decode cX6_parse 114 = .ok (.aload_n 0, 1) := by decide +kernel
theorem dX6_parse_115 : decode cX6_parse 115 = .ok (.getfield 35, 3) := by decide +kernel
theorem dX6_parse_118 : decode cX6_parse 118 = .ok (.invokevirtual 75, 3) := by decide +kernel
theorem dX6_parse_121 : decode cX6_parse 121 = .ok (.aload_n 0, 1) := by decide +kernel
theorem dX6_parse_122 : decode cX6_parse 122 = .ok (.iconst 0, 1) := by decide +kernel
theorem dX6_parse_123 : decode cX6_parse 123 = .ok (.invokevirtual 78, 3) := by decide +kernel
theorem dX6_parse_126 : decode cX6_parse 126 = .ok (.ifCond .eq 17, 3) := by decide +kernel
theorem dX6_parse_129 : decode cX6_parse 129 = .ok (.aload_n 0, 1) := by decide +kernel
theorem dX6_parse_130 : decode cX6_parse 130 = .ok (.getstatic 82, 3) := by decide +kernel
theorem dX6_parse_133 : decode cX6_parse 133 = .ok (.invokevirtual 85, 3) := by decide +kernel
theorem dX6_parse_136 : decode cX6_parse 136 = .ok (.ifCond .eq 7, 3) := by decide +kernel
theorem dX6_parse_139 : decode cX6_parse 139 = .ok (.iconst 1, 1) := by decide +kernel
theorem dX6_parse_140 : decode cX6_parse 140 = .ok (.goto 4, 3) := by decide +kernel
theorem dX6_parse_143 : decode cX6_parse 143 = .ok (.iconst 0, 1) := by decide +kernel
theorem dX6_parse_144 : decode cX6_parse 144 = .ok (.istore_n 2, 1) := by decide +kernel
theorem dX6_parse_145 : decode cX6_parse 145 = .ok (.iload_n 2, 1) := by decide +kernel
theorem dX6_parse_146 : decode cX6_parse 146 = .ok (.ifCond .eq 22, 3) := by decide +kernel
theorem dX6_parse_149 : decode cX6_parse 149 = .ok (.aload_n 0, 1) := by decide +kernel
theorem dX6_parse_150 : decode cX6_parse 150 = .ok (.getfield 35, 3) := by decide +kernel
theorem dX6_parse_153 : decode cX6_parse 153 = .ok (.invokevirtual 52, 3) := by decide +kernel
theorem dX6_parse_156 : decode cX6_parse 156 = .ok (.getstatic 89, 3) := by decide +kernel
theorem dX6_parse_159 : decode cX6_parse 159 = .ok (.if_acmp .eq 9, 3) := by decide +kernel
theorem dX6_parse_162 : decode cX6_parse 162 = .ok (.aload_n 0, 1) := by decide +kernel
theorem dX6_parse_163 : decode cX6_parse 163 = .ok (.iconst 1, 1) := by decide +kernel
theorem dX6_parse_164 : decode cX6_parse 164 = .ok (.invokevirtual 92, 3) := by decide +kernel
theorem dX6_parse_167 : decode cX6_parse 167 = .ok (.pop, 1) := by decide +kernel
theorem dX6_parse_168 : decode cX6_parse 168 = .ok (.aload_n 0, 1) := by decide +kernel
theorem dX6_parse_169 : decode cX6_parse 169 = .ok (.getfield 9, 3) := by decide +kernel
theorem dX6_parse_172 : decode cX6_parse 172 = .ok (.ireturn, 1) := by decide +kernel
theorem dX6_fail_0 : decode cX6_fail 0 = .ok (.aload_n 0, 1) := by decide +kernel
theorem dX6_fail_1 : decode cX6_fail 1 = .ok (.bipush 8, 2) := by decide +kernel
theorem dX6_fail_3 : decode cX6_fail 3 = .ok (.aload_n 0, 1) := by decide +kernel
theorem dX6_fail_4 : decode cX6_fail 4 = .ok (.getfield 35, 3) := by decide +kernel
theorem dX6_fail_7 : decode cX6_fail 7 = .ok (.invokevirtual 95, 3) := by decide +kernel
theorem dX6_fail_10 : decode cX6_fail 10 = .ok (.imul, 1) := by decide +kernel
theorem dX6_fail_11 : decode cX6_fail 11 = .ok (.iload_n 1, 1) := by decide +kernel
theorem dX6_fail_12 : decode cX6_fail 12 = .ok (.iadd, 1) := by decide +kernel
theorem dX6_fail_13 : decode cX6_fail 13 = .ok (.putfield 9, 3) := by decide +kernel
theorem dX6_fail_16 : decode cX6_fail 16 = .ok (.iconst 0, 1) := by decide +kernel
theorem dX6_fail_17 : decode cX6_fail 17 = .ok (.ireturn, 1) := by decide +kernel
theorem dX6_expect_0 : decode cX6_expect 0 = .ok (.aload_n 0, 1) := by decide +kernel
theorem dX6_expect_1 : decode cX6_expect 1 = .ok (.getfield 35, 3) := by decide +kernel
theorem dX6_expect_4 : decode cX6_expect 4 = .ok (.invokevirtual 52, 3) := by decide +kernel
theorem dX6_expect_7 : decode cX6_expect 7 = .ok (.aload_n 1, 1) := by decide +kernel
theorem dX6_expect_8 : decode cX6_expect 8 = .ok (.if_acmp .eq 9, 3) := by decide +kernel
theorem dX6_expect_11 : decode cX6_expect 11 = .ok (.aload_n 0, 1) := by decide +kernel
theorem dX6_expect_12 : decode cX6_expect 12 = .ok (.iconst 1, 1) := by decide +kernel
theorem dX6_expect_13 : decode cX6_expect 13 = .ok (.invokevirtual 92, 3) := by decide +kernel
theorem dX6_expect_16 : decode cX6_expect 16 = .ok (.ireturn, 1) := by decide +kernel
theorem dX6_expect_17 : decode cX6_expect 17 = .ok (.aload_n 0, 1) := by decide +kernel
theorem dX6_expect_18 : decode cX6_expect 18 = .ok (.getfield 35, 3) := by decide +kernel
theorem dX6_expect_21 : decode cX6_expect 21 = .ok (.invokevirtual 75, 3) := by decide +kernel
theorem dX6_expect_24 : decode cX6_expect 24 = .ok (.iconst 1, 1) := by decide +kernel
theorem dX6_expect_25 : decode cX6_expect 25 = .ok (.ireturn, 1) := by decide +kernel
theorem dX6_readDeclaration_0 : decode cX6_readDeclaration 0 = .ok (.aload_n 0, 1) := by decide +kernel
theorem dX6_readDeclaration_1 : decode cX6_readDeclaration 1 = .ok (.getfield 39, 3) := by decide +kernel
theorem dX6_readDeclaration_4 : decode cX6_readDeclaration 4 = .ok (.invokevirtual 99, 3) := by decide +kernel
theorem dX6_readDeclaration_7 : decode cX6_readDeclaration 7 = .ok (.iconst 3, 1) := by decide +kernel
theorem dX6_readDeclaration_8 : decode cX6_readDeclaration 8 = .ok (.if_icmp .lt 9, 3) := by decide +kernel
theorem dX6_readDeclaration_11 : decode cX6_readDeclaration 11 = .ok (.aload_n 0, 1) := by decide +kernel
theorem dX6_readDeclaration_12 : decode cX6_readDeclaration 12 = .ok (.iconst 5, 1) := by decide +kernel
theorem dX6_readDeclaration_13 : decode cX6_readDeclaration 13 = .ok (.invokevirtual 92, 3) := by decide +kernel
theorem dX6_readDeclaration_16 : decode cX6_readDeclaration 16 = .ok (.ireturn, 1) := by decide +kernel
theorem dX6_readDeclaration_17 : decode cX6_readDeclaration 17 = .ok (.aload_n 0, 1) := by decide +kernel
theorem dX6_readDeclaration_18 : decode cX6_readDeclaration 18 = .ok (.getfield 35, 3) := by decide +kernel
theorem dX6_readDeclaration_21 : decode cX6_readDeclaration 21 = .ok (.invokevirtual 75, 3) := by decide +kernel
theorem dX6_readDeclaration_24 : decode cX6_readDeclaration 24 = .ok (.aload_n 0, 1) := by decide +kernel
theorem dX6_readDeclaration_25 : decode cX6_readDeclaration 25 = .ok (.getfield 35, 3) := by decide +kernel
theorem dX6_readDeclaration_28 : decode cX6_readDeclaration 28 = .ok (.invokevirtual 52, 3) := by decide +kernel
theorem dX6_readDeclaration_31 : decode cX6_readDeclaration 31 = .ok (.getstatic 102, 3) := by decide +kernel
theorem dX6_readDeclaration_34 : decode cX6_readDeclaration 34 = .ok (.if_acmp .eq 9, 3) := by decide +kernel
theorem dX6_readDeclaration_37 : decode cX6_readDeclaration 37 = .ok (.aload_n 0, 1) := by decide +kernel
theorem dX6_readDeclaration_38 : decode cX6_readDeclaration 38 = .ok (.iconst 1, 1) := by decide +kernel
theorem dX6_readDeclaration_39 : decode cX6_readDeclaration 39 = .ok (.invokevirtual 92, 3) := by decide +kernel
theorem dX6_readDeclaration_42 : decode cX6_readDeclaration 42 = .ok (.ireturn, 1) := by decide +kernel
theorem dX6_readDeclaration_43 : decode cX6_readDeclaration 43 = .ok (.aload_n 0, 1) := by decide +kernel
theorem dX6_readDeclaration_44 : decode cX6_readDeclaration 44 = .ok (.getfield 35, 3) := by decide +kernel
theorem dX6_readDeclaration_47 : decode cX6_readDeclaration 47 = .ok (.invokevirtual 105, 3) := by decide +kernel
theorem dX6_readDeclaration_50 : decode cX6_readDeclaration 50 = .ok (.lstore_n 1, 1) := by decide +kernel
theorem dX6_readDeclaration_51 : decode cX6_readDeclaration 51 = .ok (.aload_n 0, 1) := by decide +kernel
theorem dX6_readDeclaration_52 : decode cX6_readDeclaration 52 = .ok (.getfield 39, 3) := by decide +kernel
theorem dX6_readDeclaration_55 : decode cX6_readDeclaration 55 = .ok (.lload_n 1, 1) := by decide +kernel
theorem dX6_readDeclaration_56 : decode cX6_readDeclaration 56 = .ok (.invokevirtual 109, 3) := by decide +kernel
theorem dX6_readDeclaration_59 : decode cX6_readDeclaration 59 = .ok (.iconst (-1), 1) := by decide +kernel
theorem dX6_readDeclaration_60 : decode cX6_readDeclaration 60 = .ok (.if_icmp .eq 9, 3) := by decide +kernel
theorem dX6_readDeclaration_63 : decode cX6_readDeclaration 63 = .ok (.aload_n 0, 1) := by decide +kernel
theorem dX6_readDeclaration_64 : decode cX6_readDeclaration 64 = .ok (.iconst 3, 1) := by decide +kernel
theorem dX6_readDeclaration_65 : decode cX6_readDeclaration 65 = .ok (.invokevirtual 92, 3) := by decide +kernel
theorem dX6_readDeclaration_68 : decode cX6_readDeclaration 68 = .ok (.ireturn, 1) := by decide +kernel
theorem dX6_readDeclaration_69 : decode cX6_readDeclaration 69 = .ok (.aload_n 0, 1) := by decide +kernel
theorem dX6_readDeclaration_70 : decode cX6_readDeclaration 70 = .ok (.getfield 35, 3) := by decide +kernel
theorem dX6_readDeclaration_73 : decode cX6_readDeclaration 73 = .ok (.invokevirtual 75, 3) := by decide +kernel
theorem dX6_readDeclaration_76 : decode cX6_readDeclaration 76 = .ok (.aload_n 0, 1) := by decide +kernel
theorem dX6_readDeclaration_77 : decode cX6_readDeclaration 77 = .ok (.invokevirtual 113, 3) := by decide +kernel
theorem dX6_readDeclaration_80 : decode cX6_readDeclaration 80 = .ok (.ifCond .ne 5, 3) := by decide +kernel
theorem dX6_readDeclaration_83 : decode cX6_readDeclaration 83 = .ok (.iconst 0, 1) := by decide +kernel
theorem dX6_readDeclaration_84 : decode cX6_readDeclaration 84 = .ok (.ireturn, 1) := by decide +kernel
theorem dX6_readDeclaration_85 : decode cX6_readDeclaration 85 = .ok (.aload_n 0, 1) := by decide +kernel
theorem dX6_readDeclaration_86 : decode cX6_readDeclaration 86 = .ok (.getfield 39, 3) := by decide +kernel
theorem dX6_readDeclaration_89 : decode cX6_readDeclaration 89 = .ok (.lload_n 1, 1) := by decide +kernel
theorem dX6_readDeclaration_90 : decode cX6_readDeclaration 90 = .ok (.aload_n 0, 1) := by decide +kernel
theorem dX6_readDeclaration_91 : decode cX6_readDeclaration 91 = .ok (.getfield 35, 3) := by decide +kernel
theorem dX6_readDeclaration_94 : decode cX6_readDeclaration 94 = .ok (.invokevirtual 116, 3) := by decide +kernel
theorem dX6_readDeclaration_97 : decode cX6_readDeclaration 97 = .ok (.invokevirtual 119, 3) := by decide +kernel
theorem dX6_readDeclaration_100 : decode cX6_readDeclaration 100 = .ok (.aload_n 0, 1) := by decide +kernel
theorem dX6_readDeclaration_101 : decode cX6_readDeclaration 101 = .ok (.getfield 35, 3) := by decide +kernel
theorem dX6_readDeclaration_104 : decode cX6_readDeclaration 104 = .ok (.invokevirtual 75, 3) := by decide +kernel
theorem dX6_readDeclaration_107 : decode cX6_readDeclaration 107 = .ok (.aload_n 0, 1) := by decide +kernel
theorem dX6_readDeclaration_108 : decode cX6_readDeclaration 108 = .ok (.getstatic 82, 3) := by decide +kernel
theorem dX6_readDeclaration_111 : decode cX6_readDeclaration 111 = .ok (.invokevirtual 85, 3) := by decide +kernel
theorem dX6_readDeclaration_114 : decode cX6_readDeclaration 114 = .ok (.ireturn, 1) := by decide +kernel
theorem dX6_isValue_0 : decode cX6_isValue 0 = .ok (.aload_n 0, 1) := by decide +kernel
theorem dX6_isValue_1 : decode cX6_isValue 1 = .ok (.getfield 35, 3) := by decide +kernel
theorem dX6_isValue_4 : decode cX6_isValue 4 = .ok (.invokevirtual 52, 3) := by decide +kernel
theorem dX6_isValue_7 : decode cX6_isValue 7 = .ok (.getstatic 123, 3) := by decide +kernel
theorem dX6_isValue_10 : decode cX6_isValue 10 = .ok (.if_acmp .eq 9, 3) := by decide +kernel
theorem dX6_isValue_13 : decode cX6_isValue 13 = .ok (.aload_n 0, 1) := by decide +kernel
theorem dX6_isValue_14 : decode cX6_isValue 14 = .ok (.iconst 1, 1) := by decide +kernel
theorem dX6_isValue_15 : decode cX6_isValue 15 = .ok (.invokevirtual 92, 3) := by decide +kernel
theorem dX6_isValue_18 : decode cX6_isValue 18 = .ok (.ireturn, 1) := by decide +kernel
theorem dX6_isValue_19 : decode cX6_isValue 19 = .ok (.aload_n 0, 1) := by decide +kernel
theorem dX6_isValue_20 : decode cX6_isValue 20 = .ok (.getfield 35, 3) := by decide +kernel
theorem dX6_isValue_23 : decode cX6_isValue 23 = .ok (.invokevirtual 116, 3) := by decide +kernel
theorem dX6_isValue_26 : decode cX6_isValue 26 = .ok (.iconst 3, 1) := by decide +kernel
theorem dX6_isValue_27 : decode cX6_isValue 27 = .ok (.if_icmp .le 11, 3) := by decide +kernel
theorem dX6_isValue_30 : decode cX6_isValue 30 = .ok (.aload_n 0, 1) := by decide +kernel
theorem dX6_isValue_31 : decode cX6_isValue 31 = .ok (.iconst 2, 1) := by decide +kernel
theorem dX6_isValue_32 : decode cX6_isValue 32 = .ok (.invokevirtual 92, 3) := by decide +kernel
theorem dX6_isValue_35 : decode cX6_isValue 35 = .ok (.ifCond .eq 7, 3) := by decide +kernel
theorem dX6_isValue_38 : decode cX6_isValue 38 = .ok (.iconst 1, 1) := by decide +kernel
theorem dX6_isValue_39 : decode cX6_isValue 39 = .ok (.goto 4, 3) := by decide +kernel
theorem dX6_isValue_42 : decode cX6_isValue 42 = .ok (.iconst 0, 1) := by decide +kernel
theorem dX6_isValue_43 : decode cX6_isValue 43 = .ok (.ireturn, 1) := by decide +kernel
theorem dX6_readThread_0 : decode cX6_readThread 0 = .ok (.aload_n 0, 1) := by decide +kernel
theorem dX6_readThread_1 : decode cX6_readThread 1 = .ok (.getfield 39, 3) := by decide +kernel
theorem dX6_readThread_4 : decode cX6_readThread 4 = .ok (.invokevirtual 126, 3) := by decide +kernel
theorem dX6_readThread_7 : decode cX6_readThread 7 = .ok (.istore_n 1, 1) := by decide +kernel
theorem dX6_readThread_8 : decode cX6_readThread 8 = .ok (.iload_n 1, 1) := by decide +kernel
theorem dX6_readThread_9 : decode cX6_readThread 9 = .ok (.iconst 4, 1) := by decide +kernel
theorem dX6_readThread_10 : decode cX6_readThread 10 = .ok (.if_icmp .lt 9, 3) := by decide +kernel
theorem dX6_readThread_13 : decode cX6_readThread 13 = .ok (.aload_n 0, 1) := by decide +kernel
theorem dX6_readThread_14 : decode cX6_readThread 14 = .ok (.iconst 5, 1) := by decide +kernel
theorem dX6_readThread_15 : decode cX6_readThread 15 = .ok (.invokevirtual 92, 3) := by decide +kernel
theorem dX6_readThread_18 : decode cX6_readThread 18 = .ok (.ireturn, 1) := by decide +kernel
theorem dX6_readThread_19 : decode cX6_readThread 19 = .ok (.aload_n 0, 1) := by decide +kernel
theorem dX6_readThread_20 : decode cX6_readThread 20 = .ok (.getfield 35, 3) := by decide +kernel
theorem dX6_readThread_23 : decode cX6_readThread 23 = .ok (.invokevirtual 75, 3) := by decide +kernel
theorem dX6_readThread_26 : decode cX6_readThread 26 = .ok (.aload_n 0, 1) := by decide +kernel
theorem dX6_readThread_27 : decode cX6_readThread 27 = .ok (.getfield 39, 3) := by decide +kernel
theorem dX6_readThread_30 : decode cX6_readThread 30 = .ok (.invokevirtual 129, 3) := by decide +kernel
theorem dX6_readThread_33 : decode cX6_readThread 33 = .ok (.aload_n 0, 1) := by decide +kernel
theorem dX6_readThread_34 : decode cX6_readThread 34 = .ok (.getstatic 82, 3) := by decide +kernel
theorem dX6_readThread_37 : decode cX6_readThread 37 = .ok (.invokevirtual 85, 3) := by decide +kernel
theorem dX6_readThread_40 : decode cX6_readThread 40 = .ok (.istore_n 2, 1) := by decide +kernel
theorem dX6_readThread_41 : decode cX6_readThread 41 = .ok (.iconst 0, 1) := by decide +kernel
theorem dX6_readThread_42 : decode cX6_readThread 42 = .ok (.istore_n 3, 1) := by decide +kernel
theorem dX6_readThread_43 : decode cX6_readThread 43 = .ok (.iload_n 3, 1) := by decide +kernel
theorem dX6_readThread_44 : decode cX6_readThread 44 = .ok (.bipush 7, 2) := by decide +kernel
theorem dX6_readThread_46 : decode cX6_readThread 46 = .ok (.if_icmp .gt 31, 3) := by decide +kernel
theorem dX6_readThread_49 : decode cX6_readThread 49 = .ok (.iload_n 2, 1) := by decide +kernel
theorem dX6_readThread_50 : decode cX6_readThread 50 = .ok (.ifCond .eq 27, 3) := by decide +kernel
theorem dX6_readThread_53 : decode cX6_readThread 53 = .ok (.aload_n 0, 1) := by decide +kernel
theorem dX6_readThread_54 : decode cX6_readThread 54 = .ok (.invokevirtual 132, 3) := by decide +kernel
theorem dX6_readThread_57 : decode cX6_readThread 57 = .ok (.iconst (-1), 1) := by decide +kernel
theorem dX6_readThread_58 : decode cX6_readThread 58 = .ok (.if_icmp .eq 19, 3) := by decide +kernel
theorem dX6_readThread_61 : decode cX6_readThread 61 = .ok (.aload_n 0, 1) := by decide +kernel
theorem dX6_readThread_62 : decode cX6_readThread 62 = .ok (.iload_n 1, 1) := by decide +kernel
theorem dX6_readThread_63 : decode cX6_readThread 63 = .ok (.aload_n 0, 1) := by decide +kernel
theorem dX6_readThread_64 : decode cX6_readThread 64 = .ok (.invokevirtual 132, 3) := by decide +kernel
theorem dX6_readThread_67 : decode cX6_readThread 67 = .ok (.invokevirtual 135, 3) := by decide +kernel
theorem dX6_readThread_70 : decode cX6_readThread 70 = .ok (.istore_n 2, 1) := by decide +kernel
theorem dX6_readThread_71 : decode cX6_readThread 71 = .ok (.iinc 3 1, 3) := by decide +kernel
theorem dX6_readThread_74 : decode cX6_readThread 74 = .ok (.goto (-31), 3) := by decide +kernel
theorem dX6_readThread_77 : decode cX6_readThread 77 = .ok (.iload_n 2, 1) := by decide +kernel
theorem dX6_readThread_78 : decode cX6_readThread 78 = .ok (.ireturn, 1) := by decide +kernel
theorem dX6_kindOfInstruction_0 : decode cX6_kindOfInstruction 0 = .ok (.aload_n 0, 1) := by decide +kernel
theorem dX6_kindOfInstruction_1 : decode cX6_kindOfInstruction 1 = .ok (.getfield 35, 3) := by decide +kernel
theorem dX6_kindOfInstruction_4 : decode cX6_kindOfInstruction 4 = .ok (.invokevirtual 52, 3) := by decide +kernel
theorem dX6_kindOfInstruction_7 : decode cX6_kindOfInstruction 7 = .ok (.astore_n 1, 1) := by decide +kernel
theorem dX6_kindOfInstruction_8 : decode cX6_kindOfInstruction 8 = .ok (.aload_n 1, 1) := by decide +kernel
theorem dX6_kindOfInstruction_9 : decode cX6_kindOfInstruction 9 = .ok (.getstatic 139, 3) := by decide +kernel
theorem dX6_kindOfInstruction_12 : decode cX6_kindOfInstruction 12 = .ok (.if_acmp .ne 5, 3) := by decide +kernel
theorem dX6_kindOfInstruction_15 : decode cX6_kindOfInstruction 15 = .ok (.iconst 0, 1) := by decide +kernel
theorem dX6_kindOfInstruction_16 : decode cX6_kindOfInstruction 16 = .ok (.ireturn, 1) := by decide +kernel
theorem dX6_kindOfInstruction_17 : decode cX6_kindOfInstruction 17 = .ok (.aload_n 1, 1) := by decide +kernel
theorem dX6_kindOfInstruction_18 : decode cX6_kindOfInstruction 18 = .ok (.getstatic 142, 3) := by decide +kernel
theorem dX6_kindOfInstruction_21 : decode cX6_kindOfInstruction 21 = .ok (.if_acmp .ne 5, 3) := by decide +kernel
theorem dX6_kindOfInstruction_24 : decode cX6_kindOfInstruction 24 = .ok (.iconst 1, 1) := by decide +kernel
theorem dX6_kindOfInstruction_25 : decode cX6_kindOfInstruction 25 = .ok (.ireturn, 1) := by decide +kernel
theorem dX6_kindOfInstruction_26 : decode cX6_kindOfInstruction 26 = .ok (.aload_n 1, 1) := by decide +kernel
theorem dX6_kindOfInstruction_27 : decode cX6_kindOfInstruction 27 = .ok (.getstatic 145, 3) := by decide +kernel
theorem dX6_kindOfInstruction_30 : decode cX6_kindOfInstruction 30 = .ok (.if_acmp .ne 5, 3) := by decide +kernel
theorem dX6_kindOfInstruction_33 : decode cX6_kindOfInstruction 33 = .ok (.iconst 2, 1) := by decide +kernel
theorem dX6_kindOfInstruction_34 : decode cX6_kindOfInstruction 34 = .ok (.ireturn, 1) := by decide +kernel
theorem dX6_kindOfInstruction_35 : decode cX6_kindOfInstruction 35 = .ok (.aload_n 1, 1) := by decide +kernel
theorem dX6_kindOfInstruction_36 : decode cX6_kindOfInstruction 36 = .ok (.getstatic 148, 3) := by decide +kernel
theorem dX6_kindOfInstruction_39 : decode cX6_kindOfInstruction 39 = .ok (.if_acmp .ne 7, 3) := by decide +kernel
theorem dX6_kindOfInstruction_42 : decode cX6_kindOfInstruction 42 = .ok (.iconst 3, 1) := by decide +kernel
theorem dX6_kindOfInstruction_43 : decode cX6_kindOfInstruction 43 = .ok (.goto 4, 3) := by decide +kernel
theorem dX6_kindOfInstruction_46 : decode cX6_kindOfInstruction 46 = .ok (.iconst (-1), 1) := by decide +kernel
theorem dX6_kindOfInstruction_47 : decode cX6_kindOfInstruction 47 = .ok (.ireturn, 1) := by decide +kernel
theorem dX6_readInstruction_0 : decode cX6_readInstruction 0 = .ok (.aload_n 0, 1) := by decide +kernel
theorem dX6_readInstruction_1 : decode cX6_readInstruction 1 = .ok (.iload_n 1, 1) := by decide +kernel
theorem dX6_readInstruction_2 : decode cX6_readInstruction 2 = .ok (.iload_n 2, 1) := by decide +kernel
theorem dX6_readInstruction_3 : decode cX6_readInstruction 3 = .ok (.invokevirtual 151, 3) := by decide +kernel
theorem dX6_readInstruction_6 : decode cX6_readInstruction 6 = .ok (.ifCond .eq 9, 3) := by decide +kernel
theorem dX6_readInstruction_9 : decode cX6_readInstruction 9 = .ok (.aload_n 0, 1) := by decide +kernel
theorem dX6_readInstruction_10 : decode cX6_readInstruction 10 = .ok (.iconst 5, 1) := by decide +kernel
theorem dX6_readInstruction_11 : decode cX6_readInstruction 11 = .ok (.invokevirtual 92, 3) := by decide +kernel
theorem dX6_readInstruction_14 : decode cX6_readInstruction 14 = .ok (.ireturn, 1) := by decide +kernel
theorem dX6_readInstruction_15 : decode cX6_readInstruction 15 = .ok (.aload_n 0, 1) := by decide +kernel
theorem dX6_readInstruction_16 : decode cX6_readInstruction 16 = .ok (.iconst (-1), 1) := by decide +kernel
theorem dX6_readInstruction_17 : decode cX6_readInstruction 17 = .ok (.putfield 18, 3) := by decide +kernel
theorem dX6_readInstruction_20 : decode cX6_readInstruction 20 = .ok (.aload_n 0, 1) := by decide +kernel
theorem dX6_readInstruction_21 : decode cX6_readInstruction 21 = .ok (.iconst (-1), 1) := by decide +kernel
theorem dX6_readInstruction_22 : decode cX6_readInstruction 22 = .ok (.putfield 21, 3) := by decide +kernel
theorem dX6_readInstruction_25 : decode cX6_readInstruction 25 = .ok (.aload_n 0, 1) := by decide +kernel
theorem dX6_readInstruction_26 : decode cX6_readInstruction 26 = .ok (.iconst (-1), 1) := by decide +kernel
theorem dX6_readInstruction_27 : decode cX6_readInstruction 27 = .ok (.putfield 24, 3) := by decide +kernel
theorem dX6_readInstruction_30 : decode cX6_readInstruction 30 = .ok (.aload_n 0, 1) := by decide +kernel
theorem dX6_readInstruction_31 : decode cX6_readInstruction 31 = .ok (.iconst (-1), 1) := by decide +kernel
theorem dX6_readInstruction_32 : decode cX6_readInstruction 32 = .ok (.putfield 27, 3) := by decide +kernel
theorem dX6_readInstruction_35 : decode cX6_readInstruction 35 = .ok (.aload_n 0, 1) := by decide +kernel
theorem dX6_readInstruction_36 : decode cX6_readInstruction 36 = .ok (.getfield 35, 3) := by decide +kernel
theorem dX6_readInstruction_39 : decode cX6_readInstruction 39 = .ok (.invokevirtual 75, 3) := by decide +kernel
theorem dX6_readInstruction_42 : decode cX6_readInstruction 42 = .ok (.iload_n 2, 1) := by decide +kernel
theorem dX6_readInstruction_43 : decode cX6_readInstruction 43 = .ok (.iconst 1, 1) := by decide +kernel
theorem dX6_readInstruction_44 : decode cX6_readInstruction 44 = .ok (.if_icmp .eq 8, 3) := by decide +kernel
theorem dX6_readInstruction_47 : decode cX6_readInstruction 47 = .ok (.iload_n 2, 1) := by decide +kernel
theorem dX6_readInstruction_48 : decode cX6_readInstruction 48 = .ok (.iconst 2, 1) := by decide +kernel
theorem dX6_readInstruction_49 : decode cX6_readInstruction 49 = .ok (.if_icmp .ne 7, 3) := by decide +kernel
theorem dX6_readInstruction_52 : decode cX6_readInstruction 52 = .ok (.iconst 1, 1) := by decide +kernel
theorem dX6_readInstruction_53 : decode cX6_readInstruction 53 = .ok (.goto 4, 3) := by decide +kernel
theorem dX6_readInstruction_56 : decode cX6_readInstruction 56 = .ok (.iconst 0, 1) := by decide +kernel
theorem dX6_readInstruction_57 : decode cX6_readInstruction 57 = .ok (.istore_n 3, 1) := by decide +kernel
theorem dX6_readInstruction_58 : decode cX6_readInstruction 58 = .ok (.iload_n 2, 1) := by decide +kernel
theorem dX6_readInstruction_59 : decode cX6_readInstruction 59 = .ok (.ifCond .eq 8, 3) := by decide +kernel
theorem dX6_readInstruction_62 : decode cX6_readInstruction 62 = .ok (.iload_n 2, 1) := by decide +kernel
theorem dX6_readInstruction_63 : decode cX6_readInstruction 63 = .ok (.iconst 2, 1) := by decide +kernel
theorem dX6_readInstruction_64 : decode cX6_readInstruction 64 = .ok (.if_icmp .ne 7, 3) := by decide +kernel
theorem dX6_readInstruction_67 : decode cX6_readInstruction 67 = .ok (.iconst 1, 1) := by decide +kernel
theorem dX6_readInstruction_68 : decode cX6_readInstruction 68 = .ok (.goto 4, 3) := by decide +kernel
theorem dX6_readInstruction_71 : decode cX6_readInstruction 71 = .ok (.iconst 0, 1) := by decide +kernel
theorem dX6_readInstruction_72 : decode cX6_readInstruction 72 = .ok (.istore 4, 2) := by decide +kernel
theorem dX6_readInstruction_74 : decode cX6_readInstruction 74 = .ok (.iload_n 3, 1) := by decide +kernel
theorem dX6_readInstruction_75 : decode cX6_readInstruction 75 = .ok (.ifCond .eq 11, 3) := by decide +kernel
theorem dX6_readInstruction_78 : decode cX6_readInstruction 78 = .ok (.aload_n 0, 1) := by decide +kernel
theorem dX6_readInstruction_79 : decode cX6_readInstruction 79 = .ok (.iload_n 1, 1) := by decide +kernel
theorem dX6_readInstruction_80 : decode cX6_readInstruction 80 = .ok (.invokevirtual 154, 3) := by decide +kernel
theorem dX6_readInstruction_83 : decode cX6_readInstruction 83 = .ok (.ifCond .eq 42, 3) := by decide +kernel
theorem dX6_readInstruction_86 : decode cX6_readInstruction 86 = .ok (.iload_n 2, 1) := by decide +kernel
theorem dX6_readInstruction_87 : decode cX6_readInstruction 87 = .ok (.iconst 3, 1) := by decide +kernel
theorem dX6_readInstruction_88 : decode cX6_readInstruction 88 = .ok (.if_icmp .eq 10, 3) := by decide +kernel
theorem dX6_readInstruction_91 : decode cX6_readInstruction 91 = .ok (.aload_n 0, 1) := by decide +kernel
theorem dX6_readInstruction_92 : decode cX6_readInstruction 92 = .ok (.invokevirtual 157, 3) := by decide +kernel
theorem dX6_readInstruction_95 : decode cX6_readInstruction 95 = .ok (.ifCond .eq 30, 3) := by decide +kernel
theorem dX6_readInstruction_98 : decode cX6_readInstruction 98 = .ok (.iload 4, 2) := by decide +kernel
theorem dX6_readInstruction_100 : decode cX6_readInstruction 100 = .ok (.ifCond .eq 11, 3) := by decide +kernel
theorem dX6_readInstruction_103 : decode cX6_readInstruction 103 = .ok (.aload_n 0, 1) := by decide +kernel
theorem dX6_readInstruction_104 : decode cX6_readInstruction 104 = .ok (.iload_n 1, 1) := by decide +kernel
theorem dX6_readInstruction_105 : decode cX6_readInstruction 105 = .ok (.invokevirtual 160, 3) := by decide +kernel
theorem dX6_readInstruction_108 : decode cX6_readInstruction 108 = .ok (.ifCond .eq 17, 3) := by decide +kernel
theorem dX6_readInstruction_111 : decode cX6_readInstruction 111 = .ok (.aload_n 0, 1) := by decide +kernel
theorem dX6_readInstruction_112 : decode cX6_readInstruction 112 = .ok (.getstatic 82, 3) := by decide +kernel
theorem dX6_readInstruction_115 : decode cX6_readInstruction 115 = .ok (.invokevirtual 85, 3) := by decide +kernel
theorem dX6_readInstruction_118 : decode cX6_readInstruction 118 = .ok (.ifCond .eq 7, 3) := by decide +kernel
theorem dX6_readInstruction_121 : decode cX6_readInstruction 121 = .ok (.iconst 1, 1) := by decide +kernel
theorem dX6_readInstruction_122 : decode cX6_readInstruction 122 = .ok (.goto 4, 3) := by decide +kernel
theorem dX6_readInstruction_125 : decode cX6_readInstruction 125 = .ok (.iconst 0, 1) := by decide +kernel
theorem dX6_readInstruction_126 : decode cX6_readInstruction 126 = .ok (.istore 5, 2) := by decide +kernel
theorem dX6_readInstruction_128 : decode cX6_readInstruction 128 = .ok (.iload 5, 2) := by decide +kernel
theorem dX6_readInstruction_130 : decode cX6_readInstruction 130 = .ok (.ifCond .eq 27, 3) := by decide +kernel
theorem dX6_readInstruction_133 : decode cX6_readInstruction 133 = .ok (.aload_n 0, 1) := by decide +kernel
theorem dX6_readInstruction_134 : decode cX6_readInstruction 134 = .ok (.getfield 39, 3) := by decide +kernel
theorem dX6_readInstruction_137 : decode cX6_readInstruction 137 = .ok (.iload_n 2, 1) := by decide +kernel
theorem dX6_readInstruction_138 : decode cX6_readInstruction 138 = .ok (.aload_n 0, 1) := by decide +kernel
theorem dX6_readInstruction_139 : decode cX6_readInstruction 139 = .ok (.getfield 18, 3) := by decide +kernel
theorem dX6_readInstruction_142 : decode cX6_readInstruction 142 = .ok (.aload_n 0, 1) := by decide +kernel
theorem dX6_readInstruction_143 : decode cX6_readInstruction 143 = .ok (.getfield 21, 3) := by decide +kernel
theorem dX6_readInstruction_146 : decode cX6_readInstruction 146 = .ok (.aload_n 0, 1) := by decide +kernel
theorem dX6_readInstruction_147 : decode cX6_readInstruction 147 = .ok (.getfield 24, 3) := by decide +kernel
theorem dX6_readInstruction_150 : decode cX6_readInstruction 150 = .ok (.aload_n 0, 1) := by decide +kernel
theorem dX6_readInstruction_151 : decode cX6_readInstruction 151 = .ok (.getfield 27, 3) := by decide +kernel
theorem dX6_readInstruction_154 : decode cX6_readInstruction 154 = .ok (.invokevirtual 163, 3) := by decide +kernel
theorem dX6_readInstruction_157 : decode cX6_readInstruction 157 = .ok (.iload 5, 2) := by decide +kernel
theorem dX6_readInstruction_159 : decode cX6_readInstruction 159 = .ok (.ireturn, 1) := by decide +kernel
theorem dX6_isFull_0 : decode cX6_isFull 0 = .ok (.aload_n 0, 1) := by decide +kernel
theorem dX6_isFull_1 : decode cX6_isFull 1 = .ok (.getfield 39, 3) := by decide +kernel
theorem dX6_isFull_4 : decode cX6_isFull 4 = .ok (.iload_n 1, 1) := by decide +kernel
theorem dX6_isFull_5 : decode cX6_isFull 5 = .ok (.invokevirtual 167, 3) := by decide +kernel
theorem dX6_isFull_8 : decode cX6_isFull 8 = .ok (.bipush 7, 2) := by decide +kernel
theorem dX6_isFull_10 : decode cX6_isFull 10 = .ok (.if_icmp .ge 15, 3) := by decide +kernel
theorem dX6_isFull_13 : decode cX6_isFull 13 = .ok (.aload_n 0, 1) := by decide +kernel
theorem dX6_isFull_14 : decode cX6_isFull 14 = .ok (.getfield 39, 3) := by decide +kernel
theorem dX6_isFull_17 : decode cX6_isFull 17 = .ok (.invokevirtual 171, 3) := by decide +kernel
theorem dX6_isFull_20 : decode cX6_isFull 20 = .ok (.bipush 10, 2) := by decide +kernel
theorem dX6_isFull_22 : decode cX6_isFull 22 = .ok (.if_icmp .lt 5, 3) := by decide +kernel
theorem dX6_isFull_25 : decode cX6_isFull 25 = .ok (.iconst 1, 1) := by decide +kernel
theorem dX6_isFull_26 : decode cX6_isFull 26 = .ok (.ireturn, 1) := by decide +kernel
theorem dX6_isFull_27 : decode cX6_isFull 27 = .ok (.iload_n 2, 1) := by decide +kernel
theorem dX6_isFull_28 : decode cX6_isFull 28 = .ok (.iconst 3, 1) := by decide +kernel
theorem dX6_isFull_29 : decode cX6_isFull 29 = .ok (.if_icmp .eq 31, 3) := by decide +kernel
theorem dX6_isFull_32 : decode cX6_isFull 32 = .ok (.aload_n 0, 1) := by decide +kernel
theorem dX6_isFull_33 : decode cX6_isFull 33 = .ok (.getfield 39, 3) := by decide +kernel
theorem dX6_isFull_36 : decode cX6_isFull 36 = .ok (.iload_n 1, 1) := by decide +kernel
theorem dX6_isFull_37 : decode cX6_isFull 37 = .ok (.invokevirtual 174, 3) := by decide +kernel
theorem dX6_isFull_40 : decode cX6_isFull 40 = .ok (.iconst 4, 1) := by decide +kernel
theorem dX6_isFull_41 : decode cX6_isFull 41 = .ok (.if_icmp .ge 15, 3) := by decide +kernel
theorem dX6_isFull_44 : decode cX6_isFull 44 = .ok (.aload_n 0, 1) := by decide +kernel
theorem dX6_isFull_45 : decode cX6_isFull 45 = .ok (.getfield 39, 3) := by decide +kernel
theorem dX6_isFull_48 : decode cX6_isFull 48 = .ok (.invokevirtual 177, 3) := by decide +kernel
theorem dX6_isFull_51 : decode cX6_isFull 51 = .ok (.bipush 8, 2) := by decide +kernel
theorem dX6_isFull_53 : decode cX6_isFull 53 = .ok (.if_icmp .lt 7, 3) := by decide +kernel
theorem dX6_isFull_56 : decode cX6_isFull 56 = .ok (.iconst 1, 1) := by decide +kernel
theorem dX6_isFull_57 : decode cX6_isFull 57 = .ok (.goto 4, 3) := by decide +kernel
theorem dX6_isFull_60 : decode cX6_isFull 60 = .ok (.iconst 0, 1) := by decide +kernel
theorem dX6_isFull_61 : decode cX6_isFull 61 = .ok (.ireturn, 1) := by decide +kernel
theorem dX6_readLocation_0 : decode cX6_readLocation 0 = .ok (.aload_n 0, 1) := by decide +kernel
theorem dX6_readLocation_1 : decode cX6_readLocation 1 = .ok (.getfield 35, 3) := by decide +kernel
theorem dX6_readLocation_4 : decode cX6_readLocation 4 = .ok (.invokevirtual 52, 3) := by decide +kernel
theorem dX6_readLocation_7 : decode cX6_readLocation 7 = .ok (.getstatic 102, 3) := by decide +kernel
theorem dX6_readLocation_10 : decode cX6_readLocation 10 = .ok (.if_acmp .eq 9, 3) := by decide +kernel
theorem dX6_readLocation_13 : decode cX6_readLocation 13 = .ok (.aload_n 0, 1) := by decide +kernel
theorem dX6_readLocation_14 : decode cX6_readLocation 14 = .ok (.iconst 1, 1) := by decide +kernel
theorem dX6_readLocation_15 : decode cX6_readLocation 15 = .ok (.invokevirtual 92, 3) := by decide +kernel
theorem dX6_readLocation_18 : decode cX6_readLocation 18 = .ok (.ireturn, 1) := by decide +kernel
theorem dX6_readLocation_19 : decode cX6_readLocation 19 = .ok (.aload_n 0, 1) := by decide +kernel
theorem dX6_readLocation_20 : decode cX6_readLocation 20 = .ok (.aload_n 0, 1) := by decide +kernel
theorem dX6_readLocation_21 : decode cX6_readLocation 21 = .ok (.getfield 39, 3) := by decide +kernel
theorem dX6_readLocation_24 : decode cX6_readLocation 24 = .ok (.aload_n 0, 1) := by decide +kernel
theorem dX6_readLocation_25 : decode cX6_readLocation 25 = .ok (.getfield 35, 3) := by decide +kernel
theorem dX6_readLocation_28 : decode cX6_readLocation 28 = .ok (.invokevirtual 105, 3) := by decide +kernel
theorem dX6_readLocation_31 : decode cX6_readLocation 31 = .ok (.invokevirtual 109, 3) := by decide +kernel
theorem dX6_readLocation_34 : decode cX6_readLocation 34 = .ok (.putfield 18, 3) := by decide +kernel
theorem dX6_readLocation_37 : decode cX6_readLocation 37 = .ok (.aload_n 0, 1) := by decide +kernel
theorem dX6_readLocation_38 : decode cX6_readLocation 38 = .ok (.getfield 18, 3) := by decide +kernel
theorem dX6_readLocation_41 : decode cX6_readLocation 41 = .ok (.iconst (-1), 1) := by decide +kernel
theorem dX6_readLocation_42 : decode cX6_readLocation 42 = .ok (.if_icmp .ne 9, 3) := by decide +kernel
theorem dX6_readLocation_45 : decode cX6_readLocation 45 = .ok (.aload_n 0, 1) := by decide +kernel
theorem dX6_readLocation_46 : decode cX6_readLocation 46 = .ok (.iconst 4, 1) := by decide +kernel
theorem dX6_readLocation_47 : decode cX6_readLocation 47 = .ok (.invokevirtual 92, 3) := by decide +kernel
theorem dX6_readLocation_50 : decode cX6_readLocation 50 = .ok (.ireturn, 1) := by decide +kernel
theorem dX6_readLocation_51 : decode cX6_readLocation 51 = .ok (.aload_n 0, 1) := by decide +kernel
theorem dX6_readLocation_52 : decode cX6_readLocation 52 = .ok (.getfield 35, 3) := by decide +kernel
theorem dX6_readLocation_55 : decode cX6_readLocation 55 = .ok (.invokevirtual 75, 3) := by decide +kernel
theorem dX6_readLocation_58 : decode cX6_readLocation 58 = .ok (.iconst 1, 1) := by decide +kernel
theorem dX6_readLocation_59 : decode cX6_readLocation 59 = .ok (.ireturn, 1) := by decide +kernel
theorem dX6_readTarget_0 : decode cX6_readTarget 0 = .ok (.aload_n 0, 1) := by decide +kernel
theorem dX6_readTarget_1 : decode cX6_readTarget 1 = .ok (.getfield 35, 3) := by decide +kernel
theorem dX6_readTarget_4 : decode cX6_readTarget 4 = .ok (.invokevirtual 52, 3) := by decide +kernel
theorem dX6_readTarget_7 : decode cX6_readTarget 7 = .ok (.getstatic 180, 3) := by decide +kernel
theorem dX6_readTarget_10 : decode cX6_readTarget 10 = .ok (.if_acmp .eq 9, 3) := by decide +kernel
theorem dX6_readTarget_13 : decode cX6_readTarget 13 = .ok (.aload_n 0, 1) := by decide +kernel
theorem dX6_readTarget_14 : decode cX6_readTarget 14 = .ok (.iconst 1, 1) := by decide +kernel
theorem dX6_readTarget_15 : decode cX6_readTarget 15 = .ok (.invokevirtual 92, 3) := by decide +kernel
theorem dX6_readTarget_18 : decode cX6_readTarget 18 = .ok (.ireturn, 1) := by decide +kernel
theorem dX6_readTarget_19 : decode cX6_readTarget 19 = .ok (.aload_n 0, 1) := by decide +kernel
theorem dX6_readTarget_20 : decode cX6_readTarget 20 = .ok (.aload_n 0, 1) := by decide +kernel
theorem dX6_readTarget_21 : decode cX6_readTarget 21 = .ok (.getfield 35, 3) := by decide +kernel
theorem dX6_readTarget_24 : decode cX6_readTarget 24 = .ok (.invokevirtual 116, 3) := by decide +kernel
theorem dX6_readTarget_27 : decode cX6_readTarget 27 = .ok (.putfield 21, 3) := by decide +kernel
theorem dX6_readTarget_30 : decode cX6_readTarget 30 = .ok (.aload_n 0, 1) := by decide +kernel
theorem dX6_readTarget_31 : decode cX6_readTarget 31 = .ok (.getfield 39, 3) := by decide +kernel
theorem dX6_readTarget_34 : decode cX6_readTarget 34 = .ok (.iload_n 1, 1) := by decide +kernel
theorem dX6_readTarget_35 : decode cX6_readTarget 35 = .ok (.aload_n 0, 1) := by decide +kernel
theorem dX6_readTarget_36 : decode cX6_readTarget 36 = .ok (.getfield 21, 3) := by decide +kernel
theorem dX6_readTarget_39 : decode cX6_readTarget 39 = .ok (.invokevirtual 183, 3) := by decide +kernel
theorem dX6_readTarget_42 : decode cX6_readTarget 42 = .ok (.ifCond .eq 9, 3) := by decide +kernel
theorem dX6_readTarget_45 : decode cX6_readTarget 45 = .ok (.aload_n 0, 1) := by decide +kernel
theorem dX6_readTarget_46 : decode cX6_readTarget 46 = .ok (.iconst 3, 1) := by decide +kernel
theorem dX6_readTarget_47 : decode cX6_readTarget 47 = .ok (.invokevirtual 92, 3) := by decide +kernel
theorem dX6_readTarget_50 : decode cX6_readTarget 50 = .ok (.ireturn, 1) := by decide +kernel
theorem dX6_readTarget_51 : decode cX6_readTarget 51 = .ok (.aload_n 0, 1) := by decide +kernel
theorem dX6_readTarget_52 : decode cX6_readTarget 52 = .ok (.getfield 35, 3) := by decide +kernel
theorem dX6_readTarget_55 : decode cX6_readTarget 55 = .ok (.invokevirtual 75, 3) := by decide +kernel
theorem dX6_readTarget_58 : decode cX6_readTarget 58 = .ok (.iconst 1, 1) := by decide +kernel
theorem dX6_readTarget_59 : decode cX6_readTarget 59 = .ok (.ireturn, 1) := by decide +kernel
theorem dX6_readValue_0 : decode cX6_readValue 0 = .ok (.aload_n 0, 1) := by decide +kernel
theorem dX6_readValue_1 : decode cX6_readValue 1 = .ok (.getfield 35, 3) := by decide +kernel
theorem dX6_readValue_4 : decode cX6_readValue 4 = .ok (.invokevirtual 52, 3) := by decide +kernel
theorem dX6_readValue_7 : decode cX6_readValue 7 = .ok (.getstatic 180, 3) := by decide +kernel
theorem dX6_readValue_10 : decode cX6_readValue 10 = .ok (.if_acmp .ne 35, 3) := by decide +kernel
theorem dX6_readValue_13 : decode cX6_readValue 13 = .ok (.aload_n 0, 1) := by decide +kernel
theorem dX6_readValue_14 : decode cX6_readValue 14 = .ok (.aload_n 0, 1) := by decide +kernel
theorem dX6_readValue_15 : decode cX6_readValue 15 = .ok (.getfield 35, 3) := by decide +kernel
theorem dX6_readValue_18 : decode cX6_readValue 18 = .ok (.invokevirtual 116, 3) := by decide +kernel
theorem dX6_readValue_21 : decode cX6_readValue 21 = .ok (.putfield 27, 3) := by decide +kernel
theorem dX6_readValue_24 : decode cX6_readValue 24 = .ok (.aload_n 0, 1) := by decide +kernel
theorem dX6_readValue_25 : decode cX6_readValue 25 = .ok (.getfield 39, 3) := by decide +kernel
theorem dX6_readValue_28 : decode cX6_readValue 28 = .ok (.iload_n 1, 1) := by decide +kernel
theorem dX6_readValue_29 : decode cX6_readValue 29 = .ok (.aload_n 0, 1) := by decide +kernel
theorem dX6_readValue_30 : decode cX6_readValue 30 = .ok (.getfield 27, 3) := by decide +kernel
theorem dX6_readValue_33 : decode cX6_readValue 33 = .ok (.invokevirtual 183, 3) := by decide +kernel
theorem dX6_readValue_36 : decode cX6_readValue 36 = .ok (.ifCond .ne 32, 3) := by decide +kernel
theorem dX6_readValue_39 : decode cX6_readValue 39 = .ok (.aload_n 0, 1) := by decide +kernel
theorem dX6_readValue_40 : decode cX6_readValue 40 = .ok (.iconst 4, 1) := by decide +kernel
theorem dX6_readValue_41 : decode cX6_readValue 41 = .ok (.invokevirtual 92, 3) := by decide +kernel
theorem dX6_readValue_44 : decode cX6_readValue 44 = .ok (.ireturn, 1) := by decide +kernel
theorem dX6_readValue_45 : decode cX6_readValue 45 = .ok (.aload_n 0, 1) := by decide +kernel
theorem dX6_readValue_46 : decode cX6_readValue 46 = .ok (.invokevirtual 113, 3) := by decide +kernel
theorem dX6_readValue_49 : decode cX6_readValue 49 = .ok (.ifCond .eq 17, 3) := by decide +kernel
theorem dX6_readValue_52 : decode cX6_readValue 52 = .ok (.aload_n 0, 1) := by decide +kernel
theorem dX6_readValue_53 : decode cX6_readValue 53 = .ok (.aload_n 0, 1) := by decide +kernel
theorem dX6_readValue_54 : decode cX6_readValue 54 = .ok (.getfield 35, 3) := by decide +kernel
theorem dX6_readValue_57 : decode cX6_readValue 57 = .ok (.invokevirtual 116, 3) := by decide +kernel
theorem dX6_readValue_60 : decode cX6_readValue 60 = .ok (.putfield 24, 3) := by decide +kernel
theorem dX6_readValue_63 : decode cX6_readValue 63 = .ok (.goto 5, 3) := by decide +kernel
theorem dX6_readValue_66 : decode cX6_readValue 66 = .ok (.iconst 0, 1) := by decide +kernel
theorem dX6_readValue_67 : decode cX6_readValue 67 = .ok (.ireturn, 1) := by decide +kernel
theorem dX6_readValue_68 : decode cX6_readValue 68 = .ok (.aload_n 0, 1) := by decide +kernel
theorem dX6_readValue_69 : decode cX6_readValue 69 = .ok (.getfield 35, 3) := by decide +kernel
theorem dX6_readValue_72 : decode cX6_readValue 72 = .ok (.invokevirtual 75, 3) := by decide +kernel
theorem dX6_readValue_75 : decode cX6_readValue 75 = .ok (.iconst 1, 1) := by decide +kernel
theorem dX6_readValue_76 : decode cX6_readValue 76 = .ok (.ireturn, 1) := by decide +kernel
theorem dX6_readCondition_0 : decode cX6_readCondition 0 = .ok (.iconst 1, 1) := by decide +kernel
theorem dX6_readCondition_1 : decode cX6_readCondition 1 = .ok (.istore_n 2, 1) := by decide +kernel
theorem dX6_readCondition_2 : decode cX6_readCondition 2 = .ok (.iconst 0, 1) := by decide +kernel
theorem dX6_readCondition_3 : decode cX6_readCondition 3 = .ok (.istore_n 3, 1) := by decide +kernel
theorem dX6_readCondition_4 : decode cX6_readCondition 4 = .ok (.iload_n 3, 1) := by decide +kernel
theorem dX6_readCondition_5 : decode cX6_readCondition 5 = .ok (.bipush 16, 2) := by decide +kernel
theorem dX6_readCondition_7 : decode cX6_readCondition 7 = .ok (.if_icmp .gt 86, 3) := by decide +kernel
theorem dX6_readCondition_10 : decode cX6_readCondition 10 = .ok (.iload_n 2, 1) := by decide +kernel
theorem dX6_readCondition_11 : decode cX6_readCondition 11 = .ok (.ifCond .eq 82, 3) := by decide +kernel
theorem dX6_readCondition_14 : decode cX6_readCondition 14 = .ok (.iconst 0, 1) := by decide +kernel
theorem dX6_readCondition_15 : decode cX6_readCondition 15 = .ok (.istore 4, 2) := by decide +kernel
theorem dX6_readCondition_17 : decode cX6_readCondition 17 = .ok (.iload 4, 2) := by decide +kernel
theorem dX6_readCondition_19 : decode cX6_readCondition 19 = .ok (.bipush 16, 2) := by decide +kernel
theorem dX6_readCondition_21 : decode cX6_readCondition 21 = .ok (.if_icmp .gt 45, 3) := by decide +kernel
theorem dX6_readCondition_24 : decode cX6_readCondition 24 = .ok (.iload_n 2, 1) := by decide +kernel
theorem dX6_readCondition_25 : decode cX6_readCondition 25 = .ok (.ifCond .eq 41, 3) := by decide +kernel
theorem dX6_readCondition_28 : decode cX6_readCondition 28 = .ok (.aload_n 0, 1) := by decide +kernel
theorem dX6_readCondition_29 : decode cX6_readCondition 29 = .ok (.iload_n 1, 1) := by decide +kernel
theorem dX6_readCondition_30 : decode cX6_readCondition 30 = .ok (.invokevirtual 186, 3) := by decide +kernel
theorem dX6_readCondition_33 : decode cX6_readCondition 33 = .ok (.ifCond .ne 5, 3) := by decide +kernel
theorem dX6_readCondition_36 : decode cX6_readCondition 36 = .ok (.iconst 0, 1) := by decide +kernel
theorem dX6_readCondition_37 : decode cX6_readCondition 37 = .ok (.ireturn, 1) := by decide +kernel
theorem dX6_readCondition_38 : decode cX6_readCondition 38 = .ok (.iload 4, 2) := by decide +kernel
theorem dX6_readCondition_40 : decode cX6_readCondition 40 = .ok (.ifCond .le 12, 3) := by decide +kernel
theorem dX6_readCondition_43 : decode cX6_readCondition 43 = .ok (.aload_n 0, 1) := by decide +kernel
theorem dX6_readCondition_44 : decode cX6_readCondition 44 = .ok (.getfield 39, 3) := by decide +kernel
theorem dX6_readCondition_47 : decode cX6_readCondition 47 = .ok (.bipush (-2), 2) := by decide +kernel
theorem dX6_readCondition_49 : decode cX6_readCondition 49 = .ok (.invokevirtual 189, 3) := by decide +kernel
theorem dX6_readCondition_52 : decode cX6_readCondition 52 = .ok (.aload_n 0, 1) := by decide +kernel
theorem dX6_readCondition_53 : decode cX6_readCondition 53 = .ok (.getstatic 192, 3) := by decide +kernel
theorem dX6_readCondition_56 : decode cX6_readCondition 56 = .ok (.invokevirtual 195, 3) := by decide +kernel
theorem dX6_readCondition_59 : decode cX6_readCondition 59 = .ok (.istore_n 2, 1) := by decide +kernel
theorem dX6_readCondition_60 : decode cX6_readCondition 60 = .ok (.iinc 4 1, 3) := by decide +kernel
theorem dX6_readCondition_63 : decode cX6_readCondition 63 = .ok (.goto (-46), 3) := by decide +kernel
theorem dX6_readCondition_66 : decode cX6_readCondition 66 = .ok (.iload_n 3, 1) := by decide +kernel
theorem dX6_readCondition_67 : decode cX6_readCondition 67 = .ok (.ifCond .le 12, 3) := by decide +kernel
theorem dX6_readCondition_70 : decode cX6_readCondition 70 = .ok (.aload_n 0, 1) := by decide +kernel
theorem dX6_readCondition_71 : decode cX6_readCondition 71 = .ok (.getfield 39, 3) := by decide +kernel
theorem dX6_readCondition_74 : decode cX6_readCondition 74 = .ok (.bipush (-3), 2) := by decide +kernel
theorem dX6_readCondition_76 : decode cX6_readCondition 76 = .ok (.invokevirtual 189, 3) := by decide +kernel
theorem dX6_readCondition_79 : decode cX6_readCondition 79 = .ok (.aload_n 0, 1) := by decide +kernel
theorem dX6_readCondition_80 : decode cX6_readCondition 80 = .ok (.getstatic 198, 3) := by decide +kernel
theorem dX6_readCondition_83 : decode cX6_readCondition 83 = .ok (.invokevirtual 195, 3) := by decide +kernel
theorem dX6_readCondition_86 : decode cX6_readCondition 86 = .ok (.istore_n 2, 1) := by decide +kernel
theorem dX6_readCondition_87 : decode cX6_readCondition 87 = .ok (.iinc 3 1, 3) := by decide +kernel
theorem dX6_readCondition_90 : decode cX6_readCondition 90 = .ok (.goto (-86), 3) := by decide +kernel
theorem dX6_readCondition_93 : decode cX6_readCondition 93 = .ok (.iconst 1, 1) := by decide +kernel
theorem dX6_readCondition_94 : decode cX6_readCondition 94 = .ok (.ireturn, 1) := by decide +kernel
theorem dX6_isPassed_0 : decode cX6_isPassed 0 = .ok (.aload_n 0, 1) := by decide +kernel
theorem dX6_isPassed_1 : decode cX6_isPassed 1 = .ok (.getfield 35, 3) := by decide +kernel
theorem dX6_isPassed_4 : decode cX6_isPassed 4 = .ok (.invokevirtual 52, 3) := by decide +kernel
theorem dX6_isPassed_7 : decode cX6_isPassed 7 = .ok (.aload_n 1, 1) := by decide +kernel
theorem dX6_isPassed_8 : decode cX6_isPassed 8 = .ok (.if_acmp .ne 7, 3) := by decide +kernel
theorem dX6_isPassed_11 : decode cX6_isPassed 11 = .ok (.iconst 1, 1) := by decide +kernel
theorem dX6_isPassed_12 : decode cX6_isPassed 12 = .ok (.goto 4, 3) := by decide +kernel
theorem dX6_isPassed_15 : decode cX6_isPassed 15 = .ok (.iconst 0, 1) := by decide +kernel
theorem dX6_isPassed_16 : decode cX6_isPassed 16 = .ok (.istore_n 2, 1) := by decide +kernel
theorem dX6_isPassed_17 : decode cX6_isPassed 17 = .ok (.iload_n 2, 1) := by decide +kernel
theorem dX6_isPassed_18 : decode cX6_isPassed 18 = .ok (.ifCond .eq 10, 3) := by decide +kernel
theorem dX6_isPassed_21 : decode cX6_isPassed 21 = .ok (.aload_n 0, 1) := by decide +kernel
theorem dX6_isPassed_22 : decode cX6_isPassed 22 = .ok (.getfield 35, 3) := by decide +kernel
theorem dX6_isPassed_25 : decode cX6_isPassed 25 = .ok (.invokevirtual 75, 3) := by decide +kernel
theorem dX6_isPassed_28 : decode cX6_isPassed 28 = .ok (.iload_n 2, 1) := by decide +kernel
theorem dX6_isPassed_29 : decode cX6_isPassed 29 = .ok (.ireturn, 1) := by decide +kernel
theorem dX6_readUnit_0 : decode cX6_readUnit 0 = .ok (.aload_n 0, 1) := by decide +kernel
theorem dX6_readUnit_1 : decode cX6_readUnit 1 = .ok (.getfield 35, 3) := by decide +kernel
theorem dX6_readUnit_4 : decode cX6_readUnit 4 = .ok (.invokevirtual 52, 3) := by decide +kernel
theorem dX6_readUnit_7 : decode cX6_readUnit 7 = .ok (.astore_n 2, 1) := by decide +kernel
theorem dX6_readUnit_8 : decode cX6_readUnit 8 = .ok (.aload_n 2, 1) := by decide +kernel
theorem dX6_readUnit_9 : decode cX6_readUnit 9 = .ok (.getstatic 201, 3) := by decide +kernel
theorem dX6_readUnit_12 : decode cX6_readUnit 12 = .ok (.if_acmp .eq 30, 3) := by decide +kernel
theorem dX6_readUnit_15 : decode cX6_readUnit 15 = .ok (.aload_n 2, 1) := by decide +kernel
theorem dX6_readUnit_16 : decode cX6_readUnit 16 = .ok (.getstatic 204, 3) := by decide +kernel
theorem dX6_readUnit_19 : decode cX6_readUnit 19 = .ok (.if_acmp .eq 23, 3) := by decide +kernel
theorem dX6_readUnit_22 : decode cX6_readUnit 22 = .ok (.aload_n 2, 1) := by decide +kernel
theorem dX6_readUnit_23 : decode cX6_readUnit 23 = .ok (.getstatic 123, 3) := by decide +kernel
theorem dX6_readUnit_26 : decode cX6_readUnit 26 = .ok (.if_acmp .eq 16, 3) := by decide +kernel
theorem dX6_readUnit_29 : decode cX6_readUnit 29 = .ok (.aload_n 2, 1) := by decide +kernel
theorem dX6_readUnit_30 : decode cX6_readUnit 30 = .ok (.getstatic 102, 3) := by decide +kernel
theorem dX6_readUnit_33 : decode cX6_readUnit 33 = .ok (.if_acmp .eq 9, 3) := by decide +kernel
theorem dX6_readUnit_36 : decode cX6_readUnit 36 = .ok (.aload_n 0, 1) := by decide +kernel
theorem dX6_readUnit_37 : decode cX6_readUnit 37 = .ok (.iconst 1, 1) := by decide +kernel
theorem dX6_readUnit_38 : decode cX6_readUnit 38 = .ok (.invokevirtual 92, 3) := by decide +kernel
theorem dX6_readUnit_41 : decode cX6_readUnit 41 = .ok (.ireturn, 1) := by decide +kernel
theorem dX6_readUnit_42 : decode cX6_readUnit 42 = .ok (.aload_n 2, 1) := by decide +kernel
theorem dX6_readUnit_43 : decode cX6_readUnit 43 = .ok (.getstatic 123, 3) := by decide +kernel
theorem dX6_readUnit_46 : decode cX6_readUnit 46 = .ok (.if_acmp .ne 26, 3) := by decide +kernel
theorem dX6_readUnit_49 : decode cX6_readUnit 49 = .ok (.aload_n 0, 1) := by decide +kernel
theorem dX6_readUnit_50 : decode cX6_readUnit 50 = .ok (.getfield 35, 3) := by decide +kernel
theorem dX6_readUnit_53 : decode cX6_readUnit 53 = .ok (.invokevirtual 116, 3) := by decide +kernel
theorem dX6_readUnit_56 : decode cX6_readUnit 56 = .ok (.aload_n 0, 1) := by decide +kernel
theorem dX6_readUnit_57 : decode cX6_readUnit 57 = .ok (.getfield 39, 3) := by decide +kernel
theorem dX6_readUnit_60 : decode cX6_readUnit 60 = .ok (.invokevirtual 126, 3) := by decide +kernel
theorem dX6_readUnit_63 : decode cX6_readUnit 63 = .ok (.if_icmp .lt 9, 3) := by decide +kernel
theorem dX6_readUnit_66 : decode cX6_readUnit 66 = .ok (.aload_n 0, 1) := by decide +kernel
theorem dX6_readUnit_67 : decode cX6_readUnit 67 = .ok (.iconst 2, 1) := by decide +kernel
theorem dX6_readUnit_68 : decode cX6_readUnit 68 = .ok (.invokevirtual 92, 3) := by decide +kernel
theorem dX6_readUnit_71 : decode cX6_readUnit 71 = .ok (.ireturn, 1) := by decide +kernel
theorem dX6_readUnit_72 : decode cX6_readUnit 72 = .ok (.aload_n 2, 1) := by decide +kernel
theorem dX6_readUnit_73 : decode cX6_readUnit 73 = .ok (.getstatic 102, 3) := by decide +kernel
theorem dX6_readUnit_76 : decode cX6_readUnit 76 = .ok (.if_acmp .ne 27, 3) := by decide +kernel
theorem dX6_readUnit_79 : decode cX6_readUnit 79 = .ok (.aload_n 0, 1) := by decide +kernel
theorem dX6_readUnit_80 : decode cX6_readUnit 80 = .ok (.getfield 39, 3) := by decide +kernel
theorem dX6_readUnit_83 : decode cX6_readUnit 83 = .ok (.aload_n 0, 1) := by decide +kernel
theorem dX6_readUnit_84 : decode cX6_readUnit 84 = .ok (.getfield 35, 3) := by decide +kernel
theorem dX6_readUnit_87 : decode cX6_readUnit 87 = .ok (.invokevirtual 105, 3) := by decide +kernel
theorem dX6_readUnit_90 : decode cX6_readUnit 90 = .ok (.invokevirtual 109, 3) := by decide +kernel
theorem dX6_readUnit_93 : decode cX6_readUnit 93 = .ok (.iconst (-1), 1) := by decide +kernel
theorem dX6_readUnit_94 : decode cX6_readUnit 94 = .ok (.if_icmp .ne 9, 3) := by decide +kernel
theorem dX6_readUnit_97 : decode cX6_readUnit 97 = .ok (.aload_n 0, 1) := by decide +kernel
theorem dX6_readUnit_98 : decode cX6_readUnit 98 = .ok (.iconst 4, 1) := by decide +kernel
theorem dX6_readUnit_99 : decode cX6_readUnit 99 = .ok (.invokevirtual 92, 3) := by decide +kernel
theorem dX6_readUnit_102 : decode cX6_readUnit 102 = .ok (.ireturn, 1) := by decide +kernel
theorem dX6_readUnit_103 : decode cX6_readUnit 103 = .ok (.iload_n 1, 1) := by decide +kernel
theorem dX6_readUnit_104 : decode cX6_readUnit 104 = .ok (.iconst 4, 1) := by decide +kernel
theorem dX6_readUnit_105 : decode cX6_readUnit 105 = .ok (.if_icmp .gt 12, 3) := by decide +kernel
theorem dX6_readUnit_108 : decode cX6_readUnit 108 = .ok (.aload_n 0, 1) := by decide +kernel
theorem dX6_readUnit_109 : decode cX6_readUnit 109 = .ok (.getfield 15, 3) := by decide +kernel
theorem dX6_readUnit_112 : decode cX6_readUnit 112 = .ok (.bipush 16, 2) := by decide +kernel
theorem dX6_readUnit_114 : decode cX6_readUnit 114 = .ok (.if_icmp .lt 9, 3) := by decide +kernel
theorem dX6_readUnit_117 : decode cX6_readUnit 117 = .ok (.aload_n 0, 1) := by decide +kernel
theorem dX6_readUnit_118 : decode cX6_readUnit 118 = .ok (.iconst 5, 1) := by decide +kernel
theorem dX6_readUnit_119 : decode cX6_readUnit 119 = .ok (.invokevirtual 92, 3) := by decide +kernel
theorem dX6_readUnit_122 : decode cX6_readUnit 122 = .ok (.ireturn, 1) := by decide +kernel
theorem dX6_readUnit_123 : decode cX6_readUnit 123 = .ok (.aload_n 0, 1) := by decide +kernel
theorem dX6_readUnit_124 : decode cX6_readUnit 124 = .ok (.dup, 1) := by decide +kernel
theorem dX6_readUnit_125 : decode cX6_readUnit 125 = .ok (.getfield 15, 3) := by decide +kernel
theorem dX6_readUnit_128 : decode cX6_readUnit 128 = .ok (.iconst 1, 1) := by decide +kernel
theorem dX6_readUnit_129 : decode cX6_readUnit 129 = .ok (.iadd, 1) := by decide +kernel
theorem dX6_readUnit_130 : decode cX6_readUnit 130 = .ok (.putfield 15, 3) := by decide +kernel
theorem dX6_readUnit_133 : decode cX6_readUnit 133 = .ok (.aload_n 2, 1) := by decide +kernel
theorem dX6_readUnit_134 : decode cX6_readUnit 134 = .ok (.getstatic 123, 3) := by decide +kernel
theorem dX6_readUnit_137 : decode cX6_readUnit 137 = .ok (.if_acmp .eq 10, 3) := by decide +kernel
theorem dX6_readUnit_140 : decode cX6_readUnit 140 = .ok (.aload_n 2, 1) := by decide +kernel
theorem dX6_readUnit_141 : decode cX6_readUnit 141 = .ok (.getstatic 102, 3) := by decide +kernel
theorem dX6_readUnit_144 : decode cX6_readUnit 144 = .ok (.if_acmp .ne 8, 3) := by decide +kernel
theorem dX6_readUnit_147 : decode cX6_readUnit 147 = .ok (.aload_n 0, 1) := by decide +kernel
theorem dX6_readUnit_148 : decode cX6_readUnit 148 = .ok (.invokevirtual 207, 3) := by decide +kernel
theorem dX6_readUnit_151 : decode cX6_readUnit 151 = .ok (.ireturn, 1) := by decide +kernel
theorem dX6_readUnit_152 : decode cX6_readUnit 152 = .ok (.aload_n 0, 1) := by decide +kernel
theorem dX6_readUnit_153 : decode cX6_readUnit 153 = .ok (.getfield 35, 3) := by decide +kernel
theorem dX6_readUnit_156 : decode cX6_readUnit 156 = .ok (.invokevirtual 75, 3) := by decide +kernel
theorem dX6_readUnit_159 : decode cX6_readUnit 159 = .ok (.aload_n 2, 1) := by decide +kernel
theorem dX6_readUnit_160 : decode cX6_readUnit 160 = .ok (.getstatic 201, 3) := by decide +kernel
theorem dX6_readUnit_163 : decode cX6_readUnit 163 = .ok (.if_acmp .ne 13, 3) := by decide +kernel
theorem dX6_readUnit_166 : decode cX6_readUnit 166 = .ok (.aload_n 0, 1) := by decide +kernel
theorem dX6_readUnit_167 : decode cX6_readUnit 167 = .ok (.iload_n 1, 1) := by decide +kernel
theorem dX6_readUnit_168 : decode cX6_readUnit 168 = .ok (.iconst 1, 1) := by decide +kernel
theorem dX6_readUnit_169 : decode cX6_readUnit 169 = .ok (.iadd, 1) := by decide +kernel
theorem dX6_readUnit_170 : decode cX6_readUnit 170 = .ok (.invokevirtual 210, 3) := by decide +kernel
theorem dX6_readUnit_173 : decode cX6_readUnit 173 = .ok (.goto 28, 3) := by decide +kernel
theorem dX6_readUnit_176 : decode cX6_readUnit 176 = .ok (.aload_n 0, 1) := by decide +kernel
theorem dX6_readUnit_177 : decode cX6_readUnit 177 = .ok (.iload_n 1, 1) := by decide +kernel
theorem dX6_readUnit_178 : decode cX6_readUnit 178 = .ok (.iconst 1, 1) := by decide +kernel
theorem dX6_readUnit_179 : decode cX6_readUnit 179 = .ok (.iadd, 1) := by decide +kernel
theorem dX6_readUnit_180 : decode cX6_readUnit 180 = .ok (.invokevirtual 78, 3) := by decide +kernel
theorem dX6_readUnit_183 : decode cX6_readUnit 183 = .ok (.ifCond .eq 17, 3) := by decide +kernel
theorem dX6_readUnit_186 : decode cX6_readUnit 186 = .ok (.aload_n 0, 1) := by decide +kernel
theorem dX6_readUnit_187 : decode cX6_readUnit 187 = .ok (.getstatic 213, 3) := by decide +kernel
theorem dX6_readUnit_190 : decode cX6_readUnit 190 = .ok (.invokevirtual 85, 3) := by decide +kernel
theorem dX6_readUnit_193 : decode cX6_readUnit 193 = .ok (.ifCond .eq 7, 3) := by decide +kernel
theorem dX6_readUnit_196 : decode cX6_readUnit 196 = .ok (.iconst 1, 1) := by decide +kernel
theorem dX6_readUnit_197 : decode cX6_readUnit 197 = .ok (.goto 4, 3) := by decide +kernel
theorem dX6_readUnit_200 : decode cX6_readUnit 200 = .ok (.iconst 0, 1) := by decide +kernel
theorem dX6_readUnit_201 : decode cX6_readUnit 201 = .ok (.ireturn, 1) := by decide +kernel
theorem dX6_readNegated_0 : decode cX6_readNegated 0 = .ok (.aload_n 0, 1) := by decide +kernel
theorem dX6_readNegated_1 : decode cX6_readNegated 1 = .ok (.iload_n 1, 1) := by decide +kernel
theorem dX6_readNegated_2 : decode cX6_readNegated 2 = .ok (.invokevirtual 186, 3) := by decide +kernel
theorem dX6_readNegated_5 : decode cX6_readNegated 5 = .ok (.istore_n 2, 1) := by decide +kernel
theorem dX6_readNegated_6 : decode cX6_readNegated 6 = .ok (.aload_n 0, 1) := by decide +kernel
theorem dX6_readNegated_7 : decode cX6_readNegated 7 = .ok (.getfield 39, 3) := by decide +kernel
theorem dX6_readNegated_10 : decode cX6_readNegated 10 = .ok (.iconst (-1), 1) := by decide +kernel
theorem dX6_readNegated_11 : decode cX6_readNegated 11 = .ok (.invokevirtual 189, 3) := by decide +kernel
theorem dX6_readNegated_14 : decode cX6_readNegated 14 = .ok (.iload_n 2, 1) := by decide +kernel
theorem dX6_readNegated_15 : decode cX6_readNegated 15 = .ok (.ireturn, 1) := by decide +kernel
theorem dX6_readComparison_0 : decode cX6_readComparison 0 = .ok (.iconst 0, 1) := by decide +kernel
theorem dX6_readComparison_1 : decode cX6_readComparison 1 = .ok (.istore_n 1, 1) := by decide +kernel
theorem dX6_readComparison_2 : decode cX6_readComparison 2 = .ok (.aload_n 0, 1) := by decide +kernel
theorem dX6_readComparison_3 : decode cX6_readComparison 3 = .ok (.getfield 35, 3) := by decide +kernel
theorem dX6_readComparison_6 : decode cX6_readComparison 6 = .ok (.invokevirtual 52, 3) := by decide +kernel
theorem dX6_readComparison_9 : decode cX6_readComparison 9 = .ok (.getstatic 102, 3) := by decide +kernel
theorem dX6_readComparison_12 : decode cX6_readComparison 12 = .ok (.if_acmp .ne 28, 3) := by decide +kernel
theorem dX6_readComparison_15 : decode cX6_readComparison 15 = .ok (.aload_n 0, 1) := by decide +kernel
theorem dX6_readComparison_16 : decode cX6_readComparison 16 = .ok (.getfield 39, 3) := by decide +kernel
theorem dX6_readComparison_19 : decode cX6_readComparison 19 = .ok (.aload_n 0, 1) := by decide +kernel
theorem dX6_readComparison_20 : decode cX6_readComparison 20 = .ok (.getfield 39, 3) := by decide +kernel
theorem dX6_readComparison_23 : decode cX6_readComparison 23 = .ok (.aload_n 0, 1) := by decide +kernel
theorem dX6_readComparison_24 : decode cX6_readComparison 24 = .ok (.getfield 35, 3) := by decide +kernel
theorem dX6_readComparison_27 : decode cX6_readComparison 27 = .ok (.invokevirtual 105, 3) := by decide +kernel
theorem dX6_readComparison_30 : decode cX6_readComparison 30 = .ok (.invokevirtual 109, 3) := by decide +kernel
theorem dX6_readComparison_33 : decode cX6_readComparison 33 = .ok (.invokevirtual 216, 3) := by decide +kernel
theorem dX6_readComparison_36 : decode cX6_readComparison 36 = .ok (.istore_n 1, 1) := by decide +kernel
theorem dX6_readComparison_37 : decode cX6_readComparison 37 = .ok (.goto 54, 3) := by decide +kernel
theorem dX6_readComparison_40 : decode cX6_readComparison 40 = .ok (.aload_n 0, 1) := by decide +kernel
theorem dX6_readComparison_41 : decode cX6_readComparison 41 = .ok (.getfield 35, 3) := by decide +kernel
theorem dX6_readComparison_44 : decode cX6_readComparison 44 = .ok (.invokevirtual 116, 3) := by decide +kernel
theorem dX6_readComparison_47 : decode cX6_readComparison 47 = .ok (.istore_n 2, 1) := by decide +kernel
theorem dX6_readComparison_48 : decode cX6_readComparison 48 = .ok (.aload_n 0, 1) := by decide +kernel
theorem dX6_readComparison_49 : decode cX6_readComparison 49 = .ok (.getfield 35, 3) := by decide +kernel
theorem dX6_readComparison_52 : decode cX6_readComparison 52 = .ok (.invokevirtual 75, 3) := by decide +kernel
theorem dX6_readComparison_55 : decode cX6_readComparison 55 = .ok (.aload_n 0, 1) := by decide +kernel
theorem dX6_readComparison_56 : decode cX6_readComparison 56 = .ok (.getstatic 219, 3) := by decide +kernel
theorem dX6_readComparison_59 : decode cX6_readComparison 59 = .ok (.invokevirtual 85, 3) := by decide +kernel
theorem dX6_readComparison_62 : decode cX6_readComparison 62 = .ok (.ifCond .eq 11, 3) := by decide +kernel
theorem dX6_readComparison_65 : decode cX6_readComparison 65 = .ok (.aload_n 0, 1) := by decide +kernel
theorem dX6_readComparison_66 : decode cX6_readComparison 66 = .ok (.iload_n 2, 1) := by decide +kernel
theorem dX6_readComparison_67 : decode cX6_readComparison 67 = .ok (.invokevirtual 222, 3) := by decide +kernel
theorem dX6_readComparison_70 : decode cX6_readComparison 70 = .ok (.ifCond .ne 5, 3) := by decide +kernel
theorem dX6_readComparison_73 : decode cX6_readComparison 73 = .ok (.iconst 0, 1) := by decide +kernel
theorem dX6_readComparison_74 : decode cX6_readComparison 74 = .ok (.ireturn, 1) := by decide +kernel
theorem dX6_readComparison_75 : decode cX6_readComparison 75 = .ok (.aload_n 0, 1) := by decide +kernel
theorem dX6_readComparison_76 : decode cX6_readComparison 76 = .ok (.getfield 39, 3) := by decide +kernel
theorem dX6_readComparison_79 : decode cX6_readComparison 79 = .ok (.iload_n 2, 1) := by decide +kernel
theorem dX6_readComparison_80 : decode cX6_readComparison 80 = .ok (.aload_n 0, 1) := by decide +kernel
theorem dX6_readComparison_81 : decode cX6_readComparison 81 = .ok (.getfield 35, 3) := by decide +kernel
theorem dX6_readComparison_84 : decode cX6_readComparison 84 = .ok (.invokevirtual 116, 3) := by decide +kernel
theorem dX6_readComparison_87 : decode cX6_readComparison 87 = .ok (.invokevirtual 225, 3) := by decide +kernel
theorem dX6_readComparison_90 : decode cX6_readComparison 90 = .ok (.istore_n 1, 1) := by decide +kernel
theorem dX6_readComparison_91 : decode cX6_readComparison 91 = .ok (.aload_n 0, 1) := by decide +kernel
theorem dX6_readComparison_92 : decode cX6_readComparison 92 = .ok (.getfield 35, 3) := by decide +kernel
theorem dX6_readComparison_95 : decode cX6_readComparison 95 = .ok (.invokevirtual 75, 3) := by decide +kernel
theorem dX6_readComparison_98 : decode cX6_readComparison 98 = .ok (.aload_n 0, 1) := by decide +kernel
theorem dX6_readComparison_99 : decode cX6_readComparison 99 = .ok (.getfield 35, 3) := by decide +kernel
theorem dX6_readComparison_102 : decode cX6_readComparison 102 = .ok (.invokevirtual 52, 3) := by decide +kernel
theorem dX6_readComparison_105 : decode cX6_readComparison 105 = .ok (.getstatic 229, 3) := by decide +kernel
theorem dX6_readComparison_108 : decode cX6_readComparison 108 = .ok (.if_acmp .ne 7, 3) := by decide +kernel
theorem dX6_readComparison_111 : decode cX6_readComparison 111 = .ok (.iconst 1, 1) := by decide +kernel
theorem dX6_readComparison_112 : decode cX6_readComparison 112 = .ok (.goto 4, 3) := by decide +kernel
theorem dX6_readComparison_115 : decode cX6_readComparison 115 = .ok (.iconst 0, 1) := by decide +kernel
theorem dX6_readComparison_116 : decode cX6_readComparison 116 = .ok (.istore_n 2, 1) := by decide +kernel
theorem dX6_readComparison_117 : decode cX6_readComparison 117 = .ok (.aload_n 0, 1) := by decide +kernel
theorem dX6_readComparison_118 : decode cX6_readComparison 118 = .ok (.iload_n 2, 1) := by decide +kernel
theorem dX6_readComparison_119 : decode cX6_readComparison 119 = .ok (.ifCond .eq 9, 3) := by decide +kernel
theorem dX6_readComparison_122 : decode cX6_readComparison 122 = .ok (.getstatic 229, 3) := by decide +kernel
theorem dX6_readComparison_125 : decode cX6_readComparison 125 = .ok (.goto 6, 3) := by decide +kernel
theorem dX6_readComparison_128 : decode cX6_readComparison 128 = .ok (.getstatic 232, 3) := by decide +kernel
theorem dX6_readComparison_131 : decode cX6_readComparison 131 = .ok (.invokevirtual 85, 3) := by decide +kernel
theorem dX6_readComparison_134 : decode cX6_readComparison 134 = .ok (.ifCond .eq 10, 3) := by decide +kernel
theorem dX6_readComparison_137 : decode cX6_readComparison 137 = .ok (.aload_n 0, 1) := by decide +kernel
theorem dX6_readComparison_138 : decode cX6_readComparison 138 = .ok (.invokevirtual 113, 3) := by decide +kernel
theorem dX6_readComparison_141 : decode cX6_readComparison 141 = .ok (.ifCond .ne 5, 3) := by decide +kernel
theorem dX6_readComparison_144 : decode cX6_readComparison 144 = .ok (.iconst 0, 1) := by decide +kernel
theorem dX6_readComparison_145 : decode cX6_readComparison 145 = .ok (.ireturn, 1) := by decide +kernel
theorem dX6_readComparison_146 : decode cX6_readComparison 146 = .ok (.aload_n 0, 1) := by decide +kernel
theorem dX6_readComparison_147 : decode cX6_readComparison 147 = .ok (.getfield 39, 3) := by decide +kernel
theorem dX6_readComparison_150 : decode cX6_readComparison 150 = .ok (.iload_n 1, 1) := by decide +kernel
theorem dX6_readComparison_151 : decode cX6_readComparison 151 = .ok (.iload_n 2, 1) := by decide +kernel
theorem dX6_readComparison_152 : decode cX6_readComparison 152 = .ok (.aload_n 0, 1) := by decide +kernel
theorem dX6_readComparison_153 : decode cX6_readComparison 153 = .ok (.getfield 35, 3) := by decide +kernel
theorem dX6_readComparison_156 : decode cX6_readComparison 156 = .ok (.invokevirtual 116, 3) := by decide +kernel
theorem dX6_readComparison_159 : decode cX6_readComparison 159 = .ok (.invokestatic 235, 3) := by decide +kernel
theorem dX6_readComparison_162 : decode cX6_readComparison 162 = .ok (.invokevirtual 189, 3) := by decide +kernel
theorem dX6_readComparison_165 : decode cX6_readComparison 165 = .ok (.aload_n 0, 1) := by decide +kernel
theorem dX6_readComparison_166 : decode cX6_readComparison 166 = .ok (.getfield 35, 3) := by decide +kernel
theorem dX6_readComparison_169 : decode cX6_readComparison 169 = .ok (.invokevirtual 75, 3) := by decide +kernel
theorem dX6_readComparison_172 : decode cX6_readComparison 172 = .ok (.iconst 1, 1) := by decide +kernel
theorem dX6_readComparison_173 : decode cX6_readComparison 173 = .ok (.ireturn, 1) := by decide +kernel
theorem dX6_isTargetOf_0 : decode cX6_isTargetOf 0 = .ok (.aload_n 0, 1) := by decide +kernel
theorem dX6_isTargetOf_1 : decode cX6_isTargetOf 1 = .ok (.getfield 35, 3) := by decide +kernel
theorem dX6_isTargetOf_4 : decode cX6_isTargetOf 4 = .ok (.invokevirtual 52, 3) := by decide +kernel
theorem dX6_isTargetOf_7 : decode cX6_isTargetOf 7 = .ok (.getstatic 180, 3) := by decide +kernel
theorem dX6_isTargetOf_10 : decode cX6_isTargetOf 10 = .ok (.if_acmp .eq 9, 3) := by decide +kernel
theorem dX6_isTargetOf_13 : decode cX6_isTargetOf 13 = .ok (.aload_n 0, 1) := by decide +kernel
theorem dX6_isTargetOf_14 : decode cX6_isTargetOf 14 = .ok (.iconst 1, 1) := by decide +kernel
theorem dX6_isTargetOf_15 : decode cX6_isTargetOf 15 = .ok (.invokevirtual 92, 3) := by decide +kernel
theorem dX6_isTargetOf_18 : decode cX6_isTargetOf 18 = .ok (.ireturn, 1) := by decide +kernel
theorem dX6_isTargetOf_19 : decode cX6_isTargetOf 19 = .ok (.aload_n 0, 1) := by decide +kernel
theorem dX6_isTargetOf_20 : decode cX6_isTargetOf 20 = .ok (.getfield 39, 3) := by decide +kernel
theorem dX6_isTargetOf_23 : decode cX6_isTargetOf 23 = .ok (.iload_n 1, 1) := by decide +kernel
theorem dX6_isTargetOf_24 : decode cX6_isTargetOf 24 = .ok (.aload_n 0, 1) := by decide +kernel
theorem dX6_isTargetOf_25 : decode cX6_isTargetOf 25 = .ok (.getfield 35, 3) := by decide +kernel
theorem dX6_isTargetOf_28 : decode cX6_isTargetOf 28 = .ok (.invokevirtual 116, 3) := by decide +kernel
theorem dX6_isTargetOf_31 : decode cX6_isTargetOf 31 = .ok (.invokevirtual 183, 3) := by decide +kernel
theorem dX6_isTargetOf_34 : decode cX6_isTargetOf 34 = .ok (.ifCond .ne 11, 3) := by decide +kernel
theorem dX6_isTargetOf_37 : decode cX6_isTargetOf 37 = .ok (.aload_n 0, 1) := by decide +kernel
theorem dX6_isTargetOf_38 : decode cX6_isTargetOf 38 = .ok (.iconst 4, 1) := by decide +kernel
theorem dX6_isTargetOf_39 : decode cX6_isTargetOf 39 = .ok (.invokevirtual 92, 3) := by decide +kernel
theorem dX6_isTargetOf_42 : decode cX6_isTargetOf 42 = .ok (.ifCond .eq 7, 3) := by decide +kernel
theorem dX6_isTargetOf_45 : decode cX6_isTargetOf 45 = .ok (.iconst 1, 1) := by decide +kernel
theorem dX6_isTargetOf_46 : decode cX6_isTargetOf 46 = .ok (.goto 4, 3) := by decide +kernel
theorem dX6_isTargetOf_49 : decode cX6_isTargetOf 49 = .ok (.iconst 0, 1) := by decide +kernel
theorem dX6_isTargetOf_50 : decode cX6_isTargetOf 50 = .ok (.ireturn, 1) := by decide +kernel
theorem dX7_init_0 : decode cX7_init 0 = .ok (.aload_n 0, 1) := by decide +kernel
theorem dX7_init_1 : decode cX7_init 1 = .ok (.invokespecial 3, 3) := by decide +kernel
theorem dX7_init_4 : decode cX7_init 4 = .ok (.aload_n 0, 1) := by decide +kernel
theorem dX7_init_5 : decode cX7_init 5 = .ok (.iconst 3, 1) := by decide +kernel
theorem dX7_init_6 : decode cX7_init 6 = .ok (.newarray .long, 2) := by decide +kernel
theorem dX7_init_8 : decode cX7_init 8 = .ok (.putfield 9, 3) := by decide +kernel
theorem dX7_init_11 : decode cX7_init 11 = .ok (.aload_n 0, 1) := by decide +kernel
theorem dX7_init_12 : decode cX7_init 12 = .ok (.iconst 3, 1) := by decide +kernel
theorem dX7_init_13 : decode cX7_init 13 = .ok (.newarray .int, 2) := by decide +kernel
theorem dX7_init_15 : decode cX7_init 15 = .ok (.putfield 15, 3) := by decide +kernel
theorem dX7_init_18 : decode cX7_init 18 = .ok (.aload_n 0, 1) := by decide +kernel
theorem dX7_init_19 : decode cX7_init 19 = .ok (.bipush 60, 2) := by decide +kernel
theorem dX7_init_21 : decode cX7_init 21 = .ok (.newarray .int, 2) := by decide +kernel
theorem dX7_init_23 : decode cX7_init 23 = .ok (.putfield 19, 3) := by decide +kernel
theorem dX7_init_26 : decode cX7_init 26 = .ok (.aload_n 0, 1) := by decide +kernel
theorem dX7_init_27 : decode cX7_init 27 = .ok (.bipush 32, 2) := by decide +kernel
theorem dX7_init_29 : decode cX7_init 29 = .ok (.newarray .int, 2) := by decide +kernel
theorem dX7_init_31 : decode cX7_init 31 = .ok (.putfield 22, 3) := by decide +kernel
theorem dX7_init_34 : decode cX7_init 34 = .ok (.aload_n 0, 1) := by decide +kernel
theorem dX7_init_35 : decode cX7_init 35 = .ok (.iconst 0, 1) := by decide +kernel
theorem dX7_init_36 : decode cX7_init 36 = .ok (.putfield 25, 3) := by decide +kernel
theorem dX7_init_39 : decode cX7_init 39 = .ok (.aload_n 0, 1) := by decide +kernel
theorem dX7_init_40 : decode cX7_init 40 = .ok (.iconst 0, 1) := by decide +kernel
theorem dX7_init_41 : decode cX7_init 41 = .ok (.putfield 29, 3) := by decide +kernel
theorem dX7_init_44 : decode cX7_init 44 = .ok (.aload_n 0, 1) := by decide +kernel
theorem dX7_init_45 : decode cX7_init 45 = .ok (.iconst 0, 1) := by decide +kernel
theorem dX7_init_46 : decode cX7_init 46 = .ok (.putfield 32, 3) := by decide +kernel
theorem dX7_init_49 : decode cX7_init 49 = .ok (.aload_n 0, 1) := by decide +kernel
theorem dX7_init_50 : decode cX7_init 50 = .ok (.iconst 0, 1) := by decide +kernel
theorem dX7_init_51 : decode cX7_init 51 = .ok (.putfield 35, 3) := by decide +kernel
theorem dX7_init_54 : decode cX7_init 54 = .ok (.return_, 1) := by decide +kernel
theorem dX7_clear_0 : decode cX7_clear 0 = .ok (.aload_n 0, 1) := by decide +kernel
theorem dX7_clear_1 : decode cX7_clear 1 = .ok (.iconst 0, 1) := by decide +kernel
theorem dX7_clear_2 : decode cX7_clear 2 = .ok (.putfield 25, 3) := by decide +kernel
theorem dX7_clear_5 : decode cX7_clear 5 = .ok (.aload_n 0, 1) := by decide +kernel
theorem dX7_clear_6 : decode cX7_clear 6 = .ok (.iconst 0, 1) := by decide +kernel
theorem dX7_clear_7 : decode cX7_clear 7 = .ok (.putfield 29, 3) := by decide +kernel
theorem dX7_clear_10 : decode cX7_clear 10 = .ok (.aload_n 0, 1) := by decide +kernel
theorem dX7_clear_11 : decode cX7_clear 11 = .ok (.iconst 0, 1) := by decide +kernel
theorem dX7_clear_12 : decode cX7_clear 12 = .ok (.putfield 32, 3) := by decide +kernel
theorem dX7_clear_15 : decode cX7_clear 15 = .ok (.aload_n 0, 1) := by decide +kernel
theorem dX7_clear_16 : decode cX7_clear 16 = .ok (.iconst 0, 1) := by decide +kernel
theorem dX7_clear_17 : decode cX7_clear 17 = .ok (.putfield 35, 3) := by decide +kernel
theorem dX7_clear_20 : decode cX7_clear 20 = .ok (.return_, 1) := by decide +kernel
theorem dX7_copyFrom_0 : decode cX7_copyFrom 0 = .ok (.aload_n 1, 1) := by decide +kernel
theorem dX7_copyFrom_1 : decode cX7_copyFrom 1 = .ok (.getfield 9, 3) := by decide +kernel
theorem dX7_copyFrom_4 : decode cX7_copyFrom 4 = .ok (.iconst 0, 1) := by decide +kernel
theorem dX7_copyFrom_5 : decode cX7_copyFrom 5 = .ok (.aload_n 0, 1) := by decide +kernel
theorem dX7_copyFrom_6 : decode cX7_copyFrom 6 = .ok (.getfield 9, 3) := by decide +kernel
theorem dX7_copyFrom_9 : decode cX7_copyFrom 9 = .ok (.iconst 0, 1) := by decide +kernel
theorem dX7_copyFrom_10 : decode cX7_copyFrom 10 = .ok (.iconst 3, 1) := by decide +kernel
theorem dX7_copyFrom_11 : decode cX7_copyFrom 11 = .ok (.invokestatic 38, 3) := by decide +kernel
theorem dX7_copyFrom_14 : decode cX7_copyFrom 14 = .ok (.aload_n 1, 1) := by decide +kernel
theorem dX7_copyFrom_15 : decode cX7_copyFrom 15 = .ok (.getfield 15, 3) := by decide +kernel
theorem dX7_copyFrom_18 : decode cX7_copyFrom 18 = .ok (.iconst 0, 1) := by decide +kernel
theorem dX7_copyFrom_19 : decode cX7_copyFrom 19 = .ok (.aload_n 0, 1) := by decide +kernel
theorem dX7_copyFrom_20 : decode cX7_copyFrom 20 = .ok (.getfield 15, 3) := by decide +kernel
theorem dX7_copyFrom_23 : decode cX7_copyFrom 23 = .ok (.iconst 0, 1) := by decide +kernel
theorem dX7_copyFrom_24 : decode cX7_copyFrom 24 = .ok (.iconst 3, 1) := by decide +kernel
theorem dX7_copyFrom_25 : decode cX7_copyFrom 25 = .ok (.invokestatic 38, 3) := by decide +kernel
theorem dX7_copyFrom_28 : decode cX7_copyFrom 28 = .ok (.aload_n 1, 1) := by decide +kernel
theorem dX7_copyFrom_29 : decode cX7_copyFrom 29 = .ok (.getfield 19, 3) := by decide +kernel
theorem dX7_copyFrom_32 : decode cX7_copyFrom 32 = .ok (.iconst 0, 1) := by decide +kernel
theorem dX7_copyFrom_33 : decode cX7_copyFrom 33 = .ok (.aload_n 0, 1) := by decide +kernel
theorem dX7_copyFrom_34 : decode cX7_copyFrom 34 = .ok (.getfield 19, 3) := by decide +kernel
theorem dX7_copyFrom_37 : decode cX7_copyFrom 37 = .ok (.iconst 0, 1) := by decide +kernel
theorem dX7_copyFrom_38 : decode cX7_copyFrom 38 = .ok (.bipush 60, 2) := by decide +kernel
theorem dX7_copyFrom_40 : decode cX7_copyFrom 40 = .ok (.invokestatic 38, 3) := by decide +kernel
theorem dX7_copyFrom_43 : decode cX7_copyFrom 43 = .ok (.aload_n 1, 1) := by decide +kernel
theorem dX7_copyFrom_44 : decode cX7_copyFrom 44 = .ok (.getfield 22, 3) := by decide +kernel
theorem dX7_copyFrom_47 : decode cX7_copyFrom 47 = .ok (.iconst 0, 1) := by decide +kernel
theorem dX7_copyFrom_48 : decode cX7_copyFrom 48 = .ok (.aload_n 0, 1) := by decide +kernel
theorem dX7_copyFrom_49 : decode cX7_copyFrom 49 = .ok (.getfield 22, 3) := by decide +kernel
theorem dX7_copyFrom_52 : decode cX7_copyFrom 52 = .ok (.iconst 0, 1) := by decide +kernel
theorem dX7_copyFrom_53 : decode cX7_copyFrom 53 = .ok (.bipush 32, 2) := by decide +kernel
theorem dX7_copyFrom_55 : decode cX7_copyFrom 55 = .ok (.invokestatic 38, 3) := by decide +kernel
theorem dX7_copyFrom_58 : decode cX7_copyFrom 58 = .ok (.aload_n 0, 1) := by decide +kernel
theorem dX7_copyFrom_59 : decode cX7_copyFrom 59 = .ok (.aload_n 1, 1) := by decide +kernel
theorem dX7_copyFrom_60 : decode cX7_copyFrom 60 = .ok (.getfield 25, 3) := by decide +kernel
theorem dX7_copyFrom_63 : decode cX7_copyFrom 63 = .ok (.putfield 25, 3) := by decide +kernel
theorem dX7_copyFrom_66 : decode cX7_copyFrom 66 = .ok (.aload_n 0, 1) := by decide +kernel
theorem dX7_copyFrom_67 : decode cX7_copyFrom 67 = .ok (.aload_n 1, 1) := by decide +kernel
theorem dX7_copyFrom_68 : decode cX7_copyFrom 68 = .ok (.getfield 29, 3) := by decide +kernel
theorem dX7_copyFrom_71 : decode cX7_copyFrom 71 = .ok (.putfield 29, 3) := by decide +kernel
theorem dX7_copyFrom_74 : decode cX7_copyFrom 74 = .ok (.aload_n 0, 1) := by decide +kernel
theorem dX7_copyFrom_75 : decode cX7_copyFrom 75 = .ok (.aload_n 1, 1) := by decide +kernel
theorem dX7_copyFrom_76 : decode cX7_copyFrom 76 = .ok (.getfield 32, 3) := by decide +kernel
theorem dX7_copyFrom_79 : decode cX7_copyFrom 79 = .ok (.putfield 32, 3) := by decide +kernel
theorem dX7_copyFrom_82 : decode cX7_copyFrom 82 = .ok (.aload_n 0, 1) := by decide +kernel
theorem dX7_copyFrom_83 : decode cX7_copyFrom 83 = .ok (.aload_n 1, 1) := by decide +kernel
theorem dX7_copyFrom_84 : decode cX7_copyFrom 84 = .ok (.getfield 35, 3) := by decide +kernel
theorem dX7_copyFrom_87 : decode cX7_copyFrom 87 = .ok (.putfield 35, 3) := by decide +kernel
theorem dX7_copyFrom_90 : decode cX7_copyFrom 90 = .ok (.return_, 1) := by decide +kernel
theorem dX7_locations_0 : decode cX7_locations 0 = .ok (.aload_n 0, 1) := by decide +kernel
theorem dX7_locations_1 : decode cX7_locations 1 = .ok (.getfield 25, 3) := by decide +kernel
theorem dX7_locations_4 : decode cX7_locations 4 = .ok (.ireturn, 1) := by decide +kernel
theorem dX7_threads_0 : decode cX7_threads 0 = .ok (.aload_n 0, 1) := by decide +kernel
theorem dX7_threads_1 : decode cX7_threads 1 = .ok (.getfield 29, 3) := by decide +kernel
theorem dX7_threads_4 : decode cX7_threads 4 = .ok (.ireturn, 1) := by decide +kernel
theorem dX7_size_0 : decode cX7_size 0 = .ok (.aload_n 0, 1) := by decide +kernel
theorem dX7_size_1 : decode cX7_size 1 = .ok (.getfield 32, 3) := by decide +kernel
theorem dX7_size_4 : decode cX7_size 4 = .ok (.ireturn, 1) := by decide +kernel
theorem dX7_addLocation_0 : decode cX7_addLocation 0 = .ok (.aload_n 0, 1) := by decide +kernel
theorem dX7_addLocation_1 : decode cX7_addLocation 1 = .ok (.getfield 25, 3) := by decide +kernel
theorem dX7_addLocation_4 : decode cX7_addLocation 4 = .ok (.iconst 3, 1) := by decide +kernel
theorem dX7_addLocation_5 : decode cX7_addLocation 5 = .ok (.if_icmp .ge 33, 3) := by decide +kernel
theorem dX7_addLocation_8 : decode cX7_addLocation 8 = .ok (.aload_n 0, 1) := by decide +kernel
theorem dX7_addLocation_9 : decode cX7_addLocation 9 = .ok (.getfield 9, 3) := by decide +kernel
theorem dX7_addLocation_12 : decode cX7_addLocation 12 = .ok (.aload_n 0, 1) := by decide +kernel
theorem dX7_addLocation_13 : decode cX7_addLocation 13 = .ok (.getfield 25, 3) := by decide +kernel
theorem dX7_addLocation_16 : decode cX7_addLocation 16 = .ok (.lload_n 1, 1) := by decide +kernel
theorem dX7_addLocation_17 : decode cX7_addLocation 17 = .ok (.lastore, 1) := by decide +kernel
theorem dX7_addLocation_18 : decode cX7_addLocation 18 = .ok (.aload_n 0, 1) := by decide +kernel
theorem dX7_addLocation_19 : decode cX7_addLocation 19 = .ok (.getfield 15, 3) := by decide +kernel
theorem dX7_addLocation_22 : decode cX7_addLocation 22 = .ok (.aload_n 0, 1) := by decide +kernel
theorem dX7_addLocation_23 : decode cX7_addLocation 23 = .ok (.getfield 25, 3) := by decide +kernel
theorem dX7_addLocation_26 : decode cX7_addLocation 26 = .ok (.iload_n 3, 1) := by decide +kernel
theorem dX7_addLocation_27 : decode cX7_addLocation 27 = .ok (.iastore, 1) := by decide +kernel
theorem dX7_addLocation_28 : decode cX7_addLocation 28 = .ok (.aload_n 0, 1) := by decide +kernel
theorem dX7_addLocation_29 : decode cX7_addLocation 29 = .ok (.dup, 1) := by decide +kernel
theorem dX7_addLocation_30 : decode cX7_addLocation 30 = .ok (.getfield 25, 3) := by decide +kernel
theorem dX7_addLocation_33 : decode cX7_addLocation 33 = .ok (.iconst 1, 1) := by decide +kernel
theorem dX7_addLocation_34 : decode cX7_addLocation 34 = .ok (.iadd, 1) := by decide +kernel
theorem dX7_addLocation_35 : decode cX7_addLocation 35 = .ok (.putfield 25, 3) := by decide +kernel
theorem dX7_addLocation_38 : decode cX7_addLocation 38 = .ok (.return_, 1) := by decide +kernel
theorem dX7_locationNamed_0 : decode cX7_locationNamed 0 = .ok (.iconst 0, 1) := by decide +kernel
theorem dX7_locationNamed_1 : decode cX7_locationNamed 1 = .ok (.istore_n 3, 1) := by decide +kernel
theorem dX7_locationNamed_2 : decode cX7_locationNamed 2 = .ok (.iload_n 3, 1) := by decide +kernel
theorem dX7_locationNamed_3 : decode cX7_locationNamed 3 = .ok (.aload_n 0, 1) := by decide +kernel
theorem dX7_locationNamed_4 : decode cX7_locationNamed 4 = .ok (.getfield 25, 3) := by decide +kernel
theorem dX7_locationNamed_7 : decode cX7_locationNamed 7 = .ok (.if_icmp .ge 27, 3) := by decide +kernel
theorem dX7_locationNamed_10 : decode cX7_locationNamed 10 = .ok (.iload_n 3, 1) := by decide +kernel
theorem dX7_locationNamed_11 : decode cX7_locationNamed 11 = .ok (.iconst 3, 1) := by decide +kernel
theorem dX7_locationNamed_12 : decode cX7_locationNamed 12 = .ok (.if_icmp .ge 22, 3) := by decide +kernel
theorem dX7_locationNamed_15 : decode cX7_locationNamed 15 = .ok (.aload_n 0, 1) := by decide +kernel
theorem dX7_locationNamed_16 : decode cX7_locationNamed 16 = .ok (.getfield 9, 3) := by decide +kernel
theorem dX7_locationNamed_19 : decode cX7_locationNamed 19 = .ok (.iload_n 3, 1) := by decide +kernel
theorem dX7_locationNamed_20 : decode cX7_locationNamed 20 = .ok (.laload, 1) := by decide +kernel
theorem dX7_locationNamed_21 : decode cX7_locationNamed 21 = .ok (.lload_n 1, 1) := by decide +kernel
theorem dX7_locationNamed_22 : decode cX7_locationNamed 22 = .ok (.lcmp, 1) := by decide +kernel
theorem dX7_locationNamed_23 : decode cX7_locationNamed 23 = .ok (.ifCond .ne 5, 3) := by decide +kernel
theorem dX7_locationNamed_26 : decode cX7_locationNamed 26 = .ok (.iload_n 3, 1) := by decide +kernel
theorem dX7_locationNamed_27 : decode cX7_locationNamed 27 = .ok (.ireturn, 1) := by decide +kernel
theorem dX7_locationNamed_28 : decode cX7_locationNamed 28 = .ok (.iinc 3 1, 3) := by decide +kernel
theorem dX7_locationNamed_31 : decode cX7_locationNamed 31 = .ok (.goto (-29), 3) := by decide +kernel
theorem dX7_locationNamed_34 : decode cX7_locationNamed 34 = .ok (.iconst (-1), 1) := by decide +kernel
theorem dX7_locationNamed_35 : decode cX7_locationNamed 35 = .ok (.ireturn, 1) := by decide +kernel
theorem dX7_nameOf_0 : decode cX7_nameOf 0 = .ok (.iload_n 1, 1) := by decide +kernel
theorem dX7_nameOf_1 : decode cX7_nameOf 1 = .ok (.ifCond .lt 17, 3) := by decide +kernel
theorem dX7_nameOf_4 : decode cX7_nameOf 4 = .ok (.iload_n 1, 1) := by decide +kernel
theorem dX7_nameOf_5 : decode cX7_nameOf 5 = .ok (.iconst 3, 1) := by decide +kernel
theorem dX7_nameOf_6 : decode cX7_nameOf 6 = .ok (.if_icmp .ge 12, 3) := by decide +kernel
theorem dX7_nameOf_9 : decode cX7_nameOf 9 = .ok (.aload_n 0, 1) := by decide +kernel
theorem dX7_nameOf_10 : decode cX7_nameOf 10 = .ok (.getfield 9, 3) := by decide +kernel
theorem dX7_nameOf_13 : decode cX7_nameOf 13 = .ok (.iload_n 1, 1) := by decide +kernel
theorem dX7_nameOf_14 : decode cX7_nameOf 14 = .ok (.laload, 1) := by decide +kernel
theorem dX7_nameOf_15 : decode cX7_nameOf 15 = .ok (.goto 4, 3) := by decide +kernel
theorem dX7_nameOf_18 : decode cX7_nameOf 18 = .ok (.lconst 0, 1) := by decide +kernel
theorem dX7_nameOf_19 : decode cX7_nameOf 19 = .ok (.lreturn, 1) := by decide +kernel
theorem dX7_initialOf_0 : decode cX7_initialOf 0 = .ok (.iload_n 1, 1) := by decide +kernel
theorem dX7_initialOf_1 : decode cX7_initialOf 1 = .ok (.ifCond .lt 17, 3) := by decide +kernel
theorem dX7_initialOf_4 : decode cX7_initialOf 4 = .ok (.iload_n 1, 1) := by decide +kernel
theorem dX7_initialOf_5 : decode cX7_initialOf 5 = .ok (.iconst 3, 1) := by decide +kernel
theorem dX7_initialOf_6 : decode cX7_initialOf 6 = .ok (.if_icmp .ge 12, 3) := by decide +kernel
theorem dX7_initialOf_9 : decode cX7_initialOf 9 = .ok (.aload_n 0, 1) := by decide +kernel
theorem dX7_initialOf_10 : decode cX7_initialOf 10 = .ok (.getfield 15, 3) := by decide +kernel
theorem dX7_initialOf_13 : decode cX7_initialOf 13 = .ok (.iload_n 1, 1) := by decide +kernel
theorem dX7_initialOf_14 : decode cX7_initialOf 14 = .ok (.iaload, 1) := by decide +kernel
theorem dX7_initialOf_15 : decode cX7_initialOf 15 = .ok (.goto 4, 3) := by decide +kernel
theorem dX7_initialOf_18 : decode cX7_initialOf 18 = .ok (.iconst 0, 1) := by decide +kernel
theorem dX7_initialOf_19 : decode cX7_initialOf 19 = .ok (.ireturn, 1) := by decide +kernel
theorem dX7_addThread_0 : decode cX7_addThread 0 = .ok (.aload_n 0, 1) := by decide +kernel
theorem dX7_addThread_1 : decode cX7_addThread 1 = .ok (.getfield 29, 3) := by decide +kernel
theorem dX7_addThread_4 : decode cX7_addThread 4 = .ok (.iconst 4, 1) := by decide +kernel
theorem dX7_addThread_5 : decode cX7_addThread 5 = .ok (.if_icmp .ge 13, 3) := by decide +kernel
theorem dX7_addThread_8 : decode cX7_addThread 8 = .ok (.aload_n 0, 1) := by decide +kernel
theorem dX7_addThread_9 : decode cX7_addThread 9 = .ok (.dup, 1) := by decide +kernel
theorem dX7_addThread_10 : decode cX7_addThread 10 = .ok (.getfield 29, 3) := by decide +kernel
theorem dX7_addThread_13 : decode cX7_addThread 13 = .ok (.iconst 1, 1) := by decide +kernel
theorem dX7_addThread_14 : decode cX7_addThread 14 = .ok (.iadd, 1) := by decide +kernel
theorem dX7_addThread_15 : decode cX7_addThread 15 = .ok (.putfield 29, 3) := by decide +kernel
theorem dX7_addThread_18 : decode cX7_addThread 18 = .ok (.return_, 1) := by decide +kernel
theorem dX7_addInstruction_0 : decode cX7_addInstruction 0 = .ok (.aload_n 0, 1) := by decide +kernel
theorem dX7_addInstruction_1 : decode cX7_addInstruction 1 = .ok (.getfield 32, 3) := by decide +kernel
theorem dX7_addInstruction_4 : decode cX7_addInstruction 4 = .ok (.bipush 10, 2) := by decide +kernel
theorem dX7_addInstruction_6 : decode cX7_addInstruction 6 = .ok (.if_icmp .ge 92, 3) := by decide +kernel
theorem dX7_addInstruction_9 : decode cX7_addInstruction 9 = .ok (.aload_n 0, 1) := by decide +kernel
theorem dX7_addInstruction_10 : decode cX7_addInstruction 10 = .ok (.dup, 1) := by decide +kernel
theorem dX7_addInstruction_11 : decode cX7_addInstruction 11 = .ok (.getfield 32, 3) := by decide +kernel
theorem dX7_addInstruction_14 : decode cX7_addInstruction 14 = .ok (.iconst 1, 1) := by decide +kernel
theorem dX7_addInstruction_15 : decode cX7_addInstruction 15 = .ok (.iadd, 1) := by decide +kernel
theorem dX7_addInstruction_16 : decode cX7_addInstruction 16 = .ok (.putfield 32, 3) := by decide +kernel
theorem dX7_addInstruction_19 : decode cX7_addInstruction 19 = .ok (.aload_n 0, 1) := by decide +kernel
theorem dX7_addInstruction_20 : decode cX7_addInstruction 20 = .ok (.aload_n 0, 1) := by decide +kernel
theorem dX7_addInstruction_21 : decode cX7_addInstruction 21 = .ok (.getfield 32, 3) := by decide +kernel
theorem dX7_addInstruction_24 : decode cX7_addInstruction 24 = .ok (.iconst 1, 1) := by decide +kernel
theorem dX7_addInstruction_25 : decode cX7_addInstruction 25 = .ok (.isub, 1) := by decide +kernel
theorem dX7_addInstruction_26 : decode cX7_addInstruction 26 = .ok (.iconst 0, 1) := by decide +kernel
theorem dX7_addInstruction_27 : decode cX7_addInstruction 27 = .ok (.aload_n 0, 1) := by decide +kernel
theorem dX7_addInstruction_28 : decode cX7_addInstruction 28 = .ok (.getfield 29, 3) := by decide +kernel
theorem dX7_addInstruction_31 : decode cX7_addInstruction 31 = .ok (.iconst 1, 1) := by decide +kernel
theorem dX7_addInstruction_32 : decode cX7_addInstruction 32 = .ok (.isub, 1) := by decide +kernel
theorem dX7_addInstruction_33 : decode cX7_addInstruction 33 = .ok (.invokevirtual 44, 3) := by decide +kernel
theorem dX7_addInstruction_36 : decode cX7_addInstruction 36 = .ok (.aload_n 0, 1) := by decide +kernel
theorem dX7_addInstruction_37 : decode cX7_addInstruction 37 = .ok (.aload_n 0, 1) := by decide +kernel
theorem dX7_addInstruction_38 : decode cX7_addInstruction 38 = .ok (.getfield 32, 3) := by decide +kernel
theorem dX7_addInstruction_41 : decode cX7_addInstruction 41 = .ok (.iconst 1, 1) := by decide +kernel
theorem dX7_addInstruction_42 : decode cX7_addInstruction 42 = .ok (.isub, 1) := by decide +kernel
theorem dX7_addInstruction_43 : decode cX7_addInstruction 43 = .ok (.iconst 1, 1) := by decide +kernel
theorem dX7_addInstruction_44 : decode cX7_addInstruction 44 = .ok (.iload_n 1, 1) := by decide +kernel
theorem dX7_addInstruction_45 : decode cX7_addInstruction 45 = .ok (.invokevirtual 44, 3) := by decide +kernel
theorem dX7_addInstruction_48 : decode cX7_addInstruction 48 = .ok (.aload_n 0, 1) := by decide +kernel
theorem dX7_addInstruction_49 : decode cX7_addInstruction 49 = .ok (.aload_n 0, 1) := by decide +kernel
theorem dX7_addInstruction_50 : decode cX7_addInstruction 50 = .ok (.getfield 32, 3) := by decide +kernel
theorem dX7_addInstruction_53 : decode cX7_addInstruction 53 = .ok (.iconst 1, 1) := by decide +kernel
theorem dX7_addInstruction_54 : decode cX7_addInstruction 54 = .ok (.isub, 1) := by decide +kernel
theorem dX7_addInstruction_55 : decode cX7_addInstruction 55 = .ok (.iconst 2, 1) := by decide +kernel
theorem dX7_addInstruction_56 : decode cX7_addInstruction 56 = .ok (.iload_n 2, 1) := by decide +kernel
theorem dX7_addInstruction_57 : decode cX7_addInstruction 57 = .ok (.invokevirtual 44, 3) := by decide +kernel
theorem dX7_addInstruction_60 : decode cX7_addInstruction 60 = .ok (.aload_n 0, 1) := by decide +kernel
theorem dX7_addInstruction_61 : decode cX7_addInstruction 61 = .ok (.aload_n 0, 1) := by decide +kernel
theorem dX7_addInstruction_62 : decode cX7_addInstruction 62 = .ok (.getfield 32, 3) := by decide +kernel
theorem dX7_addInstruction_65 : decode cX7_addInstruction 65 = .ok (.iconst 1, 1) := by decide +kernel
theorem dX7_addInstruction_66 : decode cX7_addInstruction 66 = .ok (.isub, 1) := by decide +kernel
theorem dX7_addInstruction_67 : decode cX7_addInstruction 67 = .ok (.iconst 3, 1) := by decide +kernel
theorem dX7_addInstruction_68 : decode cX7_addInstruction 68 = .ok (.iload_n 3, 1) := by decide +kernel
theorem dX7_addInstruction_69 : decode cX7_addInstruction 69 = .ok (.invokevirtual 44, 3) := by decide +kernel
theorem dX7_addInstruction_72 : decode cX7_addInstruction 72 = .ok (.aload_n 0, 1) := by decide +kernel
theorem dX7_addInstruction_73 : decode cX7_addInstruction 73 = .ok (.aload_n 0, 1) := by decide +kernel
theorem dX7_addInstruction_74 : decode cX7_addInstruction 74 = .ok (.getfield 32, 3) := by decide +kernel
theorem dX7_addInstruction_77 : decode cX7_addInstruction 77 = .ok (.iconst 1, 1) := by decide +kernel
theorem dX7_addInstruction_78 : decode cX7_addInstruction 78 = .ok (.isub, 1) := by decide +kernel
theorem dX7_addInstruction_79 : decode cX7_addInstruction 79 = .ok (.iconst 4, 1) := by decide +kernel
theorem dX7_addInstruction_80 : decode cX7_addInstruction 80 = .ok (.iload 4, 2) := by decide +kernel
theorem dX7_addInstruction_82 : decode cX7_addInstruction 82 = .ok (.invokevirtual 44, 3) := by decide +kernel
theorem dX7_addInstruction_85 : decode cX7_addInstruction 85 = .ok (.aload_n 0, 1) := by decide +kernel
theorem dX7_addInstruction_86 : decode cX7_addInstruction 86 = .ok (.aload_n 0, 1) := by decide +kernel
theorem dX7_addInstruction_87 : decode cX7_addInstruction 87 = .ok (.getfield 32, 3) := by decide +kernel
theorem dX7_addInstruction_90 : decode cX7_addInstruction 90 = .ok (.iconst 1, 1) := by decide +kernel
theorem dX7_addInstruction_91 : decode cX7_addInstruction 91 = .ok (.isub, 1) := by decide +kernel
theorem dX7_addInstruction_92 : decode cX7_addInstruction 92 = .ok (.iconst 5, 1) := by decide +kernel
theorem dX7_addInstruction_93 : decode cX7_addInstruction 93 = .ok (.iload 5, 2) := by decide +kernel
theorem dX7_addInstruction_95 : decode cX7_addInstruction 95 = .ok (.invokevirtual 44, 3) := by decide +kernel
theorem dX7_addInstruction_98 : decode cX7_addInstruction 98 = .ok (.return_, 1) := by decide +kernel
theorem dX7_setProperty_0 : decode cX7_setProperty 0 = .ok (.iload_n 1, 1) := by decide +kernel
theorem dX7_setProperty_1 : decode cX7_setProperty 1 = .ok (.bipush 6, 2) := by decide +kernel
theorem dX7_setProperty_3 : decode cX7_setProperty 3 = .ok (.imul, 1) := by decide +kernel
theorem dX7_setProperty_4 : decode cX7_setProperty 4 = .ok (.iload_n 2, 1) := by decide +kernel
theorem dX7_setProperty_5 : decode cX7_setProperty 5 = .ok (.iadd, 1) := by decide +kernel
theorem dX7_setProperty_6 : decode cX7_setProperty 6 = .ok (.istore 4, 2) := by decide +kernel
theorem dX7_setProperty_8 : decode cX7_setProperty 8 = .ok (.iload 4, 2) := by decide +kernel
theorem dX7_setProperty_10 : decode cX7_setProperty 10 = .ok (.ifCond .lt 21, 3) := by decide +kernel
theorem dX7_setProperty_13 : decode cX7_setProperty 13 = .ok (.iload 4, 2) := by decide +kernel
theorem dX7_setProperty_15 : decode cX7_setProperty 15 = .ok (.aload_n 0, 1) := by decide +kernel
theorem dX7_setProperty_16 : decode cX7_setProperty 16 = .ok (.getfield 19, 3) := by decide +kernel
theorem dX7_setProperty_19 : decode cX7_setProperty 19 = .ok (.arraylength, 1) := by decide +kernel
theorem dX7_setProperty_20 : decode cX7_setProperty 20 = .ok (.if_icmp .ge 11, 3) := by decide +kernel
theorem dX7_setProperty_23 : decode cX7_setProperty 23 = .ok (.aload_n 0, 1) := by decide +kernel
theorem dX7_setProperty_24 : decode cX7_setProperty 24 = .ok (.getfield 19, 3) := by decide +kernel
theorem dX7_setProperty_27 : decode cX7_setProperty 27 = .ok (.iload 4, 2) := by decide +kernel
theorem dX7_setProperty_29 : decode cX7_setProperty 29 = .ok (.iload_n 3, 1) := by decide +kernel
theorem dX7_setProperty_30 : decode cX7_setProperty 30 = .ok (.iastore, 1) := by decide +kernel
theorem dX7_setProperty_31 : decode cX7_setProperty 31 = .ok (.return_, 1) := by decide +kernel
theorem dX7_property_0 : decode cX7_property 0 = .ok (.iload_n 1, 1) := by decide +kernel
theorem dX7_property_1 : decode cX7_property 1 = .ok (.ifCond .lt 25, 3) := by decide +kernel
theorem dX7_property_4 : decode cX7_property 4 = .ok (.iload_n 1, 1) := by decide +kernel
theorem dX7_property_5 : decode cX7_property 5 = .ok (.aload_n 0, 1) := by decide +kernel
theorem dX7_property_6 : decode cX7_property 6 = .ok (.getfield 32, 3) := by decide +kernel
theorem dX7_property_9 : decode cX7_property 9 = .ok (.if_icmp .ge 17, 3) := by decide +kernel
theorem dX7_property_12 : decode cX7_property 12 = .ok (.iload_n 2, 1) := by decide +kernel
theorem dX7_property_13 : decode cX7_property 13 = .ok (.ifCond .lt 13, 3) := by decide +kernel
theorem dX7_property_16 : decode cX7_property 16 = .ok (.iload_n 2, 1) := by decide +kernel
theorem dX7_property_17 : decode cX7_property 17 = .ok (.bipush 6, 2) := by decide +kernel
theorem dX7_property_19 : decode cX7_property 19 = .ok (.if_icmp .ge 7, 3) := by decide +kernel
theorem dX7_property_22 : decode cX7_property 22 = .ok (.iconst 1, 1) := by decide +kernel
theorem dX7_property_23 : decode cX7_property 23 = .ok (.goto 4, 3) := by decide +kernel
theorem dX7_property_26 : decode cX7_property 26 = .ok (.iconst 0, 1) := by decide +kernel
theorem dX7_property_27 : decode cX7_property 27 = .ok (.istore_n 3, 1) := by decide +kernel
theorem dX7_property_28 : decode cX7_property 28 = .ok (.iload_n 3, 1) := by decide +kernel
theorem dX7_property_29 : decode cX7_property 29 = .ok (.ifCond .eq 12, 3) := by decide +kernel
theorem dX7_property_32 : decode cX7_property 32 = .ok (.iload_n 1, 1) := by decide +kernel
theorem dX7_property_33 : decode cX7_property 33 = .ok (.bipush 6, 2) := by decide +kernel
theorem dX7_property_35 : decode cX7_property 35 = .ok (.imul, 1) := by decide +kernel
theorem dX7_property_36 : decode cX7_property 36 = .ok (.iload_n 2, 1) := by decide +kernel
theorem dX7_property_37 : decode cX7_property 37 = .ok (.iadd, 1) := by decide +kernel
theorem dX7_property_38 : decode cX7_property 38 = .ok (.goto 4, 3) := by decide +kernel
theorem dX7_property_41 : decode cX7_property 41 = .ok (.iconst 0, 1) := by decide +kernel
theorem dX7_property_42 : decode cX7_property 42 = .ok (.istore 4, 2) := by decide +kernel
theorem dX7_property_44 : decode cX7_property 44 = .ok (.iload_n 3, 1) := by decide +kernel
theorem dX7_property_45 : decode cX7_property 45 = .ok (.ifCond .eq 23, 3) := by decide +kernel
theorem dX7_property_48 : decode cX7_property 48 = .ok (.iload 4, 2) := by decide +kernel
theorem dX7_property_50 : decode cX7_property 50 = .ok (.aload_n 0, 1) := by decide +kernel
theorem dX7_property_51 : decode cX7_property 51 = .ok (.getfield 19, 3) := by decide +kernel
theorem dX7_property_54 : decode cX7_property 54 = .ok (.arraylength, 1) := by decide +kernel
theorem dX7_property_55 : decode cX7_property 55 = .ok (.if_icmp .ge 13, 3) := by decide +kernel
theorem dX7_property_58 : decode cX7_property 58 = .ok (.aload_n 0, 1) := by decide +kernel
theorem dX7_property_59 : decode cX7_property 59 = .ok (.getfield 19, 3) := by decide +kernel
theorem dX7_property_62 : decode cX7_property 62 = .ok (.iload 4, 2) := by decide +kernel
theorem dX7_property_64 : decode cX7_property 64 = .ok (.iaload, 1) := by decide +kernel
theorem dX7_property_65 : decode cX7_property 65 = .ok (.goto 4, 3) := by decide +kernel
theorem dX7_property_68 : decode cX7_property 68 = .ok (.iconst (-1), 1) := by decide +kernel
theorem dX7_property_69 : decode cX7_property 69 = .ok (.ireturn, 1) := by decide +kernel
theorem dX7_putFence_0 : decode cX7_putFence 0 = .ok (.aload_n 0, 1) := by decide +kernel
theorem dX7_putFence_1 : decode cX7_putFence 1 = .ok (.getfield 32, 3) := by decide +kernel
theorem dX7_putFence_4 : decode cX7_putFence 4 = .ok (.bipush 10, 2) := by decide +kernel
theorem dX7_putFence_6 : decode cX7_putFence 6 = .ok (.if_icmp .ge 97, 3) := by decide +kernel
theorem dX7_putFence_9 : decode cX7_putFence 9 = .ok (.iload_n 1, 1) := by decide +kernel
theorem dX7_putFence_10 : decode cX7_putFence 10 = .ok (.ifCond .lt 93, 3) := by decide +kernel
theorem dX7_putFence_13 : decode cX7_putFence 13 = .ok (.iload_n 1, 1) := by decide +kernel
theorem dX7_putFence_14 : decode cX7_putFence 14 = .ok (.aload_n 0, 1) := by decide +kernel
theorem dX7_putFence_15 : decode cX7_putFence 15 = .ok (.getfield 32, 3) := by decide +kernel
theorem dX7_putFence_18 : decode cX7_putFence 18 = .ok (.if_icmp .gt 85, 3) := by decide +kernel
theorem dX7_putFence_21 : decode cX7_putFence 21 = .ok (.iload_n 1, 1) := by decide +kernel
theorem dX7_putFence_22 : decode cX7_putFence 22 = .ok (.bipush 6, 2) := by decide +kernel
theorem dX7_putFence_24 : decode cX7_putFence 24 = .ok (.imul, 1) := by decide +kernel
theorem dX7_putFence_25 : decode cX7_putFence 25 = .ok (.istore_n 3, 1) := by decide +kernel
theorem dX7_putFence_26 : decode cX7_putFence 26 = .ok (.aload_n 0, 1) := by decide +kernel
theorem dX7_putFence_27 : decode cX7_putFence 27 = .ok (.getfield 19, 3) := by decide +kernel
theorem dX7_putFence_30 : decode cX7_putFence 30 = .ok (.iload_n 3, 1) := by decide +kernel
theorem dX7_putFence_31 : decode cX7_putFence 31 = .ok (.aload_n 0, 1) := by decide +kernel
theorem dX7_putFence_32 : decode cX7_putFence 32 = .ok (.getfield 19, 3) := by decide +kernel
theorem dX7_putFence_35 : decode cX7_putFence 35 = .ok (.iload_n 3, 1) := by decide +kernel
theorem dX7_putFence_36 : decode cX7_putFence 36 = .ok (.bipush 6, 2) := by decide +kernel
theorem dX7_putFence_38 : decode cX7_putFence 38 = .ok (.iadd, 1) := by decide +kernel
theorem dX7_putFence_39 : decode cX7_putFence 39 = .ok (.aload_n 0, 1) := by decide +kernel
theorem dX7_putFence_40 : decode cX7_putFence 40 = .ok (.getfield 32, 3) := by decide +kernel
theorem dX7_putFence_43 : decode cX7_putFence 43 = .ok (.iload_n 1, 1) := by decide +kernel
theorem dX7_putFence_44 : decode cX7_putFence 44 = .ok (.isub, 1) := by decide +kernel
theorem dX7_putFence_45 : decode cX7_putFence 45 = .ok (.bipush 6, 2) := by decide +kernel
theorem dX7_putFence_47 : decode cX7_putFence 47 = .ok (.imul, 1) := by decide +kernel
theorem dX7_putFence_48 : decode cX7_putFence 48 = .ok (.invokestatic 38, 3) := by decide +kernel
theorem dX7_putFence_51 : decode cX7_putFence 51 = .ok (.aload_n 0, 1) := by decide +kernel
theorem dX7_putFence_52 : decode cX7_putFence 52 = .ok (.dup, 1) := by decide +kernel
theorem dX7_putFence_53 : decode cX7_putFence 53 = .ok (.getfield 32, 3) := by decide +kernel
theorem dX7_putFence_56 : decode cX7_putFence 56 = .ok (.iconst 1, 1) := by decide +kernel
theorem dX7_putFence_57 : decode cX7_putFence 57 = .ok (.iadd, 1) := by decide +kernel
theorem dX7_putFence_58 : decode cX7_putFence 58 = .ok (.putfield 32, 3) := by decide +kernel
theorem dX7_putFence_61 : decode cX7_putFence 61 = .ok (.aload_n 0, 1) := by decide +kernel
theorem dX7_putFence_62 : decode cX7_putFence 62 = .ok (.iload_n 1, 1) := by decide +kernel
theorem dX7_putFence_63 : decode cX7_putFence 63 = .ok (.iconst 0, 1) := by decide +kernel
theorem dX7_putFence_64 : decode cX7_putFence 64 = .ok (.iload_n 2, 1) := by decide +kernel
theorem dX7_putFence_65 : decode cX7_putFence 65 = .ok (.invokevirtual 44, 3) := by decide +kernel
theorem dX7_putFence_68 : decode cX7_putFence 68 = .ok (.aload_n 0, 1) := by decide +kernel
theorem dX7_putFence_69 : decode cX7_putFence 69 = .ok (.iload_n 1, 1) := by decide +kernel
theorem dX7_putFence_70 : decode cX7_putFence 70 = .ok (.iconst 1, 1) := by decide +kernel
theorem dX7_putFence_71 : decode cX7_putFence 71 = .ok (.iconst 3, 1) := by decide +kernel
theorem dX7_putFence_72 : decode cX7_putFence 72 = .ok (.invokevirtual 44, 3) := by decide +kernel
theorem dX7_putFence_75 : decode cX7_putFence 75 = .ok (.aload_n 0, 1) := by decide +kernel
theorem dX7_putFence_76 : decode cX7_putFence 76 = .ok (.iload_n 1, 1) := by decide +kernel
theorem dX7_putFence_77 : decode cX7_putFence 77 = .ok (.iconst 2, 1) := by decide +kernel
theorem dX7_putFence_78 : decode cX7_putFence 78 = .ok (.iconst (-1), 1) := by decide +kernel
theorem dX7_putFence_79 : decode cX7_putFence 79 = .ok (.invokevirtual 44, 3) := by decide +kernel
theorem dX7_putFence_82 : decode cX7_putFence 82 = .ok (.aload_n 0, 1) := by decide +kernel
theorem dX7_putFence_83 : decode cX7_putFence 83 = .ok (.iload_n 1, 1) := by decide +kernel
theorem dX7_putFence_84 : decode cX7_putFence 84 = .ok (.iconst 3, 1) := by decide +kernel
theorem dX7_putFence_85 : decode cX7_putFence 85 = .ok (.iconst (-1), 1) := by decide +kernel
theorem dX7_putFence_86 : decode cX7_putFence 86 = .ok (.invokevirtual 44, 3) := by decide +kernel
theorem dX7_putFence_89 : decode cX7_putFence 89 = .ok (.aload_n 0, 1) := by decide +kernel
theorem dX7_putFence_90 : decode cX7_putFence 90 = .ok (.iload_n 1, 1) := by decide +kernel
theorem dX7_putFence_91 : decode cX7_putFence 91 = .ok (.iconst 4, 1) := by decide +kernel
theorem dX7_putFence_92 : decode cX7_putFence 92 = .ok (.iconst (-1), 1) := by decide +kernel
theorem dX7_putFence_93 : decode cX7_putFence 93 = .ok (.invokevirtual 44, 3) := by decide +kernel
theorem dX7_putFence_96 : decode cX7_putFence 96 = .ok (.aload_n 0, 1) := by decide +kernel
theorem dX7_putFence_97 : decode cX7_putFence 97 = .ok (.iload_n 1, 1) := by decide +kernel
theorem dX7_putFence_98 : decode cX7_putFence 98 = .ok (.iconst 5, 1) := by decide +kernel
theorem dX7_putFence_99 : decode cX7_putFence 99 = .ok (.iconst (-1), 1) := by decide +kernel
theorem dX7_putFence_100 : decode cX7_putFence 100 = .ok (.invokevirtual 44, 3) := by decide +kernel
theorem dX7_putFence_103 : decode cX7_putFence 103 = .ok (.return_, 1) := by decide +kernel
theorem dX7_dropInstruction_0 : decode cX7_dropInstruction 0 = .ok (.iload_n 1, 1) := by decide +kernel
theorem dX7_dropInstruction_1 : decode cX7_dropInstruction 1 = .ok (.ifCond .lt 62, 3) := by decide +kernel
theorem dX7_dropInstruction_4 : decode cX7_dropInstruction 4 = .ok (.iload_n 1, 1) := by decide +kernel
theorem dX7_dropInstruction_5 : decode cX7_dropInstruction 5 = .ok (.aload_n 0, 1) := by decide +kernel
theorem dX7_dropInstruction_6 : decode cX7_dropInstruction 6 = .ok (.getfield 32, 3) := by decide +kernel
theorem dX7_dropInstruction_9 : decode cX7_dropInstruction 9 = .ok (.if_icmp .ge 54, 3) := by decide +kernel
theorem dX7_dropInstruction_12 : decode cX7_dropInstruction 12 = .ok (.aload_n 0, 1) := by decide +kernel
theorem dX7_dropInstruction_13 : decode cX7_dropInstruction 13 = .ok (.getfield 32, 3) := by decide +kernel
theorem dX7_dropInstruction_16 : decode cX7_dropInstruction 16 = .ok (.bipush 10, 2) := by decide +kernel
theorem dX7_dropInstruction_18 : decode cX7_dropInstruction 18 = .ok (.if_icmp .gt 45, 3) := by decide +kernel
theorem dX7_dropInstruction_21 : decode cX7_dropInstruction 21 = .ok (.iload_n 1, 1) := by decide +kernel
theorem dX7_dropInstruction_22 : decode cX7_dropInstruction 22 = .ok (.bipush 6, 2) := by decide +kernel
theorem dX7_dropInstruction_24 : decode cX7_dropInstruction 24 = .ok (.imul, 1) := by decide +kernel
theorem dX7_dropInstruction_25 : decode cX7_dropInstruction 25 = .ok (.istore_n 2, 1) := by decide +kernel
theorem dX7_dropInstruction_26 : decode cX7_dropInstruction 26 = .ok (.aload_n 0, 1) := by decide +kernel
theorem dX7_dropInstruction_27 : decode cX7_dropInstruction 27 = .ok (.getfield 19, 3) := by decide +kernel
theorem dX7_dropInstruction_30 : decode cX7_dropInstruction 30 = .ok (.iload_n 2, 1) := by decide +kernel
theorem dX7_dropInstruction_31 : decode cX7_dropInstruction 31 = .ok (.bipush 6, 2) := by decide +kernel
theorem dX7_dropInstruction_33 : decode cX7_dropInstruction 33 = .ok (.iadd, 1) := by decide +kernel
theorem dX7_dropInstruction_34 : decode cX7_dropInstruction 34 = .ok (.aload_n 0, 1) := by decide +kernel
theorem dX7_dropInstruction_35 : decode cX7_dropInstruction 35 = .ok (.getfield 19, 3) := by decide +kernel
theorem dX7_dropInstruction_38 : decode cX7_dropInstruction 38 = .ok (.iload_n 2, 1) := by decide +kernel
theorem dX7_dropInstruction_39 : decode cX7_dropInstruction 39 = .ok (.aload_n 0, 1) := by decide +kernel
theorem dX7_dropInstruction_40 : decode cX7_dropInstruction 40 = .ok (.getfield 32, 3) := by decide +kernel
theorem dX7_dropInstruction_43 : decode cX7_dropInstruction 43 = .ok (.iload_n 1, 1) := by decide +kernel
theorem dX7_dropInstruction_44 : decode cX7_dropInstruction 44 = .ok (.isub, 1) := by decide +kernel
theorem dX7_dropInstruction_45 : decode cX7_dropInstruction 45 = .ok (.iconst 1, 1) := by decide +kernel
theorem dX7_dropInstruction_46 : decode cX7_dropInstruction 46 = .ok (.isub, 1) := by decide +kernel
theorem dX7_dropInstruction_47 : decode cX7_dropInstruction 47 = .ok (.bipush 6, 2) := by decide +kernel
theorem dX7_dropInstruction_49 : decode cX7_dropInstruction 49 = .ok (.imul, 1) := by decide +kernel
theorem dX7_dropInstruction_50 : decode cX7_dropInstruction 50 = .ok (.invokestatic 38, 3) := by decide +kernel
theorem dX7_dropInstruction_53 : decode cX7_dropInstruction 53 = .ok (.aload_n 0, 1) := by decide +kernel
theorem dX7_dropInstruction_54 : decode cX7_dropInstruction 54 = .ok (.dup, 1) := by decide +kernel
theorem dX7_dropInstruction_55 : decode cX7_dropInstruction 55 = .ok (.getfield 32, 3) := by decide +kernel
theorem dX7_dropInstruction_58 : decode cX7_dropInstruction 58 = .ok (.iconst 1, 1) := by decide +kernel
theorem dX7_dropInstruction_59 : decode cX7_dropInstruction 59 = .ok (.isub, 1) := by decide +kernel
theorem dX7_dropInstruction_60 : decode cX7_dropInstruction 60 = .ok (.putfield 32, 3) := by decide +kernel
theorem dX7_dropInstruction_63 : decode cX7_dropInstruction 63 = .ok (.return_, 1) := by decide +kernel
theorem dX7_sizeOf_0 : decode cX7_sizeOf 0 = .ok (.iconst 0, 1) := by decide +kernel
theorem dX7_sizeOf_1 : decode cX7_sizeOf 1 = .ok (.istore_n 2, 1) := by decide +kernel
theorem dX7_sizeOf_2 : decode cX7_sizeOf 2 = .ok (.iconst 0, 1) := by decide +kernel
theorem dX7_sizeOf_3 : decode cX7_sizeOf 3 = .ok (.istore_n 3, 1) := by decide +kernel
theorem dX7_sizeOf_4 : decode cX7_sizeOf 4 = .ok (.iload_n 3, 1) := by decide +kernel
theorem dX7_sizeOf_5 : decode cX7_sizeOf 5 = .ok (.aload_n 0, 1) := by decide +kernel
theorem dX7_sizeOf_6 : decode cX7_sizeOf 6 = .ok (.getfield 32, 3) := by decide +kernel
theorem dX7_sizeOf_9 : decode cX7_sizeOf 9 = .ok (.if_icmp .ge 22, 3) := by decide +kernel
theorem dX7_sizeOf_12 : decode cX7_sizeOf 12 = .ok (.aload_n 0, 1) := by decide +kernel
theorem dX7_sizeOf_13 : decode cX7_sizeOf 13 = .ok (.iload_n 3, 1) := by decide +kernel
theorem dX7_sizeOf_14 : decode cX7_sizeOf 14 = .ok (.iconst 0, 1) := by decide +kernel
theorem dX7_sizeOf_15 : decode cX7_sizeOf 15 = .ok (.invokevirtual 48, 3) := by decide +kernel
theorem dX7_sizeOf_18 : decode cX7_sizeOf 18 = .ok (.iload_n 1, 1) := by decide +kernel
theorem dX7_sizeOf_19 : decode cX7_sizeOf 19 = .ok (.if_icmp .ne 6, 3) := by decide +kernel
theorem dX7_sizeOf_22 : decode cX7_sizeOf 22 = .ok (.iinc 2 1, 3) := by decide +kernel
theorem dX7_sizeOf_25 : decode cX7_sizeOf 25 = .ok (.iinc 3 1, 3) := by decide +kernel
theorem dX7_sizeOf_28 : decode cX7_sizeOf 28 = .ok (.goto (-24), 3) := by decide +kernel
theorem dX7_sizeOf_31 : decode cX7_sizeOf 31 = .ok (.iload_n 2, 1) := by decide +kernel
theorem dX7_sizeOf_32 : decode cX7_sizeOf 32 = .ok (.ireturn, 1) := by decide +kernel
theorem dX7_accessesOf_0 : decode cX7_accessesOf 0 = .ok (.iconst 0, 1) := by decide +kernel
theorem dX7_accessesOf_1 : decode cX7_accessesOf 1 = .ok (.istore_n 2, 1) := by decide +kernel
theorem dX7_accessesOf_2 : decode cX7_accessesOf 2 = .ok (.iconst 0, 1) := by decide +kernel
theorem dX7_accessesOf_3 : decode cX7_accessesOf 3 = .ok (.istore_n 3, 1) := by decide +kernel
theorem dX7_accessesOf_4 : decode cX7_accessesOf 4 = .ok (.iload_n 3, 1) := by decide +kernel
theorem dX7_accessesOf_5 : decode cX7_accessesOf 5 = .ok (.aload_n 0, 1) := by decide +kernel
theorem dX7_accessesOf_6 : decode cX7_accessesOf 6 = .ok (.getfield 32, 3) := by decide +kernel
theorem dX7_accessesOf_9 : decode cX7_accessesOf 9 = .ok (.if_icmp .ge 32, 3) := by decide +kernel
theorem dX7_accessesOf_12 : decode cX7_accessesOf 12 = .ok (.aload_n 0, 1) := by decide +kernel
theorem dX7_accessesOf_13 : decode cX7_accessesOf 13 = .ok (.iload_n 3, 1) := by decide +kernel
theorem dX7_accessesOf_14 : decode cX7_accessesOf 14 = .ok (.iconst 0, 1) := by decide +kernel
theorem dX7_accessesOf_15 : decode cX7_accessesOf 15 = .ok (.invokevirtual 48, 3) := by decide +kernel
theorem dX7_accessesOf_18 : decode cX7_accessesOf 18 = .ok (.iload_n 1, 1) := by decide +kernel
theorem dX7_accessesOf_19 : decode cX7_accessesOf 19 = .ok (.if_icmp .ne 16, 3) := by decide +kernel
theorem dX7_accessesOf_22 : decode cX7_accessesOf 22 = .ok (.aload_n 0, 1) := by decide +kernel
theorem dX7_accessesOf_23 : decode cX7_accessesOf 23 = .ok (.iload_n 3, 1) := by decide +kernel
theorem dX7_accessesOf_24 : decode cX7_accessesOf 24 = .ok (.iconst 1, 1) := by decide +kernel
theorem dX7_accessesOf_25 : decode cX7_accessesOf 25 = .ok (.invokevirtual 48, 3) := by decide +kernel
theorem dX7_accessesOf_28 : decode cX7_accessesOf 28 = .ok (.iconst 3, 1) := by decide +kernel
theorem dX7_accessesOf_29 : decode cX7_accessesOf 29 = .ok (.if_icmp .eq 6, 3) := by decide +kernel
theorem dX7_accessesOf_32 : decode cX7_accessesOf 32 = .ok (.iinc 2 1, 3) := by decide +kernel
theorem dX7_accessesOf_35 : decode cX7_accessesOf 35 = .ok (.iinc 3 1, 3) := by decide +kernel
theorem dX7_accessesOf_38 : decode cX7_accessesOf 38 = .ok (.goto (-34), 3) := by decide +kernel
theorem dX7_accessesOf_41 : decode cX7_accessesOf 41 = .ok (.iload_n 2, 1) := by decide +kernel
theorem dX7_accessesOf_42 : decode cX7_accessesOf 42 = .ok (.ireturn, 1) := by decide +kernel
theorem dX7_accesses_0 : decode cX7_accesses 0 = .ok (.iconst 0, 1) := by decide +kernel
theorem dX7_accesses_1 : decode cX7_accesses 1 = .ok (.istore_n 1, 1) := by decide +kernel
theorem dX7_accesses_2 : decode cX7_accesses 2 = .ok (.iconst 0, 1) := by decide +kernel
theorem dX7_accesses_3 : decode cX7_accesses 3 = .ok (.istore_n 2, 1) := by decide +kernel
theorem dX7_accesses_4 : decode cX7_accesses 4 = .ok (.iload_n 2, 1) := by decide +kernel
theorem dX7_accesses_5 : decode cX7_accesses 5 = .ok (.aload_n 0, 1) := by decide +kernel
theorem dX7_accesses_6 : decode cX7_accesses 6 = .ok (.getfield 29, 3) := by decide +kernel
theorem dX7_accesses_9 : decode cX7_accesses 9 = .ok (.if_icmp .ge 17, 3) := by decide +kernel
theorem dX7_accesses_12 : decode cX7_accesses 12 = .ok (.iload_n 1, 1) := by decide +kernel
theorem dX7_accesses_13 : decode cX7_accesses 13 = .ok (.aload_n 0, 1) := by decide +kernel
theorem dX7_accesses_14 : decode cX7_accesses 14 = .ok (.iload_n 2, 1) := by decide +kernel
theorem dX7_accesses_15 : decode cX7_accesses 15 = .ok (.invokevirtual 52, 3) := by decide +kernel
theorem dX7_accesses_18 : decode cX7_accesses 18 = .ok (.iadd, 1) := by decide +kernel
theorem dX7_accesses_19 : decode cX7_accesses 19 = .ok (.istore_n 1, 1) := by decide +kernel
theorem dX7_accesses_20 : decode cX7_accesses 20 = .ok (.iinc 2 1, 3) := by decide +kernel
theorem dX7_accesses_23 : decode cX7_accesses 23 = .ok (.goto (-19), 3) := by decide +kernel
theorem dX7_accesses_26 : decode cX7_accesses 26 = .ok (.iload_n 1, 1) := by decide +kernel
theorem dX7_accesses_27 : decode cX7_accesses 27 = .ok (.ireturn, 1) := by decide +kernel
theorem dX7_isTarget_0 : decode cX7_isTarget 0 = .ok (.iconst 0, 1) := by decide +kernel
theorem dX7_isTarget_1 : decode cX7_isTarget 1 = .ok (.istore_n 3, 1) := by decide +kernel
theorem dX7_isTarget_2 : decode cX7_isTarget 2 = .ok (.iload_n 3, 1) := by decide +kernel
theorem dX7_isTarget_3 : decode cX7_isTarget 3 = .ok (.aload_n 0, 1) := by decide +kernel
theorem dX7_isTarget_4 : decode cX7_isTarget 4 = .ok (.getfield 32, 3) := by decide +kernel
theorem dX7_isTarget_7 : decode cX7_isTarget 7 = .ok (.if_icmp .ge 31, 3) := by decide +kernel
theorem dX7_isTarget_10 : decode cX7_isTarget 10 = .ok (.aload_n 0, 1) := by decide +kernel
theorem dX7_isTarget_11 : decode cX7_isTarget 11 = .ok (.iload_n 3, 1) := by decide +kernel
theorem dX7_isTarget_12 : decode cX7_isTarget 12 = .ok (.iconst 0, 1) := by decide +kernel
theorem dX7_isTarget_13 : decode cX7_isTarget 13 = .ok (.invokevirtual 48, 3) := by decide +kernel
theorem dX7_isTarget_16 : decode cX7_isTarget 16 = .ok (.iload_n 1, 1) := by decide +kernel
theorem dX7_isTarget_17 : decode cX7_isTarget 17 = .ok (.if_icmp .ne 15, 3) := by decide +kernel
theorem dX7_isTarget_20 : decode cX7_isTarget 20 = .ok (.aload_n 0, 1) := by decide +kernel
theorem dX7_isTarget_21 : decode cX7_isTarget 21 = .ok (.iload_n 3, 1) := by decide +kernel
theorem dX7_isTarget_22 : decode cX7_isTarget 22 = .ok (.iconst 3, 1) := by decide +kernel
theorem dX7_isTarget_23 : decode cX7_isTarget 23 = .ok (.invokevirtual 48, 3) := by decide +kernel
theorem dX7_isTarget_26 : decode cX7_isTarget 26 = .ok (.iload_n 2, 1) := by decide +kernel
theorem dX7_isTarget_27 : decode cX7_isTarget 27 = .ok (.if_icmp .ne 5, 3) := by decide +kernel
theorem dX7_isTarget_30 : decode cX7_isTarget 30 = .ok (.iconst 1, 1) := by decide +kernel
theorem dX7_isTarget_31 : decode cX7_isTarget 31 = .ok (.ireturn, 1) := by decide +kernel
theorem dX7_isTarget_32 : decode cX7_isTarget 32 = .ok (.iinc 3 1, 3) := by decide +kernel
theorem dX7_isTarget_35 : decode cX7_isTarget 35 = .ok (.goto (-33), 3) := by decide +kernel
theorem dX7_isTarget_38 : decode cX7_isTarget 38 = .ok (.iconst 0, 1) := by decide +kernel
theorem dX7_isTarget_39 : decode cX7_isTarget 39 = .ok (.ireturn, 1) := by decide +kernel
theorem dX7_codeBits_0 : decode cX7_codeBits 0 = .ok (.iconst 2, 1) := by decide +kernel
theorem dX7_codeBits_1 : decode cX7_codeBits 1 = .ok (.iconst 2, 1) := by decide +kernel
theorem dX7_codeBits_2 : decode cX7_codeBits 2 = .ok (.aload_n 0, 1) := by decide +kernel
theorem dX7_codeBits_3 : decode cX7_codeBits 3 = .ok (.getfield 29, 3) := by decide +kernel
theorem dX7_codeBits_6 : decode cX7_codeBits 6 = .ok (.imul, 1) := by decide +kernel
theorem dX7_codeBits_7 : decode cX7_codeBits 7 = .ok (.aload_n 0, 1) := by decide +kernel
theorem dX7_codeBits_8 : decode cX7_codeBits 8 = .ok (.getfield 25, 3) := by decide +kernel
theorem dX7_codeBits_11 : decode cX7_codeBits 11 = .ok (.iadd, 1) := by decide +kernel
theorem dX7_codeBits_12 : decode cX7_codeBits 12 = .ok (.imul, 1) := by decide +kernel
theorem dX7_codeBits_13 : decode cX7_codeBits 13 = .ok (.ireturn, 1) := by decide +kernel
theorem dX7_registerShift_0 : decode cX7_registerShift 0 = .ok (.aload_n 0, 1) := by decide +kernel
theorem dX7_registerShift_1 : decode cX7_registerShift 1 = .ok (.invokevirtual 56, 3) := by decide +kernel
theorem dX7_registerShift_4 : decode cX7_registerShift 4 = .ok (.iconst 2, 1) := by decide +kernel
theorem dX7_registerShift_5 : decode cX7_registerShift 5 = .ok (.iconst 2, 1) := by decide +kernel
theorem dX7_registerShift_6 : decode cX7_registerShift 6 = .ok (.iload_n 1, 1) := by decide +kernel
theorem dX7_registerShift_7 : decode cX7_registerShift 7 = .ok (.imul, 1) := by decide +kernel
theorem dX7_registerShift_8 : decode cX7_registerShift 8 = .ok (.iload_n 2, 1) := by decide +kernel
theorem dX7_registerShift_9 : decode cX7_registerShift 9 = .ok (.iadd, 1) := by decide +kernel
theorem dX7_registerShift_10 : decode cX7_registerShift 10 = .ok (.iconst 1, 1) := by decide +kernel
theorem dX7_registerShift_11 : decode cX7_registerShift 11 = .ok (.iadd, 1) := by decide +kernel
theorem dX7_registerShift_12 : decode cX7_registerShift 12 = .ok (.imul, 1) := by decide +kernel
theorem dX7_registerShift_13 : decode cX7_registerShift 13 = .ok (.isub, 1) := by decide +kernel
theorem dX7_registerShift_14 : decode cX7_registerShift 14 = .ok (.ireturn, 1) := by decide +kernel
theorem dX7_locationShift_0 : decode cX7_locationShift 0 = .ok (.iconst 2, 1) := by decide +kernel
theorem dX7_locationShift_1 : decode cX7_locationShift 1 = .ok (.aload_n 0, 1) := by decide +kernel
theorem dX7_locationShift_2 : decode cX7_locationShift 2 = .ok (.getfield 25, 3) := by decide +kernel
theorem dX7_locationShift_5 : decode cX7_locationShift 5 = .ok (.iconst 1, 1) := by decide +kernel
theorem dX7_locationShift_6 : decode cX7_locationShift 6 = .ok (.isub, 1) := by decide +kernel
theorem dX7_locationShift_7 : decode cX7_locationShift 7 = .ok (.iload_n 1, 1) := by decide +kernel
theorem dX7_locationShift_8 : decode cX7_locationShift 8 = .ok (.isub, 1) := by decide +kernel
theorem dX7_locationShift_9 : decode cX7_locationShift 9 = .ok (.imul, 1) := by decide +kernel
theorem dX7_locationShift_10 : decode cX7_locationShift 10 = .ok (.ireturn, 1) := by decide +kernel
theorem dX7_comparison_0 : decode cX7_comparison 0 = .ok (.iload_n 0, 1) := by decide +kernel
theorem dX7_comparison_1 : decode cX7_comparison 1 = .ok (.iconst 3, 1) := by decide +kernel
theorem dX7_comparison_2 : decode cX7_comparison 2 = .ok (.ishl, 1) := by decide +kernel
theorem dX7_comparison_3 : decode cX7_comparison 3 = .ok (.iload_n 1, 1) := by decide +kernel
theorem dX7_comparison_4 : decode cX7_comparison 4 = .ok (.ifCond .eq 7, 3) := by decide +kernel
theorem dX7_comparison_7 : decode cX7_comparison 7 = .ok (.iconst 4, 1) := by decide +kernel
theorem dX7_comparison_8 : decode cX7_comparison 8 = .ok (.goto 4, 3) := by decide +kernel
theorem dX7_comparison_11 : decode cX7_comparison 11 = .ok (.iconst 0, 1) := by decide +kernel
theorem dX7_comparison_12 : decode cX7_comparison 12 = .ok (.ior, 1) := by decide +kernel
theorem dX7_comparison_13 : decode cX7_comparison 13 = .ok (.iload_n 2, 1) := by decide +kernel
theorem dX7_comparison_14 : decode cX7_comparison 14 = .ok (.ior, 1) := by decide +kernel
theorem dX7_comparison_15 : decode cX7_comparison 15 = .ok (.ireturn, 1) := by decide +kernel
theorem dX7_addToCondition_0 : decode cX7_addToCondition 0 = .ok (.aload_n 0, 1) := by decide +kernel
theorem dX7_addToCondition_1 : decode cX7_addToCondition 1 = .ok (.getfield 35, 3) := by decide +kernel
theorem dX7_addToCondition_4 : decode cX7_addToCondition 4 = .ok (.bipush 32, 2) := by decide +kernel
theorem dX7_addToCondition_6 : decode cX7_addToCondition 6 = .ok (.if_icmp .ge 23, 3) := by decide +kernel
theorem dX7_addToCondition_9 : decode cX7_addToCondition 9 = .ok (.aload_n 0, 1) := by decide +kernel
theorem dX7_addToCondition_10 : decode cX7_addToCondition 10 = .ok (.getfield 22, 3) := by decide +kernel
theorem dX7_addToCondition_13 : decode cX7_addToCondition 13 = .ok (.aload_n 0, 1) := by decide +kernel
theorem dX7_addToCondition_14 : decode cX7_addToCondition 14 = .ok (.getfield 35, 3) := by decide +kernel
theorem dX7_addToCondition_17 : decode cX7_addToCondition 17 = .ok (.iload_n 1, 1) := by decide +kernel
theorem dX7_addToCondition_18 : decode cX7_addToCondition 18 = .ok (.iastore, 1) := by decide +kernel
theorem dX7_addToCondition_19 : decode cX7_addToCondition 19 = .ok (.aload_n 0, 1) := by decide +kernel
theorem dX7_addToCondition_20 : decode cX7_addToCondition 20 = .ok (.dup, 1) := by decide +kernel
theorem dX7_addToCondition_21 : decode cX7_addToCondition 21 = .ok (.getfield 35, 3) := by decide +kernel
theorem dX7_addToCondition_24 : decode cX7_addToCondition 24 = .ok (.iconst 1, 1) := by decide +kernel
theorem dX7_addToCondition_25 : decode cX7_addToCondition 25 = .ok (.iadd, 1) := by decide +kernel
theorem dX7_addToCondition_26 : decode cX7_addToCondition 26 = .ok (.putfield 35, 3) := by decide +kernel
theorem dX7_addToCondition_29 : decode cX7_addToCondition 29 = .ok (.return_, 1) := by decide +kernel
theorem dX7_isFulfilledBy_0 : decode cX7_isFulfilledBy 0 = .ok (.iconst 1, 1) := by decide +kernel
theorem dX7_isFulfilledBy_1 : decode cX7_isFulfilledBy 1 = .ok (.istore_n 2, 1) := by decide +kernel
theorem dX7_isFulfilledBy_2 : decode cX7_isFulfilledBy 2 = .ok (.iconst 0, 1) := by decide +kernel
theorem dX7_isFulfilledBy_3 : decode cX7_isFulfilledBy 3 = .ok (.istore_n 3, 1) := by decide +kernel
theorem dX7_isFulfilledBy_4 : decode cX7_isFulfilledBy 4 = .ok (.iload_n 3, 1) := by decide +kernel
theorem dX7_isFulfilledBy_5 : decode cX7_isFulfilledBy 5 = .ok (.aload_n 0, 1) := by decide +kernel
theorem dX7_isFulfilledBy_6 : decode cX7_isFulfilledBy 6 = .ok (.getfield 35, 3) := by decide +kernel
theorem dX7_isFulfilledBy_9 : decode cX7_isFulfilledBy 9 = .ok (.if_icmp .ge 140, 3) := by decide +kernel
theorem dX7_isFulfilledBy_12 : decode cX7_isFulfilledBy 12 = .ok (.iload_n 3, 1) := by decide +kernel
theorem dX7_isFulfilledBy_13 : decode cX7_isFulfilledBy 13 = .ok (.bipush 32, 2) := by decide +kernel
theorem dX7_isFulfilledBy_15 : decode cX7_isFulfilledBy 15 = .ok (.if_icmp .ge 134, 3) := by decide +kernel
theorem dX7_isFulfilledBy_18 : decode cX7_isFulfilledBy 18 = .ok (.aload_n 0, 1) := by decide +kernel
theorem dX7_isFulfilledBy_19 : decode cX7_isFulfilledBy 19 = .ok (.getfield 22, 3) := by decide +kernel
theorem dX7_isFulfilledBy_22 : decode cX7_isFulfilledBy 22 = .ok (.iload_n 3, 1) := by decide +kernel
theorem dX7_isFulfilledBy_23 : decode cX7_isFulfilledBy 23 = .ok (.iaload, 1) := by decide +kernel
theorem dX7_isFulfilledBy_24 : decode cX7_isFulfilledBy 24 = .ok (.istore 4, 2) := by decide +kernel
theorem dX7_isFulfilledBy_26 : decode cX7_isFulfilledBy 26 = .ok (.iload 4, 2) := by decide +kernel
theorem dX7_isFulfilledBy_28 : decode cX7_isFulfilledBy 28 = .ok (.iconst (-1), 1) := by decide +kernel
theorem dX7_isFulfilledBy_29 : decode cX7_isFulfilledBy 29 = .ok (.if_icmp .ne 10, 3) := by decide +kernel
theorem dX7_isFulfilledBy_32 : decode cX7_isFulfilledBy 32 = .ok (.iload_n 2, 1) := by decide +kernel
theorem dX7_isFulfilledBy_33 : decode cX7_isFulfilledBy 33 = .ok (.iconst 1, 1) := by decide +kernel
theorem dX7_isFulfilledBy_34 : decode cX7_isFulfilledBy 34 = .ok (.ixor, 1) := by decide +kernel
theorem dX7_isFulfilledBy_35 : decode cX7_isFulfilledBy 35 = .ok (.istore_n 2, 1) := by decide +kernel
theorem dX7_isFulfilledBy_36 : decode cX7_isFulfilledBy 36 = .ok (.goto 107, 3) := by decide +kernel
theorem dX7_isFulfilledBy_39 : decode cX7_isFulfilledBy 39 = .ok (.iload 4, 2) := by decide +kernel
theorem dX7_isFulfilledBy_41 : decode cX7_isFulfilledBy 41 = .ok (.bipush (-2), 2) := by decide +kernel
theorem dX7_isFulfilledBy_43 : decode cX7_isFulfilledBy 43 = .ok (.if_icmp .ne 15, 3) := by decide +kernel
theorem dX7_isFulfilledBy_46 : decode cX7_isFulfilledBy 46 = .ok (.iload_n 2, 1) := by decide +kernel
theorem dX7_isFulfilledBy_47 : decode cX7_isFulfilledBy 47 = .ok (.iconst 1, 1) := by decide +kernel
theorem dX7_isFulfilledBy_48 : decode cX7_isFulfilledBy 48 = .ok (.ishr, 1) := by decide +kernel
theorem dX7_isFulfilledBy_49 : decode cX7_isFulfilledBy 49 = .ok (.iload_n 2, 1) := by decide +kernel
theorem dX7_isFulfilledBy_50 : decode cX7_isFulfilledBy 50 = .ok (.bipush (-2), 2) := by decide +kernel
theorem dX7_isFulfilledBy_52 : decode cX7_isFulfilledBy 52 = .ok (.ior, 1) := by decide +kernel
theorem dX7_isFulfilledBy_53 : decode cX7_isFulfilledBy 53 = .ok (.iand, 1) := by decide +kernel
theorem dX7_isFulfilledBy_54 : decode cX7_isFulfilledBy 54 = .ok (.istore_n 2, 1) := by decide +kernel
theorem dX7_isFulfilledBy_55 : decode cX7_isFulfilledBy 55 = .ok (.goto 88, 3) := by decide +kernel
theorem dX7_isFulfilledBy_58 : decode cX7_isFulfilledBy 58 = .ok (.iload 4, 2) := by decide +kernel
theorem dX7_isFulfilledBy_60 : decode cX7_isFulfilledBy 60 = .ok (.bipush (-3), 2) := by decide +kernel
theorem dX7_isFulfilledBy_62 : decode cX7_isFulfilledBy 62 = .ok (.if_icmp .ne 14, 3) := by decide +kernel
theorem dX7_isFulfilledBy_65 : decode cX7_isFulfilledBy 65 = .ok (.iload_n 2, 1) := by decide +kernel
theorem dX7_isFulfilledBy_66 : decode cX7_isFulfilledBy 66 = .ok (.iconst 1, 1) := by decide +kernel
theorem dX7_isFulfilledBy_67 : decode cX7_isFulfilledBy 67 = .ok (.ishr, 1) := by decide +kernel
theorem dX7_isFulfilledBy_68 : decode cX7_isFulfilledBy 68 = .ok (.iload_n 2, 1) := by decide +kernel
theorem dX7_isFulfilledBy_69 : decode cX7_isFulfilledBy 69 = .ok (.iconst 1, 1) := by decide +kernel
theorem dX7_isFulfilledBy_70 : decode cX7_isFulfilledBy 70 = .ok (.iand, 1) := by decide +kernel
theorem dX7_isFulfilledBy_71 : decode cX7_isFulfilledBy 71 = .ok (.ior, 1) := by decide +kernel
theorem dX7_isFulfilledBy_72 : decode cX7_isFulfilledBy 72 = .ok (.istore_n 2, 1) := by decide +kernel
theorem dX7_isFulfilledBy_73 : decode cX7_isFulfilledBy 73 = .ok (.goto 70, 3) := by decide +kernel
theorem dX7_isFulfilledBy_76 : decode cX7_isFulfilledBy 76 = .ok (.iload_n 1, 1) := by decide +kernel
theorem dX7_isFulfilledBy_77 : decode cX7_isFulfilledBy 77 = .ok (.iload 4, 2) := by decide +kernel
theorem dX7_isFulfilledBy_79 : decode cX7_isFulfilledBy 79 = .ok (.iconst 3, 1) := by decide +kernel
theorem dX7_isFulfilledBy_80 : decode cX7_isFulfilledBy 80 = .ok (.ishr, 1) := by decide +kernel
theorem dX7_isFulfilledBy_81 : decode cX7_isFulfilledBy 81 = .ok (.ishr, 1) := by decide +kernel
theorem dX7_isFulfilledBy_82 : decode cX7_isFulfilledBy 82 = .ok (.iconst 3, 1) := by decide +kernel
theorem dX7_isFulfilledBy_83 : decode cX7_isFulfilledBy 83 = .ok (.iand, 1) := by decide +kernel
theorem dX7_isFulfilledBy_84 : decode cX7_isFulfilledBy 84 = .ok (.istore 5, 2) := by decide +kernel
theorem dX7_isFulfilledBy_86 : decode cX7_isFulfilledBy 86 = .ok (.iload 4, 2) := by decide +kernel
theorem dX7_isFulfilledBy_88 : decode cX7_isFulfilledBy 88 = .ok (.iconst 3, 1) := by decide +kernel
theorem dX7_isFulfilledBy_89 : decode cX7_isFulfilledBy 89 = .ok (.iand, 1) := by decide +kernel
theorem dX7_isFulfilledBy_90 : decode cX7_isFulfilledBy 90 = .ok (.istore 6, 2) := by decide +kernel
theorem dX7_isFulfilledBy_92 : decode cX7_isFulfilledBy 92 = .ok (.iload 4, 2) := by decide +kernel
theorem dX7_isFulfilledBy_94 : decode cX7_isFulfilledBy 94 = .ok (.iconst 4, 1) := by decide +kernel
theorem dX7_isFulfilledBy_95 : decode cX7_isFulfilledBy 95 = .ok (.iand, 1) := by decide +kernel
theorem dX7_isFulfilledBy_96 : decode cX7_isFulfilledBy 96 = .ok (.ifCond .eq 18, 3) := by decide +kernel
theorem dX7_isFulfilledBy_99 : decode cX7_isFulfilledBy 99 = .ok (.iload 5, 2) := by decide +kernel
theorem dX7_isFulfilledBy_101 : decode cX7_isFulfilledBy 101 = .ok (.iload 6, 2) := by decide +kernel
theorem dX7_isFulfilledBy_103 : decode cX7_isFulfilledBy 103 = .ok (.if_icmp .ge 7, 3) := by decide +kernel
theorem dX7_isFulfilledBy_106 : decode cX7_isFulfilledBy 106 = .ok (.iconst 1, 1) := by decide +kernel
theorem dX7_isFulfilledBy_107 : decode cX7_isFulfilledBy 107 = .ok (.goto 19, 3) := by decide +kernel
theorem dX7_isFulfilledBy_110 : decode cX7_isFulfilledBy 110 = .ok (.iconst 0, 1) := by decide +kernel
theorem dX7_isFulfilledBy_111 : decode cX7_isFulfilledBy 111 = .ok (.goto 15, 3) := by decide +kernel
theorem dX7_isFulfilledBy_114 : decode cX7_isFulfilledBy 114 = .ok (.iload 5, 2) := by decide +kernel
theorem dX7_isFulfilledBy_116 : decode cX7_isFulfilledBy 116 = .ok (.iload 6, 2) := by decide +kernel
theorem dX7_isFulfilledBy_118 : decode cX7_isFulfilledBy 118 = .ok (.if_icmp .ne 7, 3) := by decide +kernel
theorem dX7_isFulfilledBy_121 : decode cX7_isFulfilledBy 121 = .ok (.iconst 1, 1) := by decide +kernel
theorem dX7_isFulfilledBy_122 : decode cX7_isFulfilledBy 122 = .ok (.goto 4, 3) := by decide +kernel
theorem dX7_isFulfilledBy_125 : decode cX7_isFulfilledBy 125 = .ok (.iconst 0, 1) := by decide +kernel
theorem dX7_isFulfilledBy_126 : decode cX7_isFulfilledBy 126 = .ok (.istore 7, 2) := by decide +kernel
theorem dX7_isFulfilledBy_128 : decode cX7_isFulfilledBy 128 = .ok (.iload_n 2, 1) := by decide +kernel
theorem dX7_isFulfilledBy_129 : decode cX7_isFulfilledBy 129 = .ok (.iconst 1, 1) := by decide +kernel
theorem dX7_isFulfilledBy_130 : decode cX7_isFulfilledBy 130 = .ok (.ishl, 1) := by decide +kernel
theorem dX7_isFulfilledBy_131 : decode cX7_isFulfilledBy 131 = .ok (.iload 7, 2) := by decide +kernel
theorem dX7_isFulfilledBy_133 : decode cX7_isFulfilledBy 133 = .ok (.ifCond .eq 7, 3) := by decide +kernel
theorem dX7_isFulfilledBy_136 : decode cX7_isFulfilledBy 136 = .ok (.iconst 1, 1) := by decide +kernel
theorem dX7_isFulfilledBy_137 : decode cX7_isFulfilledBy 137 = .ok (.goto 4, 3) := by decide +kernel
theorem dX7_isFulfilledBy_140 : decode cX7_isFulfilledBy 140 = .ok (.iconst 0, 1) := by decide +kernel
theorem dX7_isFulfilledBy_141 : decode cX7_isFulfilledBy 141 = .ok (.ior, 1) := by decide +kernel
theorem dX7_isFulfilledBy_142 : decode cX7_isFulfilledBy 142 = .ok (.istore_n 2, 1) := by decide +kernel
theorem dX7_isFulfilledBy_143 : decode cX7_isFulfilledBy 143 = .ok (.iinc 3 1, 3) := by decide +kernel
theorem dX7_isFulfilledBy_146 : decode cX7_isFulfilledBy 146 = .ok (.goto (-142), 3) := by decide +kernel
theorem dX7_isFulfilledBy_149 : decode cX7_isFulfilledBy 149 = .ok (.iload_n 2, 1) := by decide +kernel
theorem dX7_isFulfilledBy_150 : decode cX7_isFulfilledBy 150 = .ok (.iconst 1, 1) := by decide +kernel
theorem dX7_isFulfilledBy_151 : decode cX7_isFulfilledBy 151 = .ok (.iand, 1) := by decide +kernel
theorem dX7_isFulfilledBy_152 : decode cX7_isFulfilledBy 152 = .ok (.ifCond .eq 7, 3) := by decide +kernel
theorem dX7_isFulfilledBy_155 : decode cX7_isFulfilledBy 155 = .ok (.iconst 1, 1) := by decide +kernel
theorem dX7_isFulfilledBy_156 : decode cX7_isFulfilledBy 156 = .ok (.goto 4, 3) := by decide +kernel
theorem dX7_isFulfilledBy_159 : decode cX7_isFulfilledBy 159 = .ok (.iconst 0, 1) := by decide +kernel
theorem dX7_isFulfilledBy_160 : decode cX7_isFulfilledBy 160 = .ok (.ireturn, 1) := by decide +kernel
theorem dX7_waits_0 : decode cX7_waits 0 = .ok (.iconst 0, 1) := by decide +kernel
theorem dX7_waits_1 : decode cX7_waits 1 = .ok (.istore_n 1, 1) := by decide +kernel
theorem dX7_waits_2 : decode cX7_waits 2 = .ok (.iconst 0, 1) := by decide +kernel
theorem dX7_waits_3 : decode cX7_waits 3 = .ok (.istore_n 2, 1) := by decide +kernel
theorem dX7_waits_4 : decode cX7_waits 4 = .ok (.iload_n 2, 1) := by decide +kernel
theorem dX7_waits_5 : decode cX7_waits 5 = .ok (.aload_n 0, 1) := by decide +kernel
theorem dX7_waits_6 : decode cX7_waits 6 = .ok (.getfield 32, 3) := by decide +kernel
theorem dX7_waits_9 : decode cX7_waits 9 = .ok (.if_icmp .ge 32, 3) := by decide +kernel
theorem dX7_waits_12 : decode cX7_waits 12 = .ok (.aload_n 0, 1) := by decide +kernel
theorem dX7_waits_13 : decode cX7_waits 13 = .ok (.iload_n 2, 1) := by decide +kernel
theorem dX7_waits_14 : decode cX7_waits 14 = .ok (.iconst 1, 1) := by decide +kernel
theorem dX7_waits_15 : decode cX7_waits 15 = .ok (.invokevirtual 48, 3) := by decide +kernel
theorem dX7_waits_18 : decode cX7_waits 18 = .ok (.istore_n 3, 1) := by decide +kernel
theorem dX7_waits_19 : decode cX7_waits 19 = .ok (.iload_n 3, 1) := by decide +kernel
theorem dX7_waits_20 : decode cX7_waits 20 = .ok (.iconst 3, 1) := by decide +kernel
theorem dX7_waits_21 : decode cX7_waits 21 = .ok (.if_icmp .eq 8, 3) := by decide +kernel
theorem dX7_waits_24 : decode cX7_waits 24 = .ok (.iload_n 3, 1) := by decide +kernel
theorem dX7_waits_25 : decode cX7_waits 25 = .ok (.iconst 2, 1) := by decide +kernel
theorem dX7_waits_26 : decode cX7_waits 26 = .ok (.if_icmp .ne 9, 3) := by decide +kernel
theorem dX7_waits_29 : decode cX7_waits 29 = .ok (.iload_n 1, 1) := by decide +kernel
theorem dX7_waits_30 : decode cX7_waits 30 = .ok (.iconst 1, 1) := by decide +kernel
theorem dX7_waits_31 : decode cX7_waits 31 = .ok (.iload_n 2, 1) := by decide +kernel
theorem dX7_waits_32 : decode cX7_waits 32 = .ok (.ishl, 1) := by decide +kernel
theorem dX7_waits_33 : decode cX7_waits 33 = .ok (.ior, 1) := by decide +kernel
theorem dX7_waits_34 : decode cX7_waits 34 = .ok (.istore_n 1, 1) := by decide +kernel
theorem dX7_waits_35 : decode cX7_waits 35 = .ok (.iinc 2 1, 3) := by decide +kernel
theorem dX7_waits_38 : decode cX7_waits 38 = .ok (.goto (-34), 3) := by decide +kernel
theorem dX7_waits_41 : decode cX7_waits 41 = .ok (.iload_n 1, 1) := by decide +kernel
theorem dX7_waits_42 : decode cX7_waits 42 = .ok (.ireturn, 1) := by decide +kernel
theorem dX7_waitsWith_0 : decode cX7_waitsWith 0 = .ok (.aload_n 0, 1) := by decide +kernel
theorem dX7_waitsWith_1 : decode cX7_waitsWith 1 = .ok (.invokevirtual 60, 3) := by decide +kernel
theorem dX7_waitsWith_4 : decode cX7_waitsWith 4 = .ok (.istore_n 2, 1) := by decide +kernel
theorem dX7_waitsWith_5 : decode cX7_waitsWith 5 = .ok (.iconst 0, 1) := by decide +kernel
theorem dX7_waitsWith_6 : decode cX7_waitsWith 6 = .ok (.istore_n 3, 1) := by decide +kernel
theorem dX7_waitsWith_7 : decode cX7_waitsWith 7 = .ok (.iload_n 3, 1) := by decide +kernel
theorem dX7_waitsWith_8 : decode cX7_waitsWith 8 = .ok (.bipush 6, 2) := by decide +kernel
theorem dX7_waitsWith_10 : decode cX7_waitsWith 10 = .ok (.if_icmp .ge 37, 3) := by decide +kernel
theorem dX7_waitsWith_13 : decode cX7_waitsWith 13 = .ok (.aload_n 0, 1) := by decide +kernel
theorem dX7_waitsWith_14 : decode cX7_waitsWith 14 = .ok (.iload_n 3, 1) := by decide +kernel
theorem dX7_waitsWith_15 : decode cX7_waitsWith 15 = .ok (.invokevirtual 63, 3) := by decide +kernel
theorem dX7_waitsWith_18 : decode cX7_waitsWith 18 = .ok (.istore 4, 2) := by decide +kernel
theorem dX7_waitsWith_20 : decode cX7_waitsWith 20 = .ok (.iload_n 1, 1) := by decide +kernel
theorem dX7_waitsWith_21 : decode cX7_waitsWith 21 = .ok (.iload_n 3, 1) := by decide +kernel
theorem dX7_waitsWith_22 : decode cX7_waitsWith 22 = .ok (.ishr, 1) := by decide +kernel
theorem dX7_waitsWith_23 : decode cX7_waitsWith 23 = .ok (.iconst 1, 1) := by decide +kernel
theorem dX7_waitsWith_24 : decode cX7_waitsWith 24 = .ok (.iand, 1) := by decide +kernel
theorem dX7_waitsWith_25 : decode cX7_waitsWith 25 = .ok (.ifCond .eq 16, 3) := by decide +kernel
theorem dX7_waitsWith_28 : decode cX7_waitsWith 28 = .ok (.iload 4, 2) := by decide +kernel
theorem dX7_waitsWith_30 : decode cX7_waitsWith 30 = .ok (.iconst (-1), 1) := by decide +kernel
theorem dX7_waitsWith_31 : decode cX7_waitsWith 31 = .ok (.if_icmp .eq 10, 3) := by decide +kernel
theorem dX7_waitsWith_34 : decode cX7_waitsWith 34 = .ok (.iload_n 2, 1) := by decide +kernel
theorem dX7_waitsWith_35 : decode cX7_waitsWith 35 = .ok (.iconst 1, 1) := by decide +kernel
theorem dX7_waitsWith_36 : decode cX7_waitsWith 36 = .ok (.iload 4, 2) := by decide +kernel
theorem dX7_waitsWith_38 : decode cX7_waitsWith 38 = .ok (.ishl, 1) := by decide +kernel
theorem dX7_waitsWith_39 : decode cX7_waitsWith 39 = .ok (.ior, 1) := by decide +kernel
theorem dX7_waitsWith_40 : decode cX7_waitsWith 40 = .ok (.istore_n 2, 1) := by decide +kernel
theorem dX7_waitsWith_41 : decode cX7_waitsWith 41 = .ok (.iinc 3 1, 3) := by decide +kernel
theorem dX7_waitsWith_44 : decode cX7_waitsWith 44 = .ok (.goto (-37), 3) := by decide +kernel
theorem dX7_waitsWith_47 : decode cX7_waitsWith 47 = .ok (.iload_n 2, 1) := by decide +kernel
theorem dX7_waitsWith_48 : decode cX7_waitsWith 48 = .ok (.ireturn, 1) := by decide +kernel
theorem dX7_isGapBefore_0 : decode cX7_isGapBefore 0 = .ok (.iload_n 1, 1) := by decide +kernel
theorem dX7_isGapBefore_1 : decode cX7_isGapBefore 1 = .ok (.ifCond .le 46, 3) := by decide +kernel
theorem dX7_isGapBefore_4 : decode cX7_isGapBefore 4 = .ok (.aload_n 0, 1) := by decide +kernel
theorem dX7_isGapBefore_5 : decode cX7_isGapBefore 5 = .ok (.iload_n 1, 1) := by decide +kernel
theorem dX7_isGapBefore_6 : decode cX7_isGapBefore 6 = .ok (.iconst 1, 1) := by decide +kernel
theorem dX7_isGapBefore_7 : decode cX7_isGapBefore 7 = .ok (.isub, 1) := by decide +kernel
theorem dX7_isGapBefore_8 : decode cX7_isGapBefore 8 = .ok (.iconst 0, 1) := by decide +kernel
theorem dX7_isGapBefore_9 : decode cX7_isGapBefore 9 = .ok (.invokevirtual 48, 3) := by decide +kernel
theorem dX7_isGapBefore_12 : decode cX7_isGapBefore 12 = .ok (.aload_n 0, 1) := by decide +kernel
theorem dX7_isGapBefore_13 : decode cX7_isGapBefore 13 = .ok (.iload_n 1, 1) := by decide +kernel
theorem dX7_isGapBefore_14 : decode cX7_isGapBefore 14 = .ok (.iconst 0, 1) := by decide +kernel
theorem dX7_isGapBefore_15 : decode cX7_isGapBefore 15 = .ok (.invokevirtual 48, 3) := by decide +kernel
theorem dX7_isGapBefore_18 : decode cX7_isGapBefore 18 = .ok (.if_icmp .ne 29, 3) := by decide +kernel
theorem dX7_isGapBefore_21 : decode cX7_isGapBefore 21 = .ok (.aload_n 0, 1) := by decide +kernel
theorem dX7_isGapBefore_22 : decode cX7_isGapBefore 22 = .ok (.iload_n 1, 1) := by decide +kernel
theorem dX7_isGapBefore_23 : decode cX7_isGapBefore 23 = .ok (.iconst 1, 1) := by decide +kernel
theorem dX7_isGapBefore_24 : decode cX7_isGapBefore 24 = .ok (.isub, 1) := by decide +kernel
theorem dX7_isGapBefore_25 : decode cX7_isGapBefore 25 = .ok (.iconst 1, 1) := by decide +kernel
theorem dX7_isGapBefore_26 : decode cX7_isGapBefore 26 = .ok (.invokevirtual 48, 3) := by decide +kernel
theorem dX7_isGapBefore_29 : decode cX7_isGapBefore 29 = .ok (.iconst 3, 1) := by decide +kernel
theorem dX7_isGapBefore_30 : decode cX7_isGapBefore 30 = .ok (.if_icmp .eq 17, 3) := by decide +kernel
theorem dX7_isGapBefore_33 : decode cX7_isGapBefore 33 = .ok (.aload_n 0, 1) := by decide +kernel
theorem dX7_isGapBefore_34 : decode cX7_isGapBefore 34 = .ok (.iload_n 1, 1) := by decide +kernel
theorem dX7_isGapBefore_35 : decode cX7_isGapBefore 35 = .ok (.iconst 1, 1) := by decide +kernel
theorem dX7_isGapBefore_36 : decode cX7_isGapBefore 36 = .ok (.invokevirtual 48, 3) := by decide +kernel
theorem dX7_isGapBefore_39 : decode cX7_isGapBefore 39 = .ok (.iconst 3, 1) := by decide +kernel
theorem dX7_isGapBefore_40 : decode cX7_isGapBefore 40 = .ok (.if_icmp .eq 7, 3) := by decide +kernel
theorem dX7_isGapBefore_43 : decode cX7_isGapBefore 43 = .ok (.iconst 1, 1) := by decide +kernel
theorem dX7_isGapBefore_44 : decode cX7_isGapBefore 44 = .ok (.goto 4, 3) := by decide +kernel
theorem dX7_isGapBefore_47 : decode cX7_isGapBefore 47 = .ok (.iconst 0, 1) := by decide +kernel
theorem dX7_isGapBefore_48 : decode cX7_isGapBefore 48 = .ok (.ireturn, 1) := by decide +kernel
theorem dX7_gaps_0 : decode cX7_gaps 0 = .ok (.iconst 0, 1) := by decide +kernel
theorem dX7_gaps_1 : decode cX7_gaps 1 = .ok (.istore_n 1, 1) := by decide +kernel
theorem dX7_gaps_2 : decode cX7_gaps 2 = .ok (.iconst 0, 1) := by decide +kernel
theorem dX7_gaps_3 : decode cX7_gaps 3 = .ok (.istore_n 2, 1) := by decide +kernel
theorem dX7_gaps_4 : decode cX7_gaps 4 = .ok (.iload_n 2, 1) := by decide +kernel
theorem dX7_gaps_5 : decode cX7_gaps 5 = .ok (.aload_n 0, 1) := by decide +kernel
theorem dX7_gaps_6 : decode cX7_gaps 6 = .ok (.getfield 32, 3) := by decide +kernel
theorem dX7_gaps_9 : decode cX7_gaps 9 = .ok (.if_icmp .ge 20, 3) := by decide +kernel
theorem dX7_gaps_12 : decode cX7_gaps 12 = .ok (.aload_n 0, 1) := by decide +kernel
theorem dX7_gaps_13 : decode cX7_gaps 13 = .ok (.iload_n 2, 1) := by decide +kernel
theorem dX7_gaps_14 : decode cX7_gaps 14 = .ok (.invokevirtual 66, 3) := by decide +kernel
theorem dX7_gaps_17 : decode cX7_gaps 17 = .ok (.ifCond .eq 6, 3) := by decide +kernel
theorem dX7_gaps_20 : decode cX7_gaps 20 = .ok (.iinc 1 1, 3) := by decide +kernel
theorem dX7_gaps_23 : decode cX7_gaps 23 = .ok (.iinc 2 1, 3) := by decide +kernel
theorem dX7_gaps_26 : decode cX7_gaps 26 = .ok (.goto (-22), 3) := by decide +kernel
theorem dX7_gaps_29 : decode cX7_gaps 29 = .ok (.iload_n 1, 1) := by decide +kernel
theorem dX7_gaps_30 : decode cX7_gaps 30 = .ok (.ireturn, 1) := by decide +kernel
theorem dX7_placeOfGap_0 : decode cX7_placeOfGap 0 = .ok (.iconst 0, 1) := by decide +kernel
theorem dX7_placeOfGap_1 : decode cX7_placeOfGap 1 = .ok (.istore_n 2, 1) := by decide +kernel
theorem dX7_placeOfGap_2 : decode cX7_placeOfGap 2 = .ok (.iconst 0, 1) := by decide +kernel
theorem dX7_placeOfGap_3 : decode cX7_placeOfGap 3 = .ok (.istore_n 3, 1) := by decide +kernel
theorem dX7_placeOfGap_4 : decode cX7_placeOfGap 4 = .ok (.iload_n 3, 1) := by decide +kernel
theorem dX7_placeOfGap_5 : decode cX7_placeOfGap 5 = .ok (.aload_n 0, 1) := by decide +kernel
theorem dX7_placeOfGap_6 : decode cX7_placeOfGap 6 = .ok (.getfield 32, 3) := by decide +kernel
theorem dX7_placeOfGap_9 : decode cX7_placeOfGap 9 = .ok (.if_icmp .ge 27, 3) := by decide +kernel
theorem dX7_placeOfGap_12 : decode cX7_placeOfGap 12 = .ok (.aload_n 0, 1) := by decide +kernel
theorem dX7_placeOfGap_13 : decode cX7_placeOfGap 13 = .ok (.iload_n 3, 1) := by decide +kernel
theorem dX7_placeOfGap_14 : decode cX7_placeOfGap 14 = .ok (.invokevirtual 66, 3) := by decide +kernel
theorem dX7_placeOfGap_17 : decode cX7_placeOfGap 17 = .ok (.ifCond .eq 13, 3) := by decide +kernel
theorem dX7_placeOfGap_20 : decode cX7_placeOfGap 20 = .ok (.iload_n 2, 1) := by decide +kernel
theorem dX7_placeOfGap_21 : decode cX7_placeOfGap 21 = .ok (.iload_n 1, 1) := by decide +kernel
theorem dX7_placeOfGap_22 : decode cX7_placeOfGap 22 = .ok (.if_icmp .ne 5, 3) := by decide +kernel
theorem dX7_placeOfGap_25 : decode cX7_placeOfGap 25 = .ok (.iload_n 3, 1) := by decide +kernel
theorem dX7_placeOfGap_26 : decode cX7_placeOfGap 26 = .ok (.ireturn, 1) := by decide +kernel
theorem dX7_placeOfGap_27 : decode cX7_placeOfGap 27 = .ok (.iinc 2 1, 3) := by decide +kernel
theorem dX7_placeOfGap_30 : decode cX7_placeOfGap 30 = .ok (.iinc 3 1, 3) := by decide +kernel
theorem dX7_placeOfGap_33 : decode cX7_placeOfGap 33 = .ok (.goto (-29), 3) := by decide +kernel
theorem dX7_placeOfGap_36 : decode cX7_placeOfGap 36 = .ok (.iconst (-1), 1) := by decide +kernel
theorem dX7_placeOfGap_37 : decode cX7_placeOfGap 37 = .ok (.ireturn, 1) := by decide +kernel
theorem dX7_mostStoresBuffered_0 : decode cX7_mostStoresBuffered 0 = .ok (.iconst 0, 1) := by decide +kernel
theorem dX7_mostStoresBuffered_1 : decode cX7_mostStoresBuffered 1 = .ok (.istore_n 2, 1) := by decide +kernel
theorem dX7_mostStoresBuffered_2 : decode cX7_mostStoresBuffered 2 = .ok (.iconst 0, 1) := by decide +kernel
theorem dX7_mostStoresBuffered_3 : decode cX7_mostStoresBuffered 3 = .ok (.istore_n 3, 1) := by decide +kernel
theorem dX7_mostStoresBuffered_4 : decode cX7_mostStoresBuffered 4 = .ok (.iconst 0, 1) := by decide +kernel
theorem dX7_mostStoresBuffered_5 : decode cX7_mostStoresBuffered 5 = .ok (.istore 4, 2) := by decide +kernel
theorem dX7_mostStoresBuffered_7 : decode cX7_mostStoresBuffered 7 = .ok (.iload 4, 2) := by decide +kernel
theorem dX7_mostStoresBuffered_9 : decode cX7_mostStoresBuffered 9 = .ok (.aload_n 0, 1) := by decide +kernel
theorem dX7_mostStoresBuffered_10 : decode cX7_mostStoresBuffered 10 = .ok (.getfield 32, 3) := by decide +kernel
theorem dX7_mostStoresBuffered_13 : decode cX7_mostStoresBuffered 13 = .ok (.if_icmp .ge 64, 3) := by decide +kernel
theorem dX7_mostStoresBuffered_16 : decode cX7_mostStoresBuffered 16 = .ok (.aload_n 0, 1) := by decide +kernel
theorem dX7_mostStoresBuffered_17 : decode cX7_mostStoresBuffered 17 = .ok (.iload 4, 2) := by decide +kernel
theorem dX7_mostStoresBuffered_19 : decode cX7_mostStoresBuffered 19 = .ok (.iconst 0, 1) := by decide +kernel
theorem dX7_mostStoresBuffered_20 : decode cX7_mostStoresBuffered 20 = .ok (.invokevirtual 48, 3) := by decide +kernel
theorem dX7_mostStoresBuffered_23 : decode cX7_mostStoresBuffered 23 = .ok (.iload_n 1, 1) := by decide +kernel
theorem dX7_mostStoresBuffered_24 : decode cX7_mostStoresBuffered 24 = .ok (.if_icmp .ne 47, 3) := by decide +kernel
theorem dX7_mostStoresBuffered_27 : decode cX7_mostStoresBuffered 27 = .ok (.aload_n 0, 1) := by decide +kernel
theorem dX7_mostStoresBuffered_28 : decode cX7_mostStoresBuffered 28 = .ok (.iload 4, 2) := by decide +kernel
theorem dX7_mostStoresBuffered_30 : decode cX7_mostStoresBuffered 30 = .ok (.iconst 1, 1) := by decide +kernel
theorem dX7_mostStoresBuffered_31 : decode cX7_mostStoresBuffered 31 = .ok (.invokevirtual 48, 3) := by decide +kernel
theorem dX7_mostStoresBuffered_34 : decode cX7_mostStoresBuffered 34 = .ok (.istore 5, 2) := by decide +kernel
theorem dX7_mostStoresBuffered_36 : decode cX7_mostStoresBuffered 36 = .ok (.iload 5, 2) := by decide +kernel
theorem dX7_mostStoresBuffered_38 : decode cX7_mostStoresBuffered 38 = .ok (.iconst 3, 1) := by decide +kernel
theorem dX7_mostStoresBuffered_39 : decode cX7_mostStoresBuffered 39 = .ok (.if_icmp .eq 9, 3) := by decide +kernel
theorem dX7_mostStoresBuffered_42 : decode cX7_mostStoresBuffered 42 = .ok (.iload 5, 2) := by decide +kernel
theorem dX7_mostStoresBuffered_44 : decode cX7_mostStoresBuffered 44 = .ok (.iconst 2, 1) := by decide +kernel
theorem dX7_mostStoresBuffered_45 : decode cX7_mostStoresBuffered 45 = .ok (.if_icmp .ne 7, 3) := by decide +kernel
theorem dX7_mostStoresBuffered_48 : decode cX7_mostStoresBuffered 48 = .ok (.iconst 0, 1) := by decide +kernel
theorem dX7_mostStoresBuffered_49 : decode cX7_mostStoresBuffered 49 = .ok (.goto 15, 3) := by decide +kernel
theorem dX7_mostStoresBuffered_52 : decode cX7_mostStoresBuffered 52 = .ok (.iload 5, 2) := by decide +kernel
theorem dX7_mostStoresBuffered_54 : decode cX7_mostStoresBuffered 54 = .ok (.ifCond .ne 9, 3) := by decide +kernel
theorem dX7_mostStoresBuffered_57 : decode cX7_mostStoresBuffered 57 = .ok (.iload_n 3, 1) := by decide +kernel
theorem dX7_mostStoresBuffered_58 : decode cX7_mostStoresBuffered 58 = .ok (.iconst 1, 1) := by decide +kernel
theorem dX7_mostStoresBuffered_59 : decode cX7_mostStoresBuffered 59 = .ok (.iadd, 1) := by decide +kernel
theorem dX7_mostStoresBuffered_60 : decode cX7_mostStoresBuffered 60 = .ok (.goto 4, 3) := by decide +kernel
theorem dX7_mostStoresBuffered_63 : decode cX7_mostStoresBuffered 63 = .ok (.iload_n 3, 1) := by decide +kernel
theorem dX7_mostStoresBuffered_64 : decode cX7_mostStoresBuffered 64 = .ok (.istore_n 3, 1) := by decide +kernel
theorem dX7_mostStoresBuffered_65 : decode cX7_mostStoresBuffered 65 = .ok (.iload_n 2, 1) := by decide +kernel
theorem dX7_mostStoresBuffered_66 : decode cX7_mostStoresBuffered 66 = .ok (.iload_n 3, 1) := by decide +kernel
theorem dX7_mostStoresBuffered_67 : decode cX7_mostStoresBuffered 67 = .ok (.invokestatic 70, 3) := by decide +kernel
theorem dX7_mostStoresBuffered_70 : decode cX7_mostStoresBuffered 70 = .ok (.istore_n 2, 1) := by decide +kernel
theorem dX7_mostStoresBuffered_71 : decode cX7_mostStoresBuffered 71 = .ok (.iinc 4 1, 3) := by decide +kernel
theorem dX7_mostStoresBuffered_74 : decode cX7_mostStoresBuffered 74 = .ok (.goto (-67), 3) := by decide +kernel
theorem dX7_mostStoresBuffered_77 : decode cX7_mostStoresBuffered 77 = .ok (.iload_n 2, 1) := by decide +kernel
theorem dX7_mostStoresBuffered_78 : decode cX7_mostStoresBuffered 78 = .ok (.ireturn, 1) := by decide +kernel
theorem dX7_isRacing_0 : decode cX7_isRacing 0 = .ok (.aload_n 0, 1) := by decide +kernel
theorem dX7_isRacing_1 : decode cX7_isRacing 1 = .ok (.iload_n 1, 1) := by decide +kernel
theorem dX7_isRacing_2 : decode cX7_isRacing 2 = .ok (.iconst 1, 1) := by decide +kernel
theorem dX7_isRacing_3 : decode cX7_isRacing 3 = .ok (.invokevirtual 48, 3) := by decide +kernel
theorem dX7_isRacing_6 : decode cX7_isRacing 6 = .ok (.istore_n 3, 1) := by decide +kernel
theorem dX7_isRacing_7 : decode cX7_isRacing 7 = .ok (.aload_n 0, 1) := by decide +kernel
theorem dX7_isRacing_8 : decode cX7_isRacing 8 = .ok (.iload_n 2, 1) := by decide +kernel
theorem dX7_isRacing_9 : decode cX7_isRacing 9 = .ok (.iconst 1, 1) := by decide +kernel
theorem dX7_isRacing_10 : decode cX7_isRacing 10 = .ok (.invokevirtual 48, 3) := by decide +kernel
theorem dX7_isRacing_13 : decode cX7_isRacing 13 = .ok (.istore 4, 2) := by decide +kernel
theorem dX7_isRacing_15 : decode cX7_isRacing 15 = .ok (.aload_n 0, 1) := by decide +kernel
theorem dX7_isRacing_16 : decode cX7_isRacing 16 = .ok (.iload_n 1, 1) := by decide +kernel
theorem dX7_isRacing_17 : decode cX7_isRacing 17 = .ok (.iconst 2, 1) := by decide +kernel
theorem dX7_isRacing_18 : decode cX7_isRacing 18 = .ok (.invokevirtual 48, 3) := by decide +kernel
theorem dX7_isRacing_21 : decode cX7_isRacing 21 = .ok (.aload_n 0, 1) := by decide +kernel
theorem dX7_isRacing_22 : decode cX7_isRacing 22 = .ok (.iload_n 2, 1) := by decide +kernel
theorem dX7_isRacing_23 : decode cX7_isRacing 23 = .ok (.iconst 2, 1) := by decide +kernel
theorem dX7_isRacing_24 : decode cX7_isRacing 24 = .ok (.invokevirtual 48, 3) := by decide +kernel
theorem dX7_isRacing_27 : decode cX7_isRacing 27 = .ok (.if_icmp .ne 7, 3) := by decide +kernel
theorem dX7_isRacing_30 : decode cX7_isRacing 30 = .ok (.iconst 1, 1) := by decide +kernel
theorem dX7_isRacing_31 : decode cX7_isRacing 31 = .ok (.goto 4, 3) := by decide +kernel
theorem dX7_isRacing_34 : decode cX7_isRacing 34 = .ok (.iconst 0, 1) := by decide +kernel
theorem dX7_isRacing_35 : decode cX7_isRacing 35 = .ok (.istore 5, 2) := by decide +kernel
theorem dX7_isRacing_37 : decode cX7_isRacing 37 = .ok (.iload_n 3, 1) := by decide +kernel
theorem dX7_isRacing_38 : decode cX7_isRacing 38 = .ok (.iconst 3, 1) := by decide +kernel
theorem dX7_isRacing_39 : decode cX7_isRacing 39 = .ok (.if_icmp .eq 14, 3) := by decide +kernel
theorem dX7_isRacing_42 : decode cX7_isRacing 42 = .ok (.iload 4, 2) := by decide +kernel
theorem dX7_isRacing_44 : decode cX7_isRacing 44 = .ok (.iconst 3, 1) := by decide +kernel
theorem dX7_isRacing_45 : decode cX7_isRacing 45 = .ok (.if_icmp .eq 8, 3) := by decide +kernel
theorem dX7_isRacing_48 : decode cX7_isRacing 48 = .ok (.iload 5, 2) := by decide +kernel
theorem dX7_isRacing_50 : decode cX7_isRacing 50 = .ok (.ifCond .ne 5, 3) := by decide +kernel
theorem dX7_isRacing_53 : decode cX7_isRacing 53 = .ok (.iconst 0, 1) := by decide +kernel
theorem dX7_isRacing_54 : decode cX7_isRacing 54 = .ok (.ireturn, 1) := by decide +kernel
theorem dX7_isRacing_55 : decode cX7_isRacing 55 = .ok (.iload_n 3, 1) := by decide +kernel
theorem dX7_isRacing_56 : decode cX7_isRacing 56 = .ok (.iconst 1, 1) := by decide +kernel
theorem dX7_isRacing_57 : decode cX7_isRacing 57 = .ok (.if_icmp .ne 9, 3) := by decide +kernel
theorem dX7_isRacing_60 : decode cX7_isRacing 60 = .ok (.iload 4, 2) := by decide +kernel
theorem dX7_isRacing_62 : decode cX7_isRacing 62 = .ok (.iconst 1, 1) := by decide +kernel
theorem dX7_isRacing_63 : decode cX7_isRacing 63 = .ok (.if_icmp .eq 7, 3) := by decide +kernel
theorem dX7_isRacing_66 : decode cX7_isRacing 66 = .ok (.iconst 1, 1) := by decide +kernel
theorem dX7_isRacing_67 : decode cX7_isRacing 67 = .ok (.goto 4, 3) := by decide +kernel
theorem dX7_isRacing_70 : decode cX7_isRacing 70 = .ok (.iconst 0, 1) := by decide +kernel
theorem dX7_isRacing_71 : decode cX7_isRacing 71 = .ok (.istore 6, 2) := by decide +kernel
theorem dX7_isRacing_73 : decode cX7_isRacing 73 = .ok (.iload_n 3, 1) := by decide +kernel
theorem dX7_isRacing_74 : decode cX7_isRacing 74 = .ok (.iconst 2, 1) := by decide +kernel
theorem dX7_isRacing_75 : decode cX7_isRacing 75 = .ok (.if_icmp .ne 13, 3) := by decide +kernel
theorem dX7_isRacing_78 : decode cX7_isRacing 78 = .ok (.iload 4, 2) := by decide +kernel
theorem dX7_isRacing_80 : decode cX7_isRacing 80 = .ok (.iconst 2, 1) := by decide +kernel
theorem dX7_isRacing_81 : decode cX7_isRacing 81 = .ok (.if_icmp .ne 7, 3) := by decide +kernel
theorem dX7_isRacing_84 : decode cX7_isRacing 84 = .ok (.iconst 1, 1) := by decide +kernel
theorem dX7_isRacing_85 : decode cX7_isRacing 85 = .ok (.goto 4, 3) := by decide +kernel
theorem dX7_isRacing_88 : decode cX7_isRacing 88 = .ok (.iconst 0, 1) := by decide +kernel
theorem dX7_isRacing_89 : decode cX7_isRacing 89 = .ok (.istore 7, 2) := by decide +kernel
theorem dX7_isRacing_91 : decode cX7_isRacing 91 = .ok (.iload 6, 2) := by decide +kernel
theorem dX7_isRacing_93 : decode cX7_isRacing 93 = .ok (.ifCond .eq 27, 3) := by decide +kernel
theorem dX7_isRacing_96 : decode cX7_isRacing 96 = .ok (.iload 7, 2) := by decide +kernel
theorem dX7_isRacing_98 : decode cX7_isRacing 98 = .ok (.ifCond .ne 22, 3) := by decide +kernel
theorem dX7_isRacing_101 : decode cX7_isRacing 101 = .ok (.aload_n 0, 1) := by decide +kernel
theorem dX7_isRacing_102 : decode cX7_isRacing 102 = .ok (.iload_n 1, 1) := by decide +kernel
theorem dX7_isRacing_103 : decode cX7_isRacing 103 = .ok (.iconst 0, 1) := by decide +kernel
theorem dX7_isRacing_104 : decode cX7_isRacing 104 = .ok (.invokevirtual 48, 3) := by decide +kernel
theorem dX7_isRacing_107 : decode cX7_isRacing 107 = .ok (.aload_n 0, 1) := by decide +kernel
theorem dX7_isRacing_108 : decode cX7_isRacing 108 = .ok (.iload_n 2, 1) := by decide +kernel
theorem dX7_isRacing_109 : decode cX7_isRacing 109 = .ok (.iconst 0, 1) := by decide +kernel
theorem dX7_isRacing_110 : decode cX7_isRacing 110 = .ok (.invokevirtual 48, 3) := by decide +kernel
theorem dX7_isRacing_113 : decode cX7_isRacing 113 = .ok (.if_icmp .eq 7, 3) := by decide +kernel
theorem dX7_isRacing_116 : decode cX7_isRacing 116 = .ok (.iconst 1, 1) := by decide +kernel
theorem dX7_isRacing_117 : decode cX7_isRacing 117 = .ok (.goto 4, 3) := by decide +kernel
theorem dX7_isRacing_120 : decode cX7_isRacing 120 = .ok (.iconst 0, 1) := by decide +kernel
theorem dX7_isRacing_121 : decode cX7_isRacing 121 = .ok (.ireturn, 1) := by decide +kernel
theorem dX9_init_0 : decode cX9_init 0 = .ok (.aload_n 0, 1) := by decide +kernel
theorem dX9_init_1 : decode cX9_init 1 = .ok (.invokespecial 3, 3) := by decide +kernel
theorem dX9_init_4 : decode cX9_init 4 = .ok (.aload_n 0, 1) := by decide +kernel
theorem dX9_init_5 : decode cX9_init 5 = .ok (.sipush 256, 3) := by decide +kernel
theorem dX9_init_8 : decode cX9_init 8 = .ok (.newarray .long, 2) := by decide +kernel
theorem dX9_init_10 : decode cX9_init 10 = .ok (.putfield 11, 3) := by decide +kernel
theorem dX9_init_13 : decode cX9_init 13 = .ok (.aload_n 0, 1) := by decide +kernel
theorem dX9_init_14 : decode cX9_init 14 = .ok (.sipush 256, 3) := by decide +kernel
theorem dX9_init_17 : decode cX9_init 17 = .ok (.newarray .long, 2) := by decide +kernel
theorem dX9_init_19 : decode cX9_init 19 = .ok (.putfield 15, 3) := by decide +kernel
theorem dX9_init_22 : decode cX9_init 22 = .ok (.aload_n 0, 1) := by decide +kernel
theorem dX9_init_23 : decode cX9_init 23 = .ok (.sipush 512, 3) := by decide +kernel
theorem dX9_init_26 : decode cX9_init 26 = .ok (.newarray .int, 2) := by decide +kernel
theorem dX9_init_28 : decode cX9_init 28 = .ok (.putfield 18, 3) := by decide +kernel
theorem dX9_init_31 : decode cX9_init 31 = .ok (.aload_n 0, 1) := by decide +kernel
theorem dX9_init_32 : decode cX9_init 32 = .ok (.sipush 512, 3) := by decide +kernel
theorem dX9_init_35 : decode cX9_init 35 = .ok (.putfield 22, 3) := by decide +kernel
theorem dX9_init_38 : decode cX9_init 38 = .ok (.aload_n 0, 1) := by decide +kernel
theorem dX9_init_39 : decode cX9_init 39 = .ok (.iconst 0, 1) := by decide +kernel
theorem dX9_init_40 : decode cX9_init 40 = .ok (.putfield 26, 3) := by decide +kernel
theorem dX9_init_43 : decode cX9_init 43 = .ok (.return_, 1) := by decide +kernel
theorem dX9_clear_0 : decode cX9_clear 0 = .ok (.aload_n 0, 1) := by decide +kernel
theorem dX9_clear_1 : decode cX9_clear 1 = .ok (.iconst 0, 1) := by decide +kernel
theorem dX9_clear_2 : decode cX9_clear 2 = .ok (.putfield 26, 3) := by decide +kernel
theorem dX9_clear_5 : decode cX9_clear 5 = .ok (.aload_n 0, 1) := by decide +kernel
theorem dX9_clear_6 : decode cX9_clear 6 = .ok (.sipush 512, 3) := by decide +kernel
theorem dX9_clear_9 : decode cX9_clear 9 = .ok (.invokevirtual 29, 3) := by decide +kernel
theorem dX9_clear_12 : decode cX9_clear 12 = .ok (.return_, 1) := by decide +kernel
theorem dX9_useSlots_0 : decode cX9_useSlots 0 = .ok (.aload_n 0, 1) := by decide +kernel
theorem dX9_useSlots_1 : decode cX9_useSlots 1 = .ok (.iload_n 1, 1) := by decide +kernel
theorem dX9_useSlots_2 : decode cX9_useSlots 2 = .ok (.putfield 22, 3) := by decide +kernel
theorem dX9_useSlots_5 : decode cX9_useSlots 5 = .ok (.aload_n 0, 1) := by decide +kernel
theorem dX9_useSlots_6 : decode cX9_useSlots 6 = .ok (.getfield 18, 3) := by decide +kernel
theorem dX9_useSlots_9 : decode cX9_useSlots 9 = .ok (.arraylength, 1) := by decide +kernel
theorem dX9_useSlots_10 : decode cX9_useSlots 10 = .ok (.aload_n 0, 1) := by decide +kernel
theorem dX9_useSlots_11 : decode cX9_useSlots 11 = .ok (.getfield 22, 3) := by decide +kernel
theorem dX9_useSlots_14 : decode cX9_useSlots 14 = .ok (.if_icmp .ge 13, 3) := by decide +kernel
theorem dX9_useSlots_17 : decode cX9_useSlots 17 = .ok (.aload_n 0, 1) := by decide +kernel
theorem dX9_useSlots_18 : decode cX9_useSlots 18 = .ok (.aload_n 0, 1) := by decide +kernel
theorem dX9_useSlots_19 : decode cX9_useSlots 19 = .ok (.getfield 22, 3) := by decide +kernel
theorem dX9_useSlots_22 : decode cX9_useSlots 22 = .ok (.newarray .int, 2) := by decide +kernel
theorem dX9_useSlots_24 : decode cX9_useSlots 24 = .ok (.putfield 18, 3) := by decide +kernel
theorem dX9_useSlots_27 : decode cX9_useSlots 27 = .ok (.iconst 0, 1) := by decide +kernel
theorem dX9_useSlots_28 : decode cX9_useSlots 28 = .ok (.istore_n 2, 1) := by decide +kernel
theorem dX9_useSlots_29 : decode cX9_useSlots 29 = .ok (.iload_n 2, 1) := by decide +kernel
theorem dX9_useSlots_30 : decode cX9_useSlots 30 = .ok (.aload_n 0, 1) := by decide +kernel
theorem dX9_useSlots_31 : decode cX9_useSlots 31 = .ok (.getfield 22, 3) := by decide +kernel
theorem dX9_useSlots_34 : decode cX9_useSlots 34 = .ok (.if_icmp .ge 25, 3) := by decide +kernel
theorem dX9_useSlots_37 : decode cX9_useSlots 37 = .ok (.iload_n 2, 1) := by decide +kernel
theorem dX9_useSlots_38 : decode cX9_useSlots 38 = .ok (.aload_n 0, 1) := by decide +kernel
theorem dX9_useSlots_39 : decode cX9_useSlots 39 = .ok (.getfield 18, 3) := by decide +kernel
theorem dX9_useSlots_42 : decode cX9_useSlots 42 = .ok (.arraylength, 1) := by decide +kernel
theorem dX9_useSlots_43 : decode cX9_useSlots 43 = .ok (.if_icmp .ge 16, 3) := by decide +kernel
theorem dX9_useSlots_46 : decode cX9_useSlots 46 = .ok (.aload_n 0, 1) := by decide +kernel
theorem dX9_useSlots_47 : decode cX9_useSlots 47 = .ok (.getfield 18, 3) := by decide +kernel
theorem dX9_useSlots_50 : decode cX9_useSlots 50 = .ok (.iload_n 2, 1) := by decide +kernel
theorem dX9_useSlots_51 : decode cX9_useSlots 51 = .ok (.iconst 0, 1) := by decide +kernel
theorem dX9_useSlots_52 : decode cX9_useSlots 52 = .ok (.iastore, 1) := by decide +kernel
theorem dX9_useSlots_53 : decode cX9_useSlots 53 = .ok (.iinc 2 1, 3) := by decide +kernel
theorem dX9_useSlots_56 : decode cX9_useSlots 56 = .ok (.goto (-27), 3) := by decide +kernel
theorem dX9_useSlots_59 : decode cX9_useSlots 59 = .ok (.return_, 1) := by decide +kernel
theorem dX9_size_0 : decode cX9_size 0 = .ok (.aload_n 0, 1) := by decide +kernel
theorem dX9_size_1 : decode cX9_size 1 = .ok (.getfield 26, 3) := by decide +kernel
theorem dX9_size_4 : decode cX9_size 4 = .ok (.ireturn, 1) := by decide +kernel
theorem dX9_stateAt_0 : decode cX9_stateAt 0 = .ok (.iload_n 1, 1) := by decide +kernel
theorem dX9_stateAt_1 : decode cX9_stateAt 1 = .ok (.ifCond .lt 29, 3) := by decide +kernel
theorem dX9_stateAt_4 : decode cX9_stateAt 4 = .ok (.iload_n 1, 1) := by decide +kernel
theorem dX9_stateAt_5 : decode cX9_stateAt 5 = .ok (.aload_n 0, 1) := by decide +kernel
theorem dX9_stateAt_6 : decode cX9_stateAt 6 = .ok (.getfield 26, 3) := by decide +kernel
theorem dX9_stateAt_9 : decode cX9_stateAt 9 = .ok (.if_icmp .ge 21, 3) := by decide +kernel
theorem dX9_stateAt_12 : decode cX9_stateAt 12 = .ok (.iload_n 1, 1) := by decide +kernel
theorem dX9_stateAt_13 : decode cX9_stateAt 13 = .ok (.aload_n 0, 1) := by decide +kernel
theorem dX9_stateAt_14 : decode cX9_stateAt 14 = .ok (.getfield 11, 3) := by decide +kernel
theorem dX9_stateAt_17 : decode cX9_stateAt 17 = .ok (.arraylength, 1) := by decide +kernel
theorem dX9_stateAt_18 : decode cX9_stateAt 18 = .ok (.if_icmp .ge 12, 3) := by decide +kernel
theorem dX9_stateAt_21 : decode cX9_stateAt 21 = .ok (.aload_n 0, 1) := by decide +kernel
theorem dX9_stateAt_22 : decode cX9_stateAt 22 = .ok (.getfield 11, 3) := by decide +kernel
theorem dX9_stateAt_25 : decode cX9_stateAt 25 = .ok (.iload_n 1, 1) := by decide +kernel
theorem dX9_stateAt_26 : decode cX9_stateAt 26 = .ok (.laload, 1) := by decide +kernel
theorem dX9_stateAt_27 : decode cX9_stateAt 27 = .ok (.goto 6, 3) := by decide +kernel
theorem dX9_stateAt_30 : decode cX9_stateAt 30 = .ok (.ldc2_w 33, 3) := by decide +kernel
theorem dX9_stateAt_33 : decode cX9_stateAt 33 = .ok (.lreturn, 1) := by decide +kernel
theorem dX9_waysAt_0 : decode cX9_waysAt 0 = .ok (.iload_n 1, 1) := by decide +kernel
theorem dX9_waysAt_1 : decode cX9_waysAt 1 = .ok (.ifCond .lt 29, 3) := by decide +kernel
theorem dX9_waysAt_4 : decode cX9_waysAt 4 = .ok (.iload_n 1, 1) := by decide +kernel
theorem dX9_waysAt_5 : decode cX9_waysAt 5 = .ok (.aload_n 0, 1) := by decide +kernel
theorem dX9_waysAt_6 : decode cX9_waysAt 6 = .ok (.getfield 26, 3) := by decide +kernel
theorem dX9_waysAt_9 : decode cX9_waysAt 9 = .ok (.if_icmp .ge 21, 3) := by decide +kernel
theorem dX9_waysAt_12 : decode cX9_waysAt 12 = .ok (.iload_n 1, 1) := by decide +kernel
theorem dX9_waysAt_13 : decode cX9_waysAt 13 = .ok (.aload_n 0, 1) := by decide +kernel
theorem dX9_waysAt_14 : decode cX9_waysAt 14 = .ok (.getfield 15, 3) := by decide +kernel
theorem dX9_waysAt_17 : decode cX9_waysAt 17 = .ok (.arraylength, 1) := by decide +kernel
theorem dX9_waysAt_18 : decode cX9_waysAt 18 = .ok (.if_icmp .ge 12, 3) := by decide +kernel
theorem dX9_waysAt_21 : decode cX9_waysAt 21 = .ok (.aload_n 0, 1) := by decide +kernel
theorem dX9_waysAt_22 : decode cX9_waysAt 22 = .ok (.getfield 15, 3) := by decide +kernel
theorem dX9_waysAt_25 : decode cX9_waysAt 25 = .ok (.iload_n 1, 1) := by decide +kernel
theorem dX9_waysAt_26 : decode cX9_waysAt 26 = .ok (.laload, 1) := by decide +kernel
theorem dX9_waysAt_27 : decode cX9_waysAt 27 = .ok (.goto 4, 3) := by decide +kernel
theorem dX9_waysAt_30 : decode cX9_waysAt 30 = .ok (.lconst 0, 1) := by decide +kernel
theorem dX9_waysAt_31 : decode cX9_waysAt 31 = .ok (.lreturn, 1) := by decide +kernel
theorem dX9_slotOf_0 : decode cX9_slotOf 0 = .ok (.lload_n 1, 1) := by decide +kernel
theorem dX9_slotOf_1 : decode cX9_slotOf 1 = .ok (.ldc2_w 35, 3) := by decide +kernel
theorem dX9_slotOf_4 : decode cX9_slotOf 4 = .ok (.lmul, 1) := by decide +kernel
theorem dX9_slotOf_5 : decode cX9_slotOf 5 = .ok (.lstore_n 3, 1) := by decide +kernel
theorem dX9_slotOf_6 : decode cX9_slotOf 6 = .ok (.lload_n 3, 1) := by decide +kernel
theorem dX9_slotOf_7 : decode cX9_slotOf 7 = .ok (.bipush 36, 2) := by decide +kernel
theorem dX9_slotOf_9 : decode cX9_slotOf 9 = .ok (.lushr, 1) := by decide +kernel
theorem dX9_slotOf_10 : decode cX9_slotOf 10 = .ok (.l2i, 1) := by decide +kernel
theorem dX9_slotOf_11 : decode cX9_slotOf 11 = .ok (.aload_n 0, 1) := by decide +kernel
theorem dX9_slotOf_12 : decode cX9_slotOf 12 = .ok (.getfield 22, 3) := by decide +kernel
theorem dX9_slotOf_15 : decode cX9_slotOf 15 = .ok (.iconst 1, 1) := by decide +kernel
theorem dX9_slotOf_16 : decode cX9_slotOf 16 = .ok (.isub, 1) := by decide +kernel
theorem dX9_slotOf_17 : decode cX9_slotOf 17 = .ok (.iand, 1) := by decide +kernel
theorem dX9_slotOf_18 : decode cX9_slotOf 18 = .ok (.istore 5, 2) := by decide +kernel
theorem dX9_slotOf_20 : decode cX9_slotOf 20 = .ok (.iconst 0, 1) := by decide +kernel
theorem dX9_slotOf_21 : decode cX9_slotOf 21 = .ok (.istore 6, 2) := by decide +kernel
theorem dX9_slotOf_23 : decode cX9_slotOf 23 = .ok (.iload 6, 2) := by decide +kernel
theorem dX9_slotOf_25 : decode cX9_slotOf 25 = .ok (.aload_n 0, 1) := by decide +kernel
theorem dX9_slotOf_26 : decode cX9_slotOf 26 = .ok (.getfield 22, 3) := by decide +kernel
theorem dX9_slotOf_29 : decode cX9_slotOf 29 = .ok (.if_icmp .ge 63, 3) := by decide +kernel
theorem dX9_slotOf_32 : decode cX9_slotOf 32 = .ok (.iload 5, 2) := by decide +kernel
theorem dX9_slotOf_34 : decode cX9_slotOf 34 = .ok (.aload_n 0, 1) := by decide +kernel
theorem dX9_slotOf_35 : decode cX9_slotOf 35 = .ok (.getfield 18, 3) := by decide +kernel
theorem dX9_slotOf_38 : decode cX9_slotOf 38 = .ok (.arraylength, 1) := by decide +kernel
theorem dX9_slotOf_39 : decode cX9_slotOf 39 = .ok (.if_icmp .ge 53, 3) := by decide +kernel
theorem dX9_slotOf_42 : decode cX9_slotOf 42 = .ok (.aload_n 0, 1) := by decide +kernel
theorem dX9_slotOf_43 : decode cX9_slotOf 43 = .ok (.getfield 18, 3) := by decide +kernel
theorem dX9_slotOf_46 : decode cX9_slotOf 46 = .ok (.iload 5, 2) := by decide +kernel
theorem dX9_slotOf_48 : decode cX9_slotOf 48 = .ok (.iaload, 1) := by decide +kernel
theorem dX9_slotOf_49 : decode cX9_slotOf 49 = .ok (.ifCond .eq 43, 3) := by decide +kernel
theorem dX9_slotOf_52 : decode cX9_slotOf 52 = .ok (.aload_n 0, 1) := by decide +kernel
theorem dX9_slotOf_53 : decode cX9_slotOf 53 = .ok (.aload_n 0, 1) := by decide +kernel
theorem dX9_slotOf_54 : decode cX9_slotOf 54 = .ok (.getfield 18, 3) := by decide +kernel
theorem dX9_slotOf_57 : decode cX9_slotOf 57 = .ok (.iload 5, 2) := by decide +kernel
theorem dX9_slotOf_59 : decode cX9_slotOf 59 = .ok (.iaload, 1) := by decide +kernel
theorem dX9_slotOf_60 : decode cX9_slotOf 60 = .ok (.iconst 1, 1) := by decide +kernel
theorem dX9_slotOf_61 : decode cX9_slotOf 61 = .ok (.isub, 1) := by decide +kernel
theorem dX9_slotOf_62 : decode cX9_slotOf 62 = .ok (.invokevirtual 37, 3) := by decide +kernel
theorem dX9_slotOf_65 : decode cX9_slotOf 65 = .ok (.lload_n 1, 1) := by decide +kernel
theorem dX9_slotOf_66 : decode cX9_slotOf 66 = .ok (.lcmp, 1) := by decide +kernel
theorem dX9_slotOf_67 : decode cX9_slotOf 67 = .ok (.ifCond .ne 6, 3) := by decide +kernel
theorem dX9_slotOf_70 : decode cX9_slotOf 70 = .ok (.iload 5, 2) := by decide +kernel
theorem dX9_slotOf_72 : decode cX9_slotOf 72 = .ok (.ireturn, 1) := by decide +kernel
theorem dX9_slotOf_73 : decode cX9_slotOf 73 = .ok (.iload 5, 2) := by decide +kernel
theorem dX9_slotOf_75 : decode cX9_slotOf 75 = .ok (.iconst 1, 1) := by decide +kernel
theorem dX9_slotOf_76 : decode cX9_slotOf 76 = .ok (.iadd, 1) := by decide +kernel
theorem dX9_slotOf_77 : decode cX9_slotOf 77 = .ok (.aload_n 0, 1) := by decide +kernel
theorem dX9_slotOf_78 : decode cX9_slotOf 78 = .ok (.getfield 22, 3) := by decide +kernel
theorem dX9_slotOf_81 : decode cX9_slotOf 81 = .ok (.iconst 1, 1) := by decide +kernel
theorem dX9_slotOf_82 : decode cX9_slotOf 82 = .ok (.isub, 1) := by decide +kernel
theorem dX9_slotOf_83 : decode cX9_slotOf 83 = .ok (.iand, 1) := by decide +kernel
theorem dX9_slotOf_84 : decode cX9_slotOf 84 = .ok (.istore 5, 2) := by decide +kernel
theorem dX9_slotOf_86 : decode cX9_slotOf 86 = .ok (.iinc 6 1, 3) := by decide +kernel
theorem dX9_slotOf_89 : decode cX9_slotOf 89 = .ok (.goto (-66), 3) := by decide +kernel
theorem dX9_slotOf_92 : decode cX9_slotOf 92 = .ok (.iload 5, 2) := by decide +kernel
theorem dX9_slotOf_94 : decode cX9_slotOf 94 = .ok (.ireturn, 1) := by decide +kernel
theorem dX9_contains_0 : decode cX9_contains 0 = .ok (.aload_n 0, 1) := by decide +kernel
theorem dX9_contains_1 : decode cX9_contains 1 = .ok (.lload_n 1, 1) := by decide +kernel
theorem dX9_contains_2 : decode cX9_contains 2 = .ok (.invokevirtual 41, 3) := by decide +kernel
theorem dX9_contains_5 : decode cX9_contains 5 = .ok (.istore_n 3, 1) := by decide +kernel
theorem dX9_contains_6 : decode cX9_contains 6 = .ok (.iload_n 3, 1) := by decide +kernel
theorem dX9_contains_7 : decode cX9_contains 7 = .ok (.ifCond .lt 25, 3) := by decide +kernel
theorem dX9_contains_10 : decode cX9_contains 10 = .ok (.iload_n 3, 1) := by decide +kernel
theorem dX9_contains_11 : decode cX9_contains 11 = .ok (.aload_n 0, 1) := by decide +kernel
theorem dX9_contains_12 : decode cX9_contains 12 = .ok (.getfield 18, 3) := by decide +kernel
theorem dX9_contains_15 : decode cX9_contains 15 = .ok (.arraylength, 1) := by decide +kernel
theorem dX9_contains_16 : decode cX9_contains 16 = .ok (.if_icmp .ge 16, 3) := by decide +kernel
theorem dX9_contains_19 : decode cX9_contains 19 = .ok (.aload_n 0, 1) := by decide +kernel
theorem dX9_contains_20 : decode cX9_contains 20 = .ok (.getfield 18, 3) := by decide +kernel
theorem dX9_contains_23 : decode cX9_contains 23 = .ok (.iload_n 3, 1) := by decide +kernel
theorem dX9_contains_24 : decode cX9_contains 24 = .ok (.iaload, 1) := by decide +kernel
theorem dX9_contains_25 : decode cX9_contains 25 = .ok (.ifCond .eq 7, 3) := by decide +kernel
theorem dX9_contains_28 : decode cX9_contains 28 = .ok (.iconst 1, 1) := by decide +kernel
theorem dX9_contains_29 : decode cX9_contains 29 = .ok (.goto 4, 3) := by decide +kernel
theorem dX9_contains_32 : decode cX9_contains 32 = .ok (.iconst 0, 1) := by decide +kernel
theorem dX9_contains_33 : decode cX9_contains 33 = .ok (.ireturn, 1) := by decide +kernel
theorem dX9_add_0 : decode cX9_add 0 = .ok (.aload_n 0, 1) := by decide +kernel
theorem dX9_add_1 : decode cX9_add 1 = .ok (.invokevirtual 45, 3) := by decide +kernel
theorem dX9_add_4 : decode cX9_add 4 = .ok (.aload_n 0, 1) := by decide +kernel
theorem dX9_add_5 : decode cX9_add 5 = .ok (.lload_n 1, 1) := by decide +kernel
theorem dX9_add_6 : decode cX9_add 6 = .ok (.invokevirtual 41, 3) := by decide +kernel
theorem dX9_add_9 : decode cX9_add 9 = .ok (.istore 5, 2) := by decide +kernel
theorem dX9_add_11 : decode cX9_add 11 = .ok (.iload 5, 2) := by decide +kernel
theorem dX9_add_13 : decode cX9_add 13 = .ok (.ifCond .lt 13, 3) := by decide +kernel
theorem dX9_add_16 : decode cX9_add 16 = .ok (.iload 5, 2) := by decide +kernel
theorem dX9_add_18 : decode cX9_add 18 = .ok (.aload_n 0, 1) := by decide +kernel
theorem dX9_add_19 : decode cX9_add 19 = .ok (.getfield 18, 3) := by decide +kernel
theorem dX9_add_22 : decode cX9_add 22 = .ok (.arraylength, 1) := by decide +kernel
theorem dX9_add_23 : decode cX9_add 23 = .ok (.if_icmp .lt 4, 3) := by decide +kernel
theorem dX9_add_26 : decode cX9_add 26 = .ok (.return_, 1) := by decide +kernel
theorem dX9_add_27 : decode cX9_add 27 = .ok (.aload_n 0, 1) := by decide +kernel
theorem dX9_add_28 : decode cX9_add 28 = .ok (.getfield 18, 3) := by decide +kernel
theorem dX9_add_31 : decode cX9_add 31 = .ok (.iload 5, 2) := by decide +kernel
theorem dX9_add_33 : decode cX9_add 33 = .ok (.iaload, 1) := by decide +kernel
theorem dX9_add_34 : decode cX9_add 34 = .ok (.iconst 1, 1) := by decide +kernel
theorem dX9_add_35 : decode cX9_add 35 = .ok (.isub, 1) := by decide +kernel
theorem dX9_add_36 : decode cX9_add 36 = .ok (.istore 6, 2) := by decide +kernel
theorem dX9_add_38 : decode cX9_add 38 = .ok (.iload 6, 2) := by decide +kernel
theorem dX9_add_40 : decode cX9_add 40 = .ok (.ifCond .lt 36, 3) := by decide +kernel
theorem dX9_add_43 : decode cX9_add 43 = .ok (.iload 6, 2) := by decide +kernel
theorem dX9_add_45 : decode cX9_add 45 = .ok (.aload_n 0, 1) := by decide +kernel
theorem dX9_add_46 : decode cX9_add 46 = .ok (.getfield 26, 3) := by decide +kernel
theorem dX9_add_49 : decode cX9_add 49 = .ok (.if_icmp .ge 27, 3) := by decide +kernel
theorem dX9_add_52 : decode cX9_add 52 = .ok (.iload 6, 2) := by decide +kernel
theorem dX9_add_54 : decode cX9_add 54 = .ok (.aload_n 0, 1) := by decide +kernel
theorem dX9_add_55 : decode cX9_add 55 = .ok (.getfield 15, 3) := by decide +kernel
theorem dX9_add_58 : decode cX9_add 58 = .ok (.arraylength, 1) := by decide +kernel
theorem dX9_add_59 : decode cX9_add 59 = .ok (.if_icmp .ge 17, 3) := by decide +kernel
theorem dX9_add_62 : decode cX9_add 62 = .ok (.aload_n 0, 1) := by decide +kernel
theorem dX9_add_63 : decode cX9_add 63 = .ok (.getfield 15, 3) := by decide +kernel
theorem dX9_add_66 : decode cX9_add 66 = .ok (.iload 6, 2) := by decide +kernel
theorem dX9_add_68 : decode cX9_add 68 = .ok (.dup2, 1) := by decide +kernel
theorem dX9_add_69 : decode cX9_add 69 = .ok (.laload, 1) := by decide +kernel
theorem dX9_add_70 : decode cX9_add 70 = .ok (.lload_n 3, 1) := by decide +kernel
theorem dX9_add_71 : decode cX9_add 71 = .ok (.ladd, 1) := by decide +kernel
theorem dX9_add_72 : decode cX9_add 72 = .ok (.lastore, 1) := by decide +kernel
theorem dX9_add_73 : decode cX9_add 73 = .ok (.goto 77, 3) := by decide +kernel
theorem dX9_add_76 : decode cX9_add 76 = .ok (.aload_n 0, 1) := by decide +kernel
theorem dX9_add_77 : decode cX9_add 77 = .ok (.getfield 26, 3) := by decide +kernel
theorem dX9_add_80 : decode cX9_add 80 = .ok (.ldc 48, 2) := by decide +kernel
theorem dX9_add_82 : decode cX9_add 82 = .ok (.if_icmp .ge 68, 3) := by decide +kernel
theorem dX9_add_85 : decode cX9_add 85 = .ok (.aload_n 0, 1) := by decide +kernel
theorem dX9_add_86 : decode cX9_add 86 = .ok (.getfield 26, 3) := by decide +kernel
theorem dX9_add_89 : decode cX9_add 89 = .ok (.aload_n 0, 1) := by decide +kernel
theorem dX9_add_90 : decode cX9_add 90 = .ok (.getfield 11, 3) := by decide +kernel
theorem dX9_add_93 : decode cX9_add 93 = .ok (.arraylength, 1) := by decide +kernel
theorem dX9_add_94 : decode cX9_add 94 = .ok (.if_icmp .ge 56, 3) := by decide +kernel
theorem dX9_add_97 : decode cX9_add 97 = .ok (.aload_n 0, 1) := by decide +kernel
theorem dX9_add_98 : decode cX9_add 98 = .ok (.getfield 26, 3) := by decide +kernel
theorem dX9_add_101 : decode cX9_add 101 = .ok (.aload_n 0, 1) := by decide +kernel
theorem dX9_add_102 : decode cX9_add 102 = .ok (.getfield 15, 3) := by decide +kernel
theorem dX9_add_105 : decode cX9_add 105 = .ok (.arraylength, 1) := by decide +kernel
theorem dX9_add_106 : decode cX9_add 106 = .ok (.if_icmp .ge 44, 3) := by decide +kernel
theorem dX9_add_109 : decode cX9_add 109 = .ok (.aload_n 0, 1) := by decide +kernel
theorem dX9_add_110 : decode cX9_add 110 = .ok (.getfield 11, 3) := by decide +kernel
theorem dX9_add_113 : decode cX9_add 113 = .ok (.aload_n 0, 1) := by decide +kernel
theorem dX9_add_114 : decode cX9_add 114 = .ok (.getfield 26, 3) := by decide +kernel
theorem dX9_add_117 : decode cX9_add 117 = .ok (.lload_n 1, 1) := by decide +kernel
theorem dX9_add_118 : decode cX9_add 118 = .ok (.lastore, 1) := by decide +kernel
theorem dX9_add_119 : decode cX9_add 119 = .ok (.aload_n 0, 1) := by decide +kernel
theorem dX9_add_120 : decode cX9_add 120 = .ok (.getfield 15, 3) := by decide +kernel
theorem dX9_add_123 : decode cX9_add 123 = .ok (.aload_n 0, 1) := by decide +kernel
theorem dX9_add_124 : decode cX9_add 124 = .ok (.getfield 26, 3) := by decide +kernel
theorem dX9_add_127 : decode cX9_add 127 = .ok (.lload_n 3, 1) := by decide +kernel
theorem dX9_add_128 : decode cX9_add 128 = .ok (.lastore, 1) := by decide +kernel
theorem dX9_add_129 : decode cX9_add 129 = .ok (.aload_n 0, 1) := by decide +kernel
theorem dX9_add_130 : decode cX9_add 130 = .ok (.dup, 1) := by decide +kernel
theorem dX9_add_131 : decode cX9_add 131 = .ok (.getfield 26, 3) := by decide +kernel
theorem dX9_add_134 : decode cX9_add 134 = .ok (.iconst 1, 1) := by decide +kernel
theorem dX9_add_135 : decode cX9_add 135 = .ok (.iadd, 1) := by decide +kernel
theorem dX9_add_136 : decode cX9_add 136 = .ok (.putfield 26, 3) := by decide +kernel
theorem dX9_add_139 : decode cX9_add 139 = .ok (.aload_n 0, 1) := by decide +kernel
theorem dX9_add_140 : decode cX9_add 140 = .ok (.getfield 18, 3) := by decide +kernel
theorem dX9_add_143 : decode cX9_add 143 = .ok (.iload 5, 2) := by decide +kernel
theorem dX9_add_145 : decode cX9_add 145 = .ok (.aload_n 0, 1) := by decide +kernel
theorem dX9_add_146 : decode cX9_add 146 = .ok (.getfield 26, 3) := by decide +kernel
theorem dX9_add_149 : decode cX9_add 149 = .ok (.iastore, 1) := by decide +kernel
theorem dX9_add_150 : decode cX9_add 150 = .ok (.return_, 1) := by decide +kernel
theorem dX9_makeRoom_0 : decode cX9_makeRoom 0 = .ok (.aload_n 0, 1) := by decide +kernel
theorem dX9_makeRoom_1 : decode cX9_makeRoom 1 = .ok (.getfield 26, 3) := by decide +kernel
theorem dX9_makeRoom_4 : decode cX9_makeRoom 4 = .ok (.ldc 48, 2) := by decide +kernel
theorem dX9_makeRoom_6 : decode cX9_makeRoom 6 = .ok (.if_icmp .ge 16, 3) := by decide +kernel
theorem dX9_makeRoom_9 : decode cX9_makeRoom 9 = .ok (.aload_n 0, 1) := by decide +kernel
theorem dX9_makeRoom_10 : decode cX9_makeRoom 10 = .ok (.getfield 26, 3) := by decide +kernel
theorem dX9_makeRoom_13 : decode cX9_makeRoom 13 = .ok (.aload_n 0, 1) := by decide +kernel
theorem dX9_makeRoom_14 : decode cX9_makeRoom 14 = .ok (.getfield 22, 3) := by decide +kernel
theorem dX9_makeRoom_17 : decode cX9_makeRoom 17 = .ok (.iconst 2, 1) := by decide +kernel
theorem dX9_makeRoom_18 : decode cX9_makeRoom 18 = .ok (.idiv, 1) := by decide +kernel
theorem dX9_makeRoom_19 : decode cX9_makeRoom 19 = .ok (.if_icmp .ge 4, 3) := by decide +kernel
theorem dX9_makeRoom_22 : decode cX9_makeRoom 22 = .ok (.return_, 1) := by decide +kernel
theorem dX9_makeRoom_23 : decode cX9_makeRoom 23 = .ok (.aload_n 0, 1) := by decide +kernel
theorem dX9_makeRoom_24 : decode cX9_makeRoom 24 = .ok (.getfield 26, 3) := by decide +kernel
theorem dX9_makeRoom_27 : decode cX9_makeRoom 27 = .ok (.aload_n 0, 1) := by decide +kernel
theorem dX9_makeRoom_28 : decode cX9_makeRoom 28 = .ok (.getfield 11, 3) := by decide +kernel
theorem dX9_makeRoom_31 : decode cX9_makeRoom 31 = .ok (.arraylength, 1) := by decide +kernel
theorem dX9_makeRoom_32 : decode cX9_makeRoom 32 = .ok (.if_icmp .lt 37, 3) := by decide +kernel
theorem dX9_makeRoom_35 : decode cX9_makeRoom 35 = .ok (.aload_n 0, 1) := by decide +kernel
theorem dX9_makeRoom_36 : decode cX9_makeRoom 36 = .ok (.aload_n 0, 1) := by decide +kernel
theorem dX9_makeRoom_37 : decode cX9_makeRoom 37 = .ok (.getfield 11, 3) := by decide +kernel
theorem dX9_makeRoom_40 : decode cX9_makeRoom 40 = .ok (.iconst 2, 1) := by decide +kernel
theorem dX9_makeRoom_41 : decode cX9_makeRoom 41 = .ok (.aload_n 0, 1) := by decide +kernel
theorem dX9_makeRoom_42 : decode cX9_makeRoom 42 = .ok (.getfield 26, 3) := by decide +kernel
theorem dX9_makeRoom_45 : decode cX9_makeRoom 45 = .ok (.imul, 1) := by decide +kernel
theorem dX9_makeRoom_46 : decode cX9_makeRoom 46 = .ok (.invokestatic 49, 3) := by decide +kernel
theorem dX9_makeRoom_49 : decode cX9_makeRoom 49 = .ok (.putfield 11, 3) := by decide +kernel
theorem dX9_makeRoom_52 : decode cX9_makeRoom 52 = .ok (.aload_n 0, 1) := by decide +kernel
theorem dX9_makeRoom_53 : decode cX9_makeRoom 53 = .ok (.aload_n 0, 1) := by decide +kernel
theorem dX9_makeRoom_54 : decode cX9_makeRoom 54 = .ok (.getfield 15, 3) := by decide +kernel
theorem dX9_makeRoom_57 : decode cX9_makeRoom 57 = .ok (.iconst 2, 1) := by decide +kernel
theorem dX9_makeRoom_58 : decode cX9_makeRoom 58 = .ok (.aload_n 0, 1) := by decide +kernel
theorem dX9_makeRoom_59 : decode cX9_makeRoom 59 = .ok (.getfield 26, 3) := by decide +kernel
theorem dX9_makeRoom_62 : decode cX9_makeRoom 62 = .ok (.imul, 1) := by decide +kernel
