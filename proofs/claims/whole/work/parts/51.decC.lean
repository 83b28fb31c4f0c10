theorem dX3_setField_5 : decode cX3_setField 5 = .ok (.getfield 95, 3) := by decide +kernel
theorem dX3_setField_8 : decode cX3_setField 8 = .ok (.getfield 89, 3) := by decide +kernel
theorem dX3_setField_11 : decode cX3_setField 11 = .ok (.putfield 9, 3) := by decide +kernel
theorem dX3_setField_14 : decode cX3_setField 14 = .ok (.iconst 0, 1) := by decide +kernel
theorem dX3_setField_15 : decode cX3_setField 15 = .ok (.istore_n 1, 1) := by decide +kernel
theorem dX3_setField_16 : decode cX3_setField 16 = .ok (.iload_n 1, 1) := by decide +kernel
theorem dX3_setField_17 : decode cX3_setField 17 = .ok (.aload_n 0, 1) := by decide +kernel
theorem dX3_setField_18 : decode cX3_setField 18 = .ok (.getfield 26, 3) := by decide +kernel
theorem dX3_setField_21 : decode cX3_setField 21 = .ok (.getfield 99, 3) := by decide +kernel
theorem dX3_setField_24 : decode cX3_setField 24 = .ok (.getfield 103, 3) := by decide +kernel
theorem dX3_setField_27 : decode cX3_setField 27 = .ok (.if_icmp .ge 66, 3) := by decide +kernel
theorem dX3_setField_30 : decode cX3_setField 30 = .ok (.lconst 0, 1) := by decide +kernel
theorem dX3_setField_31 : decode cX3_setField 31 = .ok (.lstore_n 2, 1) := by decide +kernel
theorem dX3_setField_32 : decode cX3_setField 32 = .ok (.iconst 0, 1) := by decide +kernel
theorem dX3_setField_33 : decode cX3_setField 33 = .ok (.istore 4, 2) := by decide +kernel
theorem dX3_setField_35 : decode cX3_setField 35 = .ok (.iload 4, 2) := by decide +kernel
theorem dX3_setField_37 : decode cX3_setField 37 = .ok (.aload_n 0, 1) := by decide +kernel
theorem dX3_setField_38 : decode cX3_setField 38 = .ok (.getfield 26, 3) := by decide +kernel
theorem dX3_setField_41 : decode cX3_setField 41 = .ok (.getfield 99, 3) := by decide +kernel
theorem dX3_setField_44 : decode cX3_setField 44 = .ok (.getfield 103, 3) := by decide +kernel
theorem dX3_setField_47 : decode cX3_setField 47 = .ok (.if_icmp .ge 33, 3) := by decide +kernel
theorem dX3_setField_50 : decode cX3_setField 50 = .ok (.lload_n 2, 1) := by decide +kernel
theorem dX3_setField_51 : decode cX3_setField 51 = .ok (.aload_n 0, 1) := by decide +kernel
theorem dX3_setField_52 : decode cX3_setField 52 = .ok (.getfield 26, 3) := by decide +kernel
theorem dX3_setField_55 : decode cX3_setField 55 = .ok (.getfield 99, 3) := by decide +kernel
theorem dX3_setField_58 : decode cX3_setField 58 = .ok (.iload 4, 2) := by decide +kernel
theorem dX3_setField_60 : decode cX3_setField 60 = .ok (.iload_n 1, 1) := by decide +kernel
theorem dX3_setField_61 : decode cX3_setField 61 = .ok (.invokevirtual 140, 3) := by decide +kernel
theorem dX3_setField_64 : decode cX3_setField 64 = .ok (.aload_n 0, 1) := by decide +kernel
theorem dX3_setField_65 : decode cX3_setField 65 = .ok (.getfield 19, 3) := by decide +kernel
theorem dX3_setField_68 : decode cX3_setField 68 = .ok (.iload 4, 2) := by decide +kernel
theorem dX3_setField_70 : decode cX3_setField 70 = .ok (.laload, 1) := by decide +kernel
theorem dX3_setField_71 : decode cX3_setField 71 = .ok (.lmul, 1) := by decide +kernel
theorem dX3_setField_72 : decode cX3_setField 72 = .ok (.lsub, 1) := by decide +kernel
theorem dX3_setField_73 : decode cX3_setField 73 = .ok (.lstore_n 2, 1) := by decide +kernel
theorem dX3_setField_74 : decode cX3_setField 74 = .ok (.iinc 4 1, 3) := by decide +kernel
theorem dX3_setField_77 : decode cX3_setField 77 = .ok (.goto (-42), 3) := by decide +kernel
theorem dX3_setField_80 : decode cX3_setField 80 = .ok (.aload_n 0, 1) := by decide +kernel
theorem dX3_setField_81 : decode cX3_setField 81 = .ok (.getfield 15, 3) := by decide +kernel
theorem dX3_setField_84 : decode cX3_setField 84 = .ok (.iload_n 1, 1) := by decide +kernel
theorem dX3_setField_85 : decode cX3_setField 85 = .ok (.lload_n 2, 1) := by decide +kernel
theorem dX3_setField_86 : decode cX3_setField 86 = .ok (.lastore, 1) := by decide +kernel
theorem dX3_setField_87 : decode cX3_setField 87 = .ok (.iinc 1 1, 3) := by decide +kernel
theorem dX3_setField_90 : decode cX3_setField 90 = .ok (.goto (-74), 3) := by decide +kernel
theorem dX3_setField_93 : decode cX3_setField 93 = .ok (.return_, 1) := by decide +kernel
theorem dX3_noBarExceeds_0 : decode cX3_noBarExceeds 0 = .ok (.iconst 0, 1) := by decide +kernel
theorem dX3_noBarExceeds_1 : decode cX3_noBarExceeds 1 = .ok (.istore_n 1, 1) := by decide +kernel
theorem dX3_noBarExceeds_2 : decode cX3_noBarExceeds 2 = .ok (.iload_n 1, 1) := by decide +kernel
theorem dX3_noBarExceeds_3 : decode cX3_noBarExceeds 3 = .ok (.aload_n 0, 1) := by decide +kernel
theorem dX3_noBarExceeds_4 : decode cX3_noBarExceeds 4 = .ok (.getfield 22, 3) := by decide +kernel
theorem dX3_noBarExceeds_7 : decode cX3_noBarExceeds 7 = .ok (.getfield 143, 3) := by decide +kernel
theorem dX3_noBarExceeds_10 : decode cX3_noBarExceeds 10 = .ok (.if_icmp .ge 21, 3) := by decide +kernel
theorem dX3_noBarExceeds_13 : decode cX3_noBarExceeds 13 = .ok (.aload_n 0, 1) := by decide +kernel
theorem dX3_noBarExceeds_14 : decode cX3_noBarExceeds 14 = .ok (.iload_n 1, 1) := by decide +kernel
theorem dX3_noBarExceeds_15 : decode cX3_noBarExceeds 15 = .ok (.invokevirtual 144, 3) := by decide +kernel
theorem dX3_noBarExceeds_18 : decode cX3_noBarExceeds 18 = .ok (.lconst 0, 1) := by decide +kernel
theorem dX3_noBarExceeds_19 : decode cX3_noBarExceeds 19 = .ok (.lcmp, 1) := by decide +kernel
theorem dX3_noBarExceeds_20 : decode cX3_noBarExceeds 20 = .ok (.ifCond .ge 5, 3) := by decide +kernel
theorem dX3_noBarExceeds_23 : decode cX3_noBarExceeds 23 = .ok (.iconst 0, 1) := by decide +kernel
theorem dX3_noBarExceeds_24 : decode cX3_noBarExceeds 24 = .ok (.ireturn, 1) := by decide +kernel
theorem dX3_noBarExceeds_25 : decode cX3_noBarExceeds 25 = .ok (.iinc 1 1, 3) := by decide +kernel
theorem dX3_noBarExceeds_28 : decode cX3_noBarExceeds 28 = .ok (.goto (-26), 3) := by decide +kernel
theorem dX3_noBarExceeds_31 : decode cX3_noBarExceeds 31 = .ok (.iconst 1, 1) := by decide +kernel
theorem dX3_noBarExceeds_32 : decode cX3_noBarExceeds 32 = .ok (.ireturn, 1) := by decide +kernel
theorem dX4_init_0 : decode cX4_init 0 = .ok (.aload_n 0, 1) := by decide +kernel
theorem dX4_init_1 : decode cX4_init 1 = .ok (.invokespecial 3, 3) := by decide +kernel
theorem dX4_init_4 : decode cX4_init 4 = .ok (.aload_n 0, 1) := by decide +kernel
theorem dX4_init_5 : decode cX4_init 5 = .ok (.new 9, 3) := by decide +kernel
theorem dX4_init_8 : decode cX4_init 8 = .ok (.dup, 1) := by decide +kernel
theorem dX4_init_9 : decode cX4_init 9 = .ok (.invokespecial 11, 3) := by decide +kernel
theorem dX4_init_12 : decode cX4_init 12 = .ok (.putfield 12, 3) := by decide +kernel
theorem dX4_init_15 : decode cX4_init 15 = .ok (.aload_n 0, 1) := by decide +kernel
theorem dX4_init_16 : decode cX4_init 16 = .ok (.iconst 4, 1) := by decide +kernel
theorem dX4_init_17 : decode cX4_init 17 = .ok (.anewarray 9, 3) := by decide +kernel
theorem dX4_init_20 : decode cX4_init 20 = .ok (.putfield 18, 3) := by decide +kernel
theorem dX4_init_23 : decode cX4_init 23 = .ok (.aload_n 0, 1) := by decide +kernel
theorem dX4_init_24 : decode cX4_init 24 = .ok (.sipush 210, 3) := by decide +kernel
theorem dX4_init_27 : decode cX4_init 27 = .ok (.newarray .int, 2) := by decide +kernel
theorem dX4_init_29 : decode cX4_init 29 = .ok (.putfield 22, 3) := by decide +kernel
theorem dX4_init_32 : decode cX4_init 32 = .ok (.aload_n 0, 1) := by decide +kernel
theorem dX4_init_33 : decode cX4_init 33 = .ok (.aload_n 1, 1) := by decide +kernel
theorem dX4_init_34 : decode cX4_init 34 = .ok (.putfield 26, 3) := by decide +kernel
theorem dX4_init_37 : decode cX4_init 37 = .ok (.aload_n 0, 1) := by decide +kernel
theorem dX4_init_38 : decode cX4_init 38 = .ok (.new 30, 3) := by decide +kernel
theorem dX4_init_41 : decode cX4_init 41 = .ok (.dup, 1) := by decide +kernel
theorem dX4_init_42 : decode cX4_init 42 = .ok (.aload_n 1, 1) := by decide +kernel
theorem dX4_init_43 : decode cX4_init 43 = .ok (.invokespecial 32, 3) := by decide +kernel
theorem dX4_init_46 : decode cX4_init 46 = .ok (.putfield 35, 3) := by decide +kernel
theorem dX4_init_49 : decode cX4_init 49 = .ok (.iconst 0, 1) := by decide +kernel
theorem dX4_init_50 : decode cX4_init 50 = .ok (.istore_n 2, 1) := by decide +kernel
theorem dX4_init_51 : decode cX4_init 51 = .ok (.iload_n 2, 1) := by decide +kernel
theorem dX4_init_52 : decode cX4_init 52 = .ok (.iconst 4, 1) := by decide +kernel
theorem dX4_init_53 : decode cX4_init 53 = .ok (.if_icmp .ge 22, 3) := by decide +kernel
theorem dX4_init_56 : decode cX4_init 56 = .ok (.aload_n 0, 1) := by decide +kernel
theorem dX4_init_57 : decode cX4_init 57 = .ok (.getfield 18, 3) := by decide +kernel
theorem dX4_init_60 : decode cX4_init 60 = .ok (.iload_n 2, 1) := by decide +kernel
theorem dX4_init_61 : decode cX4_init 61 = .ok (.new 9, 3) := by decide +kernel
theorem dX4_init_64 : decode cX4_init 64 = .ok (.dup, 1) := by decide +kernel
theorem dX4_init_65 : decode cX4_init 65 = .ok (.invokespecial 11, 3) := by decide +kernel
theorem dX4_init_68 : decode cX4_init 68 = .ok (.aastore, 1) := by decide +kernel
theorem dX4_init_69 : decode cX4_init 69 = .ok (.iinc 2 1, 3) := by decide +kernel
theorem dX4_init_72 : decode cX4_init 72 = .ok (.goto (-21), 3) := by decide +kernel
theorem dX4_init_75 : decode cX4_init 75 = .ok (.return_, 1) := by decide +kernel
theorem dX4_frameOf_0 : decode cX4_frameOf 0 = .ok (.aload_n 0, 1) := by decide +kernel
theorem dX4_frameOf_1 : decode cX4_frameOf 1 = .ok (.invokevirtual 39, 3) := by decide +kernel
theorem dX4_frameOf_4 : decode cX4_frameOf 4 = .ok (.aload_n 0, 1) := by decide +kernel
theorem dX4_frameOf_5 : decode cX4_frameOf 5 = .ok (.getfield 18, 3) := by decide +kernel
theorem dX4_frameOf_8 : decode cX4_frameOf 8 = .ok (.iload_n 1, 1) := by decide +kernel
theorem dX4_frameOf_9 : decode cX4_frameOf 9 = .ok (.aaload, 1) := by decide +kernel
theorem dX4_frameOf_10 : decode cX4_frameOf 10 = .ok (.areturn, 1) := by decide +kernel
theorem dX4_run_0 : decode cX4_run 0 = .ok (.aload_n 0, 1) := by decide +kernel
theorem dX4_run_1 : decode cX4_run 1 = .ok (.getfield 42, 3) := by decide +kernel
theorem dX4_run_4 : decode cX4_run 4 = .ok (.ifCond .eq 4, 3) := by decide +kernel
theorem dX4_run_7 : decode cX4_run 7 = .ok (.return_, 1) := by decide +kernel
theorem dX4_run_8 : decode cX4_run 8 = .ok (.aload_n 0, 1) := by decide +kernel
theorem dX4_run_9 : decode cX4_run 9 = .ok (.iconst 0, 1) := by decide +kernel
theorem dX4_run_10 : decode cX4_run 10 = .ok (.putfield 46, 3) := by decide +kernel
theorem dX4_run_13 : decode cX4_run 13 = .ok (.iconst 0, 1) := by decide +kernel
theorem dX4_run_14 : decode cX4_run 14 = .ok (.istore_n 1, 1) := by decide +kernel
theorem dX4_run_15 : decode cX4_run 15 = .ok (.iload_n 1, 1) := by decide +kernel
theorem dX4_run_16 : decode cX4_run 16 = .ok (.iconst 4, 1) := by decide +kernel
theorem dX4_run_17 : decode cX4_run 17 = .ok (.if_icmp .ge 19, 3) := by decide +kernel
theorem dX4_run_20 : decode cX4_run 20 = .ok (.aload_n 0, 1) := by decide +kernel
theorem dX4_run_21 : decode cX4_run 21 = .ok (.getfield 18, 3) := by decide +kernel
theorem dX4_run_24 : decode cX4_run 24 = .ok (.iload_n 1, 1) := by decide +kernel
theorem dX4_run_25 : decode cX4_run 25 = .ok (.aaload, 1) := by decide +kernel
theorem dX4_run_26 : decode cX4_run 26 = .ok (.iconst 0, 1) := by decide +kernel
theorem dX4_run_27 : decode cX4_run 27 = .ok (.putfield 50, 3) := by decide +kernel
theorem dX4_run_30 : decode cX4_run 30 = .ok (.iinc 1 1, 3) := by decide +kernel
theorem dX4_run_33 : decode cX4_run 33 = .ok (.goto (-18), 3) := by decide +kernel
theorem dX4_run_36 : decode cX4_run 36 = .ok (.iconst 1, 1) := by decide +kernel
theorem dX4_run_37 : decode cX4_run 37 = .ok (.aload_n 0, 1) := by decide +kernel
theorem dX4_run_38 : decode cX4_run 38 = .ok (.getfield 26, 3) := by decide +kernel
theorem dX4_run_41 : decode cX4_run 41 = .ok (.getfield 53, 3) := by decide +kernel
theorem dX4_run_44 : decode cX4_run 44 = .ok (.ishl, 1) := by decide +kernel
theorem dX4_run_45 : decode cX4_run 45 = .ok (.iconst 1, 1) := by decide +kernel
theorem dX4_run_46 : decode cX4_run 46 = .ok (.isub, 1) := by decide +kernel
theorem dX4_run_47 : decode cX4_run 47 = .ok (.istore_n 1, 1) := by decide +kernel
theorem dX4_run_48 : decode cX4_run 48 = .ok (.iload_n 1, 1) := by decide +kernel
theorem dX4_run_49 : decode cX4_run 49 = .ok (.ifCond .lt 32, 3) := by decide +kernel
theorem dX4_run_52 : decode cX4_run 52 = .ok (.iload_n 1, 1) := by decide +kernel
theorem dX4_run_53 : decode cX4_run 53 = .ok (.invokestatic 58, 3) := by decide +kernel
theorem dX4_run_56 : decode cX4_run 56 = .ok (.aload_n 0, 1) := by decide +kernel
theorem dX4_run_57 : decode cX4_run 57 = .ok (.getfield 26, 3) := by decide +kernel
theorem dX4_run_60 : decode cX4_run 60 = .ok (.invokevirtual 64, 3) := by decide +kernel
theorem dX4_run_63 : decode cX4_run 63 = .ok (.if_icmp .ne 12, 3) := by decide +kernel
theorem dX4_run_66 : decode cX4_run 66 = .ok (.aload_n 0, 1) := by decide +kernel
theorem dX4_run_67 : decode cX4_run 67 = .ok (.aload_n 0, 1) := by decide +kernel
theorem dX4_run_68 : decode cX4_run 68 = .ok (.iload_n 1, 1) := by decide +kernel
theorem dX4_run_69 : decode cX4_run 69 = .ok (.invokevirtual 68, 3) := by decide +kernel
theorem dX4_run_72 : decode cX4_run 72 = .ok (.invokevirtual 71, 3) := by decide +kernel
theorem dX4_run_75 : decode cX4_run 75 = .ok (.iinc 1 (-1), 3) := by decide +kernel
theorem dX4_run_78 : decode cX4_run 78 = .ok (.goto (-30), 3) := by decide +kernel
theorem dX4_run_81 : decode cX4_run 81 = .ok (.aload_n 0, 1) := by decide +kernel
theorem dX4_run_82 : decode cX4_run 82 = .ok (.iconst 1, 1) := by decide +kernel
theorem dX4_run_83 : decode cX4_run 83 = .ok (.putfield 42, 3) := by decide +kernel
theorem dX4_run_86 : decode cX4_run 86 = .ok (.return_, 1) := by decide +kernel
theorem dX4_hasChoiceIn_0 : decode cX4_hasChoiceIn 0 = .ok (.iconst 0, 1) := by decide +kernel
theorem dX4_hasChoiceIn_1 : decode cX4_hasChoiceIn 1 = .ok (.istore_n 2, 1) := by decide +kernel
theorem dX4_hasChoiceIn_2 : decode cX4_hasChoiceIn 2 = .ok (.iload_n 2, 1) := by decide +kernel
theorem dX4_hasChoiceIn_3 : decode cX4_hasChoiceIn 3 = .ok (.aload_n 0, 1) := by decide +kernel
theorem dX4_hasChoiceIn_4 : decode cX4_hasChoiceIn 4 = .ok (.getfield 46, 3) := by decide +kernel
theorem dX4_hasChoiceIn_7 : decode cX4_hasChoiceIn 7 = .ok (.if_icmp .ge 24, 3) := by decide +kernel
theorem dX4_hasChoiceIn_10 : decode cX4_hasChoiceIn 10 = .ok (.aload_n 0, 1) := by decide +kernel
theorem dX4_hasChoiceIn_11 : decode cX4_hasChoiceIn 11 = .ok (.getfield 22, 3) := by decide +kernel
theorem dX4_hasChoiceIn_14 : decode cX4_hasChoiceIn 14 = .ok (.iload_n 2, 1) := by decide +kernel
theorem dX4_hasChoiceIn_15 : decode cX4_hasChoiceIn 15 = .ok (.iaload, 1) := by decide +kernel
theorem dX4_hasChoiceIn_16 : decode cX4_hasChoiceIn 16 = .ok (.iload_n 1, 1) := by decide +kernel
theorem dX4_hasChoiceIn_17 : decode cX4_hasChoiceIn 17 = .ok (.iconst (-1), 1) := by decide +kernel
theorem dX4_hasChoiceIn_18 : decode cX4_hasChoiceIn 18 = .ok (.ixor, 1) := by decide +kernel
theorem dX4_hasChoiceIn_19 : decode cX4_hasChoiceIn 19 = .ok (.iand, 1) := by decide +kernel
theorem dX4_hasChoiceIn_20 : decode cX4_hasChoiceIn 20 = .ok (.ifCond .ne 5, 3) := by decide +kernel
theorem dX4_hasChoiceIn_23 : decode cX4_hasChoiceIn 23 = .ok (.iconst 1, 1) := by decide +kernel
theorem dX4_hasChoiceIn_24 : decode cX4_hasChoiceIn 24 = .ok (.ireturn, 1) := by decide +kernel
theorem dX4_hasChoiceIn_25 : decode cX4_hasChoiceIn 25 = .ok (.iinc 2 1, 3) := by decide +kernel
theorem dX4_hasChoiceIn_28 : decode cX4_hasChoiceIn 28 = .ok (.goto (-26), 3) := by decide +kernel
theorem dX4_hasChoiceIn_31 : decode cX4_hasChoiceIn 31 = .ok (.iconst 0, 1) := by decide +kernel
theorem dX4_hasChoiceIn_32 : decode cX4_hasChoiceIn 32 = .ok (.ireturn, 1) := by decide +kernel
theorem dX4_tryBars_0 : decode cX4_tryBars 0 = .ok (.aload_n 0, 1) := by decide +kernel
theorem dX4_tryBars_1 : decode cX4_tryBars 1 = .ok (.getfield 35, 3) := by decide +kernel
theorem dX4_tryBars_4 : decode cX4_tryBars 4 = .ok (.iload_n 1, 1) := by decide +kernel
theorem dX4_tryBars_5 : decode cX4_tryBars 5 = .ok (.invokevirtual 75, 3) := by decide +kernel
theorem dX4_tryBars_8 : decode cX4_tryBars 8 = .ok (.aload_n 0, 1) := by decide +kernel
theorem dX4_tryBars_9 : decode cX4_tryBars 9 = .ok (.getfield 35, 3) := by decide +kernel
theorem dX4_tryBars_12 : decode cX4_tryBars 12 = .ok (.invokevirtual 78, 3) := by decide +kernel
theorem dX4_tryBars_15 : decode cX4_tryBars 15 = .ok (.ifCond .ne 5, 3) := by decide +kernel
theorem dX4_tryBars_18 : decode cX4_tryBars 18 = .ok (.iconst 0, 1) := by decide +kernel
theorem dX4_tryBars_19 : decode cX4_tryBars 19 = .ok (.ireturn, 1) := by decide +kernel
theorem dX4_tryBars_20 : decode cX4_tryBars 20 = .ok (.aload_n 0, 1) := by decide +kernel
theorem dX4_tryBars_21 : decode cX4_tryBars 21 = .ok (.getfield 12, 3) := by decide +kernel
theorem dX4_tryBars_24 : decode cX4_tryBars 24 = .ok (.iload_n 1, 1) := by decide +kernel
theorem dX4_tryBars_25 : decode cX4_tryBars 25 = .ok (.putfield 82, 3) := by decide +kernel
theorem dX4_tryBars_28 : decode cX4_tryBars 28 = .ok (.aload_n 0, 1) := by decide +kernel
theorem dX4_tryBars_29 : decode cX4_tryBars 29 = .ok (.getfield 12, 3) := by decide +kernel
theorem dX4_tryBars_32 : decode cX4_tryBars 32 = .ok (.aload_n 0, 1) := by decide +kernel
theorem dX4_tryBars_33 : decode cX4_tryBars 33 = .ok (.getfield 35, 3) := by decide +kernel
theorem dX4_tryBars_36 : decode cX4_tryBars 36 = .ok (.getfield 83, 3) := by decide +kernel
theorem dX4_tryBars_39 : decode cX4_tryBars 39 = .ok (.putfield 87, 3) := by decide +kernel
theorem dX4_tryBars_42 : decode cX4_tryBars 42 = .ok (.aload_n 0, 1) := by decide +kernel
theorem dX4_tryBars_43 : decode cX4_tryBars 43 = .ok (.getfield 12, 3) := by decide +kernel
theorem dX4_tryBars_46 : decode cX4_tryBars 46 = .ok (.iconst 0, 1) := by decide +kernel
theorem dX4_tryBars_47 : decode cX4_tryBars 47 = .ok (.putfield 88, 3) := by decide +kernel
theorem dX4_tryBars_50 : decode cX4_tryBars 50 = .ok (.aload_n 0, 1) := by decide +kernel
theorem dX4_tryBars_51 : decode cX4_tryBars 51 = .ok (.getfield 12, 3) := by decide +kernel
theorem dX4_tryBars_54 : decode cX4_tryBars 54 = .ok (.iconst 0, 1) := by decide +kernel
theorem dX4_tryBars_55 : decode cX4_tryBars 55 = .ok (.putfield 91, 3) := by decide +kernel
theorem dX4_tryBars_58 : decode cX4_tryBars 58 = .ok (.aload_n 0, 1) := by decide +kernel
theorem dX4_tryBars_59 : decode cX4_tryBars 59 = .ok (.getfield 12, 3) := by decide +kernel
theorem dX4_tryBars_62 : decode cX4_tryBars 62 = .ok (.getfield 94, 3) := by decide +kernel
theorem dX4_tryBars_65 : decode cX4_tryBars 65 = .ok (.lconst 0, 1) := by decide +kernel
theorem dX4_tryBars_66 : decode cX4_tryBars 66 = .ok (.invokestatic 98, 3) := by decide +kernel
theorem dX4_tryBars_69 : decode cX4_tryBars 69 = .ok (.iconst 0, 1) := by decide +kernel
theorem dX4_tryBars_70 : decode cX4_tryBars 70 = .ok (.istore_n 2, 1) := by decide +kernel
theorem dX4_tryBars_71 : decode cX4_tryBars 71 = .ok (.iload_n 2, 1) := by decide +kernel
theorem dX4_tryBars_72 : decode cX4_tryBars 72 = .ok (.aload_n 0, 1) := by decide +kernel
theorem dX4_tryBars_73 : decode cX4_tryBars 73 = .ok (.getfield 35, 3) := by decide +kernel
theorem dX4_tryBars_76 : decode cX4_tryBars 76 = .ok (.getfield 104, 3) := by decide +kernel
theorem dX4_tryBars_79 : decode cX4_tryBars 79 = .ok (.if_icmp .ge 14, 3) := by decide +kernel
theorem dX4_tryBars_82 : decode cX4_tryBars 82 = .ok (.aload_n 0, 1) := by decide +kernel
theorem dX4_tryBars_83 : decode cX4_tryBars 83 = .ok (.iload_n 2, 1) := by decide +kernel
theorem dX4_tryBars_84 : decode cX4_tryBars 84 = .ok (.invokevirtual 107, 3) := by decide +kernel
theorem dX4_tryBars_87 : decode cX4_tryBars 87 = .ok (.iinc 2 1, 3) := by decide +kernel
theorem dX4_tryBars_90 : decode cX4_tryBars 90 = .ok (.goto (-19), 3) := by decide +kernel
theorem dX4_tryBars_93 : decode cX4_tryBars 93 = .ok (.iconst 1, 1) := by decide +kernel
theorem dX4_tryBars_94 : decode cX4_tryBars 94 = .ok (.ireturn, 1) := by decide +kernel
theorem dX4_lightestTop_0 : decode cX4_lightestTop 0 = .ok (.lconst 0, 1) := by decide +kernel
theorem dX4_lightestTop_1 : decode cX4_lightestTop 1 = .ok (.lstore_n 1, 1) := by decide +kernel
theorem dX4_lightestTop_2 : decode cX4_lightestTop 2 = .ok (.iconst 0, 1) := by decide +kernel
theorem dX4_lightestTop_3 : decode cX4_lightestTop 3 = .ok (.istore_n 3, 1) := by decide +kernel
theorem dX4_lightestTop_4 : decode cX4_lightestTop 4 = .ok (.iload_n 3, 1) := by decide +kernel
theorem dX4_lightestTop_5 : decode cX4_lightestTop 5 = .ok (.aload_n 0, 1) := by decide +kernel
theorem dX4_lightestTop_6 : decode cX4_lightestTop 6 = .ok (.getfield 26, 3) := by decide +kernel
theorem dX4_lightestTop_9 : decode cX4_lightestTop 9 = .ok (.getfield 53, 3) := by decide +kernel
theorem dX4_lightestTop_12 : decode cX4_lightestTop 12 = .ok (.if_icmp .ge 35, 3) := by decide +kernel
theorem dX4_lightestTop_15 : decode cX4_lightestTop 15 = .ok (.lload_n 1, 1) := by decide +kernel
theorem dX4_lightestTop_16 : decode cX4_lightestTop 16 = .ok (.aload_n 0, 1) := by decide +kernel
theorem dX4_lightestTop_17 : decode cX4_lightestTop 17 = .ok (.getfield 26, 3) := by decide +kernel
theorem dX4_lightestTop_20 : decode cX4_lightestTop 20 = .ok (.getfield 110, 3) := by decide +kernel
theorem dX4_lightestTop_23 : decode cX4_lightestTop 23 = .ok (.iload_n 3, 1) := by decide +kernel
theorem dX4_lightestTop_24 : decode cX4_lightestTop 24 = .ok (.iaload, 1) := by decide +kernel
theorem dX4_lightestTop_25 : decode cX4_lightestTop 25 = .ok (.i2l, 1) := by decide +kernel
theorem dX4_lightestTop_26 : decode cX4_lightestTop 26 = .ok (.aload_n 0, 1) := by decide +kernel
theorem dX4_lightestTop_27 : decode cX4_lightestTop 27 = .ok (.getfield 12, 3) := by decide +kernel
theorem dX4_lightestTop_30 : decode cX4_lightestTop 30 = .ok (.getfield 94, 3) := by decide +kernel
theorem dX4_lightestTop_33 : decode cX4_lightestTop 33 = .ok (.iload_n 3, 1) := by decide +kernel
theorem dX4_lightestTop_34 : decode cX4_lightestTop 34 = .ok (.laload, 1) := by decide +kernel
theorem dX4_lightestTop_35 : decode cX4_lightestTop 35 = .ok (.invokestatic 113, 3) := by decide +kernel
theorem dX4_lightestTop_38 : decode cX4_lightestTop 38 = .ok (.lmul, 1) := by decide +kernel
theorem dX4_lightestTop_39 : decode cX4_lightestTop 39 = .ok (.ladd, 1) := by decide +kernel
theorem dX4_lightestTop_40 : decode cX4_lightestTop 40 = .ok (.lstore_n 1, 1) := by decide +kernel
theorem dX4_lightestTop_41 : decode cX4_lightestTop 41 = .ok (.iinc 3 1, 3) := by decide +kernel
theorem dX4_lightestTop_44 : decode cX4_lightestTop 44 = .ok (.goto (-40), 3) := by decide +kernel
theorem dX4_lightestTop_47 : decode cX4_lightestTop 47 = .ok (.lload_n 1, 1) := by decide +kernel
theorem dX4_lightestTop_48 : decode cX4_lightestTop 48 = .ok (.lreturn, 1) := by decide +kernel
theorem dX4_leastSizeFor_0 : decode cX4_leastSizeFor 0 = .ok (.iconst 0, 1) := by decide +kernel
theorem dX4_leastSizeFor_1 : decode cX4_leastSizeFor 1 = .ok (.istore_n 3, 1) := by decide +kernel
theorem dX4_leastSizeFor_2 : decode cX4_leastSizeFor 2 = .ok (.iconst 0, 1) := by decide +kernel
theorem dX4_leastSizeFor_3 : decode cX4_leastSizeFor 3 = .ok (.istore 4, 2) := by decide +kernel
theorem dX4_leastSizeFor_5 : decode cX4_leastSizeFor 5 = .ok (.iload 4, 2) := by decide +kernel
theorem dX4_leastSizeFor_7 : decode cX4_leastSizeFor 7 = .ok (.aload_n 0, 1) := by decide +kernel
theorem dX4_leastSizeFor_8 : decode cX4_leastSizeFor 8 = .ok (.getfield 26, 3) := by decide +kernel
theorem dX4_leastSizeFor_11 : decode cX4_leastSizeFor 11 = .ok (.getfield 119, 3) := by decide +kernel
theorem dX4_leastSizeFor_14 : decode cX4_leastSizeFor 14 = .ok (.if_icmp .ge 55, 3) := by decide +kernel
theorem dX4_leastSizeFor_17 : decode cX4_leastSizeFor 17 = .ok (.aload_n 0, 1) := by decide +kernel
theorem dX4_leastSizeFor_18 : decode cX4_leastSizeFor 18 = .ok (.getfield 26, 3) := by decide +kernel
theorem dX4_leastSizeFor_21 : decode cX4_leastSizeFor 21 = .ok (.getfield 122, 3) := by decide +kernel
theorem dX4_leastSizeFor_24 : decode cX4_leastSizeFor 24 = .ok (.iload 4, 2) := by decide +kernel
theorem dX4_leastSizeFor_26 : decode cX4_leastSizeFor 26 = .ok (.iaload, 1) := by decide +kernel
theorem dX4_leastSizeFor_27 : decode cX4_leastSizeFor 27 = .ok (.istore 5, 2) := by decide +kernel
theorem dX4_leastSizeFor_29 : decode cX4_leastSizeFor 29 = .ok (.iload 5, 2) := by decide +kernel
theorem dX4_leastSizeFor_31 : decode cX4_leastSizeFor 31 = .ok (.i2l, 1) := by decide +kernel
theorem dX4_leastSizeFor_32 : decode cX4_leastSizeFor 32 = .ok (.aload_n 1, 1) := by decide +kernel
theorem dX4_leastSizeFor_33 : decode cX4_leastSizeFor 33 = .ok (.getfield 87, 3) := by decide +kernel
theorem dX4_leastSizeFor_36 : decode cX4_leastSizeFor 36 = .ok (.lmul, 1) := by decide +kernel
theorem dX4_leastSizeFor_37 : decode cX4_leastSizeFor 37 = .ok (.aload_n 1, 1) := by decide +kernel
theorem dX4_leastSizeFor_38 : decode cX4_leastSizeFor 38 = .ok (.getfield 94, 3) := by decide +kernel
theorem dX4_leastSizeFor_41 : decode cX4_leastSizeFor 41 = .ok (.iload_n 2, 1) := by decide +kernel
theorem dX4_leastSizeFor_42 : decode cX4_leastSizeFor 42 = .ok (.laload, 1) := by decide +kernel
theorem dX4_leastSizeFor_43 : decode cX4_leastSizeFor 43 = .ok (.invokestatic 113, 3) := by decide +kernel
theorem dX4_leastSizeFor_46 : decode cX4_leastSizeFor 46 = .ok (.lcmp, 1) := by decide +kernel
theorem dX4_leastSizeFor_47 : decode cX4_leastSizeFor 47 = .ok (.ifCond .lt 16, 3) := by decide +kernel
theorem dX4_leastSizeFor_50 : decode cX4_leastSizeFor 50 = .ok (.iload_n 3, 1) := by decide +kernel
theorem dX4_leastSizeFor_51 : decode cX4_leastSizeFor 51 = .ok (.ifCond .eq 9, 3) := by decide +kernel
theorem dX4_leastSizeFor_54 : decode cX4_leastSizeFor 54 = .ok (.iload 5, 2) := by decide +kernel
theorem dX4_leastSizeFor_56 : decode cX4_leastSizeFor 56 = .ok (.iload_n 3, 1) := by decide +kernel
theorem dX4_leastSizeFor_57 : decode cX4_leastSizeFor 57 = .ok (.if_icmp .ge 6, 3) := by decide +kernel
theorem dX4_leastSizeFor_60 : decode cX4_leastSizeFor 60 = .ok (.iload 5, 2) := by decide +kernel
theorem dX4_leastSizeFor_62 : decode cX4_leastSizeFor 62 = .ok (.istore_n 3, 1) := by decide +kernel
theorem dX4_leastSizeFor_63 : decode cX4_leastSizeFor 63 = .ok (.iinc 4 1, 3) := by decide +kernel
theorem dX4_leastSizeFor_66 : decode cX4_leastSizeFor 66 = .ok (.goto (-61), 3) := by decide +kernel
theorem dX4_leastSizeFor_69 : decode cX4_leastSizeFor 69 = .ok (.iload_n 3, 1) := by decide +kernel
theorem dX4_leastSizeFor_70 : decode cX4_leastSizeFor 70 = .ok (.ireturn, 1) := by decide +kernel
theorem dX4_mirrored_0 : decode cX4_mirrored 0 = .ok (.iconst 0, 1) := by decide +kernel
theorem dX4_mirrored_1 : decode cX4_mirrored 1 = .ok (.istore_n 2, 1) := by decide +kernel
theorem dX4_mirrored_2 : decode cX4_mirrored 2 = .ok (.iconst 0, 1) := by decide +kernel
theorem dX4_mirrored_3 : decode cX4_mirrored 3 = .ok (.istore_n 3, 1) := by decide +kernel
theorem dX4_mirrored_4 : decode cX4_mirrored 4 = .ok (.iload_n 3, 1) := by decide +kernel
theorem dX4_mirrored_5 : decode cX4_mirrored 5 = .ok (.aload_n 0, 1) := by decide +kernel
theorem dX4_mirrored_6 : decode cX4_mirrored 6 = .ok (.getfield 26, 3) := by decide +kernel
theorem dX4_mirrored_9 : decode cX4_mirrored 9 = .ok (.getfield 53, 3) := by decide +kernel
theorem dX4_mirrored_12 : decode cX4_mirrored 12 = .ok (.if_icmp .ge 34, 3) := by decide +kernel
theorem dX4_mirrored_15 : decode cX4_mirrored 15 = .ok (.iload_n 1, 1) := by decide +kernel
theorem dX4_mirrored_16 : decode cX4_mirrored 16 = .ok (.aload_n 0, 1) := by decide +kernel
theorem dX4_mirrored_17 : decode cX4_mirrored 17 = .ok (.getfield 26, 3) := by decide +kernel
theorem dX4_mirrored_20 : decode cX4_mirrored 20 = .ok (.getfield 53, 3) := by decide +kernel
theorem dX4_mirrored_23 : decode cX4_mirrored 23 = .ok (.iconst 1, 1) := by decide +kernel
theorem dX4_mirrored_24 : decode cX4_mirrored 24 = .ok (.isub, 1) := by decide +kernel
theorem dX4_mirrored_25 : decode cX4_mirrored 25 = .ok (.iload_n 3, 1) := by decide +kernel
theorem dX4_mirrored_26 : decode cX4_mirrored 26 = .ok (.isub, 1) := by decide +kernel
theorem dX4_mirrored_27 : decode cX4_mirrored 27 = .ok (.ishr, 1) := by decide +kernel
theorem dX4_mirrored_28 : decode cX4_mirrored 28 = .ok (.iconst 1, 1) := by decide +kernel
theorem dX4_mirrored_29 : decode cX4_mirrored 29 = .ok (.iand, 1) := by decide +kernel
theorem dX4_mirrored_30 : decode cX4_mirrored 30 = .ok (.iconst 1, 1) := by decide +kernel
theorem dX4_mirrored_31 : decode cX4_mirrored 31 = .ok (.if_icmp .ne 9, 3) := by decide +kernel
theorem dX4_mirrored_34 : decode cX4_mirrored 34 = .ok (.iload_n 2, 1) := by decide +kernel
theorem dX4_mirrored_35 : decode cX4_mirrored 35 = .ok (.iconst 1, 1) := by decide +kernel
theorem dX4_mirrored_36 : decode cX4_mirrored 36 = .ok (.iload_n 3, 1) := by decide +kernel
theorem dX4_mirrored_37 : decode cX4_mirrored 37 = .ok (.ishl, 1) := by decide +kernel
theorem dX4_mirrored_38 : decode cX4_mirrored 38 = .ok (.ior, 1) := by decide +kernel
theorem dX4_mirrored_39 : decode cX4_mirrored 39 = .ok (.istore_n 2, 1) := by decide +kernel
theorem dX4_mirrored_40 : decode cX4_mirrored 40 = .ok (.iinc 3 1, 3) := by decide +kernel
theorem dX4_mirrored_43 : decode cX4_mirrored 43 = .ok (.goto (-39), 3) := by decide +kernel
theorem dX4_mirrored_46 : decode cX4_mirrored 46 = .ok (.iload_n 2, 1) := by decide +kernel
theorem dX4_mirrored_47 : decode cX4_mirrored 47 = .ok (.ireturn, 1) := by decide +kernel
theorem dX4_look_0 : decode cX4_look 0 = .ok (.aload_n 0, 1) := by decide +kernel
theorem dX4_look_1 : decode cX4_look 1 = .ok (.getfield 46, 3) := by decide +kernel
theorem dX4_look_4 : decode cX4_look 4 = .ok (.sipush 210, 3) := by decide +kernel
theorem dX4_look_7 : decode cX4_look 7 = .ok (.if_icmp .ge 11, 3) := by decide +kernel
theorem dX4_look_10 : decode cX4_look 10 = .ok (.aload_n 0, 1) := by decide +kernel
theorem dX4_look_11 : decode cX4_look 11 = .ok (.iload_n 1, 1) := by decide +kernel
theorem dX4_look_12 : decode cX4_look 12 = .ok (.invokevirtual 125, 3) := by decide +kernel
theorem dX4_look_15 : decode cX4_look 15 = .ok (.ifCond .ne 4, 3) := by decide +kernel
theorem dX4_look_18 : decode cX4_look 18 = .ok (.return_, 1) := by decide +kernel
theorem dX4_look_19 : decode cX4_look 19 = .ok (.aload_n 0, 1) := by decide +kernel
theorem dX4_look_20 : decode cX4_look 20 = .ok (.getfield 22, 3) := by decide +kernel
theorem dX4_look_23 : decode cX4_look 23 = .ok (.aload_n 0, 1) := by decide +kernel
theorem dX4_look_24 : decode cX4_look 24 = .ok (.getfield 46, 3) := by decide +kernel
theorem dX4_look_27 : decode cX4_look 27 = .ok (.iload_n 1, 1) := by decide +kernel
theorem dX4_look_28 : decode cX4_look 28 = .ok (.iastore, 1) := by decide +kernel
theorem dX4_look_29 : decode cX4_look 29 = .ok (.aload_n 0, 1) := by decide +kernel
theorem dX4_look_30 : decode cX4_look 30 = .ok (.dup, 1) := by decide +kernel
theorem dX4_look_31 : decode cX4_look 31 = .ok (.getfield 46, 3) := by decide +kernel
theorem dX4_look_34 : decode cX4_look 34 = .ok (.iconst 1, 1) := by decide +kernel
theorem dX4_look_35 : decode cX4_look 35 = .ok (.iadd, 1) := by decide +kernel
theorem dX4_look_36 : decode cX4_look 36 = .ok (.putfield 46, 3) := by decide +kernel
theorem dX4_look_39 : decode cX4_look 39 = .ok (.iconst 0, 1) := by decide +kernel
theorem dX4_look_40 : decode cX4_look 40 = .ok (.istore_n 2, 1) := by decide +kernel
theorem dX4_look_41 : decode cX4_look 41 = .ok (.iload_n 2, 1) := by decide +kernel
theorem dX4_look_42 : decode cX4_look 42 = .ok (.iconst 4, 1) := by decide +kernel
theorem dX4_look_43 : decode cX4_look 43 = .ok (.if_icmp .ge 57, 3) := by decide +kernel
theorem dX4_look_46 : decode cX4_look 46 = .ok (.aload_n 0, 1) := by decide +kernel
theorem dX4_look_47 : decode cX4_look 47 = .ok (.iload_n 2, 1) := by decide +kernel
theorem dX4_look_48 : decode cX4_look 48 = .ok (.invokevirtual 129, 3) := by decide +kernel
theorem dX4_look_51 : decode cX4_look 51 = .ok (.lstore_n 3, 1) := by decide +kernel
theorem dX4_look_52 : decode cX4_look 52 = .ok (.lload_n 3, 1) := by decide +kernel
theorem dX4_look_53 : decode cX4_look 53 = .ok (.ldc2_w 133, 3) := by decide +kernel
theorem dX4_look_56 : decode cX4_look 56 = .ok (.lcmp, 1) := by decide +kernel
theorem dX4_look_57 : decode cX4_look 57 = .ok (.ifCond .eq 37, 3) := by decide +kernel
theorem dX4_look_60 : decode cX4_look 60 = .ok (.aload_n 0, 1) := by decide +kernel
theorem dX4_look_61 : decode cX4_look 61 = .ok (.getfield 18, 3) := by decide +kernel
theorem dX4_look_64 : decode cX4_look 64 = .ok (.iload_n 2, 1) := by decide +kernel
theorem dX4_look_65 : decode cX4_look 65 = .ok (.aaload, 1) := by decide +kernel
theorem dX4_look_66 : decode cX4_look 66 = .ok (.lload_n 3, 1) := by decide +kernel
theorem dX4_look_67 : decode cX4_look 67 = .ok (.aload_n 0, 1) := by decide +kernel
theorem dX4_look_68 : decode cX4_look 68 = .ok (.getfield 12, 3) := by decide +kernel
theorem dX4_look_71 : decode cX4_look 71 = .ok (.getfield 87, 3) := by decide +kernel
theorem dX4_look_74 : decode cX4_look 74 = .ok (.invokevirtual 135, 3) := by decide +kernel
theorem dX4_look_77 : decode cX4_look 77 = .ok (.ifCond .eq 17, 3) := by decide +kernel
theorem dX4_look_80 : decode cX4_look 80 = .ok (.aload_n 0, 1) := by decide +kernel
theorem dX4_look_81 : decode cX4_look 81 = .ok (.getfield 18, 3) := by decide +kernel
theorem dX4_look_84 : decode cX4_look 84 = .ok (.iload_n 2, 1) := by decide +kernel
theorem dX4_look_85 : decode cX4_look 85 = .ok (.aaload, 1) := by decide +kernel
theorem dX4_look_86 : decode cX4_look 86 = .ok (.aload_n 0, 1) := by decide +kernel
theorem dX4_look_87 : decode cX4_look 87 = .ok (.getfield 12, 3) := by decide +kernel
theorem dX4_look_90 : decode cX4_look 90 = .ok (.lload_n 3, 1) := by decide +kernel
theorem dX4_look_91 : decode cX4_look 91 = .ok (.invokevirtual 139, 3) := by decide +kernel
theorem dX4_look_94 : decode cX4_look 94 = .ok (.iinc 2 1, 3) := by decide +kernel
theorem dX4_look_97 : decode cX4_look 97 = .ok (.goto (-56), 3) := by decide +kernel
theorem dX4_look_100 : decode cX4_look 100 = .ok (.return_, 1) := by decide +kernel
theorem dX4_takePull_0 : decode cX4_takePull 0 = .ok (.lconst 0, 1) := by decide +kernel
theorem dX4_takePull_1 : decode cX4_takePull 1 = .ok (.lstore_n 2, 1) := by decide +kernel
theorem dX4_takePull_2 : decode cX4_takePull 2 = .ok (.iconst 0, 1) := by decide +kernel
theorem dX4_takePull_3 : decode cX4_takePull 3 = .ok (.istore 4, 2) := by decide +kernel
theorem dX4_takePull_5 : decode cX4_takePull 5 = .ok (.iload 4, 2) := by decide +kernel
theorem dX4_takePull_7 : decode cX4_takePull 7 = .ok (.aload_n 0, 1) := by decide +kernel
theorem dX4_takePull_8 : decode cX4_takePull 8 = .ok (.getfield 35, 3) := by decide +kernel
theorem dX4_takePull_11 : decode cX4_takePull 11 = .ok (.getfield 104, 3) := by decide +kernel
theorem dX4_takePull_14 : decode cX4_takePull 14 = .ok (.if_icmp .ge 34, 3) := by decide +kernel
theorem dX4_takePull_17 : decode cX4_takePull 17 = .ok (.lload_n 2, 1) := by decide +kernel
theorem dX4_takePull_18 : decode cX4_takePull 18 = .ok (.aload_n 0, 1) := by decide +kernel
theorem dX4_takePull_19 : decode cX4_takePull 19 = .ok (.getfield 35, 3) := by decide +kernel
theorem dX4_takePull_22 : decode cX4_takePull 22 = .ok (.iload_n 1, 1) := by decide +kernel
theorem dX4_takePull_23 : decode cX4_takePull 23 = .ok (.iload 4, 2) := by decide +kernel
theorem dX4_takePull_25 : decode cX4_takePull 25 = .ok (.invokevirtual 143, 3) := by decide +kernel
theorem dX4_takePull_28 : decode cX4_takePull 28 = .ok (.aload_n 0, 1) := by decide +kernel
theorem dX4_takePull_29 : decode cX4_takePull 29 = .ok (.getfield 26, 3) := by decide +kernel
theorem dX4_takePull_32 : decode cX4_takePull 32 = .ok (.getfield 147, 3) := by decide +kernel
theorem dX4_takePull_35 : decode cX4_takePull 35 = .ok (.iload 4, 2) := by decide +kernel
theorem dX4_takePull_37 : decode cX4_takePull 37 = .ok (.iaload, 1) := by decide +kernel
theorem dX4_takePull_38 : decode cX4_takePull 38 = .ok (.i2l, 1) := by decide +kernel
theorem dX4_takePull_39 : decode cX4_takePull 39 = .ok (.lmul, 1) := by decide +kernel
theorem dX4_takePull_40 : decode cX4_takePull 40 = .ok (.lsub, 1) := by decide +kernel
theorem dX4_takePull_41 : decode cX4_takePull 41 = .ok (.lstore_n 2, 1) := by decide +kernel
theorem dX4_takePull_42 : decode cX4_takePull 42 = .ok (.iinc 4 1, 3) := by decide +kernel
theorem dX4_takePull_45 : decode cX4_takePull 45 = .ok (.goto (-40), 3) := by decide +kernel
theorem dX4_takePull_48 : decode cX4_takePull 48 = .ok (.aload_n 0, 1) := by decide +kernel
theorem dX4_takePull_49 : decode cX4_takePull 49 = .ok (.getfield 35, 3) := by decide +kernel
theorem dX4_takePull_52 : decode cX4_takePull 52 = .ok (.getfield 150, 3) := by decide +kernel
theorem dX4_takePull_55 : decode cX4_takePull 55 = .ok (.iload_n 1, 1) := by decide +kernel
theorem dX4_takePull_56 : decode cX4_takePull 56 = .ok (.iaload, 1) := by decide +kernel
theorem dX4_takePull_57 : decode cX4_takePull 57 = .ok (.istore 4, 2) := by decide +kernel
theorem dX4_takePull_59 : decode cX4_takePull 59 = .ok (.aload_n 0, 1) := by decide +kernel
theorem dX4_takePull_60 : decode cX4_takePull 60 = .ok (.getfield 12, 3) := by decide +kernel
theorem dX4_takePull_63 : decode cX4_takePull 63 = .ok (.getfield 94, 3) := by decide +kernel
theorem dX4_takePull_66 : decode cX4_takePull 66 = .ok (.iload 4, 2) := by decide +kernel
theorem dX4_takePull_68 : decode cX4_takePull 68 = .ok (.lload_n 2, 1) := by decide +kernel
theorem dX4_takePull_69 : decode cX4_takePull 69 = .ok (.lastore, 1) := by decide +kernel
theorem dX4_takePull_70 : decode cX4_takePull 70 = .ok (.lload_n 2, 1) := by decide +kernel
theorem dX4_takePull_71 : decode cX4_takePull 71 = .ok (.lconst 0, 1) := by decide +kernel
theorem dX4_takePull_72 : decode cX4_takePull 72 = .ok (.lcmp, 1) := by decide +kernel
theorem dX4_takePull_73 : decode cX4_takePull 73 = .ok (.ifCond .eq 56, 3) := by decide +kernel
theorem dX4_takePull_76 : decode cX4_takePull 76 = .ok (.aload_n 0, 1) := by decide +kernel
theorem dX4_takePull_77 : decode cX4_takePull 77 = .ok (.getfield 12, 3) := by decide +kernel
theorem dX4_takePull_80 : decode cX4_takePull 80 = .ok (.dup, 1) := by decide +kernel
theorem dX4_takePull_81 : decode cX4_takePull 81 = .ok (.getfield 88, 3) := by decide +kernel
theorem dX4_takePull_84 : decode cX4_takePull 84 = .ok (.iconst 1, 1) := by decide +kernel
theorem dX4_takePull_85 : decode cX4_takePull 85 = .ok (.iload 4, 2) := by decide +kernel
theorem dX4_takePull_87 : decode cX4_takePull 87 = .ok (.ishl, 1) := by decide +kernel
theorem dX4_takePull_88 : decode cX4_takePull 88 = .ok (.ior, 1) := by decide +kernel
theorem dX4_takePull_89 : decode cX4_takePull 89 = .ok (.putfield 88, 3) := by decide +kernel
theorem dX4_takePull_92 : decode cX4_takePull 92 = .ok (.aload_n 0, 1) := by decide +kernel
theorem dX4_takePull_93 : decode cX4_takePull 93 = .ok (.getfield 12, 3) := by decide +kernel
theorem dX4_takePull_96 : decode cX4_takePull 96 = .ok (.dup, 1) := by decide +kernel
theorem dX4_takePull_97 : decode cX4_takePull 97 = .ok (.getfield 91, 3) := by decide +kernel
theorem dX4_takePull_100 : decode cX4_takePull 100 = .ok (.iconst 1, 1) := by decide +kernel
theorem dX4_takePull_101 : decode cX4_takePull 101 = .ok (.aload_n 0, 1) := by decide +kernel
theorem dX4_takePull_102 : decode cX4_takePull 102 = .ok (.getfield 26, 3) := by decide +kernel
theorem dX4_takePull_105 : decode cX4_takePull 105 = .ok (.getfield 152, 3) := by decide +kernel
theorem dX4_takePull_108 : decode cX4_takePull 108 = .ok (.iload 4, 2) := by decide +kernel
theorem dX4_takePull_110 : decode cX4_takePull 110 = .ok (.iaload, 1) := by decide +kernel
theorem dX4_takePull_111 : decode cX4_takePull 111 = .ok (.ishl, 1) := by decide +kernel
theorem dX4_takePull_112 : decode cX4_takePull 112 = .ok (.iconst 1, 1) := by decide +kernel
theorem dX4_takePull_113 : decode cX4_takePull 113 = .ok (.aload_n 0, 1) := by decide +kernel
theorem dX4_takePull_114 : decode cX4_takePull 114 = .ok (.getfield 26, 3) := by decide +kernel
theorem dX4_takePull_117 : decode cX4_takePull 117 = .ok (.getfield 155, 3) := by decide +kernel
theorem dX4_takePull_120 : decode cX4_takePull 120 = .ok (.iload 4, 2) := by decide +kernel
theorem dX4_takePull_122 : decode cX4_takePull 122 = .ok (.iaload, 1) := by decide +kernel
theorem dX4_takePull_123 : decode cX4_takePull 123 = .ok (.ishl, 1) := by decide +kernel
theorem dX4_takePull_124 : decode cX4_takePull 124 = .ok (.ior, 1) := by decide +kernel
theorem dX4_takePull_125 : decode cX4_takePull 125 = .ok (.ior, 1) := by decide +kernel
theorem dX4_takePull_126 : decode cX4_takePull 126 = .ok (.putfield 91, 3) := by decide +kernel
theorem dX4_takePull_129 : decode cX4_takePull 129 = .ok (.return_, 1) := by decide +kernel
theorem dX4_trialTop_0 : decode cX4_trialTop 0 = .ok (.iload_n 1, 1) := by decide +kernel
theorem dX4_trialTop_1 : decode cX4_trialTop 1 = .ok (.tableswitch 60 1 3 #[27, 45, 50], 27) := by decide +kernel
theorem dX4_trialTop_28 : decode cX4_trialTop 28 = .ok (.aload_n 0, 1) := by decide +kernel
theorem dX4_trialTop_29 : decode cX4_trialTop 29 = .ok (.invokevirtual 158, 3) := by decide +kernel
theorem dX4_trialTop_32 : decode cX4_trialTop 32 = .ok (.ifCond .eq 9, 3) := by decide +kernel
theorem dX4_trialTop_35 : decode cX4_trialTop 35 = .ok (.ldc2_w 133, 3) := by decide +kernel
theorem dX4_trialTop_38 : decode cX4_trialTop 38 = .ok (.goto 7, 3) := by decide +kernel
theorem dX4_trialTop_41 : decode cX4_trialTop 41 = .ok (.aload_n 0, 1) := by decide +kernel
theorem dX4_trialTop_42 : decode cX4_trialTop 42 = .ok (.invokevirtual 161, 3) := by decide +kernel
theorem dX4_trialTop_45 : decode cX4_trialTop 45 = .ok (.lreturn, 1) := by decide +kernel
theorem dX4_trialTop_46 : decode cX4_trialTop 46 = .ok (.aload_n 0, 1) := by decide +kernel
theorem dX4_trialTop_47 : decode cX4_trialTop 47 = .ok (.invokevirtual 165, 3) := by decide +kernel
theorem dX4_trialTop_50 : decode cX4_trialTop 50 = .ok (.lreturn, 1) := by decide +kernel
theorem dX4_trialTop_51 : decode cX4_trialTop 51 = .ok (.aload_n 0, 1) := by decide +kernel
theorem dX4_trialTop_52 : decode cX4_trialTop 52 = .ok (.invokevirtual 161, 3) := by decide +kernel
theorem dX4_trialTop_55 : decode cX4_trialTop 55 = .ok (.aload_n 0, 1) := by decide +kernel
theorem dX4_trialTop_56 : decode cX4_trialTop 56 = .ok (.invokevirtual 168, 3) := by decide +kernel
theorem dX4_trialTop_59 : decode cX4_trialTop 59 = .ok (.ladd, 1) := by decide +kernel
theorem dX4_trialTop_60 : decode cX4_trialTop 60 = .ok (.lreturn, 1) := by decide +kernel
theorem dX4_trialTop_61 : decode cX4_trialTop 61 = .ok (.aload_n 0, 1) := by decide +kernel
theorem dX4_trialTop_62 : decode cX4_trialTop 62 = .ok (.invokevirtual 161, 3) := by decide +kernel
theorem dX4_trialTop_65 : decode cX4_trialTop 65 = .ok (.lreturn, 1) := by decide +kernel
theorem dX4_usedBarsCross_0 : decode cX4_usedBarsCross 0 = .ok (.iconst 0, 1) := by decide +kernel
theorem dX4_usedBarsCross_1 : decode cX4_usedBarsCross 1 = .ok (.istore_n 1, 1) := by decide +kernel
theorem dX4_usedBarsCross_2 : decode cX4_usedBarsCross 2 = .ok (.iload_n 1, 1) := by decide +kernel
theorem dX4_usedBarsCross_3 : decode cX4_usedBarsCross 3 = .ok (.aload_n 0, 1) := by decide +kernel
theorem dX4_usedBarsCross_4 : decode cX4_usedBarsCross 4 = .ok (.getfield 26, 3) := by decide +kernel
theorem dX4_usedBarsCross_7 : decode cX4_usedBarsCross 7 = .ok (.getfield 53, 3) := by decide +kernel
theorem dX4_usedBarsCross_10 : decode cX4_usedBarsCross 10 = .ok (.if_icmp .ge 42, 3) := by decide +kernel
theorem dX4_usedBarsCross_13 : decode cX4_usedBarsCross 13 = .ok (.aload_n 0, 1) := by decide +kernel
theorem dX4_usedBarsCross_14 : decode cX4_usedBarsCross 14 = .ok (.getfield 12, 3) := by decide +kernel
theorem dX4_usedBarsCross_17 : decode cX4_usedBarsCross 17 = .ok (.iload_n 1, 1) := by decide +kernel
theorem dX4_usedBarsCross_18 : decode cX4_usedBarsCross 18 = .ok (.invokevirtual 171, 3) := by decide +kernel
theorem dX4_usedBarsCross_21 : decode cX4_usedBarsCross 21 = .ok (.ifCond .eq 25, 3) := by decide +kernel
theorem dX4_usedBarsCross_24 : decode cX4_usedBarsCross 24 = .ok (.aload_n 0, 1) := by decide +kernel
theorem dX4_usedBarsCross_25 : decode cX4_usedBarsCross 25 = .ok (.getfield 26, 3) := by decide +kernel
theorem dX4_usedBarsCross_28 : decode cX4_usedBarsCross 28 = .ok (.getfield 174, 3) := by decide +kernel
theorem dX4_usedBarsCross_31 : decode cX4_usedBarsCross 31 = .ok (.iload_n 1, 1) := by decide +kernel
theorem dX4_usedBarsCross_32 : decode cX4_usedBarsCross 32 = .ok (.iaload, 1) := by decide +kernel
theorem dX4_usedBarsCross_33 : decode cX4_usedBarsCross 33 = .ok (.aload_n 0, 1) := by decide +kernel
theorem dX4_usedBarsCross_34 : decode cX4_usedBarsCross 34 = .ok (.getfield 12, 3) := by decide +kernel
theorem dX4_usedBarsCross_37 : decode cX4_usedBarsCross 37 = .ok (.getfield 88, 3) := by decide +kernel
theorem dX4_usedBarsCross_40 : decode cX4_usedBarsCross 40 = .ok (.iand, 1) := by decide +kernel
theorem dX4_usedBarsCross_41 : decode cX4_usedBarsCross 41 = .ok (.ifCond .eq 5, 3) := by decide +kernel
theorem dX4_usedBarsCross_44 : decode cX4_usedBarsCross 44 = .ok (.iconst 1, 1) := by decide +kernel
theorem dX4_usedBarsCross_45 : decode cX4_usedBarsCross 45 = .ok (.ireturn, 1) := by decide +kernel
theorem dX4_usedBarsCross_46 : decode cX4_usedBarsCross 46 = .ok (.iinc 1 1, 3) := by decide +kernel
theorem dX4_usedBarsCross_49 : decode cX4_usedBarsCross 49 = .ok (.goto (-47), 3) := by decide +kernel
theorem dX4_usedBarsCross_52 : decode cX4_usedBarsCross 52 = .ok (.iconst 0, 1) := by decide +kernel
theorem dX4_usedBarsCross_53 : decode cX4_usedBarsCross 53 = .ok (.ireturn, 1) := by decide +kernel
theorem dX4_wholeSizesTop_0 : decode cX4_wholeSizesTop 0 = .ok (.lconst 0, 1) := by decide +kernel
theorem dX4_wholeSizesTop_1 : decode cX4_wholeSizesTop 1 = .ok (.lstore_n 1, 1) := by decide +kernel
theorem dX4_wholeSizesTop_2 : decode cX4_wholeSizesTop 2 = .ok (.iconst 0, 1) := by decide +kernel
theorem dX4_wholeSizesTop_3 : decode cX4_wholeSizesTop 3 = .ok (.istore_n 3, 1) := by decide +kernel
theorem dX4_wholeSizesTop_4 : decode cX4_wholeSizesTop 4 = .ok (.iload_n 3, 1) := by decide +kernel
theorem dX4_wholeSizesTop_5 : decode cX4_wholeSizesTop 5 = .ok (.aload_n 0, 1) := by decide +kernel
theorem dX4_wholeSizesTop_6 : decode cX4_wholeSizesTop 6 = .ok (.getfield 26, 3) := by decide +kernel
theorem dX4_wholeSizesTop_9 : decode cX4_wholeSizesTop 9 = .ok (.getfield 53, 3) := by decide +kernel
theorem dX4_wholeSizesTop_12 : decode cX4_wholeSizesTop 12 = .ok (.if_icmp .ge 56, 3) := by decide +kernel
theorem dX4_wholeSizesTop_15 : decode cX4_wholeSizesTop 15 = .ok (.aload_n 0, 1) := by decide +kernel
theorem dX4_wholeSizesTop_16 : decode cX4_wholeSizesTop 16 = .ok (.getfield 12, 3) := by decide +kernel
theorem dX4_wholeSizesTop_19 : decode cX4_wholeSizesTop 19 = .ok (.iload_n 3, 1) := by decide +kernel
theorem dX4_wholeSizesTop_20 : decode cX4_wholeSizesTop 20 = .ok (.invokevirtual 171, 3) := by decide +kernel
theorem dX4_wholeSizesTop_23 : decode cX4_wholeSizesTop 23 = .ok (.ifCond .eq 39, 3) := by decide +kernel
theorem dX4_wholeSizesTop_26 : decode cX4_wholeSizesTop 26 = .ok (.aload_n 0, 1) := by decide +kernel
theorem dX4_wholeSizesTop_27 : decode cX4_wholeSizesTop 27 = .ok (.aload_n 0, 1) := by decide +kernel
theorem dX4_wholeSizesTop_28 : decode cX4_wholeSizesTop 28 = .ok (.getfield 12, 3) := by decide +kernel
theorem dX4_wholeSizesTop_31 : decode cX4_wholeSizesTop 31 = .ok (.iload_n 3, 1) := by decide +kernel
theorem dX4_wholeSizesTop_32 : decode cX4_wholeSizesTop 32 = .ok (.invokevirtual 177, 3) := by decide +kernel
theorem dX4_wholeSizesTop_35 : decode cX4_wholeSizesTop 35 = .ok (.istore 4, 2) := by decide +kernel
theorem dX4_wholeSizesTop_37 : decode cX4_wholeSizesTop 37 = .ok (.iload 4, 2) := by decide +kernel
theorem dX4_wholeSizesTop_39 : decode cX4_wholeSizesTop 39 = .ok (.ifCond .ne 7, 3) := by decide +kernel
theorem dX4_wholeSizesTop_42 : decode cX4_wholeSizesTop 42 = .ok (.ldc2_w 133, 3) := by decide +kernel
theorem dX4_wholeSizesTop_45 : decode cX4_wholeSizesTop 45 = .ok (.lreturn, 1) := by decide +kernel
theorem dX4_wholeSizesTop_46 : decode cX4_wholeSizesTop 46 = .ok (.lload_n 1, 1) := by decide +kernel
theorem dX4_wholeSizesTop_47 : decode cX4_wholeSizesTop 47 = .ok (.aload_n 0, 1) := by decide +kernel
theorem dX4_wholeSizesTop_48 : decode cX4_wholeSizesTop 48 = .ok (.getfield 26, 3) := by decide +kernel
theorem dX4_wholeSizesTop_51 : decode cX4_wholeSizesTop 51 = .ok (.getfield 110, 3) := by decide +kernel
theorem dX4_wholeSizesTop_54 : decode cX4_wholeSizesTop 54 = .ok (.iload_n 3, 1) := by decide +kernel
theorem dX4_wholeSizesTop_55 : decode cX4_wholeSizesTop 55 = .ok (.iaload, 1) := by decide +kernel
theorem dX4_wholeSizesTop_56 : decode cX4_wholeSizesTop 56 = .ok (.iload 4, 2) := by decide +kernel
theorem dX4_wholeSizesTop_58 : decode cX4_wholeSizesTop 58 = .ok (.imul, 1) := by decide +kernel
theorem dX4_wholeSizesTop_59 : decode cX4_wholeSizesTop 59 = .ok (.i2l, 1) := by decide +kernel
theorem dX4_wholeSizesTop_60 : decode cX4_wholeSizesTop 60 = .ok (.ladd, 1) := by decide +kernel
theorem dX4_wholeSizesTop_61 : decode cX4_wholeSizesTop 61 = .ok (.lstore_n 1, 1) := by decide +kernel
theorem dX4_wholeSizesTop_62 : decode cX4_wholeSizesTop 62 = .ok (.iinc 3 1, 3) := by decide +kernel
theorem dX4_wholeSizesTop_65 : decode cX4_wholeSizesTop 65 = .ok (.goto (-61), 3) := by decide +kernel
theorem dX4_wholeSizesTop_68 : decode cX4_wholeSizesTop 68 = .ok (.lload_n 1, 1) := by decide +kernel
theorem dX4_wholeSizesTop_69 : decode cX4_wholeSizesTop 69 = .ok (.aload_n 0, 1) := by decide +kernel
theorem dX4_wholeSizesTop_70 : decode cX4_wholeSizesTop 70 = .ok (.getfield 12, 3) := by decide +kernel
theorem dX4_wholeSizesTop_73 : decode cX4_wholeSizesTop 73 = .ok (.getfield 87, 3) := by decide +kernel
theorem dX4_wholeSizesTop_76 : decode cX4_wholeSizesTop 76 = .ok (.lmul, 1) := by decide +kernel
theorem dX4_wholeSizesTop_77 : decode cX4_wholeSizesTop 77 = .ok (.lreturn, 1) := by decide +kernel
theorem dX4_pricesTop_0 : decode cX4_pricesTop 0 = .ok (.aload_n 0, 1) := by decide +kernel
theorem dX4_pricesTop_1 : decode cX4_pricesTop 1 = .ok (.getfield 26, 3) := by decide +kernel
theorem dX4_pricesTop_4 : decode cX4_pricesTop 4 = .ok (.getfield 181, 3) := by decide +kernel
theorem dX4_pricesTop_7 : decode cX4_pricesTop 7 = .ok (.aload_n 0, 1) := by decide +kernel
theorem dX4_pricesTop_8 : decode cX4_pricesTop 8 = .ok (.getfield 12, 3) := by decide +kernel
theorem dX4_pricesTop_11 : decode cX4_pricesTop 11 = .ok (.getfield 91, 3) := by decide +kernel
theorem dX4_pricesTop_14 : decode cX4_pricesTop 14 = .ok (.invokestatic 58, 3) := by decide +kernel
theorem dX4_pricesTop_17 : decode cX4_pricesTop 17 = .ok (.imul, 1) := by decide +kernel
theorem dX4_pricesTop_18 : decode cX4_pricesTop 18 = .ok (.i2l, 1) := by decide +kernel
theorem dX4_pricesTop_19 : decode cX4_pricesTop 19 = .ok (.aload_n 0, 1) := by decide +kernel
theorem dX4_pricesTop_20 : decode cX4_pricesTop 20 = .ok (.getfield 12, 3) := by decide +kernel
theorem dX4_pricesTop_23 : decode cX4_pricesTop 23 = .ok (.getfield 87, 3) := by decide +kernel
theorem dX4_pricesTop_26 : decode cX4_pricesTop 26 = .ok (.lmul, 1) := by decide +kernel
theorem dX4_pricesTop_27 : decode cX4_pricesTop 27 = .ok (.lreturn, 1) := by decide +kernel
theorem dX5_init_0 : decode cX5_init 0 = .ok (.aload_n 0, 1) := by decide +kernel
theorem dX5_init_1 : decode cX5_init 1 = .ok (.invokespecial 3, 3) := by decide +kernel
theorem dX5_init_4 : decode cX5_init 4 = .ok (.aload_n 0, 1) := by decide +kernel
theorem dX5_init_5 : decode cX5_init 5 = .ok (.new 9, 3) := by decide +kernel
theorem dX5_init_8 : decode cX5_init 8 = .ok (.dup, 1) := by decide +kernel
theorem dX5_init_9 : decode cX5_init 9 = .ok (.invokespecial 11, 3) := by decide +kernel
theorem dX5_init_12 : decode cX5_init 12 = .ok (.putfield 12, 3) := by decide +kernel
theorem dX5_init_15 : decode cX5_init 15 = .ok (.aload_n 0, 1) := by decide +kernel
theorem dX5_init_16 : decode cX5_init 16 = .ok (.new 16, 3) := by decide +kernel
theorem dX5_init_19 : decode cX5_init 19 = .ok (.dup, 1) := by decide +kernel
theorem dX5_init_20 : decode cX5_init 20 = .ok (.aload_n 0, 1) := by decide +kernel
theorem dX5_init_21 : decode cX5_init 21 = .ok (.getfield 12, 3) := by decide +kernel
theorem dX5_init_24 : decode cX5_init 24 = .ok (.invokespecial 18, 3) := by decide +kernel
theorem dX5_init_27 : decode cX5_init 27 = .ok (.putfield 21, 3) := by decide +kernel
theorem dX5_init_30 : decode cX5_init 30 = .ok (.aload_n 0, 1) := by decide +kernel
theorem dX5_init_31 : decode cX5_init 31 = .ok (.new 25, 3) := by decide +kernel
theorem dX5_init_34 : decode cX5_init 34 = .ok (.dup, 1) := by decide +kernel
theorem dX5_init_35 : decode cX5_init 35 = .ok (.aload_n 0, 1) := by decide +kernel
theorem dX5_init_36 : decode cX5_init 36 = .ok (.getfield 12, 3) := by decide +kernel
theorem dX5_init_39 : decode cX5_init 39 = .ok (.aload_n 0, 1) := by decide +kernel
theorem dX5_init_40 : decode cX5_init 40 = .ok (.getfield 21, 3) := by decide +kernel
theorem dX5_init_43 : decode cX5_init 43 = .ok (.invokespecial 27, 3) := by decide +kernel
theorem dX5_init_46 : decode cX5_init 46 = .ok (.putfield 30, 3) := by decide +kernel
theorem dX5_init_49 : decode cX5_init 49 = .ok (.return_, 1) := by decide +kernel
theorem dX5_joint_0 : decode cX5_joint 0 = .ok (.iload_n 1, 1) := by decide +kernel
theorem dX5_joint_1 : decode cX5_joint 1 = .ok (.invokestatic 34, 3) := by decide +kernel
theorem dX5_joint_4 : decode cX5_joint 4 = .ok (.ifCond .eq 10, 3) := by decide +kernel
theorem dX5_joint_7 : decode cX5_joint 7 = .ok (.iload_n 2, 1) := by decide +kernel
theorem dX5_joint_8 : decode cX5_joint 8 = .ok (.invokestatic 34, 3) := by decide +kernel
theorem dX5_joint_11 : decode cX5_joint 11 = .ok (.ifCond .ne 6, 3) := by decide +kernel
theorem dX5_joint_14 : decode cX5_joint 14 = .ok (.bipush (-2), 2) := by decide +kernel
theorem dX5_joint_16 : decode cX5_joint 16 = .ok (.ireturn, 1) := by decide +kernel
theorem dX5_joint_17 : decode cX5_joint 17 = .ok (.aload_n 0, 1) := by decide +kernel
theorem dX5_joint_18 : decode cX5_joint 18 = .ok (.getfield 12, 3) := by decide +kernel
theorem dX5_joint_21 : decode cX5_joint 21 = .ok (.getfield 38, 3) := by decide +kernel
theorem dX5_joint_24 : decode cX5_joint 24 = .ok (.bipush 6, 2) := by decide +kernel
theorem dX5_joint_26 : decode cX5_joint 26 = .ok (.if_icmp .ge 18, 3) := by decide +kernel
theorem dX5_joint_29 : decode cX5_joint 29 = .ok (.iload_n 3, 1) := by decide +kernel
theorem dX5_joint_30 : decode cX5_joint 30 = .ok (.ifCond .ne 17, 3) := by decide +kernel
theorem dX5_joint_33 : decode cX5_joint 33 = .ok (.aload_n 0, 1) := by decide +kernel
theorem dX5_joint_34 : decode cX5_joint 34 = .ok (.getfield 12, 3) := by decide +kernel
theorem dX5_joint_37 : decode cX5_joint 37 = .ok (.getfield 42, 3) := by decide +kernel
theorem dX5_joint_40 : decode cX5_joint 40 = .ok (.iconst 3, 1) := by decide +kernel
theorem dX5_joint_41 : decode cX5_joint 41 = .ok (.if_icmp .lt 6, 3) := by decide +kernel
theorem dX5_joint_44 : decode cX5_joint 44 = .ok (.bipush (-4), 2) := by decide +kernel
theorem dX5_joint_46 : decode cX5_joint 46 = .ok (.ireturn, 1) := by decide +kernel
theorem dX5_joint_47 : decode cX5_joint 47 = .ok (.aload_n 0, 1) := by decide +kernel
theorem dX5_joint_48 : decode cX5_joint 48 = .ok (.getfield 12, 3) := by decide +kernel
theorem dX5_joint_51 : decode cX5_joint 51 = .ok (.iload_n 1, 1) := by decide +kernel
theorem dX5_joint_52 : decode cX5_joint 52 = .ok (.iload_n 2, 1) := by decide +kernel
theorem dX5_joint_53 : decode cX5_joint 53 = .ok (.invokevirtual 45, 3) := by decide +kernel
theorem dX5_joint_56 : decode cX5_joint 56 = .ok (.ifCond .eq 6, 3) := by decide +kernel
theorem dX5_joint_59 : decode cX5_joint 59 = .ok (.bipush (-5), 2) := by decide +kernel
theorem dX5_joint_61 : decode cX5_joint 61 = .ok (.ireturn, 1) := by decide +kernel
theorem dX5_joint_62 : decode cX5_joint 62 = .ok (.aload_n 0, 1) := by decide +kernel
theorem dX5_joint_63 : decode cX5_joint 63 = .ok (.invokevirtual 49, 3) := by decide +kernel
theorem dX5_joint_66 : decode cX5_joint 66 = .ok (.aload_n 0, 1) := by decide +kernel
theorem dX5_joint_67 : decode cX5_joint 67 = .ok (.getfield 12, 3) := by decide +kernel
theorem dX5_joint_70 : decode cX5_joint 70 = .ok (.iload_n 1, 1) := by decide +kernel
theorem dX5_joint_71 : decode cX5_joint 71 = .ok (.iload_n 2, 1) := by decide +kernel
theorem dX5_joint_72 : decode cX5_joint 72 = .ok (.iload_n 3, 1) := by decide +kernel
theorem dX5_joint_73 : decode cX5_joint 73 = .ok (.invokevirtual 52, 3) := by decide +kernel
theorem dX5_joint_76 : decode cX5_joint 76 = .ok (.ireturn, 1) := by decide +kernel
theorem dX5_bar_0 : decode cX5_bar 0 = .ok (.aload_n 0, 1) := by decide +kernel
theorem dX5_bar_1 : decode cX5_bar 1 = .ok (.getfield 12, 3) := by decide +kernel
theorem dX5_bar_4 : decode cX5_bar 4 = .ok (.iload_n 1, 1) := by decide +kernel
theorem dX5_bar_5 : decode cX5_bar 5 = .ok (.invokevirtual 56, 3) := by decide +kernel
theorem dX5_bar_8 : decode cX5_bar 8 = .ok (.ifCond .eq 19, 3) := by decide +kernel
theorem dX5_bar_11 : decode cX5_bar 11 = .ok (.aload_n 0, 1) := by decide +kernel
theorem dX5_bar_12 : decode cX5_bar 12 = .ok (.getfield 12, 3) := by decide +kernel
theorem dX5_bar_15 : decode cX5_bar 15 = .ok (.iload_n 2, 1) := by decide +kernel
theorem dX5_bar_16 : decode cX5_bar 16 = .ok (.invokevirtual 56, 3) := by decide +kernel
theorem dX5_bar_19 : decode cX5_bar 19 = .ok (.ifCond .eq 8, 3) := by decide +kernel
theorem dX5_bar_22 : decode cX5_bar 22 = .ok (.iload_n 1, 1) := by decide +kernel
theorem dX5_bar_23 : decode cX5_bar 23 = .ok (.iload_n 2, 1) := by decide +kernel
theorem dX5_bar_24 : decode cX5_bar 24 = .ok (.if_icmp .ne 5, 3) := by decide +kernel
theorem dX5_bar_27 : decode cX5_bar 27 = .ok (.iconst (-1), 1) := by decide +kernel
theorem dX5_bar_28 : decode cX5_bar 28 = .ok (.ireturn, 1) := by decide +kernel
theorem dX5_bar_29 : decode cX5_bar 29 = .ok (.aload_n 0, 1) := by decide +kernel
theorem dX5_bar_30 : decode cX5_bar 30 = .ok (.getfield 12, 3) := by decide +kernel
theorem dX5_bar_33 : decode cX5_bar 33 = .ok (.getfield 59, 3) := by decide +kernel
theorem dX5_bar_36 : decode cX5_bar 36 = .ok (.bipush 10, 2) := by decide +kernel
theorem dX5_bar_38 : decode cX5_bar 38 = .ok (.if_icmp .lt 6, 3) := by decide +kernel
theorem dX5_bar_41 : decode cX5_bar 41 = .ok (.bipush (-4), 2) := by decide +kernel
theorem dX5_bar_43 : decode cX5_bar 43 = .ok (.ireturn, 1) := by decide +kernel
theorem dX5_bar_44 : decode cX5_bar 44 = .ok (.aload_n 0, 1) := by decide +kernel
theorem dX5_bar_45 : decode cX5_bar 45 = .ok (.getfield 12, 3) := by decide +kernel
theorem dX5_bar_48 : decode cX5_bar 48 = .ok (.iload_n 1, 1) := by decide +kernel
theorem dX5_bar_49 : decode cX5_bar 49 = .ok (.iload_n 2, 1) := by decide +kernel
theorem dX5_bar_50 : decode cX5_bar 50 = .ok (.invokevirtual 62, 3) := by decide +kernel
theorem dX5_bar_53 : decode cX5_bar 53 = .ok (.ifCond .eq 6, 3) := by decide +kernel
theorem dX5_bar_56 : decode cX5_bar 56 = .ok (.bipush (-5), 2) := by decide +kernel
theorem dX5_bar_58 : decode cX5_bar 58 = .ok (.ireturn, 1) := by decide +kernel
theorem dX5_bar_59 : decode cX5_bar 59 = .ok (.aload_n 0, 1) := by decide +kernel
theorem dX5_bar_60 : decode cX5_bar 60 = .ok (.invokevirtual 49, 3) := by decide +kernel
theorem dX5_bar_63 : decode cX5_bar 63 = .ok (.aload_n 0, 1) := by decide +kernel
theorem dX5_bar_64 : decode cX5_bar 64 = .ok (.getfield 12, 3) := by decide +kernel
theorem dX5_bar_67 : decode cX5_bar 67 = .ok (.iload_n 1, 1) := by decide +kernel
theorem dX5_bar_68 : decode cX5_bar 68 = .ok (.iload_n 2, 1) := by decide +kernel
theorem dX5_bar_69 : decode cX5_bar 69 = .ok (.invokevirtual 65, 3) := by decide +kernel
theorem dX5_bar_72 : decode cX5_bar 72 = .ok (.ireturn, 1) := by decide +kernel
theorem dX5_load_0 : decode cX5_load 0 = .ok (.aload_n 0, 1) := by decide +kernel
theorem dX5_load_1 : decode cX5_load 1 = .ok (.getfield 12, 3) := by decide +kernel
theorem dX5_load_4 : decode cX5_load 4 = .ok (.iload_n 1, 1) := by decide +kernel
theorem dX5_load_5 : decode cX5_load 5 = .ok (.invokevirtual 56, 3) := by decide +kernel
theorem dX5_load_8 : decode cX5_load 8 = .ok (.ifCond .ne 5, 3) := by decide +kernel
theorem dX5_load_11 : decode cX5_load 11 = .ok (.iconst (-1), 1) := by decide +kernel
theorem dX5_load_12 : decode cX5_load 12 = .ok (.ireturn, 1) := by decide +kernel
theorem dX5_load_13 : decode cX5_load 13 = .ok (.iload_n 2, 1) := by decide +kernel
theorem dX5_load_14 : decode cX5_load 14 = .ok (.invokestatic 69, 3) := by decide +kernel
theorem dX5_load_17 : decode cX5_load 17 = .ok (.ifCond .eq 10, 3) := by decide +kernel
theorem dX5_load_20 : decode cX5_load 20 = .ok (.iload_n 3, 1) := by decide +kernel
theorem dX5_load_21 : decode cX5_load 21 = .ok (.invokestatic 69, 3) := by decide +kernel
theorem dX5_load_24 : decode cX5_load 24 = .ok (.ifCond .ne 6, 3) := by decide +kernel
theorem dX5_load_27 : decode cX5_load 27 = .ok (.bipush (-2), 2) := by decide +kernel
theorem dX5_load_29 : decode cX5_load 29 = .ok (.ireturn, 1) := by decide +kernel
theorem dX5_load_30 : decode cX5_load 30 = .ok (.aload_n 0, 1) := by decide +kernel
theorem dX5_load_31 : decode cX5_load 31 = .ok (.getfield 12, 3) := by decide +kernel
theorem dX5_load_34 : decode cX5_load 34 = .ok (.getfield 72, 3) := by decide +kernel
theorem dX5_load_37 : decode cX5_load 37 = .ok (.iload_n 1, 1) := by decide +kernel
theorem dX5_load_38 : decode cX5_load 38 = .ok (.iaload, 1) := by decide +kernel
theorem dX5_load_39 : decode cX5_load 39 = .ok (.istore 4, 2) := by decide +kernel
theorem dX5_load_41 : decode cX5_load 41 = .ok (.iload 4, 2) := by decide +kernel
theorem dX5_load_43 : decode cX5_load 43 = .ok (.iconst (-1), 1) := by decide +kernel
theorem dX5_load_44 : decode cX5_load 44 = .ok (.if_icmp .ne 6, 3) := by decide +kernel
theorem dX5_load_47 : decode cX5_load 47 = .ok (.bipush (-5), 2) := by decide +kernel
theorem dX5_load_49 : decode cX5_load 49 = .ok (.ireturn, 1) := by decide +kernel
theorem dX5_load_50 : decode cX5_load 50 = .ok (.aload_n 0, 1) := by decide +kernel
theorem dX5_load_51 : decode cX5_load 51 = .ok (.invokevirtual 49, 3) := by decide +kernel
theorem dX5_load_54 : decode cX5_load 54 = .ok (.aload_n 0, 1) := by decide +kernel
theorem dX5_load_55 : decode cX5_load 55 = .ok (.getfield 12, 3) := by decide +kernel
theorem dX5_load_58 : decode cX5_load 58 = .ok (.getfield 76, 3) := by decide +kernel
theorem dX5_load_61 : decode cX5_load 61 = .ok (.iload 4, 2) := by decide +kernel
theorem dX5_load_63 : decode cX5_load 63 = .ok (.iload_n 2, 1) := by decide +kernel
theorem dX5_load_64 : decode cX5_load 64 = .ok (.iastore, 1) := by decide +kernel
theorem dX5_load_65 : decode cX5_load 65 = .ok (.aload_n 0, 1) := by decide +kernel
theorem dX5_load_66 : decode cX5_load 66 = .ok (.getfield 12, 3) := by decide +kernel
theorem dX5_load_69 : decode cX5_load 69 = .ok (.getfield 76, 3) := by decide +kernel
theorem dX5_load_72 : decode cX5_load 72 = .ok (.iload 4, 2) := by decide +kernel
theorem dX5_load_74 : decode cX5_load 74 = .ok (.iconst 1, 1) := by decide +kernel
theorem dX5_load_75 : decode cX5_load 75 = .ok (.iadd, 1) := by decide +kernel
theorem dX5_load_76 : decode cX5_load 76 = .ok (.iload_n 3, 1) := by decide +kernel
theorem dX5_load_77 : decode cX5_load 77 = .ok (.iastore, 1) := by decide +kernel
theorem dX5_load_78 : decode cX5_load 78 = .ok (.iconst 1, 1) := by decide +kernel
theorem dX5_load_79 : decode cX5_load 79 = .ok (.ireturn, 1) := by decide +kernel
theorem dX5_about_0 : decode cX5_about 0 = .ok (.aload_n 0, 1) := by decide +kernel
theorem dX5_about_1 : decode cX5_about 1 = .ok (.getfield 12, 3) := by decide +kernel
theorem dX5_about_4 : decode cX5_about 4 = .ok (.iload_n 1, 1) := by decide +kernel
theorem dX5_about_5 : decode cX5_about 5 = .ok (.invokevirtual 56, 3) := by decide +kernel
theorem dX5_about_8 : decode cX5_about 8 = .ok (.ifCond .ne 6, 3) := by decide +kernel
theorem dX5_about_11 : decode cX5_about 11 = .ok (.bipush (-101), 2) := by decide +kernel
theorem dX5_about_13 : decode cX5_about 13 = .ok (.ireturn, 1) := by decide +kernel
theorem dX5_about_14 : decode cX5_about 14 = .ok (.aload_n 0, 1) := by decide +kernel
theorem dX5_about_15 : decode cX5_about 15 = .ok (.getfield 12, 3) := by decide +kernel
theorem dX5_about_18 : decode cX5_about 18 = .ok (.getfield 72, 3) := by decide +kernel
theorem dX5_about_21 : decode cX5_about 21 = .ok (.iload_n 1, 1) := by decide +kernel
theorem dX5_about_22 : decode cX5_about 22 = .ok (.iaload, 1) := by decide +kernel
theorem dX5_about_23 : decode cX5_about 23 = .ok (.istore_n 3, 1) := by decide +kernel
theorem dX5_about_24 : decode cX5_about 24 = .ok (.iload_n 2, 1) := by decide +kernel
theorem dX5_about_25 : decode cX5_about 25 = .ok (.tableswitch 106 0 4 #[35, 45, 55, 66, 85], 35) := by decide +kernel
theorem dX5_about_60 : decode cX5_about 60 = .ok (.aload_n 0, 1) := by decide +kernel
theorem dX5_about_61 : decode cX5_about 61 = .ok (.getfield 12, 3) := by decide +kernel
theorem dX5_about_64 : decode cX5_about 64 = .ok (.getfield 79, 3) := by decide +kernel
theorem dX5_about_67 : decode cX5_about 67 = .ok (.iload_n 1, 1) := by decide +kernel
theorem dX5_about_68 : decode cX5_about 68 = .ok (.iaload, 1) := by decide +kernel
theorem dX5_about_69 : decode cX5_about 69 = .ok (.ireturn, 1) := by decide +kernel
theorem dX5_about_70 : decode cX5_about 70 = .ok (.aload_n 0, 1) := by decide +kernel
theorem dX5_about_71 : decode cX5_about 71 = .ok (.getfield 12, 3) := by decide +kernel
theorem dX5_about_74 : decode cX5_about 74 = .ok (.getfield 82, 3) := by decide +kernel
theorem dX5_about_77 : decode cX5_about 77 = .ok (.iload_n 1, 1) := by decide +kernel
theorem dX5_about_78 : decode cX5_about 78 = .ok (.iaload, 1) := by decide +kernel
theorem dX5_about_79 : decode cX5_about 79 = .ok (.ireturn, 1) := by decide +kernel
theorem dX5_about_80 : decode cX5_about 80 = .ok (.iload_n 3, 1) := by decide +kernel
theorem dX5_about_81 : decode cX5_about 81 = .ok (.iconst (-1), 1) := by decide +kernel
theorem dX5_about_82 : decode cX5_about 82 = .ok (.if_icmp .ne 7, 3) := by decide +kernel
theorem dX5_about_85 : decode cX5_about 85 = .ok (.iconst 1, 1) := by decide +kernel
theorem dX5_about_86 : decode cX5_about 86 = .ok (.goto 4, 3) := by decide +kernel
theorem dX5_about_89 : decode cX5_about 89 = .ok (.iconst 0, 1) := by decide +kernel
theorem dX5_about_90 : decode cX5_about 90 = .ok (.ireturn, 1) := by decide +kernel
theorem dX5_about_91 : decode cX5_about 91 = .ok (.iload_n 3, 1) := by decide +kernel
theorem dX5_about_92 : decode cX5_about 92 = .ok (.iconst (-1), 1) := by decide +kernel
theorem dX5_about_93 : decode cX5_about 93 = .ok (.if_icmp .ne 7, 3) := by decide +kernel
theorem dX5_about_96 : decode cX5_about 96 = .ok (.iconst 0, 1) := by decide +kernel
theorem dX5_about_97 : decode cX5_about 97 = .ok (.goto 12, 3) := by decide +kernel
theorem dX5_about_100 : decode cX5_about 100 = .ok (.aload_n 0, 1) := by decide +kernel
theorem dX5_about_101 : decode cX5_about 101 = .ok (.getfield 12, 3) := by decide +kernel
theorem dX5_about_104 : decode cX5_about 104 = .ok (.getfield 76, 3) := by decide +kernel
theorem dX5_about_107 : decode cX5_about 107 = .ok (.iload_n 3, 1) := by decide +kernel
theorem dX5_about_108 : decode cX5_about 108 = .ok (.iaload, 1) := by decide +kernel
theorem dX5_about_109 : decode cX5_about 109 = .ok (.ireturn, 1) := by decide +kernel
theorem dX5_about_110 : decode cX5_about 110 = .ok (.iload_n 3, 1) := by decide +kernel
theorem dX5_about_111 : decode cX5_about 111 = .ok (.iconst (-1), 1) := by decide +kernel
theorem dX5_about_112 : decode cX5_about 112 = .ok (.if_icmp .ne 7, 3) := by decide +kernel
theorem dX5_about_115 : decode cX5_about 115 = .ok (.iconst 0, 1) := by decide +kernel
theorem dX5_about_116 : decode cX5_about 116 = .ok (.goto 14, 3) := by decide +kernel
theorem dX5_about_119 : decode cX5_about 119 = .ok (.aload_n 0, 1) := by decide +kernel
theorem dX5_about_120 : decode cX5_about 120 = .ok (.getfield 12, 3) := by decide +kernel
theorem dX5_about_123 : decode cX5_about 123 = .ok (.getfield 76, 3) := by decide +kernel
theorem dX5_about_126 : decode cX5_about 126 = .ok (.iload_n 3, 1) := by decide +kernel
theorem dX5_about_127 : decode cX5_about 127 = .ok (.iconst 1, 1) := by decide +kernel
theorem dX5_about_128 : decode cX5_about 128 = .ok (.iadd, 1) := by decide +kernel
theorem dX5_about_129 : decode cX5_about 129 = .ok (.iaload, 1) := by decide +kernel
theorem dX5_about_130 : decode cX5_about 130 = .ok (.ireturn, 1) := by decide +kernel
theorem dX5_about_131 : decode cX5_about 131 = .ok (.bipush (-102), 2) := by decide +kernel
theorem dX5_about_133 : decode cX5_about 133 = .ok (.ireturn, 1) := by decide +kernel
theorem dX5_ofBar_0 : decode cX5_ofBar 0 = .ok (.aload_n 0, 1) := by decide +kernel
theorem dX5_ofBar_1 : decode cX5_ofBar 1 = .ok (.getfield 12, 3) := by decide +kernel
theorem dX5_ofBar_4 : decode cX5_ofBar 4 = .ok (.iload_n 1, 1) := by decide +kernel
theorem dX5_ofBar_5 : decode cX5_ofBar 5 = .ok (.invokevirtual 85, 3) := by decide +kernel
theorem dX5_ofBar_8 : decode cX5_ofBar 8 = .ok (.ifCond .ne 5, 3) := by decide +kernel
theorem dX5_ofBar_11 : decode cX5_ofBar 11 = .ok (.iconst (-1), 1) := by decide +kernel
theorem dX5_ofBar_12 : decode cX5_ofBar 12 = .ok (.ireturn, 1) := by decide +kernel
theorem dX5_ofBar_13 : decode cX5_ofBar 13 = .ok (.iload_n 2, 1) := by decide +kernel
theorem dX5_ofBar_14 : decode cX5_ofBar 14 = .ok (.tableswitch 56 0 2 #[26, 36, 46], 26) := by decide +kernel
theorem dX5_ofBar_40 : decode cX5_ofBar 40 = .ok (.aload_n 0, 1) := by decide +kernel
theorem dX5_ofBar_41 : decode cX5_ofBar 41 = .ok (.getfield 12, 3) := by decide +kernel
theorem dX5_ofBar_44 : decode cX5_ofBar 44 = .ok (.getfield 88, 3) := by decide +kernel
theorem dX5_ofBar_47 : decode cX5_ofBar 47 = .ok (.iload_n 1, 1) := by decide +kernel
theorem dX5_ofBar_48 : decode cX5_ofBar 48 = .ok (.iaload, 1) := by decide +kernel
theorem dX5_ofBar_49 : decode cX5_ofBar 49 = .ok (.ireturn, 1) := by decide +kernel
theorem dX5_ofBar_50 : decode cX5_ofBar 50 = .ok (.aload_n 0, 1) := by decide +kernel
theorem dX5_ofBar_51 : decode cX5_ofBar 51 = .ok (.getfield 12, 3) := by decide +kernel
theorem dX5_ofBar_54 : decode cX5_ofBar 54 = .ok (.getfield 91, 3) := by decide +kernel
theorem dX5_ofBar_57 : decode cX5_ofBar 57 = .ok (.iload_n 1, 1) := by decide +kernel
theorem dX5_ofBar_58 : decode cX5_ofBar 58 = .ok (.iaload, 1) := by decide +kernel
theorem dX5_ofBar_59 : decode cX5_ofBar 59 = .ok (.ireturn, 1) := by decide +kernel
theorem dX5_ofBar_60 : decode cX5_ofBar 60 = .ok (.aload_n 0, 1) := by decide +kernel
theorem dX5_ofBar_61 : decode cX5_ofBar 61 = .ok (.getfield 12, 3) := by decide +kernel
theorem dX5_ofBar_64 : decode cX5_ofBar 64 = .ok (.getfield 94, 3) := by decide +kernel
theorem dX5_ofBar_67 : decode cX5_ofBar 67 = .ok (.iload_n 1, 1) := by decide +kernel
theorem dX5_ofBar_68 : decode cX5_ofBar 68 = .ok (.iaload, 1) := by decide +kernel
theorem dX5_ofBar_69 : decode cX5_ofBar 69 = .ok (.ireturn, 1) := by decide +kernel
theorem dX5_ofBar_70 : decode cX5_ofBar 70 = .ok (.bipush (-2), 2) := by decide +kernel
theorem dX5_ofBar_72 : decode cX5_ofBar 72 = .ok (.ireturn, 1) := by decide +kernel
theorem dX5_size_0 : decode cX5_size 0 = .ok (.iload_n 1, 1) := by decide +kernel
theorem dX5_size_1 : decode cX5_size 1 = .ok (.iconst 1, 1) := by decide +kernel
theorem dX5_size_2 : decode cX5_size 2 = .ok (.if_icmp .lt 10, 3) := by decide +kernel
theorem dX5_size_5 : decode cX5_size 5 = .ok (.iload_n 1, 1) := by decide +kernel
theorem dX5_size_6 : decode cX5_size 6 = .ok (.sipush 200, 3) := by decide +kernel
theorem dX5_size_9 : decode cX5_size 9 = .ok (.if_icmp .le 6, 3) := by decide +kernel
theorem dX5_size_12 : decode cX5_size 12 = .ok (.bipush (-2), 2) := by decide +kernel
theorem dX5_size_14 : decode cX5_size 14 = .ok (.ireturn, 1) := by decide +kernel
theorem dX5_size_15 : decode cX5_size 15 = .ok (.aload_n 0, 1) := by decide +kernel
theorem dX5_size_16 : decode cX5_size 16 = .ok (.getfield 12, 3) := by decide +kernel
theorem dX5_size_19 : decode cX5_size 19 = .ok (.getfield 97, 3) := by decide +kernel
theorem dX5_size_22 : decode cX5_size 22 = .ok (.iconst 5, 1) := by decide +kernel
theorem dX5_size_23 : decode cX5_size 23 = .ok (.if_icmp .lt 6, 3) := by decide +kernel
theorem dX5_size_26 : decode cX5_size 26 = .ok (.bipush (-4), 2) := by decide +kernel
theorem dX5_size_28 : decode cX5_size 28 = .ok (.ireturn, 1) := by decide +kernel
theorem dX5_size_29 : decode cX5_size 29 = .ok (.aload_n 0, 1) := by decide +kernel
theorem dX5_size_30 : decode cX5_size 30 = .ok (.getfield 12, 3) := by decide +kernel
theorem dX5_size_33 : decode cX5_size 33 = .ok (.iload_n 1, 1) := by decide +kernel
theorem dX5_size_34 : decode cX5_size 34 = .ok (.invokevirtual 100, 3) := by decide +kernel
theorem dX5_size_37 : decode cX5_size 37 = .ok (.ifCond .eq 6, 3) := by decide +kernel
theorem dX5_size_40 : decode cX5_size 40 = .ok (.bipush (-5), 2) := by decide +kernel
theorem dX5_size_42 : decode cX5_size 42 = .ok (.ireturn, 1) := by decide +kernel
theorem dX5_size_43 : decode cX5_size 43 = .ok (.aload_n 0, 1) := by decide +kernel
theorem dX5_size_44 : decode cX5_size 44 = .ok (.invokevirtual 49, 3) := by decide +kernel
theorem dX5_size_47 : decode cX5_size 47 = .ok (.aload_n 0, 1) := by decide +kernel
theorem dX5_size_48 : decode cX5_size 48 = .ok (.getfield 12, 3) := by decide +kernel
theorem dX5_size_51 : decode cX5_size 51 = .ok (.iload_n 1, 1) := by decide +kernel
theorem dX5_size_52 : decode cX5_size 52 = .ok (.invokevirtual 103, 3) := by decide +kernel
theorem dX5_size_55 : decode cX5_size 55 = .ok (.ireturn, 1) := by decide +kernel
theorem dX5_price_0 : decode cX5_price 0 = .ok (.iload_n 1, 1) := by decide +kernel
theorem dX5_price_1 : decode cX5_price 1 = .ok (.ifCond .lt 10, 3) := by decide +kernel
theorem dX5_price_4 : decode cX5_price 4 = .ok (.iload_n 1, 1) := by decide +kernel
theorem dX5_price_5 : decode cX5_price 5 = .ok (.sipush 1000, 3) := by decide +kernel
theorem dX5_price_8 : decode cX5_price 8 = .ok (.if_icmp .le 6, 3) := by decide +kernel
theorem dX5_price_11 : decode cX5_price 11 = .ok (.bipush (-2), 2) := by decide +kernel
theorem dX5_price_13 : decode cX5_price 13 = .ok (.ireturn, 1) := by decide +kernel
theorem dX5_price_14 : decode cX5_price 14 = .ok (.aload_n 0, 1) := by decide +kernel
theorem dX5_price_15 : decode cX5_price 15 = .ok (.invokevirtual 49, 3) := by decide +kernel
theorem dX5_price_18 : decode cX5_price 18 = .ok (.aload_n 0, 1) := by decide +kernel
theorem dX5_price_19 : decode cX5_price 19 = .ok (.getfield 12, 3) := by decide +kernel
theorem dX5_price_22 : decode cX5_price 22 = .ok (.getfield 107, 3) := by decide +kernel
theorem dX5_price_25 : decode cX5_price 25 = .ok (.istore_n 2, 1) := by decide +kernel
theorem dX5_price_26 : decode cX5_price 26 = .ok (.aload_n 0, 1) := by decide +kernel
theorem dX5_price_27 : decode cX5_price 27 = .ok (.getfield 12, 3) := by decide +kernel
theorem dX5_price_30 : decode cX5_price 30 = .ok (.iload_n 1, 1) := by decide +kernel
theorem dX5_price_31 : decode cX5_price 31 = .ok (.putfield 107, 3) := by decide +kernel
theorem dX5_price_34 : decode cX5_price 34 = .ok (.iload_n 2, 1) := by decide +kernel
theorem dX5_price_35 : decode cX5_price 35 = .ok (.ireturn, 1) := by decide +kernel
theorem dX5_drop_0 : decode cX5_drop 0 = .ok (.aload_n 0, 1) := by decide +kernel
theorem dX5_drop_1 : decode cX5_drop 1 = .ok (.getfield 12, 3) := by decide +kernel
theorem dX5_drop_4 : decode cX5_drop 4 = .ok (.getfield 59, 3) := by decide +kernel
theorem dX5_drop_7 : decode cX5_drop 7 = .ok (.ifCond .ne 5, 3) := by decide +kernel
theorem dX5_drop_10 : decode cX5_drop 10 = .ok (.iconst (-1), 1) := by decide +kernel
theorem dX5_drop_11 : decode cX5_drop 11 = .ok (.ireturn, 1) := by decide +kernel
theorem dX5_drop_12 : decode cX5_drop 12 = .ok (.aload_n 0, 1) := by decide +kernel
theorem dX5_drop_13 : decode cX5_drop 13 = .ok (.invokevirtual 49, 3) := by decide +kernel
theorem dX5_drop_16 : decode cX5_drop 16 = .ok (.aload_n 0, 1) := by decide +kernel
theorem dX5_drop_17 : decode cX5_drop 17 = .ok (.getfield 12, 3) := by decide +kernel
theorem dX5_drop_20 : decode cX5_drop 20 = .ok (.dup, 1) := by decide +kernel
theorem dX5_drop_21 : decode cX5_drop 21 = .ok (.getfield 59, 3) := by decide +kernel
theorem dX5_drop_24 : decode cX5_drop 24 = .ok (.iconst 1, 1) := by decide +kernel
theorem dX5_drop_25 : decode cX5_drop 25 = .ok (.isub, 1) := by decide +kernel
theorem dX5_drop_26 : decode cX5_drop 26 = .ok (.putfield 59, 3) := by decide +kernel
theorem dX5_drop_29 : decode cX5_drop 29 = .ok (.aload_n 0, 1) := by decide +kernel
theorem dX5_drop_30 : decode cX5_drop 30 = .ok (.getfield 12, 3) := by decide +kernel
theorem dX5_drop_33 : decode cX5_drop 33 = .ok (.getfield 59, 3) := by decide +kernel
theorem dX5_drop_36 : decode cX5_drop 36 = .ok (.ireturn, 1) := by decide +kernel
theorem dX5_cross_0 : decode cX5_cross 0 = .ok (.aload_n 0, 1) := by decide +kernel
theorem dX5_cross_1 : decode cX5_cross 1 = .ok (.getfield 12, 3) := by decide +kernel
theorem dX5_cross_4 : decode cX5_cross 4 = .ok (.iload_n 1, 1) := by decide +kernel
theorem dX5_cross_5 : decode cX5_cross 5 = .ok (.invokevirtual 85, 3) := by decide +kernel
theorem dX5_cross_8 : decode cX5_cross 8 = .ok (.ifCond .eq 19, 3) := by decide +kernel
theorem dX5_cross_11 : decode cX5_cross 11 = .ok (.aload_n 0, 1) := by decide +kernel
theorem dX5_cross_12 : decode cX5_cross 12 = .ok (.getfield 12, 3) := by decide +kernel
theorem dX5_cross_15 : decode cX5_cross 15 = .ok (.iload_n 2, 1) := by decide +kernel
theorem dX5_cross_16 : decode cX5_cross 16 = .ok (.invokevirtual 85, 3) := by decide +kernel
theorem dX5_cross_19 : decode cX5_cross 19 = .ok (.ifCond .eq 8, 3) := by decide +kernel
theorem dX5_cross_22 : decode cX5_cross 22 = .ok (.iload_n 1, 1) := by decide +kernel
theorem dX5_cross_23 : decode cX5_cross 23 = .ok (.iload_n 2, 1) := by decide +kernel
theorem dX5_cross_24 : decode cX5_cross 24 = .ok (.if_icmp .ne 5, 3) := by decide +kernel
theorem dX5_cross_27 : decode cX5_cross 27 = .ok (.iconst (-1), 1) := by decide +kernel
theorem dX5_cross_28 : decode cX5_cross 28 = .ok (.ireturn, 1) := by decide +kernel
theorem dX5_cross_29 : decode cX5_cross 29 = .ok (.aload_n 0, 1) := by decide +kernel
theorem dX5_cross_30 : decode cX5_cross 30 = .ok (.getfield 12, 3) := by decide +kernel
theorem dX5_cross_33 : decode cX5_cross 33 = .ok (.iload_n 1, 1) := by decide +kernel
theorem dX5_cross_34 : decode cX5_cross 34 = .ok (.iload_n 2, 1) := by decide +kernel
theorem dX5_cross_35 : decode cX5_cross 35 = .ok (.invokevirtual 110, 3) := by decide +kernel
theorem dX5_cross_38 : decode cX5_cross 38 = .ok (.ifCond .eq 7, 3) := by decide +kernel
theorem dX5_cross_41 : decode cX5_cross 41 = .ok (.iconst 1, 1) := by decide +kernel
theorem dX5_cross_42 : decode cX5_cross 42 = .ok (.goto 4, 3) := by decide +kernel
theorem dX5_cross_45 : decode cX5_cross 45 = .ok (.iconst 0, 1) := by decide +kernel
theorem dX5_cross_46 : decode cX5_cross 46 = .ok (.ireturn, 1) := by decide +kernel
theorem dX5_stiff_0 : decode cX5_stiff 0 = .ok (.iload_n 1, 1) := by decide +kernel
theorem dX5_stiff_1 : decode cX5_stiff 1 = .ok (.ifCond .lt 16, 3) := by decide +kernel
theorem dX5_stiff_4 : decode cX5_stiff 4 = .ok (.iload_n 1, 1) := by decide +kernel
theorem dX5_stiff_5 : decode cX5_stiff 5 = .ok (.iconst 1, 1) := by decide +kernel
theorem dX5_stiff_6 : decode cX5_stiff 6 = .ok (.aload_n 0, 1) := by decide +kernel
theorem dX5_stiff_7 : decode cX5_stiff 7 = .ok (.getfield 12, 3) := by decide +kernel
theorem dX5_stiff_10 : decode cX5_stiff 10 = .ok (.getfield 59, 3) := by decide +kernel
theorem dX5_stiff_13 : decode cX5_stiff 13 = .ok (.ishl, 1) := by decide +kernel
theorem dX5_stiff_14 : decode cX5_stiff 14 = .ok (.if_icmp .lt 6, 3) := by decide +kernel
theorem dX5_stiff_17 : decode cX5_stiff 17 = .ok (.bipush (-2), 2) := by decide +kernel
theorem dX5_stiff_19 : decode cX5_stiff 19 = .ok (.ireturn, 1) := by decide +kernel
theorem dX5_stiff_20 : decode cX5_stiff 20 = .ok (.aload_n 0, 1) := by decide +kernel
theorem dX5_stiff_21 : decode cX5_stiff 21 = .ok (.getfield 21, 3) := by decide +kernel
theorem dX5_stiff_24 : decode cX5_stiff 24 = .ok (.invokevirtual 113, 3) := by decide +kernel
theorem dX5_stiff_27 : decode cX5_stiff 27 = .ok (.aload_n 0, 1) := by decide +kernel
theorem dX5_stiff_28 : decode cX5_stiff 28 = .ok (.getfield 21, 3) := by decide +kernel
theorem dX5_stiff_31 : decode cX5_stiff 31 = .ok (.iload_n 1, 1) := by decide +kernel
theorem dX5_stiff_32 : decode cX5_stiff 32 = .ok (.invokevirtual 116, 3) := by decide +kernel
theorem dX5_stiff_35 : decode cX5_stiff 35 = .ok (.ifCond .eq 7, 3) := by decide +kernel
theorem dX5_stiff_38 : decode cX5_stiff 38 = .ok (.iconst 1, 1) := by decide +kernel
theorem dX5_stiff_39 : decode cX5_stiff 39 = .ok (.goto 4, 3) := by decide +kernel
theorem dX5_stiff_42 : decode cX5_stiff 42 = .ok (.iconst 0, 1) := by decide +kernel
theorem dX5_stiff_43 : decode cX5_stiff 43 = .ok (.ireturn, 1) := by decide +kernel
theorem dX5_choices_0 : decode cX5_choices 0 = .ok (.aload_n 0, 1) := by decide +kernel
theorem dX5_choices_1 : decode cX5_choices 1 = .ok (.getfield 21, 3) := by decide +kernel
theorem dX5_choices_4 : decode cX5_choices 4 = .ok (.invokevirtual 113, 3) := by decide +kernel
theorem dX5_choices_7 : decode cX5_choices 7 = .ok (.aload_n 0, 1) := by decide +kernel
theorem dX5_choices_8 : decode cX5_choices 8 = .ok (.getfield 21, 3) := by decide +kernel
theorem dX5_choices_11 : decode cX5_choices 11 = .ok (.getfield 119, 3) := by decide +kernel
theorem dX5_choices_14 : decode cX5_choices 14 = .ok (.ireturn, 1) := by decide +kernel
theorem dX5_frame_0 : decode cX5_frame 0 = .ok (.iload_n 1, 1) := by decide +kernel
theorem dX5_frame_1 : decode cX5_frame 1 = .ok (.invokestatic 122, 3) := by decide +kernel
theorem dX5_frame_4 : decode cX5_frame 4 = .ok (.ifCond .ne 6, 3) := by decide +kernel
theorem dX5_frame_7 : decode cX5_frame 7 = .ok (.bipush (-2), 2) := by decide +kernel
theorem dX5_frame_9 : decode cX5_frame 9 = .ok (.ireturn, 1) := by decide +kernel
theorem dX5_frame_10 : decode cX5_frame 10 = .ok (.aload_n 0, 1) := by decide +kernel
theorem dX5_frame_11 : decode cX5_frame 11 = .ok (.getfield 21, 3) := by decide +kernel
theorem dX5_frame_14 : decode cX5_frame 14 = .ok (.iload_n 1, 1) := by decide +kernel
theorem dX5_frame_15 : decode cX5_frame 15 = .ok (.invokevirtual 125, 3) := by decide +kernel
theorem dX5_frame_18 : decode cX5_frame 18 = .ok (.astore_n 2, 1) := by decide +kernel
theorem dX5_frame_19 : decode cX5_frame 19 = .ok (.aload_n 2, 1) := by decide +kernel
theorem dX5_frame_20 : decode cX5_frame 20 = .ok (.getfield 129, 3) := by decide +kernel
theorem dX5_frame_23 : decode cX5_frame 23 = .ok (.ifCond .eq 10, 3) := by decide +kernel
theorem dX5_frame_26 : decode cX5_frame 26 = .ok (.aload_n 2, 1) := by decide +kernel
theorem dX5_frame_27 : decode cX5_frame 27 = .ok (.getfield 135, 3) := by decide +kernel
theorem dX5_frame_30 : decode cX5_frame 30 = .ok (.goto 5, 3) := by decide +kernel
theorem dX5_frame_33 : decode cX5_frame 33 = .ok (.bipush (-6), 2) := by decide +kernel
theorem dX5_frame_35 : decode cX5_frame 35 = .ok (.ireturn, 1) := by decide +kernel
theorem dX5_cost_0 : decode cX5_cost 0 = .ok (.iload_n 1, 1) := by decide +kernel
theorem dX5_cost_1 : decode cX5_cost 1 = .ok (.invokestatic 122, 3) := by decide +kernel
theorem dX5_cost_4 : decode cX5_cost 4 = .ok (.ifCond .eq 10, 3) := by decide +kernel
theorem dX5_cost_7 : decode cX5_cost 7 = .ok (.iload_n 2, 1) := by decide +kernel
theorem dX5_cost_8 : decode cX5_cost 8 = .ok (.invokestatic 136, 3) := by decide +kernel
theorem dX5_cost_11 : decode cX5_cost 11 = .ok (.ifCond .ne 7, 3) := by decide +kernel
theorem dX5_cost_14 : decode cX5_cost 14 = .ok (.ldc2_w 139, 3) := by decide +kernel
theorem dX5_cost_17 : decode cX5_cost 17 = .ok (.lreturn, 1) := by decide +kernel
theorem dX5_cost_18 : decode cX5_cost 18 = .ok (.aload_n 0, 1) := by decide +kernel
theorem dX5_cost_19 : decode cX5_cost 19 = .ok (.getfield 21, 3) := by decide +kernel
theorem dX5_cost_22 : decode cX5_cost 22 = .ok (.iload_n 1, 1) := by decide +kernel
theorem dX5_cost_23 : decode cX5_cost 23 = .ok (.invokevirtual 125, 3) := by decide +kernel
theorem dX5_cost_26 : decode cX5_cost 26 = .ok (.astore_n 3, 1) := by decide +kernel
theorem dX5_cost_27 : decode cX5_cost 27 = .ok (.aload_n 3, 1) := by decide +kernel
theorem dX5_cost_28 : decode cX5_cost 28 = .ok (.getfield 129, 3) := by decide +kernel
theorem dX5_cost_31 : decode cX5_cost 31 = .ok (.ifCond .ne 7, 3) := by decide +kernel
theorem dX5_cost_34 : decode cX5_cost 34 = .ok (.ldc2_w 141, 3) := by decide +kernel
theorem dX5_cost_37 : decode cX5_cost 37 = .ok (.lreturn, 1) := by decide +kernel
theorem dX5_cost_38 : decode cX5_cost 38 = .ok (.aload_n 3, 1) := by decide +kernel
theorem dX5_cost_39 : decode cX5_cost 39 = .ok (.getfield 143, 3) := by decide +kernel
theorem dX5_cost_42 : decode cX5_cost 42 = .ok (.aload_n 3, 1) := by decide +kernel
theorem dX5_cost_43 : decode cX5_cost 43 = .ok (.getfield 147, 3) := by decide +kernel
theorem dX5_cost_46 : decode cX5_cost 46 = .ok (.iload_n 2, 1) := by decide +kernel
theorem dX5_cost_47 : decode cX5_cost 47 = .ok (.invokestatic 150, 3) := by decide +kernel
theorem dX5_cost_50 : decode cX5_cost 50 = .ok (.lreturn, 1) := by decide +kernel
theorem dX5_pull_0 : decode cX5_pull 0 = .ok (.aload_n 0, 1) := by decide +kernel
theorem dX5_pull_1 : decode cX5_pull 1 = .ok (.getfield 12, 3) := by decide +kernel
theorem dX5_pull_4 : decode cX5_pull 4 = .ok (.iload_n 2, 1) := by decide +kernel
theorem dX5_pull_5 : decode cX5_pull 5 = .ok (.invokevirtual 85, 3) := by decide +kernel
theorem dX5_pull_8 : decode cX5_pull 8 = .ok (.ifCond .ne 7, 3) := by decide +kernel
theorem dX5_pull_11 : decode cX5_pull 11 = .ok (.ldc2_w 154, 3) := by decide +kernel
theorem dX5_pull_14 : decode cX5_pull 14 = .ok (.lreturn, 1) := by decide +kernel
theorem dX5_pull_15 : decode cX5_pull 15 = .ok (.iload_n 1, 1) := by decide +kernel
theorem dX5_pull_16 : decode cX5_pull 16 = .ok (.invokestatic 122, 3) := by decide +kernel
theorem dX5_pull_19 : decode cX5_pull 19 = .ok (.ifCond .eq 10, 3) := by decide +kernel
theorem dX5_pull_22 : decode cX5_pull 22 = .ok (.iload_n 3, 1) := by decide +kernel
theorem dX5_pull_23 : decode cX5_pull 23 = .ok (.invokestatic 136, 3) := by decide +kernel
theorem dX5_pull_26 : decode cX5_pull 26 = .ok (.ifCond .ne 7, 3) := by decide +kernel
theorem dX5_pull_29 : decode cX5_pull 29 = .ok (.ldc2_w 139, 3) := by decide +kernel
theorem dX5_pull_32 : decode cX5_pull 32 = .ok (.lreturn, 1) := by decide +kernel
theorem dX5_pull_33 : decode cX5_pull 33 = .ok (.aload_n 0, 1) := by decide +kernel
theorem dX5_pull_34 : decode cX5_pull 34 = .ok (.getfield 21, 3) := by decide +kernel
theorem dX5_pull_37 : decode cX5_pull 37 = .ok (.iload_n 1, 1) := by decide +kernel
theorem dX5_pull_38 : decode cX5_pull 38 = .ok (.invokevirtual 125, 3) := by decide +kernel
theorem dX5_pull_41 : decode cX5_pull 41 = .ok (.astore 4, 2) := by decide +kernel
theorem dX5_pull_43 : decode cX5_pull 43 = .ok (.aload 4, 2) := by decide +kernel
theorem dX5_pull_45 : decode cX5_pull 45 = .ok (.getfield 129, 3) := by decide +kernel
theorem dX5_pull_48 : decode cX5_pull 48 = .ok (.ifCond .ne 7, 3) := by decide +kernel
theorem dX5_pull_51 : decode cX5_pull 51 = .ok (.ldc2_w 141, 3) := by decide +kernel
theorem dX5_pull_54 : decode cX5_pull 54 = .ok (.lreturn, 1) := by decide +kernel
theorem dX5_pull_55 : decode cX5_pull 55 = .ok (.aload 4, 2) := by decide +kernel
theorem dX5_pull_57 : decode cX5_pull 57 = .ok (.getfield 156, 3) := by decide +kernel
theorem dX5_pull_60 : decode cX5_pull 60 = .ok (.iload_n 2, 1) := by decide +kernel
theorem dX5_pull_61 : decode cX5_pull 61 = .ok (.laload, 1) := by decide +kernel
theorem dX5_pull_62 : decode cX5_pull 62 = .ok (.aload 4, 2) := by decide +kernel
theorem dX5_pull_64 : decode cX5_pull 64 = .ok (.getfield 147, 3) := by decide +kernel
theorem dX5_pull_67 : decode cX5_pull 67 = .ok (.iload_n 3, 1) := by decide +kernel
theorem dX5_pull_68 : decode cX5_pull 68 = .ok (.invokestatic 150, 3) := by decide +kernel
theorem dX5_pull_71 : decode cX5_pull 71 = .ok (.lreturn, 1) := by decide +kernel
theorem dX5_used_0 : decode cX5_used 0 = .ok (.iload_n 1, 1) := by decide +kernel
theorem dX5_used_1 : decode cX5_used 1 = .ok (.invokestatic 122, 3) := by decide +kernel
theorem dX5_used_4 : decode cX5_used 4 = .ok (.ifCond .eq 12, 3) := by decide +kernel
theorem dX5_used_7 : decode cX5_used 7 = .ok (.iload_n 2, 1) := by decide +kernel
theorem dX5_used_8 : decode cX5_used 8 = .ok (.ifCond .lt 8, 3) := by decide +kernel
theorem dX5_used_11 : decode cX5_used 11 = .ok (.iload_n 2, 1) := by decide +kernel
theorem dX5_used_12 : decode cX5_used 12 = .ok (.iconst 1, 1) := by decide +kernel
theorem dX5_used_13 : decode cX5_used 13 = .ok (.if_icmp .le 6, 3) := by decide +kernel
theorem dX5_used_16 : decode cX5_used 16 = .ok (.bipush (-2), 2) := by decide +kernel
theorem dX5_used_18 : decode cX5_used 18 = .ok (.ireturn, 1) := by decide +kernel
theorem dX5_used_19 : decode cX5_used 19 = .ok (.aload_n 0, 1) := by decide +kernel
theorem dX5_used_20 : decode cX5_used 20 = .ok (.getfield 21, 3) := by decide +kernel
theorem dX5_used_23 : decode cX5_used 23 = .ok (.iload_n 1, 1) := by decide +kernel
theorem dX5_used_24 : decode cX5_used 24 = .ok (.invokevirtual 125, 3) := by decide +kernel
theorem dX5_used_27 : decode cX5_used 27 = .ok (.astore_n 3, 1) := by decide +kernel
theorem dX5_used_28 : decode cX5_used 28 = .ok (.aload_n 3, 1) := by decide +kernel
theorem dX5_used_29 : decode cX5_used 29 = .ok (.getfield 129, 3) := by decide +kernel
theorem dX5_used_32 : decode cX5_used 32 = .ok (.ifCond .ne 6, 3) := by decide +kernel
theorem dX5_used_35 : decode cX5_used 35 = .ok (.bipush (-6), 2) := by decide +kernel
theorem dX5_used_37 : decode cX5_used 37 = .ok (.ireturn, 1) := by decide +kernel
theorem dX5_used_38 : decode cX5_used 38 = .ok (.iload_n 2, 1) := by decide +kernel
theorem dX5_used_39 : decode cX5_used 39 = .ok (.ifCond .ne 10, 3) := by decide +kernel
theorem dX5_used_42 : decode cX5_used 42 = .ok (.aload_n 3, 1) := by decide +kernel
theorem dX5_used_43 : decode cX5_used 43 = .ok (.getfield 160, 3) := by decide +kernel
theorem dX5_used_46 : decode cX5_used 46 = .ok (.goto 7, 3) := by decide +kernel
theorem dX5_used_49 : decode cX5_used 49 = .ok (.aload_n 3, 1) := by decide +kernel
theorem dX5_used_50 : decode cX5_used 50 = .ok (.getfield 163, 3) := by decide +kernel
theorem dX5_used_53 : decode cX5_used 53 = .ok (.ireturn, 1) := by decide +kernel
theorem dX5_sized_0 : decode cX5_sized 0 = .ok (.aload_n 0, 1) := by decide +kernel
theorem dX5_sized_1 : decode cX5_sized 1 = .ok (.getfield 12, 3) := by decide +kernel
theorem dX5_sized_4 : decode cX5_sized 4 = .ok (.iload_n 1, 1) := by decide +kernel
theorem dX5_sized_5 : decode cX5_sized 5 = .ok (.invokevirtual 85, 3) := by decide +kernel
theorem dX5_sized_8 : decode cX5_sized 8 = .ok (.ifCond .ne 5, 3) := by decide +kernel
theorem dX5_sized_11 : decode cX5_sized 11 = .ok (.iconst (-1), 1) := by decide +kernel
theorem dX5_sized_12 : decode cX5_sized 12 = .ok (.ireturn, 1) := by decide +kernel
theorem dX5_sized_13 : decode cX5_sized 13 = .ok (.aload_n 0, 1) := by decide +kernel
theorem dX5_sized_14 : decode cX5_sized 14 = .ok (.getfield 21, 3) := by decide +kernel
theorem dX5_sized_17 : decode cX5_sized 17 = .ok (.iconst 2, 1) := by decide +kernel
theorem dX5_sized_18 : decode cX5_sized 18 = .ok (.invokevirtual 125, 3) := by decide +kernel
theorem dX5_sized_21 : decode cX5_sized 21 = .ok (.astore_n 2, 1) := by decide +kernel
theorem dX5_sized_22 : decode cX5_sized 22 = .ok (.aload_n 2, 1) := by decide +kernel
theorem dX5_sized_23 : decode cX5_sized 23 = .ok (.getfield 129, 3) := by decide +kernel
theorem dX5_sized_26 : decode cX5_sized 26 = .ok (.ifCond .ne 6, 3) := by decide +kernel
theorem dX5_sized_29 : decode cX5_sized 29 = .ok (.bipush (-6), 2) := by decide +kernel
theorem dX5_sized_31 : decode cX5_sized 31 = .ok (.ireturn, 1) := by decide +kernel
theorem dX5_sized_32 : decode cX5_sized 32 = .ok (.aload_n 2, 1) := by decide +kernel
theorem dX5_sized_33 : decode cX5_sized 33 = .ok (.iload_n 1, 1) := by decide +kernel
theorem dX5_sized_34 : decode cX5_sized 34 = .ok (.invokevirtual 166, 3) := by decide +kernel
theorem dX5_sized_37 : decode cX5_sized 37 = .ok (.ifCond .eq 15, 3) := by decide +kernel
theorem dX5_sized_40 : decode cX5_sized 40 = .ok (.aload_n 0, 1) := by decide +kernel
theorem dX5_sized_41 : decode cX5_sized 41 = .ok (.getfield 21, 3) := by decide +kernel
theorem dX5_sized_44 : decode cX5_sized 44 = .ok (.aload_n 2, 1) := by decide +kernel
theorem dX5_sized_45 : decode cX5_sized 45 = .ok (.iload_n 1, 1) := by decide +kernel
theorem dX5_sized_46 : decode cX5_sized 46 = .ok (.invokevirtual 169, 3) := by decide +kernel
theorem dX5_sized_49 : decode cX5_sized 49 = .ok (.goto 4, 3) := by decide +kernel
theorem dX5_sized_52 : decode cX5_sized 52 = .ok (.iconst 0, 1) := by decide +kernel
theorem dX5_sized_53 : decode cX5_sized 53 = .ok (.ireturn, 1) := by decide +kernel
theorem dX5_prove_0 : decode cX5_prove 0 = .ok (.aload_n 0, 1) := by decide +kernel
theorem dX5_prove_1 : decode cX5_prove 1 = .ok (.getfield 21, 3) := by decide +kernel
theorem dX5_prove_4 : decode cX5_prove 4 = .ok (.iconst 0, 1) := by decide +kernel
theorem dX5_prove_5 : decode cX5_prove 5 = .ok (.invokevirtual 125, 3) := by decide +kernel
theorem dX5_prove_8 : decode cX5_prove 8 = .ok (.astore_n 1, 1) := by decide +kernel
theorem dX5_prove_9 : decode cX5_prove 9 = .ok (.aload_n 1, 1) := by decide +kernel
theorem dX5_prove_10 : decode cX5_prove 10 = .ok (.getfield 129, 3) := by decide +kernel
theorem dX5_prove_13 : decode cX5_prove 13 = .ok (.ifCond .eq 21, 3) := by decide +kernel
theorem dX5_prove_16 : decode cX5_prove 16 = .ok (.aload_n 0, 1) := by decide +kernel
theorem dX5_prove_17 : decode cX5_prove 17 = .ok (.getfield 30, 3) := by decide +kernel
theorem dX5_prove_20 : decode cX5_prove 20 = .ok (.getfield 173, 3) := by decide +kernel
theorem dX5_prove_23 : decode cX5_prove 23 = .ok (.ifCond .ne 11, 3) := by decide +kernel
theorem dX5_prove_26 : decode cX5_prove 26 = .ok (.aload_n 0, 1) := by decide +kernel
theorem dX5_prove_27 : decode cX5_prove 27 = .ok (.getfield 30, 3) := by decide +kernel
theorem dX5_prove_30 : decode cX5_prove 30 = .ok (.aload_n 1, 1) := by decide +kernel
theorem dX5_prove_31 : decode cX5_prove 31 = .ok (.invokevirtual 174, 3) := by decide +kernel
theorem dX5_prove_34 : decode cX5_prove 34 = .ok (.aload_n 0, 1) := by decide +kernel
theorem dX5_prove_35 : decode cX5_prove 35 = .ok (.getfield 30, 3) := by decide +kernel
theorem dX5_prove_38 : decode cX5_prove 38 = .ok (.getfield 173, 3) := by decide +kernel
theorem dX5_prove_41 : decode cX5_prove 41 = .ok (.ifCond .eq 13, 3) := by decide +kernel
theorem dX5_prove_44 : decode cX5_prove 44 = .ok (.aload_n 0, 1) := by decide +kernel
theorem dX5_prove_45 : decode cX5_prove 45 = .ok (.getfield 30, 3) := by decide +kernel
theorem dX5_prove_48 : decode cX5_prove 48 = .ok (.getfield 178, 3) := by decide +kernel
theorem dX5_prove_51 : decode cX5_prove 51 = .ok (.goto 5, 3) := by decide +kernel
theorem dX5_prove_54 : decode cX5_prove 54 = .ok (.bipush (-6), 2) := by decide +kernel
theorem dX5_prove_56 : decode cX5_prove 56 = .ok (.ireturn, 1) := by decide +kernel
theorem dX5_field_0 : decode cX5_field 0 = .ok (.aload_n 0, 1) := by decide +kernel
theorem dX5_field_1 : decode cX5_field 1 = .ok (.getfield 30, 3) := by decide +kernel
theorem dX5_field_4 : decode cX5_field 4 = .ok (.getfield 173, 3) := by decide +kernel
theorem dX5_field_7 : decode cX5_field 7 = .ok (.ifCond .ne 7, 3) := by decide +kernel
theorem dX5_field_10 : decode cX5_field 10 = .ok (.ldc2_w 179, 3) := by decide +kernel
theorem dX5_field_13 : decode cX5_field 13 = .ok (.lreturn, 1) := by decide +kernel
theorem dX5_field_14 : decode cX5_field 14 = .ok (.aload_n 0, 1) := by decide +kernel
theorem dX5_field_15 : decode cX5_field 15 = .ok (.getfield 12, 3) := by decide +kernel
theorem dX5_field_18 : decode cX5_field 18 = .ok (.iload_n 1, 1) := by decide +kernel
theorem dX5_field_19 : decode cX5_field 19 = .ok (.invokevirtual 56, 3) := by decide +kernel
theorem dX5_field_22 : decode cX5_field 22 = .ok (.ifCond .ne 7, 3) := by decide +kernel
theorem dX5_field_25 : decode cX5_field 25 = .ok (.ldc2_w 154, 3) := by decide +kernel
theorem dX5_field_28 : decode cX5_field 28 = .ok (.lreturn, 1) := by decide +kernel
theorem dX5_field_29 : decode cX5_field 29 = .ok (.iload_n 2, 1) := by decide +kernel
theorem dX5_field_30 : decode cX5_field 30 = .ok (.ifCond .lt 15, 3) := by decide +kernel
theorem dX5_field_33 : decode cX5_field 33 = .ok (.iload_n 2, 1) := by decide +kernel
theorem dX5_field_34 : decode cX5_field 34 = .ok (.iconst 1, 1) := by decide +kernel
theorem dX5_field_35 : decode cX5_field 35 = .ok (.if_icmp .gt 10, 3) := by decide +kernel
theorem dX5_field_38 : decode cX5_field 38 = .ok (.iload_n 3, 1) := by decide +kernel
theorem dX5_field_39 : decode cX5_field 39 = .ok (.invokestatic 136, 3) := by decide +kernel
theorem dX5_field_42 : decode cX5_field 42 = .ok (.ifCond .ne 7, 3) := by decide +kernel
theorem dX5_field_45 : decode cX5_field 45 = .ok (.ldc2_w 139, 3) := by decide +kernel
theorem dX5_field_48 : decode cX5_field 48 = .ok (.lreturn, 1) := by decide +kernel
theorem dX5_field_49 : decode cX5_field 49 = .ok (.aload_n 0, 1) := by decide +kernel
theorem dX5_field_50 : decode cX5_field 50 = .ok (.getfield 30, 3) := by decide +kernel
theorem dX5_field_53 : decode cX5_field 53 = .ok (.iload_n 1, 1) := by decide +kernel
theorem dX5_field_54 : decode cX5_field 54 = .ok (.iload_n 2, 1) := by decide +kernel
theorem dX5_field_55 : decode cX5_field 55 = .ok (.invokevirtual 181, 3) := by decide +kernel
theorem dX5_field_58 : decode cX5_field 58 = .ok (.aload_n 0, 1) := by decide +kernel
theorem dX5_field_59 : decode cX5_field 59 = .ok (.getfield 30, 3) := by decide +kernel
theorem dX5_field_62 : decode cX5_field 62 = .ok (.getfield 185, 3) := by decide +kernel
theorem dX5_field_65 : decode cX5_field 65 = .ok (.iload_n 3, 1) := by decide +kernel
theorem dX5_field_66 : decode cX5_field 66 = .ok (.invokestatic 150, 3) := by decide +kernel
theorem dX5_field_69 : decode cX5_field 69 = .ok (.lreturn, 1) := by decide +kernel
theorem dX5_slack_0 : decode cX5_slack 0 = .ok (.aload_n 0, 1) := by decide +kernel
theorem dX5_slack_1 : decode cX5_slack 1 = .ok (.getfield 30, 3) := by decide +kernel
theorem dX5_slack_4 : decode cX5_slack 4 = .ok (.getfield 173, 3) := by decide +kernel
theorem dX5_slack_7 : decode cX5_slack 7 = .ok (.ifCond .ne 7, 3) := by decide +kernel
theorem dX5_slack_10 : decode cX5_slack 10 = .ok (.ldc2_w 179, 3) := by decide +kernel
theorem dX5_slack_13 : decode cX5_slack 13 = .ok (.lreturn, 1) := by decide +kernel
theorem dX5_slack_14 : decode cX5_slack 14 = .ok (.aload_n 0, 1) := by decide +kernel
theorem dX5_slack_15 : decode cX5_slack 15 = .ok (.getfield 12, 3) := by decide +kernel
theorem dX5_slack_18 : decode cX5_slack 18 = .ok (.iload_n 1, 1) := by decide +kernel
theorem dX5_slack_19 : decode cX5_slack 19 = .ok (.invokevirtual 85, 3) := by decide +kernel
theorem dX5_slack_22 : decode cX5_slack 22 = .ok (.ifCond .ne 7, 3) := by decide +kernel
theorem dX5_slack_25 : decode cX5_slack 25 = .ok (.ldc2_w 154, 3) := by decide +kernel
theorem dX5_slack_28 : decode cX5_slack 28 = .ok (.lreturn, 1) := by decide +kernel
theorem dX5_slack_29 : decode cX5_slack 29 = .ok (.iload_n 2, 1) := by decide +kernel
theorem dX5_slack_30 : decode cX5_slack 30 = .ok (.invokestatic 136, 3) := by decide +kernel
theorem dX5_slack_33 : decode cX5_slack 33 = .ok (.ifCond .ne 7, 3) := by decide +kernel
theorem dX5_slack_36 : decode cX5_slack 36 = .ok (.ldc2_w 139, 3) := by decide +kernel
theorem dX5_slack_39 : decode cX5_slack 39 = .ok (.lreturn, 1) := by decide +kernel
theorem dX5_slack_40 : decode cX5_slack 40 = .ok (.aload_n 0, 1) := by decide +kernel
theorem dX5_slack_41 : decode cX5_slack 41 = .ok (.getfield 30, 3) := by decide +kernel
theorem dX5_slack_44 : decode cX5_slack 44 = .ok (.iload_n 1, 1) := by decide +kernel
theorem dX5_slack_45 : decode cX5_slack 45 = .ok (.invokevirtual 186, 3) := by decide +kernel
theorem dX5_slack_48 : decode cX5_slack 48 = .ok (.aload_n 0, 1) := by decide +kernel
theorem dX5_slack_49 : decode cX5_slack 49 = .ok (.getfield 30, 3) := by decide +kernel
theorem dX5_slack_52 : decode cX5_slack 52 = .ok (.getfield 185, 3) := by decide +kernel
theorem dX5_slack_55 : decode cX5_slack 55 = .ok (.iload_n 2, 1) := by decide +kernel
theorem dX5_slack_56 : decode cX5_slack 56 = .ok (.invokestatic 150, 3) := by decide +kernel
theorem dX5_slack_59 : decode cX5_slack 59 = .ok (.lreturn, 1) := by decide +kernel
theorem dX5_told_0 : decode cX5_told 0 = .ok (.iload_n 1, 1) := by decide +kernel
theorem dX5_told_1 : decode cX5_told 1 = .ok (.tableswitch 75 0 4 #[35, 43, 51, 59, 67], 35) := by decide +kernel
theorem dX5_told_36 : decode cX5_told 36 = .ok (.aload_n 0, 1) := by decide +kernel
theorem dX5_told_37 : decode cX5_told 37 = .ok (.getfield 12, 3) := by decide +kernel
theorem dX5_told_40 : decode cX5_told 40 = .ok (.getfield 38, 3) := by decide +kernel
theorem dX5_told_43 : decode cX5_told 43 = .ok (.ireturn, 1) := by decide +kernel
theorem dX5_told_44 : decode cX5_told 44 = .ok (.aload_n 0, 1) := by decide +kernel
theorem dX5_told_45 : decode cX5_told 45 = .ok (.getfield 12, 3) := by decide +kernel
theorem dX5_told_48 : decode cX5_told 48 = .ok (.getfield 42, 3) := by decide +kernel
theorem dX5_told_51 : decode cX5_told 51 = .ok (.ireturn, 1) := by decide +kernel
theorem dX5_told_52 : decode cX5_told 52 = .ok (.aload_n 0, 1) := by decide +kernel
theorem dX5_told_53 : decode cX5_told 53 = .ok (.getfield 12, 3) := by decide +kernel
theorem dX5_told_56 : decode cX5_told 56 = .ok (.getfield 59, 3) := by decide +kernel
theorem dX5_told_59 : decode cX5_told 59 = .ok (.ireturn, 1) := by decide +kernel
theorem dX5_told_60 : decode cX5_told 60 = .ok (.aload_n 0, 1) := by decide +kernel
theorem dX5_told_61 : decode cX5_told 61 = .ok (.getfield 12, 3) := by decide +kernel
theorem dX5_told_64 : decode cX5_told 64 = .ok (.getfield 97, 3) := by decide +kernel
theorem dX5_told_67 : decode cX5_told 67 = .ok (.ireturn, 1) := by decide +kernel
theorem dX5_told_68 : decode cX5_told 68 = .ok (.aload_n 0, 1) := by decide +kernel
theorem dX5_told_69 : decode cX5_told 69 = .ok (.getfield 12, 3) := by decide +kernel
theorem dX5_told_72 : decode cX5_told 72 = .ok (.getfield 107, 3) := by decide +kernel
theorem dX5_told_75 : decode cX5_told 75 = .ok (.ireturn, 1) := by decide +kernel
theorem dX5_told_76 : decode cX5_told 76 = .ok (.bipush (-2), 2) := by decide +kernel
theorem dX5_told_78 : decode cX5_told 78 = .ok (.ireturn, 1) := by decide +kernel
theorem dX5_forgetAnswers_0 : decode cX5_forgetAnswers 0 = .ok (.aload_n 0, 1) := by decide +kernel
theorem dX5_forgetAnswers_1 : decode cX5_forgetAnswers 1 = .ok (.getfield 21, 3) := by decide +kernel
theorem dX5_forgetAnswers_4 : decode cX5_forgetAnswers 4 = .ok (.iconst 0, 1) := by decide +kernel
theorem dX5_forgetAnswers_5 : decode cX5_forgetAnswers 5 = .ok (.putfield 190, 3) := by decide +kernel
theorem dX5_forgetAnswers_8 : decode cX5_forgetAnswers 8 = .ok (.aload_n 0, 1) := by decide +kernel
theorem dX5_forgetAnswers_9 : decode cX5_forgetAnswers 9 = .ok (.getfield 30, 3) := by decide +kernel
theorem dX5_forgetAnswers_12 : decode cX5_forgetAnswers 12 = .ok (.iconst 0, 1) := by decide +kernel
theorem dX5_forgetAnswers_13 : decode cX5_forgetAnswers 13 = .ok (.putfield 173, 3) := by decide +kernel
theorem dX5_forgetAnswers_16 : decode cX5_forgetAnswers 16 = .ok (.return_, 1) := by decide +kernel
theorem dX5_isPlace_0 : decode cX5_isPlace 0 = .ok (.iload_n 0, 1) := by decide +kernel
theorem dX5_isPlace_1 : decode cX5_isPlace 1 = .ok (.ifCond .lt 13, 3) := by decide +kernel
theorem dX5_isPlace_4 : decode cX5_isPlace 4 = .ok (.iload_n 0, 1) := by decide +kernel
theorem dX5_isPlace_5 : decode cX5_isPlace 5 = .ok (.bipush 6, 2) := by decide +kernel
theorem dX5_isPlace_7 : decode cX5_isPlace 7 = .ok (.if_icmp .gt 7, 3) := by decide +kernel
theorem dX5_isPlace_10 : decode cX5_isPlace 10 = .ok (.iconst 1, 1) := by decide +kernel
theorem dX5_isPlace_11 : decode cX5_isPlace 11 = .ok (.goto 4, 3) := by decide +kernel
theorem dX5_isPlace_14 : decode cX5_isPlace 14 = .ok (.iconst 0, 1) := by decide +kernel
theorem dX5_isPlace_15 : decode cX5_isPlace 15 = .ok (.ireturn, 1) := by decide +kernel
theorem dX5_isLoad_0 : decode cX5_isLoad 0 = .ok (.iload_n 0, 1) := by decide +kernel
theorem dX5_isLoad_1 : decode cX5_isLoad 1 = .ok (.bipush (-20), 2) := by decide +kernel
theorem dX5_isLoad_3 : decode cX5_isLoad 3 = .ok (.if_icmp .lt 13, 3) := by decide +kernel
theorem dX5_isLoad_6 : decode cX5_isLoad 6 = .ok (.iload_n 0, 1) := by decide +kernel
theorem dX5_isLoad_7 : decode cX5_isLoad 7 = .ok (.bipush 20, 2) := by decide +kernel
theorem dX5_isLoad_9 : decode cX5_isLoad 9 = .ok (.if_icmp .gt 7, 3) := by decide +kernel
theorem dX5_isLoad_12 : decode cX5_isLoad 12 = .ok (.iconst 1, 1) := by decide +kernel
theorem dX5_isLoad_13 : decode cX5_isLoad 13 = .ok (.goto 4, 3) := by decide +kernel
theorem dX5_isLoad_16 : decode cX5_isLoad 16 = .ok (.iconst 0, 1) := by decide +kernel
theorem dX5_isLoad_17 : decode cX5_isLoad 17 = .ok (.ireturn, 1) := by decide +kernel
theorem dX5_isKind_0 : decode cX5_isKind 0 = .ok (.iload_n 0, 1) := by decide +kernel
theorem dX5_isKind_1 : decode cX5_isKind 1 = .ok (.ifCond .lt 12, 3) := by decide +kernel
theorem dX5_isKind_4 : decode cX5_isKind 4 = .ok (.iload_n 0, 1) := by decide +kernel
theorem dX5_isKind_5 : decode cX5_isKind 5 = .ok (.iconst 4, 1) := by decide +kernel
theorem dX5_isKind_6 : decode cX5_isKind 6 = .ok (.if_icmp .ge 7, 3) := by decide +kernel
theorem dX5_isKind_9 : decode cX5_isKind 9 = .ok (.iconst 1, 1) := by decide +kernel
theorem dX5_isKind_10 : decode cX5_isKind 10 = .ok (.goto 4, 3) := by decide +kernel
theorem dX5_isKind_13 : decode cX5_isKind 13 = .ok (.iconst 0, 1) := by decide +kernel
theorem dX5_isKind_14 : decode cX5_isKind 14 = .ok (.ireturn, 1) := by decide +kernel
theorem dX5_isPart_0 : decode cX5_isPart 0 = .ok (.iload_n 0, 1) := by decide +kernel
theorem dX5_isPart_1 : decode cX5_isPart 1 = .ok (.ifCond .eq 8, 3) := by decide +kernel
theorem dX5_isPart_4 : decode cX5_isPart 4 = .ok (.iload_n 0, 1) := by decide +kernel
theorem dX5_isPart_5 : decode cX5_isPart 5 = .ok (.iconst 1, 1) := by decide +kernel
theorem dX5_isPart_6 : decode cX5_isPart 6 = .ok (.if_icmp .ne 7, 3) := by decide +kernel
theorem dX5_isPart_9 : decode cX5_isPart 9 = .ok (.iconst 1, 1) := by decide +kernel
theorem dX5_isPart_10 : decode cX5_isPart 10 = .ok (.goto 4, 3) := by decide +kernel
theorem dX5_isPart_13 : decode cX5_isPart 13 = .ok (.iconst 0, 1) := by decide +kernel
theorem dX5_isPart_14 : decode cX5_isPart 14 = .ok (.ireturn, 1) := by decide +kernel
theorem dX5_partOf_0 : decode cX5_partOf 0 = .ok (.lload_n 0, 1) := by decide +kernel
theorem dX5_partOf_1 : decode cX5_partOf 1 = .ok (.invokestatic 193, 3) := by decide +kernel
theorem dX5_partOf_4 : decode cX5_partOf 4 = .ok (.lload_n 2, 1) := by decide +kernel
theorem dX5_partOf_5 : decode cX5_partOf 5 = .ok (.invokestatic 199, 3) := by decide +kernel
theorem dX5_partOf_8 : decode cX5_partOf 8 = .ok (.lstore 5, 2) := by decide +kernel
theorem dX5_partOf_10 : decode cX5_partOf 10 = .ok (.lload 5, 2) := by decide +kernel
theorem dX5_partOf_12 : decode cX5_partOf 12 = .ok (.lconst 0, 1) := by decide +kernel
theorem dX5_partOf_13 : decode cX5_partOf 13 = .ok (.lcmp, 1) := by decide +kernel
theorem dX5_partOf_14 : decode cX5_partOf 14 = .ok (.ifCond .ne 5, 3) := by decide +kernel
theorem dX5_partOf_17 : decode cX5_partOf 17 = .ok (.lconst 0, 1) := by decide +kernel
theorem dX5_partOf_18 : decode cX5_partOf 18 = .ok (.lreturn, 1) := by decide +kernel
theorem dX5_partOf_19 : decode cX5_partOf 19 = .ok (.iload 4, 2) := by decide +kernel
theorem dX5_partOf_21 : decode cX5_partOf 21 = .ok (.ifCond .ne 10, 3) := by decide +kernel
theorem dX5_partOf_24 : decode cX5_partOf 24 = .ok (.lload_n 0, 1) := by decide +kernel
theorem dX5_partOf_25 : decode cX5_partOf 25 = .ok (.lload 5, 2) := by decide +kernel
theorem dX5_partOf_27 : decode cX5_partOf 27 = .ok (.ldiv, 1) := by decide +kernel
theorem dX5_partOf_28 : decode cX5_partOf 28 = .ok (.goto 7, 3) := by decide +kernel
theorem dX5_partOf_31 : decode cX5_partOf 31 = .ok (.lload_n 2, 1) := by decide +kernel
theorem dX5_partOf_32 : decode cX5_partOf 32 = .ok (.lload 5, 2) := by decide +kernel
theorem dX5_partOf_34 : decode cX5_partOf 34 = .ok (.ldiv, 1) := by decide +kernel
theorem dX5_partOf_35 : decode cX5_partOf 35 = .ok (.lreturn, 1) := by decide +kernel
theorem dX5_commonDivisor_0 : decode cX5_commonDivisor 0 = .ok (.lload_n 0, 1) := by decide +kernel
theorem dX5_commonDivisor_1 : decode cX5_commonDivisor 1 = .ok (.lstore 4, 2) := by decide +kernel
theorem dX5_commonDivisor_3 : decode cX5_commonDivisor 3 = .ok (.lload_n 2, 1) := by decide +kernel
theorem dX5_commonDivisor_4 : decode cX5_commonDivisor 4 = .ok (.lstore 6, 2) := by decide +kernel
theorem dX5_commonDivisor_6 : decode cX5_commonDivisor 6 = .ok (.iconst 0, 1) := by decide +kernel
theorem dX5_commonDivisor_7 : decode cX5_commonDivisor 7 = .ok (.istore 8, 2) := by decide +kernel
theorem dX5_commonDivisor_9 : decode cX5_commonDivisor 9 = .ok (.iload 8, 2) := by decide +kernel
theorem dX5_commonDivisor_11 : decode cX5_commonDivisor 11 = .ok (.sipush 200, 3) := by decide +kernel
theorem dX5_commonDivisor_14 : decode cX5_commonDivisor 14 = .ok (.if_icmp .ge 31, 3) := by decide +kernel
theorem dX5_commonDivisor_17 : decode cX5_commonDivisor 17 = .ok (.lload 6, 2) := by decide +kernel
theorem dX5_commonDivisor_19 : decode cX5_commonDivisor 19 = .ok (.lconst 0, 1) := by decide +kernel
theorem dX5_commonDivisor_20 : decode cX5_commonDivisor 20 = .ok (.lcmp, 1) := by decide +kernel
theorem dX5_commonDivisor_21 : decode cX5_commonDivisor 21 = .ok (.ifCond .eq 24, 3) := by decide +kernel
theorem dX5_commonDivisor_24 : decode cX5_commonDivisor 24 = .ok (.lload 4, 2) := by decide +kernel
theorem dX5_commonDivisor_26 : decode cX5_commonDivisor 26 = .ok (.lload 6, 2) := by decide +kernel
theorem dX5_commonDivisor_28 : decode cX5_commonDivisor 28 = .ok (.lrem, 1) := by decide +kernel
theorem dX5_commonDivisor_29 : decode cX5_commonDivisor 29 = .ok (.lstore 9, 2) := by decide +kernel
theorem dX5_commonDivisor_31 : decode cX5_commonDivisor 31 = .ok (.lload 6, 2) := by decide +kernel
theorem dX5_commonDivisor_33 : decode cX5_commonDivisor 33 = .ok (.lstore 4, 2) := by decide +kernel
theorem dX5_commonDivisor_35 : decode cX5_commonDivisor 35 = .ok (.lload 9, 2) := by decide +kernel
theorem dX5_commonDivisor_37 : decode cX5_commonDivisor 37 = .ok (.lstore 6, 2) := by decide +kernel
theorem dX5_commonDivisor_39 : decode cX5_commonDivisor 39 = .ok (.iinc 8 1, 3) := by decide +kernel
theorem dX5_commonDivisor_42 : decode cX5_commonDivisor 42 = .ok (.goto (-33), 3) := by decide +kernel
theorem dX5_commonDivisor_45 : decode cX5_commonDivisor 45 = .ok (.lload 4, 2) := by decide +kernel
theorem dX5_commonDivisor_47 : decode cX5_commonDivisor 47 = .ok (.lreturn, 1) := by decide +kernel
theorem dJ6_bitCount_0f7a4_0 : decode cJ6_bitCount_0f7a4 0 = .ok (.iload_n 0, 1) := by decide +kernel
theorem dJ6_bitCount_0f7a4_1 : decode cJ6_bitCount_0f7a4 1 = .ok (.iload_n 0, 1) := by decide +kernel
theorem dJ6_bitCount_0f7a4_2 : decode cJ6_bitCount_0f7a4 2 = .ok (.iconst 1, 1) := by decide +kernel
theorem dJ6_bitCount_0f7a4_3 : decode cJ6_bitCount_0f7a4 3 = .ok (.iushr, 1) := by decide +kernel
theorem dJ6_bitCount_0f7a4_4 : decode cJ6_bitCount_0f7a4 4 = .ok (.ldc_w 265, 3) := by decide +kernel
theorem dJ6_bitCount_0f7a4_7 : decode cJ6_bitCount_0f7a4 7 = .ok (.iand, 1) := by decide +kernel
theorem dJ6_bitCount_0f7a4_8 : decode cJ6_bitCount_0f7a4 8 = .ok (.isub, 1) := by decide +kernel
theorem dJ6_bitCount_0f7a4_9 : decode cJ6_bitCount_0f7a4 9 = .ok (.istore_n 0, 1) := by decide +kernel
theorem dJ6_bitCount_0f7a4_10 : decode cJ6_bitCount_0f7a4 10 = .ok (.iload_n 0, 1) := by decide +kernel
theorem dJ6_bitCount_0f7a4_11 : decode cJ6_bitCount_0f7a4 11 = .ok (.ldc_w 266, 3) := by decide +kernel
theorem dJ6_bitCount_0f7a4_14 : decode cJ6_bitCount_0f7a4 14 = .ok (.iand, 1) := by decide +kernel
theorem dJ6_bitCount_0f7a4_15 : decode cJ6_bitCount_0f7a4 15 = .ok (.iload_n 0, 1) := by decide +kernel
theorem dJ6_bitCount_0f7a4_16 : decode cJ6_bitCount_0f7a4 16 = .ok (.iconst 2, 1) := by decide +kernel
theorem dJ6_bitCount_0f7a4_17 : decode cJ6_bitCount_0f7a4 17 = .ok (.iushr, 1) := by decide +kernel
theorem dJ6_bitCount_0f7a4_18 : decode cJ6_bitCount_0f7a4 18 = .ok (.ldc_w 266, 3) := by decide +kernel
theorem dJ6_bitCount_0f7a4_21 : decode cJ6_bitCount_0f7a4 21 = .ok (.iand, 1) := by decide +kernel
theorem dJ6_bitCount_0f7a4_22 : decode cJ6_bitCount_0f7a4 22 = .ok (.iadd, 1) := by decide +kernel
theorem dJ6_bitCount_0f7a4_23 : decode cJ6_bitCount_0f7a4 23 = .ok (.istore_n 0, 1) := by decide +kernel
theorem dJ6_bitCount_0f7a4_24 : decode cJ6_bitCount_0f7a4 24 = .ok (.iload_n 0, 1) := by decide +kernel
theorem dJ6_bitCount_0f7a4_25 : decode cJ6_bitCount_0f7a4 25 = .ok (.iload_n 0, 1) := by decide +kernel
theorem dJ6_bitCount_0f7a4_26 : decode cJ6_bitCount_0f7a4 26 = .ok (.iconst 4, 1) := by decide +kernel
theorem dJ6_bitCount_0f7a4_27 : decode cJ6_bitCount_0f7a4 27 = .ok (.iushr, 1) := by decide +kernel
theorem dJ6_bitCount_0f7a4_28 : decode cJ6_bitCount_0f7a4 28 = .ok (.iadd, 1) := by decide +kernel
theorem dJ6_bitCount_0f7a4_29 : decode cJ6_bitCount_0f7a4 29 = .ok (.ldc_w 267, 3) := by decide +kernel
theorem dJ6_bitCount_0f7a4_32 : decode cJ6_bitCount_0f7a4 32 = .ok (.iand, 1) := by decide +kernel
theorem dJ6_bitCount_0f7a4_33 : decode cJ6_bitCount_0f7a4 33 = .ok (.istore_n 0, 1) := by decide +kernel
theorem dJ6_bitCount_0f7a4_34 : decode cJ6_bitCount_0f7a4 34 = .ok (.iload_n 0, 1) := by decide +kernel
theorem dJ6_bitCount_0f7a4_35 : decode cJ6_bitCount_0f7a4 35 = .ok (.iload_n 0, 1) := by decide +kernel
theorem dJ6_bitCount_0f7a4_36 : decode cJ6_bitCount_0f7a4 36 = .ok (.bipush 8, 2) := by decide +kernel
theorem dJ6_bitCount_0f7a4_38 : decode cJ6_bitCount_0f7a4 38 = .ok (.iushr, 1) := by decide +kernel
theorem dJ6_bitCount_0f7a4_39 : decode cJ6_bitCount_0f7a4 39 = .ok (.iadd, 1) := by decide +kernel
theorem dJ6_bitCount_0f7a4_40 : decode cJ6_bitCount_0f7a4 40 = .ok (.istore_n 0, 1) := by decide +kernel
theorem dJ6_bitCount_0f7a4_41 : decode cJ6_bitCount_0f7a4 41 = .ok (.iload_n 0, 1) := by decide +kernel
theorem dJ6_bitCount_0f7a4_42 : decode cJ6_bitCount_0f7a4 42 = .ok (.iload_n 0, 1) := by decide +kernel
theorem dJ6_bitCount_0f7a4_43 : decode cJ6_bitCount_0f7a4 43 = .ok (.bipush 16, 2) := by decide +kernel
theorem dJ6_bitCount_0f7a4_45 : decode cJ6_bitCount_0f7a4 45 = .ok (.iushr, 1) := by decide +kernel
theorem dJ6_bitCount_0f7a4_46 : decode cJ6_bitCount_0f7a4 46 = .ok (.iadd, 1) := by decide +kernel
theorem dJ6_bitCount_0f7a4_47 : decode cJ6_bitCount_0f7a4 47 = .ok (.istore_n 0, 1) := by decide +kernel
theorem dJ6_bitCount_0f7a4_48 : decode cJ6_bitCount_0f7a4 48 = .ok (.iload_n 0, 1) := by decide +kernel
theorem dJ6_bitCount_0f7a4_49 : decode cJ6_bitCount_0f7a4 49 = .ok (.bipush 63, 2) := by decide +kernel
theorem dJ6_bitCount_0f7a4_51 : decode cJ6_bitCount_0f7a4 51 = .ok (.iand, 1) := by decide +kernel
theorem dJ6_bitCount_0f7a4_52 : decode cJ6_bitCount_0f7a4 52 = .ok (.ireturn, 1) := by decide +kernel
theorem dJ9_abs_067f4_0 : decode cJ9_abs_067f4 0 = .ok (.lload_n 0, 1) := by decide +kernel
theorem dJ9_abs_067f4_1 : decode cJ9_abs_067f4 1 = .ok (.lconst 0, 1) := by decide +kernel
theorem dJ9_abs_067f4_2 : decode cJ9_abs_067f4 2 = .ok (.lcmp, 1) := by decide +kernel
theorem dJ9_abs_067f4_3 : decode cJ9_abs_067f4 3 = .ok (.ifCond .ge 8, 3) := by decide +kernel
theorem dJ9_abs_067f4_6 : decode cJ9_abs_067f4 6 = .ok (.lload_n 0, 1) := by decide +kernel
theorem dJ9_abs_067f4_7 : decode cJ9_abs_067f4 7 = .ok (.lneg, 1) := by decide +kernel
theorem dJ9_abs_067f4_8 : decode cJ9_abs_067f4 8 = .ok (.goto 4, 3) := by decide +kernel
theorem dJ9_abs_067f4_11 : decode cJ9_abs_067f4 11 = .ok (.lload_n 0, 1) := by decide +kernel
theorem dJ9_abs_067f4_12 : decode cJ9_abs_067f4 12 = .ok (.lreturn, 1) := by decide +kernel
theorem dJ9_max_7cf53_0 : decode cJ9_max_7cf53 0 = .ok (.iload_n 0, 1) := by decide +kernel
theorem dJ9_max_7cf53_1 : decode cJ9_max_7cf53 1 = .ok (.iload_n 1, 1) := by decide +kernel
theorem dJ9_max_7cf53_2 : decode cJ9_max_7cf53 2 = .ok (.if_icmp .lt 7, 3) := by decide +kernel
theorem dJ9_max_7cf53_5 : decode cJ9_max_7cf53 5 = .ok (.iload_n 0, 1) := by decide +kernel
theorem dJ9_max_7cf53_6 : decode cJ9_max_7cf53 6 = .ok (.goto 4, 3) := by decide +kernel
theorem dJ9_max_7cf53_9 : decode cJ9_max_7cf53 9 = .ok (.iload_n 1, 1) := by decide +kernel
theorem dJ9_max_7cf53_10 : decode cJ9_max_7cf53 10 = .ok (.ireturn, 1) := by decide +kernel
theorem dJ9_min_7cf53_0 : decode cJ9_min_7cf53 0 = .ok (.iload_n 0, 1) := by decide +kernel
theorem dJ9_min_7cf53_1 : decode cJ9_min_7cf53 1 = .ok (.iload_n 1, 1) := by decide +kernel
theorem dJ9_min_7cf53_2 : decode cJ9_min_7cf53 2 = .ok (.if_icmp .gt 7, 3) := by decide +kernel
theorem dJ9_min_7cf53_5 : decode cJ9_min_7cf53 5 = .ok (.iload_n 0, 1) := by decide +kernel
theorem dJ9_min_7cf53_6 : decode cJ9_min_7cf53 6 = .ok (.goto 4, 3) := by decide +kernel
theorem dJ9_min_7cf53_9 : decode cJ9_min_7cf53 9 = .ok (.iload_n 1, 1) := by decide +kernel
theorem dJ9_min_7cf53_10 : decode cJ9_min_7cf53 10 = .ok (.ireturn, 1) := by decide +kernel
theorem dJ7_fill_d0a16_0 : decode cJ7_fill_d0a16 0 = .ok (.iconst 0, 1) := by decide +kernel
theorem dJ7_fill_d0a16_1 : decode cJ7_fill_d0a16 1 = .ok (.istore_n 3, 1) := by decide +kernel
theorem dJ7_fill_d0a16_2 : decode cJ7_fill_d0a16 2 = .ok (.aload_n 0, 1) := by decide +kernel
theorem dJ7_fill_d0a16_3 : decode cJ7_fill_d0a16 3 = .ok (.arraylength, 1) := by decide +kernel
theorem dJ7_fill_d0a16_4 : decode cJ7_fill_d0a16 4 = .ok (.istore 4, 2) := by decide +kernel
theorem dJ7_fill_d0a16_6 : decode cJ7_fill_d0a16 6 = .ok (.iload_n 3, 1) := by decide +kernel
theorem dJ7_fill_d0a16_7 : decode cJ7_fill_d0a16 7 = .ok (.iload 4, 2) := by decide +kernel
theorem dJ7_fill_d0a16_9 : decode cJ7_fill_d0a16 9 = .ok (.if_icmp .ge 13, 3) := by decide +kernel
theorem dJ7_fill_d0a16_12 : decode cJ7_fill_d0a16 12 = .ok (.aload_n 0, 1) := by decide +kernel
theorem dJ7_fill_d0a16_13 : decode cJ7_fill_d0a16 13 = .ok (.iload_n 3, 1) := by decide +kernel
theorem dJ7_fill_d0a16_14 : decode cJ7_fill_d0a16 14 = .ok (.lload_n 1, 1) := by decide +kernel
theorem dJ7_fill_d0a16_15 : decode cJ7_fill_d0a16 15 = .ok (.lastore, 1) := by decide +kernel
theorem dJ7_fill_d0a16_16 : decode cJ7_fill_d0a16 16 = .ok (.iinc 3 1, 3) := by decide +kernel
theorem dJ7_fill_d0a16_19 : decode cJ7_fill_d0a16 19 = .ok (.goto (-13), 3) := by decide +kernel
theorem dJ7_fill_d0a16_22 : decode cJ7_fill_d0a16 22 = .ok (.return_, 1) := by decide +kernel
