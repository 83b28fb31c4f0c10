theorem dX6_init_0 : decode cX6_init 0 = .ok (.aload_n 0, 1) := by decide +kernel
theorem dX6_init_1 : decode cX6_init 1 = .ok (.invokespecial 1, 3) := by decide +kernel
theorem dX6_init_4 : decode cX6_init 4 = .ok (.aload_n 0, 1) := by decide +kernel
theorem dX6_init_5 : decode cX6_init 5 = .ok (.bipush 6, 2) := by decide +kernel
theorem dX6_init_7 : decode cX6_init 7 = .ok (.newarray .int, 2) := by decide +kernel
theorem dX6_init_9 : decode cX6_init 9 = .ok (.putfield 7, 3) := by decide +kernel
theorem dX6_init_12 : decode cX6_init 12 = .ok (.aload_n 0, 1) := by decide +kernel
theorem dX6_init_13 : decode cX6_init 13 = .ok (.bipush 6, 2) := by decide +kernel
theorem dX6_init_15 : decode cX6_init 15 = .ok (.newarray .int, 2) := by decide +kernel
theorem dX6_init_17 : decode cX6_init 17 = .ok (.putfield 13, 3) := by decide +kernel
theorem dX6_init_20 : decode cX6_init 20 = .ok (.aload_n 0, 1) := by decide +kernel
theorem dX6_init_21 : decode cX6_init 21 = .ok (.bipush 6, 2) := by decide +kernel
theorem dX6_init_23 : decode cX6_init 23 = .ok (.newarray .boolean, 2) := by decide +kernel
theorem dX6_init_25 : decode cX6_init 25 = .ok (.putfield 16, 3) := by decide +kernel
theorem dX6_init_28 : decode cX6_init 28 = .ok (.aload_n 0, 1) := by decide +kernel
theorem dX6_init_29 : decode cX6_init 29 = .ok (.bipush 6, 2) := by decide +kernel
theorem dX6_init_31 : decode cX6_init 31 = .ok (.newarray .int, 2) := by decide +kernel
theorem dX6_init_33 : decode cX6_init 33 = .ok (.putfield 20, 3) := by decide +kernel
theorem dX6_init_36 : decode cX6_init 36 = .ok (.aload_n 0, 1) := by decide +kernel
theorem dX6_init_37 : decode cX6_init 37 = .ok (.bipush 6, 2) := by decide +kernel
theorem dX6_init_39 : decode cX6_init 39 = .ok (.newarray .int, 2) := by decide +kernel
theorem dX6_init_41 : decode cX6_init 41 = .ok (.putfield 23, 3) := by decide +kernel
theorem dX6_init_44 : decode cX6_init 44 = .ok (.aload_n 0, 1) := by decide +kernel
theorem dX6_init_45 : decode cX6_init 45 = .ok (.bipush 10, 2) := by decide +kernel
theorem dX6_init_47 : decode cX6_init 47 = .ok (.newarray .int, 2) := by decide +kernel
theorem dX6_init_49 : decode cX6_init 49 = .ok (.putfield 26, 3) := by decide +kernel
theorem dX6_init_52 : decode cX6_init 52 = .ok (.aload_n 0, 1) := by decide +kernel
theorem dX6_init_53 : decode cX6_init 53 = .ok (.bipush 10, 2) := by decide +kernel
theorem dX6_init_55 : decode cX6_init 55 = .ok (.newarray .int, 2) := by decide +kernel
theorem dX6_init_57 : decode cX6_init 57 = .ok (.putfield 29, 3) := by decide +kernel
theorem dX6_init_60 : decode cX6_init 60 = .ok (.aload_n 0, 1) := by decide +kernel
theorem dX6_init_61 : decode cX6_init 61 = .ok (.iconst 5, 1) := by decide +kernel
theorem dX6_init_62 : decode cX6_init 62 = .ok (.newarray .int, 2) := by decide +kernel
theorem dX6_init_64 : decode cX6_init 64 = .ok (.putfield 32, 3) := by decide +kernel
theorem dX6_init_67 : decode cX6_init 67 = .ok (.aload_n 0, 1) := by decide +kernel
theorem dX6_init_68 : decode cX6_init 68 = .ok (.bipush 6, 2) := by decide +kernel
theorem dX6_init_70 : decode cX6_init 70 = .ok (.newarray .int, 2) := by decide +kernel
theorem dX6_init_72 : decode cX6_init 72 = .ok (.putfield 35, 3) := by decide +kernel
theorem dX6_init_75 : decode cX6_init 75 = .ok (.aload_n 0, 1) := by decide +kernel
theorem dX6_init_76 : decode cX6_init 76 = .ok (.bipush 36, 2) := by decide +kernel
theorem dX6_init_78 : decode cX6_init 78 = .ok (.newarray .long, 2) := by decide +kernel
theorem dX6_init_80 : decode cX6_init 80 = .ok (.putfield 38, 3) := by decide +kernel
theorem dX6_init_83 : decode cX6_init 83 = .ok (.aload_n 0, 1) := by decide +kernel
theorem dX6_init_84 : decode cX6_init 84 = .ok (.bipush 36, 2) := by decide +kernel
theorem dX6_init_86 : decode cX6_init 86 = .ok (.newarray .long, 2) := by decide +kernel
theorem dX6_init_88 : decode cX6_init 88 = .ok (.putfield 42, 3) := by decide +kernel
theorem dX6_init_91 : decode cX6_init 91 = .ok (.aload_n 0, 1) := by decide +kernel
theorem dX6_init_92 : decode cX6_init 92 = .ok (.bipush 6, 2) := by decide +kernel
theorem dX6_init_94 : decode cX6_init 94 = .ok (.newarray .long, 2) := by decide +kernel
theorem dX6_init_96 : decode cX6_init 96 = .ok (.putfield 45, 3) := by decide +kernel
theorem dX6_init_99 : decode cX6_init 99 = .ok (.aload_n 0, 1) := by decide +kernel
theorem dX6_init_100 : decode cX6_init 100 = .ok (.bipush 6, 2) := by decide +kernel
theorem dX6_init_102 : decode cX6_init 102 = .ok (.newarray .int, 2) := by decide +kernel
theorem dX6_init_104 : decode cX6_init 104 = .ok (.putfield 48, 3) := by decide +kernel
theorem dX6_init_107 : decode cX6_init 107 = .ok (.aload_n 0, 1) := by decide +kernel
theorem dX6_init_108 : decode cX6_init 108 = .ok (.bipush 6, 2) := by decide +kernel
theorem dX6_init_110 : decode cX6_init 110 = .ok (.newarray .long, 2) := by decide +kernel
theorem dX6_init_112 : decode cX6_init 112 = .ok (.putfield 51, 3) := by decide +kernel
theorem dX6_init_115 : decode cX6_init 115 = .ok (.aload_n 0, 1) := by decide +kernel
theorem dX6_init_116 : decode cX6_init 116 = .ok (.bipush 6, 2) := by decide +kernel
theorem dX6_init_118 : decode cX6_init 118 = .ok (.newarray .long, 2) := by decide +kernel
theorem dX6_init_120 : decode cX6_init 120 = .ok (.putfield 54, 3) := by decide +kernel
theorem dX6_init_123 : decode cX6_init 123 = .ok (.return_, 1) := by decide +kernel
theorem dX6_in_0 : decode cX6_in 0 = .ok (.lload_n 0, 1) := by decide +kernel
theorem dX6_in_1 : decode cX6_in 1 = .ok (.lload_n 2, 1) := by decide +kernel
theorem dX6_in_2 : decode cX6_in 2 = .ok (.lcmp, 1) := by decide +kernel
theorem dX6_in_3 : decode cX6_in 3 = .ok (.ifCond .lt 14, 3) := by decide +kernel
theorem dX6_in_6 : decode cX6_in 6 = .ok (.lload_n 0, 1) := by decide +kernel
theorem dX6_in_7 : decode cX6_in 7 = .ok (.lload 4, 2) := by decide +kernel
theorem dX6_in_9 : decode cX6_in 9 = .ok (.lcmp, 1) := by decide +kernel
theorem dX6_in_10 : decode cX6_in 10 = .ok (.ifCond .gt 7, 3) := by decide +kernel
theorem dX6_in_13 : decode cX6_in 13 = .ok (.iconst 1, 1) := by decide +kernel
theorem dX6_in_14 : decode cX6_in 14 = .ok (.goto 4, 3) := by decide +kernel
theorem dX6_in_17 : decode cX6_in 17 = .ok (.iconst 0, 1) := by decide +kernel
theorem dX6_in_18 : decode cX6_in 18 = .ok (.ireturn, 1) := by decide +kernel
theorem dX6_isJoint_0 : decode cX6_isJoint 0 = .ok (.iload_n 1, 1) := by decide +kernel
theorem dX6_isJoint_1 : decode cX6_isJoint 1 = .ok (.i2l, 1) := by decide +kernel
theorem dX6_isJoint_2 : decode cX6_isJoint 2 = .ok (.lconst 0, 1) := by decide +kernel
theorem dX6_isJoint_3 : decode cX6_isJoint 3 = .ok (.aload_n 0, 1) := by decide +kernel
theorem dX6_isJoint_4 : decode cX6_isJoint 4 = .ok (.getfield 57, 3) := by decide +kernel
theorem dX6_isJoint_7 : decode cX6_isJoint 7 = .ok (.iconst 1, 1) := by decide +kernel
theorem dX6_isJoint_8 : decode cX6_isJoint 8 = .ok (.isub, 1) := by decide +kernel
theorem dX6_isJoint_9 : decode cX6_isJoint 9 = .ok (.i2l, 1) := by decide +kernel
theorem dX6_isJoint_10 : decode cX6_isJoint 10 = .ok (.invokestatic 61, 3) := by decide +kernel
theorem dX6_isJoint_13 : decode cX6_isJoint 13 = .ok (.ireturn, 1) := by decide +kernel
theorem dX6_isBar_0 : decode cX6_isBar 0 = .ok (.iload_n 1, 1) := by decide +kernel
theorem dX6_isBar_1 : decode cX6_isBar 1 = .ok (.i2l, 1) := by decide +kernel
theorem dX6_isBar_2 : decode cX6_isBar 2 = .ok (.lconst 0, 1) := by decide +kernel
theorem dX6_isBar_3 : decode cX6_isBar 3 = .ok (.aload_n 0, 1) := by decide +kernel
theorem dX6_isBar_4 : decode cX6_isBar 4 = .ok (.getfield 65, 3) := by decide +kernel
theorem dX6_isBar_7 : decode cX6_isBar 7 = .ok (.iconst 1, 1) := by decide +kernel
theorem dX6_isBar_8 : decode cX6_isBar 8 = .ok (.isub, 1) := by decide +kernel
theorem dX6_isBar_9 : decode cX6_isBar 9 = .ok (.i2l, 1) := by decide +kernel
theorem dX6_isBar_10 : decode cX6_isBar 10 = .ok (.invokestatic 61, 3) := by decide +kernel
theorem dX6_isBar_13 : decode cX6_isBar 13 = .ok (.ireturn, 1) := by decide +kernel
theorem dX6_common_0 : decode cX6_common 0 = .ok (.lload_n 0, 1) := by decide +kernel
theorem dX6_common_1 : decode cX6_common 1 = .ok (.lconst 0, 1) := by decide +kernel
theorem dX6_common_2 : decode cX6_common 2 = .ok (.lcmp, 1) := by decide +kernel
theorem dX6_common_3 : decode cX6_common 3 = .ok (.ifCond .ge 8, 3) := by decide +kernel
theorem dX6_common_6 : decode cX6_common 6 = .ok (.lload_n 0, 1) := by decide +kernel
theorem dX6_common_7 : decode cX6_common 7 = .ok (.lneg, 1) := by decide +kernel
theorem dX6_common_8 : decode cX6_common 8 = .ok (.goto 4, 3) := by decide +kernel
theorem dX6_common_11 : decode cX6_common 11 = .ok (.lload_n 0, 1) := by decide +kernel
theorem dX6_common_12 : decode cX6_common 12 = .ok (.lstore 4, 2) := by decide +kernel
theorem dX6_common_14 : decode cX6_common 14 = .ok (.lload_n 2, 1) := by decide +kernel
theorem dX6_common_15 : decode cX6_common 15 = .ok (.lstore 6, 2) := by decide +kernel
theorem dX6_common_17 : decode cX6_common 17 = .ok (.lload 6, 2) := by decide +kernel
theorem dX6_common_19 : decode cX6_common 19 = .ok (.lconst 0, 1) := by decide +kernel
theorem dX6_common_20 : decode cX6_common 20 = .ok (.lcmp, 1) := by decide +kernel
theorem dX6_common_21 : decode cX6_common 21 = .ok (.ifCond .eq 21, 3) := by decide +kernel
theorem dX6_common_24 : decode cX6_common 24 = .ok (.lload 4, 2) := by decide +kernel
theorem dX6_common_26 : decode cX6_common 26 = .ok (.lload 6, 2) := by decide +kernel
theorem dX6_common_28 : decode cX6_common 28 = .ok (.lrem, 1) := by decide +kernel
theorem dX6_common_29 : decode cX6_common 29 = .ok (.lstore 8, 2) := by decide +kernel
theorem dX6_common_31 : decode cX6_common 31 = .ok (.lload 6, 2) := by decide +kernel
theorem dX6_common_33 : decode cX6_common 33 = .ok (.lstore 4, 2) := by decide +kernel
theorem dX6_common_35 : decode cX6_common 35 = .ok (.lload 8, 2) := by decide +kernel
theorem dX6_common_37 : decode cX6_common 37 = .ok (.lstore 6, 2) := by decide +kernel
theorem dX6_common_39 : decode cX6_common 39 = .ok (.goto (-22), 3) := by decide +kernel
theorem dX6_common_42 : decode cX6_common 42 = .ok (.lload 4, 2) := by decide +kernel
theorem dX6_common_44 : decode cX6_common 44 = .ok (.lreturn, 1) := by decide +kernel
theorem dX6_term_0 : decode cX6_term 0 = .ok (.lload_n 0, 1) := by decide +kernel
theorem dX6_term_1 : decode cX6_term 1 = .ok (.lload_n 2, 1) := by decide +kernel
theorem dX6_term_2 : decode cX6_term 2 = .ok (.invokestatic 68, 3) := by decide +kernel
theorem dX6_term_5 : decode cX6_term 5 = .ok (.lstore 5, 2) := by decide +kernel
theorem dX6_term_7 : decode cX6_term 7 = .ok (.iload 4, 2) := by decide +kernel
theorem dX6_term_9 : decode cX6_term 9 = .ok (.ifCond .ne 10, 3) := by decide +kernel
theorem dX6_term_12 : decode cX6_term 12 = .ok (.lload_n 0, 1) := by decide +kernel
theorem dX6_term_13 : decode cX6_term 13 = .ok (.lload 5, 2) := by decide +kernel
theorem dX6_term_15 : decode cX6_term 15 = .ok (.ldiv, 1) := by decide +kernel
theorem dX6_term_16 : decode cX6_term 16 = .ok (.goto 7, 3) := by decide +kernel
theorem dX6_term_19 : decode cX6_term 19 = .ok (.lload_n 2, 1) := by decide +kernel
theorem dX6_term_20 : decode cX6_term 20 = .ok (.lload 5, 2) := by decide +kernel
theorem dX6_term_22 : decode cX6_term 22 = .ok (.ldiv, 1) := by decide +kernel
theorem dX6_term_23 : decode cX6_term 23 = .ok (.lreturn, 1) := by decide +kernel
theorem dX6_abs_0 : decode cX6_abs 0 = .ok (.lload_n 0, 1) := by decide +kernel
theorem dX6_abs_1 : decode cX6_abs 1 = .ok (.lconst 0, 1) := by decide +kernel
theorem dX6_abs_2 : decode cX6_abs 2 = .ok (.lcmp, 1) := by decide +kernel
theorem dX6_abs_3 : decode cX6_abs 3 = .ok (.ifCond .ge 8, 3) := by decide +kernel
theorem dX6_abs_6 : decode cX6_abs 6 = .ok (.lload_n 0, 1) := by decide +kernel
theorem dX6_abs_7 : decode cX6_abs 7 = .ok (.lneg, 1) := by decide +kernel
theorem dX6_abs_8 : decode cX6_abs 8 = .ok (.goto 4, 3) := by decide +kernel
theorem dX6_abs_11 : decode cX6_abs 11 = .ok (.lload_n 0, 1) := by decide +kernel
theorem dX6_abs_12 : decode cX6_abs 12 = .ok (.lreturn, 1) := by decide +kernel
theorem dX6_frees_0 : decode cX6_frees 0 = .ok (.iconst 0, 1) := by decide +kernel
theorem dX6_frees_1 : decode cX6_frees 1 = .ok (.istore_n 1, 1) := by decide +kernel
theorem dX6_frees_2 : decode cX6_frees 2 = .ok (.iconst 0, 1) := by decide +kernel
theorem dX6_frees_3 : decode cX6_frees 3 = .ok (.istore_n 2, 1) := by decide +kernel
theorem dX6_frees_4 : decode cX6_frees 4 = .ok (.iload_n 2, 1) := by decide +kernel
theorem dX6_frees_5 : decode cX6_frees 5 = .ok (.aload_n 0, 1) := by decide +kernel
theorem dX6_frees_6 : decode cX6_frees 6 = .ok (.getfield 57, 3) := by decide +kernel
theorem dX6_frees_9 : decode cX6_frees 9 = .ok (.if_icmp .ge 26, 3) := by decide +kernel
theorem dX6_frees_12 : decode cX6_frees 12 = .ok (.iload_n 1, 1) := by decide +kernel
theorem dX6_frees_13 : decode cX6_frees 13 = .ok (.aload_n 0, 1) := by decide +kernel
theorem dX6_frees_14 : decode cX6_frees 14 = .ok (.getfield 16, 3) := by decide +kernel
theorem dX6_frees_17 : decode cX6_frees 17 = .ok (.iload_n 2, 1) := by decide +kernel
theorem dX6_frees_18 : decode cX6_frees 18 = .ok (.baload, 1) := by decide +kernel
theorem dX6_frees_19 : decode cX6_frees 19 = .ok (.ifCond .eq 7, 3) := by decide +kernel
theorem dX6_frees_22 : decode cX6_frees 22 = .ok (.iconst 0, 1) := by decide +kernel
theorem dX6_frees_23 : decode cX6_frees 23 = .ok (.goto 4, 3) := by decide +kernel
theorem dX6_frees_26 : decode cX6_frees 26 = .ok (.iconst 1, 1) := by decide +kernel
theorem dX6_frees_27 : decode cX6_frees 27 = .ok (.iadd, 1) := by decide +kernel
theorem dX6_frees_28 : decode cX6_frees 28 = .ok (.istore_n 1, 1) := by decide +kernel
theorem dX6_frees_29 : decode cX6_frees 29 = .ok (.iinc 2 1, 3) := by decide +kernel
theorem dX6_frees_32 : decode cX6_frees 32 = .ok (.goto (-28), 3) := by decide +kernel
theorem dX6_frees_35 : decode cX6_frees 35 = .ok (.iload_n 1, 1) := by decide +kernel
theorem dX6_frees_36 : decode cX6_frees 36 = .ok (.ireturn, 1) := by decide +kernel
theorem dX6_joint_0 : decode cX6_joint 0 = .ok (.iload_n 1, 1) := by decide +kernel
theorem dX6_joint_1 : decode cX6_joint 1 = .ok (.i2l, 1) := by decide +kernel
theorem dX6_joint_2 : decode cX6_joint 2 = .ok (.lconst 0, 1) := by decide +kernel
theorem dX6_joint_3 : decode cX6_joint 3 = .ok (.ldc2_w 72, 3) := by decide +kernel
theorem dX6_joint_6 : decode cX6_joint 6 = .ok (.invokestatic 61, 3) := by decide +kernel
theorem dX6_joint_9 : decode cX6_joint 9 = .ok (.ifCond .eq 15, 3) := by decide +kernel
theorem dX6_joint_12 : decode cX6_joint 12 = .ok (.iload_n 2, 1) := by decide +kernel
theorem dX6_joint_13 : decode cX6_joint 13 = .ok (.i2l, 1) := by decide +kernel
theorem dX6_joint_14 : decode cX6_joint 14 = .ok (.lconst 0, 1) := by decide +kernel
theorem dX6_joint_15 : decode cX6_joint 15 = .ok (.ldc2_w 72, 3) := by decide +kernel
theorem dX6_joint_18 : decode cX6_joint 18 = .ok (.invokestatic 61, 3) := by decide +kernel
theorem dX6_joint_21 : decode cX6_joint 21 = .ok (.ifCond .ne 6, 3) := by decide +kernel
theorem dX6_joint_24 : decode cX6_joint 24 = .ok (.bipush (-2), 2) := by decide +kernel
theorem dX6_joint_26 : decode cX6_joint 26 = .ok (.ireturn, 1) := by decide +kernel
theorem dX6_joint_27 : decode cX6_joint 27 = .ok (.aload_n 0, 1) := by decide +kernel
theorem dX6_joint_28 : decode cX6_joint 28 = .ok (.getfield 57, 3) := by decide +kernel
theorem dX6_joint_31 : decode cX6_joint 31 = .ok (.bipush 6, 2) := by decide +kernel
theorem dX6_joint_33 : decode cX6_joint 33 = .ok (.if_icmp .eq 15, 3) := by decide +kernel
theorem dX6_joint_36 : decode cX6_joint 36 = .ok (.iload_n 3, 1) := by decide +kernel
theorem dX6_joint_37 : decode cX6_joint 37 = .ok (.ifCond .ne 14, 3) := by decide +kernel
theorem dX6_joint_40 : decode cX6_joint 40 = .ok (.aload_n 0, 1) := by decide +kernel
theorem dX6_joint_41 : decode cX6_joint 41 = .ok (.invokevirtual 74, 3) := by decide +kernel
theorem dX6_joint_44 : decode cX6_joint 44 = .ok (.iconst 3, 1) := by decide +kernel
theorem dX6_joint_45 : decode cX6_joint 45 = .ok (.if_icmp .ne 6, 3) := by decide +kernel
theorem dX6_joint_48 : decode cX6_joint 48 = .ok (.bipush (-4), 2) := by decide +kernel
theorem dX6_joint_50 : decode cX6_joint 50 = .ok (.ireturn, 1) := by decide +kernel
theorem dX6_joint_51 : decode cX6_joint 51 = .ok (.iconst 0, 1) := by decide +kernel
theorem dX6_joint_52 : decode cX6_joint 52 = .ok (.istore 4, 2) := by decide +kernel
theorem dX6_joint_54 : decode cX6_joint 54 = .ok (.iload 4, 2) := by decide +kernel
theorem dX6_joint_56 : decode cX6_joint 56 = .ok (.aload_n 0, 1) := by decide +kernel
theorem dX6_joint_57 : decode cX6_joint 57 = .ok (.getfield 57, 3) := by decide +kernel
theorem dX6_joint_60 : decode cX6_joint 60 = .ok (.if_icmp .ge 34, 3) := by decide +kernel
theorem dX6_joint_63 : decode cX6_joint 63 = .ok (.aload_n 0, 1) := by decide +kernel
theorem dX6_joint_64 : decode cX6_joint 64 = .ok (.getfield 7, 3) := by decide +kernel
theorem dX6_joint_67 : decode cX6_joint 67 = .ok (.iload 4, 2) := by decide +kernel
theorem dX6_joint_69 : decode cX6_joint 69 = .ok (.iaload, 1) := by decide +kernel
theorem dX6_joint_70 : decode cX6_joint 70 = .ok (.iload_n 1, 1) := by decide +kernel
theorem dX6_joint_71 : decode cX6_joint 71 = .ok (.if_icmp .ne 17, 3) := by decide +kernel
theorem dX6_joint_74 : decode cX6_joint 74 = .ok (.aload_n 0, 1) := by decide +kernel
theorem dX6_joint_75 : decode cX6_joint 75 = .ok (.getfield 13, 3) := by decide +kernel
theorem dX6_joint_78 : decode cX6_joint 78 = .ok (.iload 4, 2) := by decide +kernel
theorem dX6_joint_80 : decode cX6_joint 80 = .ok (.iaload, 1) := by decide +kernel
theorem dX6_joint_81 : decode cX6_joint 81 = .ok (.iload_n 2, 1) := by decide +kernel
theorem dX6_joint_82 : decode cX6_joint 82 = .ok (.if_icmp .ne 6, 3) := by decide +kernel
theorem dX6_joint_85 : decode cX6_joint 85 = .ok (.bipush (-5), 2) := by decide +kernel
theorem dX6_joint_87 : decode cX6_joint 87 = .ok (.ireturn, 1) := by decide +kernel
theorem dX6_joint_88 : decode cX6_joint 88 = .ok (.iinc 4 1, 3) := by decide +kernel
theorem dX6_joint_91 : decode cX6_joint 91 = .ok (.goto (-37), 3) := by decide +kernel
theorem dX6_joint_94 : decode cX6_joint 94 = .ok (.aload_n 0, 1) := by decide +kernel
theorem dX6_joint_95 : decode cX6_joint 95 = .ok (.getfield 7, 3) := by decide +kernel
theorem dX6_joint_98 : decode cX6_joint 98 = .ok (.aload_n 0, 1) := by decide +kernel
theorem dX6_joint_99 : decode cX6_joint 99 = .ok (.getfield 57, 3) := by decide +kernel
theorem dX6_joint_102 : decode cX6_joint 102 = .ok (.iload_n 1, 1) := by decide +kernel
theorem dX6_joint_103 : decode cX6_joint 103 = .ok (.iastore, 1) := by decide +kernel
theorem dX6_joint_104 : decode cX6_joint 104 = .ok (.aload_n 0, 1) := by decide +kernel
theorem dX6_joint_105 : decode cX6_joint 105 = .ok (.getfield 13, 3) := by decide +kernel
theorem dX6_joint_108 : decode cX6_joint 108 = .ok (.aload_n 0, 1) := by decide +kernel
theorem dX6_joint_109 : decode cX6_joint 109 = .ok (.getfield 57, 3) := by decide +kernel
theorem dX6_joint_112 : decode cX6_joint 112 = .ok (.iload_n 2, 1) := by decide +kernel
theorem dX6_joint_113 : decode cX6_joint 113 = .ok (.iastore, 1) := by decide +kernel
theorem dX6_joint_114 : decode cX6_joint 114 = .ok (.aload_n 0, 1) := by decide +kernel
theorem dX6_joint_115 : decode cX6_joint 115 = .ok (.getfield 16, 3) := by decide +kernel
theorem dX6_joint_118 : decode cX6_joint 118 = .ok (.aload_n 0, 1) := by decide +kernel
theorem dX6_joint_119 : decode cX6_joint 119 = .ok (.getfield 57, 3) := by decide +kernel
theorem dX6_joint_122 : decode cX6_joint 122 = .ok (.iload_n 3, 1) := by decide +kernel
theorem dX6_joint_123 : decode cX6_joint 123 = .ok (.bastore, 1) := by decide +kernel
theorem dX6_joint_124 : decode cX6_joint 124 = .ok (.aload_n 0, 1) := by decide +kernel
theorem dX6_joint_125 : decode cX6_joint 125 = .ok (.getfield 20, 3) := by decide +kernel
theorem dX6_joint_128 : decode cX6_joint 128 = .ok (.aload_n 0, 1) := by decide +kernel
theorem dX6_joint_129 : decode cX6_joint 129 = .ok (.getfield 57, 3) := by decide +kernel
theorem dX6_joint_132 : decode cX6_joint 132 = .ok (.iconst 0, 1) := by decide +kernel
theorem dX6_joint_133 : decode cX6_joint 133 = .ok (.iastore, 1) := by decide +kernel
theorem dX6_joint_134 : decode cX6_joint 134 = .ok (.aload_n 0, 1) := by decide +kernel
theorem dX6_joint_135 : decode cX6_joint 135 = .ok (.getfield 23, 3) := by decide +kernel
theorem dX6_joint_138 : decode cX6_joint 138 = .ok (.aload_n 0, 1) := by decide +kernel
theorem dX6_joint_139 : decode cX6_joint 139 = .ok (.getfield 57, 3) := by decide +kernel
theorem dX6_joint_142 : decode cX6_joint 142 = .ok (.iconst 0, 1) := by decide +kernel
theorem dX6_joint_143 : decode cX6_joint 143 = .ok (.iastore, 1) := by decide +kernel
theorem dX6_joint_144 : decode cX6_joint 144 = .ok (.aload_n 0, 1) := by decide +kernel
theorem dX6_joint_145 : decode cX6_joint 145 = .ok (.dup, 1) := by decide +kernel
theorem dX6_joint_146 : decode cX6_joint 146 = .ok (.getfield 57, 3) := by decide +kernel
theorem dX6_joint_149 : decode cX6_joint 149 = .ok (.iconst 1, 1) := by decide +kernel
theorem dX6_joint_150 : decode cX6_joint 150 = .ok (.iadd, 1) := by decide +kernel
theorem dX6_joint_151 : decode cX6_joint 151 = .ok (.putfield 57, 3) := by decide +kernel
theorem dX6_joint_154 : decode cX6_joint 154 = .ok (.aload_n 0, 1) := by decide +kernel
theorem dX6_joint_155 : decode cX6_joint 155 = .ok (.iconst 0, 1) := by decide +kernel
theorem dX6_joint_156 : decode cX6_joint 156 = .ok (.putfield 78, 3) := by decide +kernel
theorem dX6_joint_159 : decode cX6_joint 159 = .ok (.aload_n 0, 1) := by decide +kernel
theorem dX6_joint_160 : decode cX6_joint 160 = .ok (.getfield 57, 3) := by decide +kernel
theorem dX6_joint_163 : decode cX6_joint 163 = .ok (.iconst 1, 1) := by decide +kernel
theorem dX6_joint_164 : decode cX6_joint 164 = .ok (.isub, 1) := by decide +kernel
theorem dX6_joint_165 : decode cX6_joint 165 = .ok (.ireturn, 1) := by decide +kernel
theorem dX6_bar_0 : decode cX6_bar 0 = .ok (.aload_n 0, 1) := by decide +kernel
theorem dX6_bar_1 : decode cX6_bar 1 = .ok (.iload_n 1, 1) := by decide +kernel
theorem dX6_bar_2 : decode cX6_bar 2 = .ok (.invokevirtual 82, 3) := by decide +kernel
theorem dX6_bar_5 : decode cX6_bar 5 = .ok (.ifCond .eq 16, 3) := by decide +kernel
theorem dX6_bar_8 : decode cX6_bar 8 = .ok (.aload_n 0, 1) := by decide +kernel
theorem dX6_bar_9 : decode cX6_bar 9 = .ok (.iload_n 2, 1) := by decide +kernel
theorem dX6_bar_10 : decode cX6_bar 10 = .ok (.invokevirtual 82, 3) := by decide +kernel
theorem dX6_bar_13 : decode cX6_bar 13 = .ok (.ifCond .eq 8, 3) := by decide +kernel
theorem dX6_bar_16 : decode cX6_bar 16 = .ok (.iload_n 1, 1) := by decide +kernel
theorem dX6_bar_17 : decode cX6_bar 17 = .ok (.iload_n 2, 1) := by decide +kernel
theorem dX6_bar_18 : decode cX6_bar 18 = .ok (.if_icmp .ne 5, 3) := by decide +kernel
theorem dX6_bar_21 : decode cX6_bar 21 = .ok (.iconst (-1), 1) := by decide +kernel
theorem dX6_bar_22 : decode cX6_bar 22 = .ok (.ireturn, 1) := by decide +kernel
theorem dX6_bar_23 : decode cX6_bar 23 = .ok (.aload_n 0, 1) := by decide +kernel
theorem dX6_bar_24 : decode cX6_bar 24 = .ok (.getfield 65, 3) := by decide +kernel
theorem dX6_bar_27 : decode cX6_bar 27 = .ok (.bipush 10, 2) := by decide +kernel
theorem dX6_bar_29 : decode cX6_bar 29 = .ok (.if_icmp .ne 6, 3) := by decide +kernel
theorem dX6_bar_32 : decode cX6_bar 32 = .ok (.bipush (-4), 2) := by decide +kernel
theorem dX6_bar_34 : decode cX6_bar 34 = .ok (.ireturn, 1) := by decide +kernel
theorem dX6_bar_35 : decode cX6_bar 35 = .ok (.iconst 0, 1) := by decide +kernel
theorem dX6_bar_36 : decode cX6_bar 36 = .ok (.istore_n 3, 1) := by decide +kernel
theorem dX6_bar_37 : decode cX6_bar 37 = .ok (.iload_n 3, 1) := by decide +kernel
theorem dX6_bar_38 : decode cX6_bar 38 = .ok (.aload_n 0, 1) := by decide +kernel
theorem dX6_bar_39 : decode cX6_bar 39 = .ok (.getfield 65, 3) := by decide +kernel
theorem dX6_bar_42 : decode cX6_bar 42 = .ok (.if_icmp .ge 52, 3) := by decide +kernel
theorem dX6_bar_45 : decode cX6_bar 45 = .ok (.aload_n 0, 1) := by decide +kernel
theorem dX6_bar_46 : decode cX6_bar 46 = .ok (.getfield 26, 3) := by decide +kernel
theorem dX6_bar_49 : decode cX6_bar 49 = .ok (.iload_n 3, 1) := by decide +kernel
theorem dX6_bar_50 : decode cX6_bar 50 = .ok (.iaload, 1) := by decide +kernel
theorem dX6_bar_51 : decode cX6_bar 51 = .ok (.iload_n 1, 1) := by decide +kernel
theorem dX6_bar_52 : decode cX6_bar 52 = .ok (.if_icmp .ne 13, 3) := by decide +kernel
theorem dX6_bar_55 : decode cX6_bar 55 = .ok (.aload_n 0, 1) := by decide +kernel
theorem dX6_bar_56 : decode cX6_bar 56 = .ok (.getfield 29, 3) := by decide +kernel
theorem dX6_bar_59 : decode cX6_bar 59 = .ok (.iload_n 3, 1) := by decide +kernel
theorem dX6_bar_60 : decode cX6_bar 60 = .ok (.iaload, 1) := by decide +kernel
theorem dX6_bar_61 : decode cX6_bar 61 = .ok (.iload_n 2, 1) := by decide +kernel
theorem dX6_bar_62 : decode cX6_bar 62 = .ok (.if_icmp .eq 23, 3) := by decide +kernel
theorem dX6_bar_65 : decode cX6_bar 65 = .ok (.aload_n 0, 1) := by decide +kernel
theorem dX6_bar_66 : decode cX6_bar 66 = .ok (.getfield 26, 3) := by decide +kernel
theorem dX6_bar_69 : decode cX6_bar 69 = .ok (.iload_n 3, 1) := by decide +kernel
theorem dX6_bar_70 : decode cX6_bar 70 = .ok (.iaload, 1) := by decide +kernel
theorem dX6_bar_71 : decode cX6_bar 71 = .ok (.iload_n 2, 1) := by decide +kernel
theorem dX6_bar_72 : decode cX6_bar 72 = .ok (.if_icmp .ne 16, 3) := by decide +kernel
theorem dX6_bar_75 : decode cX6_bar 75 = .ok (.aload_n 0, 1) := by decide +kernel
theorem dX6_bar_76 : decode cX6_bar 76 = .ok (.getfield 29, 3) := by decide +kernel
theorem dX6_bar_79 : decode cX6_bar 79 = .ok (.iload_n 3, 1) := by decide +kernel
theorem dX6_bar_80 : decode cX6_bar 80 = .ok (.iaload, 1) := by decide +kernel
theorem dX6_bar_81 : decode cX6_bar 81 = .ok (.iload_n 1, 1) := by decide +kernel
theorem dX6_bar_82 : decode cX6_bar 82 = .ok (.if_icmp .ne 6, 3) := by decide +kernel
theorem dX6_bar_85 : decode cX6_bar 85 = .ok (.bipush (-5), 2) := by decide +kernel
theorem dX6_bar_87 : decode cX6_bar 87 = .ok (.ireturn, 1) := by decide +kernel
theorem dX6_bar_88 : decode cX6_bar 88 = .ok (.iinc 3 1, 3) := by decide +kernel
theorem dX6_bar_91 : decode cX6_bar 91 = .ok (.goto (-54), 3) := by decide +kernel
theorem dX6_bar_94 : decode cX6_bar 94 = .ok (.aload_n 0, 1) := by decide +kernel
theorem dX6_bar_95 : decode cX6_bar 95 = .ok (.getfield 26, 3) := by decide +kernel
theorem dX6_bar_98 : decode cX6_bar 98 = .ok (.aload_n 0, 1) := by decide +kernel
theorem dX6_bar_99 : decode cX6_bar 99 = .ok (.getfield 65, 3) := by decide +kernel
theorem dX6_bar_102 : decode cX6_bar 102 = .ok (.iload_n 1, 1) := by decide +kernel
theorem dX6_bar_103 : decode cX6_bar 103 = .ok (.iastore, 1) := by decide +kernel
theorem dX6_bar_104 : decode cX6_bar 104 = .ok (.aload_n 0, 1) := by decide +kernel
theorem dX6_bar_105 : decode cX6_bar 105 = .ok (.getfield 29, 3) := by decide +kernel
theorem dX6_bar_108 : decode cX6_bar 108 = .ok (.aload_n 0, 1) := by decide +kernel
theorem dX6_bar_109 : decode cX6_bar 109 = .ok (.getfield 65, 3) := by decide +kernel
theorem dX6_bar_112 : decode cX6_bar 112 = .ok (.iload_n 2, 1) := by decide +kernel
theorem dX6_bar_113 : decode cX6_bar 113 = .ok (.iastore, 1) := by decide +kernel
theorem dX6_bar_114 : decode cX6_bar 114 = .ok (.aload_n 0, 1) := by decide +kernel
theorem dX6_bar_115 : decode cX6_bar 115 = .ok (.dup, 1) := by decide +kernel
theorem dX6_bar_116 : decode cX6_bar 116 = .ok (.getfield 65, 3) := by decide +kernel
theorem dX6_bar_119 : decode cX6_bar 119 = .ok (.iconst 1, 1) := by decide +kernel
theorem dX6_bar_120 : decode cX6_bar 120 = .ok (.iadd, 1) := by decide +kernel
theorem dX6_bar_121 : decode cX6_bar 121 = .ok (.putfield 65, 3) := by decide +kernel
theorem dX6_bar_124 : decode cX6_bar 124 = .ok (.aload_n 0, 1) := by decide +kernel
theorem dX6_bar_125 : decode cX6_bar 125 = .ok (.iconst 0, 1) := by decide +kernel
theorem dX6_bar_126 : decode cX6_bar 126 = .ok (.putfield 78, 3) := by decide +kernel
theorem dX6_bar_129 : decode cX6_bar 129 = .ok (.aload_n 0, 1) := by decide +kernel
theorem dX6_bar_130 : decode cX6_bar 130 = .ok (.getfield 65, 3) := by decide +kernel
theorem dX6_bar_133 : decode cX6_bar 133 = .ok (.iconst 1, 1) := by decide +kernel
theorem dX6_bar_134 : decode cX6_bar 134 = .ok (.isub, 1) := by decide +kernel
theorem dX6_bar_135 : decode cX6_bar 135 = .ok (.ireturn, 1) := by decide +kernel
theorem dX6_load_0 : decode cX6_load 0 = .ok (.aload_n 0, 1) := by decide +kernel
theorem dX6_load_1 : decode cX6_load 1 = .ok (.iload_n 1, 1) := by decide +kernel
theorem dX6_load_2 : decode cX6_load 2 = .ok (.invokevirtual 82, 3) := by decide +kernel
theorem dX6_load_5 : decode cX6_load 5 = .ok (.ifCond .ne 5, 3) := by decide +kernel
theorem dX6_load_8 : decode cX6_load 8 = .ok (.iconst (-1), 1) := by decide +kernel
theorem dX6_load_9 : decode cX6_load 9 = .ok (.ireturn, 1) := by decide +kernel
theorem dX6_load_10 : decode cX6_load 10 = .ok (.iload_n 2, 1) := by decide +kernel
theorem dX6_load_11 : decode cX6_load 11 = .ok (.i2l, 1) := by decide +kernel
theorem dX6_load_12 : decode cX6_load 12 = .ok (.ldc2_w 86, 3) := by decide +kernel
theorem dX6_load_15 : decode cX6_load 15 = .ok (.ldc2_w 88, 3) := by decide +kernel
theorem dX6_load_18 : decode cX6_load 18 = .ok (.invokestatic 61, 3) := by decide +kernel
theorem dX6_load_21 : decode cX6_load 21 = .ok (.ifCond .eq 17, 3) := by decide +kernel
theorem dX6_load_24 : decode cX6_load 24 = .ok (.iload_n 3, 1) := by decide +kernel
theorem dX6_load_25 : decode cX6_load 25 = .ok (.i2l, 1) := by decide +kernel
theorem dX6_load_26 : decode cX6_load 26 = .ok (.ldc2_w 86, 3) := by decide +kernel
theorem dX6_load_29 : decode cX6_load 29 = .ok (.ldc2_w 88, 3) := by decide +kernel
theorem dX6_load_32 : decode cX6_load 32 = .ok (.invokestatic 61, 3) := by decide +kernel
theorem dX6_load_35 : decode cX6_load 35 = .ok (.ifCond .ne 6, 3) := by decide +kernel
theorem dX6_load_38 : decode cX6_load 38 = .ok (.bipush (-2), 2) := by decide +kernel
theorem dX6_load_40 : decode cX6_load 40 = .ok (.ireturn, 1) := by decide +kernel
theorem dX6_load_41 : decode cX6_load 41 = .ok (.aload_n 0, 1) := by decide +kernel
theorem dX6_load_42 : decode cX6_load 42 = .ok (.getfield 16, 3) := by decide +kernel
theorem dX6_load_45 : decode cX6_load 45 = .ok (.iload_n 1, 1) := by decide +kernel
theorem dX6_load_46 : decode cX6_load 46 = .ok (.baload, 1) := by decide +kernel
theorem dX6_load_47 : decode cX6_load 47 = .ok (.ifCond .eq 6, 3) := by decide +kernel
theorem dX6_load_50 : decode cX6_load 50 = .ok (.bipush (-5), 2) := by decide +kernel
theorem dX6_load_52 : decode cX6_load 52 = .ok (.ireturn, 1) := by decide +kernel
theorem dX6_load_53 : decode cX6_load 53 = .ok (.aload_n 0, 1) := by decide +kernel
theorem dX6_load_54 : decode cX6_load 54 = .ok (.getfield 20, 3) := by decide +kernel
theorem dX6_load_57 : decode cX6_load 57 = .ok (.iload_n 1, 1) := by decide +kernel
theorem dX6_load_58 : decode cX6_load 58 = .ok (.iload_n 2, 1) := by decide +kernel
theorem dX6_load_59 : decode cX6_load 59 = .ok (.iastore, 1) := by decide +kernel
theorem dX6_load_60 : decode cX6_load 60 = .ok (.aload_n 0, 1) := by decide +kernel
theorem dX6_load_61 : decode cX6_load 61 = .ok (.getfield 23, 3) := by decide +kernel
theorem dX6_load_64 : decode cX6_load 64 = .ok (.iload_n 1, 1) := by decide +kernel
theorem dX6_load_65 : decode cX6_load 65 = .ok (.iload_n 3, 1) := by decide +kernel
theorem dX6_load_66 : decode cX6_load 66 = .ok (.iastore, 1) := by decide +kernel
theorem dX6_load_67 : decode cX6_load 67 = .ok (.aload_n 0, 1) := by decide +kernel
theorem dX6_load_68 : decode cX6_load 68 = .ok (.iconst 0, 1) := by decide +kernel
theorem dX6_load_69 : decode cX6_load 69 = .ok (.putfield 78, 3) := by decide +kernel
theorem dX6_load_72 : decode cX6_load 72 = .ok (.iconst 1, 1) := by decide +kernel
theorem dX6_load_73 : decode cX6_load 73 = .ok (.ireturn, 1) := by decide +kernel
theorem dX6_about_0 : decode cX6_about 0 = .ok (.aload_n 0, 1) := by decide +kernel
theorem dX6_about_1 : decode cX6_about 1 = .ok (.iload_n 1, 1) := by decide +kernel
theorem dX6_about_2 : decode cX6_about 2 = .ok (.invokevirtual 82, 3) := by decide +kernel
theorem dX6_about_5 : decode cX6_about 5 = .ok (.ifCond .ne 6, 3) := by decide +kernel
theorem dX6_about_8 : decode cX6_about 8 = .ok (.bipush (-101), 2) := by decide +kernel
theorem dX6_about_10 : decode cX6_about 10 = .ok (.ireturn, 1) := by decide +kernel
theorem dX6_about_11 : decode cX6_about 11 = .ok (.iload_n 2, 1) := by decide +kernel
theorem dX6_about_12 : decode cX6_about 12 = .ok (.tableswitch 79 0 4 #[36, 43, 50, 65, 72], 36) := by decide +kernel
theorem dX6_about_48 : decode cX6_about 48 = .ok (.aload_n 0, 1) := by decide +kernel
theorem dX6_about_49 : decode cX6_about 49 = .ok (.getfield 7, 3) := by decide +kernel
theorem dX6_about_52 : decode cX6_about 52 = .ok (.iload_n 1, 1) := by decide +kernel
theorem dX6_about_53 : decode cX6_about 53 = .ok (.iaload, 1) := by decide +kernel
theorem dX6_about_54 : decode cX6_about 54 = .ok (.ireturn, 1) := by decide +kernel
theorem dX6_about_55 : decode cX6_about 55 = .ok (.aload_n 0, 1) := by decide +kernel
theorem dX6_about_56 : decode cX6_about 56 = .ok (.getfield 13, 3) := by decide +kernel
theorem dX6_about_59 : decode cX6_about 59 = .ok (.iload_n 1, 1) := by decide +kernel
theorem dX6_about_60 : decode cX6_about 60 = .ok (.iaload, 1) := by decide +kernel
theorem dX6_about_61 : decode cX6_about 61 = .ok (.ireturn, 1) := by decide +kernel
theorem dX6_about_62 : decode cX6_about 62 = .ok (.aload_n 0, 1) := by decide +kernel
theorem dX6_about_63 : decode cX6_about 63 = .ok (.getfield 16, 3) := by decide +kernel
theorem dX6_about_66 : decode cX6_about 66 = .ok (.iload_n 1, 1) := by decide +kernel
theorem dX6_about_67 : decode cX6_about 67 = .ok (.baload, 1) := by decide +kernel
theorem dX6_about_68 : decode cX6_about 68 = .ok (.ifCond .eq 7, 3) := by decide +kernel
theorem dX6_about_71 : decode cX6_about 71 = .ok (.iconst 1, 1) := by decide +kernel
theorem dX6_about_72 : decode cX6_about 72 = .ok (.goto 4, 3) := by decide +kernel
theorem dX6_about_75 : decode cX6_about 75 = .ok (.iconst 0, 1) := by decide +kernel
theorem dX6_about_76 : decode cX6_about 76 = .ok (.ireturn, 1) := by decide +kernel
theorem dX6_about_77 : decode cX6_about 77 = .ok (.aload_n 0, 1) := by decide +kernel
theorem dX6_about_78 : decode cX6_about 78 = .ok (.getfield 20, 3) := by decide +kernel
theorem dX6_about_81 : decode cX6_about 81 = .ok (.iload_n 1, 1) := by decide +kernel
theorem dX6_about_82 : decode cX6_about 82 = .ok (.iaload, 1) := by decide +kernel
theorem dX6_about_83 : decode cX6_about 83 = .ok (.ireturn, 1) := by decide +kernel
theorem dX6_about_84 : decode cX6_about 84 = .ok (.aload_n 0, 1) := by decide +kernel
theorem dX6_about_85 : decode cX6_about 85 = .ok (.getfield 23, 3) := by decide +kernel
theorem dX6_about_88 : decode cX6_about 88 = .ok (.iload_n 1, 1) := by decide +kernel
theorem dX6_about_89 : decode cX6_about 89 = .ok (.iaload, 1) := by decide +kernel
theorem dX6_about_90 : decode cX6_about 90 = .ok (.ireturn, 1) := by decide +kernel
theorem dX6_about_91 : decode cX6_about 91 = .ok (.bipush (-102), 2) := by decide +kernel
theorem dX6_about_93 : decode cX6_about 93 = .ok (.ireturn, 1) := by decide +kernel
theorem dX6_stuff_0 : decode cX6_stuff 0 = .ok (.aload_n 0, 1) := by decide +kernel
theorem dX6_stuff_1 : decode cX6_stuff 1 = .ok (.getfield 7, 3) := by decide +kernel
theorem dX6_stuff_4 : decode cX6_stuff 4 = .ok (.aload_n 0, 1) := by decide +kernel
theorem dX6_stuff_5 : decode cX6_stuff 5 = .ok (.getfield 29, 3) := by decide +kernel
theorem dX6_stuff_8 : decode cX6_stuff 8 = .ok (.iload_n 1, 1) := by decide +kernel
theorem dX6_stuff_9 : decode cX6_stuff 9 = .ok (.iaload, 1) := by decide +kernel
theorem dX6_stuff_10 : decode cX6_stuff 10 = .ok (.iaload, 1) := by decide +kernel
theorem dX6_stuff_11 : decode cX6_stuff 11 = .ok (.aload_n 0, 1) := by decide +kernel
theorem dX6_stuff_12 : decode cX6_stuff 12 = .ok (.getfield 7, 3) := by decide +kernel
theorem dX6_stuff_15 : decode cX6_stuff 15 = .ok (.aload_n 0, 1) := by decide +kernel
theorem dX6_stuff_16 : decode cX6_stuff 16 = .ok (.getfield 26, 3) := by decide +kernel
theorem dX6_stuff_19 : decode cX6_stuff 19 = .ok (.iload_n 1, 1) := by decide +kernel
theorem dX6_stuff_20 : decode cX6_stuff 20 = .ok (.iaload, 1) := by decide +kernel
theorem dX6_stuff_21 : decode cX6_stuff 21 = .ok (.iaload, 1) := by decide +kernel
theorem dX6_stuff_22 : decode cX6_stuff 22 = .ok (.isub, 1) := by decide +kernel
theorem dX6_stuff_23 : decode cX6_stuff 23 = .ok (.istore_n 2, 1) := by decide +kernel
theorem dX6_stuff_24 : decode cX6_stuff 24 = .ok (.aload_n 0, 1) := by decide +kernel
theorem dX6_stuff_25 : decode cX6_stuff 25 = .ok (.getfield 13, 3) := by decide +kernel
theorem dX6_stuff_28 : decode cX6_stuff 28 = .ok (.aload_n 0, 1) := by decide +kernel
theorem dX6_stuff_29 : decode cX6_stuff 29 = .ok (.getfield 29, 3) := by decide +kernel
theorem dX6_stuff_32 : decode cX6_stuff 32 = .ok (.iload_n 1, 1) := by decide +kernel
theorem dX6_stuff_33 : decode cX6_stuff 33 = .ok (.iaload, 1) := by decide +kernel
theorem dX6_stuff_34 : decode cX6_stuff 34 = .ok (.iaload, 1) := by decide +kernel
theorem dX6_stuff_35 : decode cX6_stuff 35 = .ok (.aload_n 0, 1) := by decide +kernel
theorem dX6_stuff_36 : decode cX6_stuff 36 = .ok (.getfield 13, 3) := by decide +kernel
theorem dX6_stuff_39 : decode cX6_stuff 39 = .ok (.aload_n 0, 1) := by decide +kernel
theorem dX6_stuff_40 : decode cX6_stuff 40 = .ok (.getfield 26, 3) := by decide +kernel
theorem dX6_stuff_43 : decode cX6_stuff 43 = .ok (.iload_n 1, 1) := by decide +kernel
theorem dX6_stuff_44 : decode cX6_stuff 44 = .ok (.iaload, 1) := by decide +kernel
theorem dX6_stuff_45 : decode cX6_stuff 45 = .ok (.iaload, 1) := by decide +kernel
theorem dX6_stuff_46 : decode cX6_stuff 46 = .ok (.isub, 1) := by decide +kernel
theorem dX6_stuff_47 : decode cX6_stuff 47 = .ok (.istore_n 3, 1) := by decide +kernel
theorem dX6_stuff_48 : decode cX6_stuff 48 = .ok (.iload_n 2, 1) := by decide +kernel
theorem dX6_stuff_49 : decode cX6_stuff 49 = .ok (.iload_n 2, 1) := by decide +kernel
theorem dX6_stuff_50 : decode cX6_stuff 50 = .ok (.imul, 1) := by decide +kernel
theorem dX6_stuff_51 : decode cX6_stuff 51 = .ok (.iload_n 3, 1) := by decide +kernel
theorem dX6_stuff_52 : decode cX6_stuff 52 = .ok (.iload_n 3, 1) := by decide +kernel
theorem dX6_stuff_53 : decode cX6_stuff 53 = .ok (.imul, 1) := by decide +kernel
theorem dX6_stuff_54 : decode cX6_stuff 54 = .ok (.iadd, 1) := by decide +kernel
theorem dX6_stuff_55 : decode cX6_stuff 55 = .ok (.ireturn, 1) := by decide +kernel
theorem dX6_ofBar_0 : decode cX6_ofBar 0 = .ok (.aload_n 0, 1) := by decide +kernel
theorem dX6_ofBar_1 : decode cX6_ofBar 1 = .ok (.iload_n 1, 1) := by decide +kernel
theorem dX6_ofBar_2 : decode cX6_ofBar 2 = .ok (.invokevirtual 90, 3) := by decide +kernel
theorem dX6_ofBar_5 : decode cX6_ofBar 5 = .ok (.ifCond .ne 5, 3) := by decide +kernel
theorem dX6_ofBar_8 : decode cX6_ofBar 8 = .ok (.iconst (-1), 1) := by decide +kernel
theorem dX6_ofBar_9 : decode cX6_ofBar 9 = .ok (.ireturn, 1) := by decide +kernel
theorem dX6_ofBar_10 : decode cX6_ofBar 10 = .ok (.iload_n 2, 1) := by decide +kernel
theorem dX6_ofBar_11 : decode cX6_ofBar 11 = .ok (.ifCond .ne 12, 3) := by decide +kernel
theorem dX6_ofBar_14 : decode cX6_ofBar 14 = .ok (.aload_n 0, 1) := by decide +kernel
theorem dX6_ofBar_15 : decode cX6_ofBar 15 = .ok (.getfield 26, 3) := by decide +kernel
theorem dX6_ofBar_18 : decode cX6_ofBar 18 = .ok (.iload_n 1, 1) := by decide +kernel
theorem dX6_ofBar_19 : decode cX6_ofBar 19 = .ok (.iaload, 1) := by decide +kernel
theorem dX6_ofBar_20 : decode cX6_ofBar 20 = .ok (.goto 32, 3) := by decide +kernel
theorem dX6_ofBar_23 : decode cX6_ofBar 23 = .ok (.iload_n 2, 1) := by decide +kernel
theorem dX6_ofBar_24 : decode cX6_ofBar 24 = .ok (.iconst 1, 1) := by decide +kernel
theorem dX6_ofBar_25 : decode cX6_ofBar 25 = .ok (.if_icmp .ne 12, 3) := by decide +kernel
theorem dX6_ofBar_28 : decode cX6_ofBar 28 = .ok (.aload_n 0, 1) := by decide +kernel
theorem dX6_ofBar_29 : decode cX6_ofBar 29 = .ok (.getfield 29, 3) := by decide +kernel
theorem dX6_ofBar_32 : decode cX6_ofBar 32 = .ok (.iload_n 1, 1) := by decide +kernel
theorem dX6_ofBar_33 : decode cX6_ofBar 33 = .ok (.iaload, 1) := by decide +kernel
theorem dX6_ofBar_34 : decode cX6_ofBar 34 = .ok (.goto 18, 3) := by decide +kernel
theorem dX6_ofBar_37 : decode cX6_ofBar 37 = .ok (.iload_n 2, 1) := by decide +kernel
theorem dX6_ofBar_38 : decode cX6_ofBar 38 = .ok (.iconst 2, 1) := by decide +kernel
theorem dX6_ofBar_39 : decode cX6_ofBar 39 = .ok (.if_icmp .ne 11, 3) := by decide +kernel
theorem dX6_ofBar_42 : decode cX6_ofBar 42 = .ok (.aload_n 0, 1) := by decide +kernel
theorem dX6_ofBar_43 : decode cX6_ofBar 43 = .ok (.iload_n 1, 1) := by decide +kernel
theorem dX6_ofBar_44 : decode cX6_ofBar 44 = .ok (.invokevirtual 93, 3) := by decide +kernel
theorem dX6_ofBar_47 : decode cX6_ofBar 47 = .ok (.goto 5, 3) := by decide +kernel
theorem dX6_ofBar_50 : decode cX6_ofBar 50 = .ok (.bipush (-2), 2) := by decide +kernel
theorem dX6_ofBar_52 : decode cX6_ofBar 52 = .ok (.ireturn, 1) := by decide +kernel
theorem dX6_size_0 : decode cX6_size 0 = .ok (.iload_n 1, 1) := by decide +kernel
theorem dX6_size_1 : decode cX6_size 1 = .ok (.i2l, 1) := by decide +kernel
theorem dX6_size_2 : decode cX6_size 2 = .ok (.lconst 1, 1) := by decide +kernel
theorem dX6_size_3 : decode cX6_size 3 = .ok (.ldc2_w 97, 3) := by decide +kernel
theorem dX6_size_6 : decode cX6_size 6 = .ok (.invokestatic 61, 3) := by decide +kernel
theorem dX6_size_9 : decode cX6_size 9 = .ok (.ifCond .ne 6, 3) := by decide +kernel
theorem dX6_size_12 : decode cX6_size 12 = .ok (.bipush (-2), 2) := by decide +kernel
theorem dX6_size_14 : decode cX6_size 14 = .ok (.ireturn, 1) := by decide +kernel
theorem dX6_size_15 : decode cX6_size 15 = .ok (.aload_n 0, 1) := by decide +kernel
theorem dX6_size_16 : decode cX6_size 16 = .ok (.getfield 99, 3) := by decide +kernel
theorem dX6_size_19 : decode cX6_size 19 = .ok (.iconst 5, 1) := by decide +kernel
theorem dX6_size_20 : decode cX6_size 20 = .ok (.if_icmp .ne 6, 3) := by decide +kernel
theorem dX6_size_23 : decode cX6_size 23 = .ok (.bipush (-4), 2) := by decide +kernel
theorem dX6_size_25 : decode cX6_size 25 = .ok (.ireturn, 1) := by decide +kernel
theorem dX6_size_26 : decode cX6_size 26 = .ok (.iconst 0, 1) := by decide +kernel
theorem dX6_size_27 : decode cX6_size 27 = .ok (.istore_n 2, 1) := by decide +kernel
theorem dX6_size_28 : decode cX6_size 28 = .ok (.iload_n 2, 1) := by decide +kernel
theorem dX6_size_29 : decode cX6_size 29 = .ok (.aload_n 0, 1) := by decide +kernel
theorem dX6_size_30 : decode cX6_size 30 = .ok (.getfield 99, 3) := by decide +kernel
theorem dX6_size_33 : decode cX6_size 33 = .ok (.if_icmp .ge 22, 3) := by decide +kernel
theorem dX6_size_36 : decode cX6_size 36 = .ok (.aload_n 0, 1) := by decide +kernel
theorem dX6_size_37 : decode cX6_size 37 = .ok (.getfield 32, 3) := by decide +kernel
theorem dX6_size_40 : decode cX6_size 40 = .ok (.iload_n 2, 1) := by decide +kernel
theorem dX6_size_41 : decode cX6_size 41 = .ok (.iaload, 1) := by decide +kernel
theorem dX6_size_42 : decode cX6_size 42 = .ok (.iload_n 1, 1) := by decide +kernel
theorem dX6_size_43 : decode cX6_size 43 = .ok (.if_icmp .ne 6, 3) := by decide +kernel
theorem dX6_size_46 : decode cX6_size 46 = .ok (.bipush (-5), 2) := by decide +kernel
theorem dX6_size_48 : decode cX6_size 48 = .ok (.ireturn, 1) := by decide +kernel
theorem dX6_size_49 : decode cX6_size 49 = .ok (.iinc 2 1, 3) := by decide +kernel
theorem dX6_size_52 : decode cX6_size 52 = .ok (.goto (-24), 3) := by decide +kernel
theorem dX6_size_55 : decode cX6_size 55 = .ok (.aload_n 0, 1) := by decide +kernel
theorem dX6_size_56 : decode cX6_size 56 = .ok (.getfield 32, 3) := by decide +kernel
theorem dX6_size_59 : decode cX6_size 59 = .ok (.aload_n 0, 1) := by decide +kernel
theorem dX6_size_60 : decode cX6_size 60 = .ok (.getfield 99, 3) := by decide +kernel
theorem dX6_size_63 : decode cX6_size 63 = .ok (.iload_n 1, 1) := by decide +kernel
theorem dX6_size_64 : decode cX6_size 64 = .ok (.iastore, 1) := by decide +kernel
theorem dX6_size_65 : decode cX6_size 65 = .ok (.aload_n 0, 1) := by decide +kernel
theorem dX6_size_66 : decode cX6_size 66 = .ok (.dup, 1) := by decide +kernel
theorem dX6_size_67 : decode cX6_size 67 = .ok (.getfield 99, 3) := by decide +kernel
theorem dX6_size_70 : decode cX6_size 70 = .ok (.iconst 1, 1) := by decide +kernel
theorem dX6_size_71 : decode cX6_size 71 = .ok (.iadd, 1) := by decide +kernel
theorem dX6_size_72 : decode cX6_size 72 = .ok (.putfield 99, 3) := by decide +kernel
theorem dX6_size_75 : decode cX6_size 75 = .ok (.aload_n 0, 1) := by decide +kernel
theorem dX6_size_76 : decode cX6_size 76 = .ok (.iconst 0, 1) := by decide +kernel
theorem dX6_size_77 : decode cX6_size 77 = .ok (.putfield 78, 3) := by decide +kernel
theorem dX6_size_80 : decode cX6_size 80 = .ok (.aload_n 0, 1) := by decide +kernel
theorem dX6_size_81 : decode cX6_size 81 = .ok (.getfield 99, 3) := by decide +kernel
theorem dX6_size_84 : decode cX6_size 84 = .ok (.ireturn, 1) := by decide +kernel
theorem dX6_price_0 : decode cX6_price 0 = .ok (.iload_n 1, 1) := by decide +kernel
theorem dX6_price_1 : decode cX6_price 1 = .ok (.i2l, 1) := by decide +kernel
theorem dX6_price_2 : decode cX6_price 2 = .ok (.lconst 0, 1) := by decide +kernel
theorem dX6_price_3 : decode cX6_price 3 = .ok (.ldc2_w 102, 3) := by decide +kernel
theorem dX6_price_6 : decode cX6_price 6 = .ok (.invokestatic 61, 3) := by decide +kernel
theorem dX6_price_9 : decode cX6_price 9 = .ok (.ifCond .ne 6, 3) := by decide +kernel
theorem dX6_price_12 : decode cX6_price 12 = .ok (.bipush (-2), 2) := by decide +kernel
theorem dX6_price_14 : decode cX6_price 14 = .ok (.ireturn, 1) := by decide +kernel
theorem dX6_price_15 : decode cX6_price 15 = .ok (.aload_n 0, 1) := by decide +kernel
theorem dX6_price_16 : decode cX6_price 16 = .ok (.getfield 104, 3) := by decide +kernel
theorem dX6_price_19 : decode cX6_price 19 = .ok (.istore_n 2, 1) := by decide +kernel
theorem dX6_price_20 : decode cX6_price 20 = .ok (.aload_n 0, 1) := by decide +kernel
theorem dX6_price_21 : decode cX6_price 21 = .ok (.iload_n 1, 1) := by decide +kernel
theorem dX6_price_22 : decode cX6_price 22 = .ok (.putfield 104, 3) := by decide +kernel
theorem dX6_price_25 : decode cX6_price 25 = .ok (.aload_n 0, 1) := by decide +kernel
theorem dX6_price_26 : decode cX6_price 26 = .ok (.iconst 0, 1) := by decide +kernel
theorem dX6_price_27 : decode cX6_price 27 = .ok (.putfield 78, 3) := by decide +kernel
theorem dX6_price_30 : decode cX6_price 30 = .ok (.iload_n 2, 1) := by decide +kernel
theorem dX6_price_31 : decode cX6_price 31 = .ok (.ireturn, 1) := by decide +kernel
theorem dX6_drop_0 : decode cX6_drop 0 = .ok (.aload_n 0, 1) := by decide +kernel
theorem dX6_drop_1 : decode cX6_drop 1 = .ok (.getfield 65, 3) := by decide +kernel
theorem dX6_drop_4 : decode cX6_drop 4 = .ok (.ifCond .ne 5, 3) := by decide +kernel
theorem dX6_drop_7 : decode cX6_drop 7 = .ok (.iconst (-1), 1) := by decide +kernel
theorem dX6_drop_8 : decode cX6_drop 8 = .ok (.ireturn, 1) := by decide +kernel
theorem dX6_drop_9 : decode cX6_drop 9 = .ok (.aload_n 0, 1) := by decide +kernel
theorem dX6_drop_10 : decode cX6_drop 10 = .ok (.dup, 1) := by decide +kernel
theorem dX6_drop_11 : decode cX6_drop 11 = .ok (.getfield 65, 3) := by decide +kernel
theorem dX6_drop_14 : decode cX6_drop 14 = .ok (.iconst 1, 1) := by decide +kernel
theorem dX6_drop_15 : decode cX6_drop 15 = .ok (.isub, 1) := by decide +kernel
theorem dX6_drop_16 : decode cX6_drop 16 = .ok (.putfield 65, 3) := by decide +kernel
theorem dX6_drop_19 : decode cX6_drop 19 = .ok (.aload_n 0, 1) := by decide +kernel
theorem dX6_drop_20 : decode cX6_drop 20 = .ok (.iconst 0, 1) := by decide +kernel
theorem dX6_drop_21 : decode cX6_drop 21 = .ok (.putfield 78, 3) := by decide +kernel
theorem dX6_drop_24 : decode cX6_drop 24 = .ok (.aload_n 0, 1) := by decide +kernel
theorem dX6_drop_25 : decode cX6_drop 25 = .ok (.getfield 65, 3) := by decide +kernel
theorem dX6_drop_28 : decode cX6_drop 28 = .ok (.ireturn, 1) := by decide +kernel
theorem dX6_side_0 : decode cX6_side 0 = .ok (.aload_n 0, 1) := by decide +kernel
theorem dX6_side_1 : decode cX6_side 1 = .ok (.getfield 7, 3) := by decide +kernel
theorem dX6_side_4 : decode cX6_side 4 = .ok (.iload_n 2, 1) := by decide +kernel
theorem dX6_side_5 : decode cX6_side 5 = .ok (.iaload, 1) := by decide +kernel
theorem dX6_side_6 : decode cX6_side 6 = .ok (.aload_n 0, 1) := by decide +kernel
theorem dX6_side_7 : decode cX6_side 7 = .ok (.getfield 7, 3) := by decide +kernel
theorem dX6_side_10 : decode cX6_side 10 = .ok (.iload_n 1, 1) := by decide +kernel
theorem dX6_side_11 : decode cX6_side 11 = .ok (.iaload, 1) := by decide +kernel
theorem dX6_side_12 : decode cX6_side 12 = .ok (.isub, 1) := by decide +kernel
theorem dX6_side_13 : decode cX6_side 13 = .ok (.aload_n 0, 1) := by decide +kernel
theorem dX6_side_14 : decode cX6_side 14 = .ok (.getfield 13, 3) := by decide +kernel
theorem dX6_side_17 : decode cX6_side 17 = .ok (.iload_n 3, 1) := by decide +kernel
theorem dX6_side_18 : decode cX6_side 18 = .ok (.iaload, 1) := by decide +kernel
theorem dX6_side_19 : decode cX6_side 19 = .ok (.aload_n 0, 1) := by decide +kernel
theorem dX6_side_20 : decode cX6_side 20 = .ok (.getfield 13, 3) := by decide +kernel
theorem dX6_side_23 : decode cX6_side 23 = .ok (.iload_n 1, 1) := by decide +kernel
theorem dX6_side_24 : decode cX6_side 24 = .ok (.iaload, 1) := by decide +kernel
theorem dX6_side_25 : decode cX6_side 25 = .ok (.isub, 1) := by decide +kernel
theorem dX6_side_26 : decode cX6_side 26 = .ok (.imul, 1) := by decide +kernel
theorem dX6_side_27 : decode cX6_side 27 = .ok (.aload_n 0, 1) := by decide +kernel
theorem dX6_side_28 : decode cX6_side 28 = .ok (.getfield 13, 3) := by decide +kernel
theorem dX6_side_31 : decode cX6_side 31 = .ok (.iload_n 2, 1) := by decide +kernel
theorem dX6_side_32 : decode cX6_side 32 = .ok (.iaload, 1) := by decide +kernel
theorem dX6_side_33 : decode cX6_side 33 = .ok (.aload_n 0, 1) := by decide +kernel
theorem dX6_side_34 : decode cX6_side 34 = .ok (.getfield 13, 3) := by decide +kernel
theorem dX6_side_37 : decode cX6_side 37 = .ok (.iload_n 1, 1) := by decide +kernel
theorem dX6_side_38 : decode cX6_side 38 = .ok (.iaload, 1) := by decide +kernel
theorem dX6_side_39 : decode cX6_side 39 = .ok (.isub, 1) := by decide +kernel
theorem dX6_side_40 : decode cX6_side 40 = .ok (.aload_n 0, 1) := by decide +kernel
theorem dX6_side_41 : decode cX6_side 41 = .ok (.getfield 7, 3) := by decide +kernel
theorem dX6_side_44 : decode cX6_side 44 = .ok (.iload_n 3, 1) := by decide +kernel
theorem dX6_side_45 : decode cX6_side 45 = .ok (.iaload, 1) := by decide +kernel
theorem dX6_side_46 : decode cX6_side 46 = .ok (.aload_n 0, 1) := by decide +kernel
theorem dX6_side_47 : decode cX6_side 47 = .ok (.getfield 7, 3) := by decide +kernel
theorem dX6_side_50 : decode cX6_side 50 = .ok (.iload_n 1, 1) := by decide +kernel
theorem dX6_side_51 : decode cX6_side 51 = .ok (.iaload, 1) := by decide +kernel
theorem dX6_side_52 : decode cX6_side 52 = .ok (.isub, 1) := by decide +kernel
theorem dX6_side_53 : decode cX6_side 53 = .ok (.imul, 1) := by decide +kernel
theorem dX6_side_54 : decode cX6_side 54 = .ok (.isub, 1) := by decide +kernel
theorem dX6_side_55 : decode cX6_side 55 = .ok (.istore 4, 2) := by decide +kernel
theorem dX6_side_57 : decode cX6_side 57 = .ok (.iload 4, 2) := by decide +kernel
theorem dX6_side_59 : decode cX6_side 59 = .ok (.ifCond .ge 7, 3) := by decide +kernel
theorem dX6_side_62 : decode cX6_side 62 = .ok (.iconst (-1), 1) := by decide +kernel
theorem dX6_side_63 : decode cX6_side 63 = .ok (.goto 13, 3) := by decide +kernel
theorem dX6_side_66 : decode cX6_side 66 = .ok (.iload 4, 2) := by decide +kernel
theorem dX6_side_68 : decode cX6_side 68 = .ok (.ifCond .le 7, 3) := by decide +kernel
theorem dX6_side_71 : decode cX6_side 71 = .ok (.iconst 1, 1) := by decide +kernel
theorem dX6_side_72 : decode cX6_side 72 = .ok (.goto 4, 3) := by decide +kernel
theorem dX6_side_75 : decode cX6_side 75 = .ok (.iconst 0, 1) := by decide +kernel
theorem dX6_side_76 : decode cX6_side 76 = .ok (.ireturn, 1) := by decide +kernel
theorem dX6_isOn_0 : decode cX6_isOn 0 = .ok (.aload_n 0, 1) := by decide +kernel
theorem dX6_isOn_1 : decode cX6_isOn 1 = .ok (.getfield 7, 3) := by decide +kernel
theorem dX6_isOn_4 : decode cX6_isOn 4 = .ok (.iload_n 2, 1) := by decide +kernel
theorem dX6_isOn_5 : decode cX6_isOn 5 = .ok (.iaload, 1) := by decide +kernel
theorem dX6_isOn_6 : decode cX6_isOn 6 = .ok (.aload_n 0, 1) := by decide +kernel
theorem dX6_isOn_7 : decode cX6_isOn 7 = .ok (.getfield 7, 3) := by decide +kernel
theorem dX6_isOn_10 : decode cX6_isOn 10 = .ok (.iload_n 1, 1) := by decide +kernel
theorem dX6_isOn_11 : decode cX6_isOn 11 = .ok (.iaload, 1) := by decide +kernel
theorem dX6_isOn_12 : decode cX6_isOn 12 = .ok (.isub, 1) := by decide +kernel
theorem dX6_isOn_13 : decode cX6_isOn 13 = .ok (.aload_n 0, 1) := by decide +kernel
theorem dX6_isOn_14 : decode cX6_isOn 14 = .ok (.getfield 7, 3) := by decide +kernel
theorem dX6_isOn_17 : decode cX6_isOn 17 = .ok (.iload_n 3, 1) := by decide +kernel
theorem dX6_isOn_18 : decode cX6_isOn 18 = .ok (.iaload, 1) := by decide +kernel
theorem dX6_isOn_19 : decode cX6_isOn 19 = .ok (.aload_n 0, 1) := by decide +kernel
theorem dX6_isOn_20 : decode cX6_isOn 20 = .ok (.getfield 7, 3) := by decide +kernel
theorem dX6_isOn_23 : decode cX6_isOn 23 = .ok (.iload_n 1, 1) := by decide +kernel
theorem dX6_isOn_24 : decode cX6_isOn 24 = .ok (.iaload, 1) := by decide +kernel
theorem dX6_isOn_25 : decode cX6_isOn 25 = .ok (.isub, 1) := by decide +kernel
theorem dX6_isOn_26 : decode cX6_isOn 26 = .ok (.imul, 1) := by decide +kernel
theorem dX6_isOn_27 : decode cX6_isOn 27 = .ok (.aload_n 0, 1) := by decide +kernel
theorem dX6_isOn_28 : decode cX6_isOn 28 = .ok (.getfield 13, 3) := by decide +kernel
theorem dX6_isOn_31 : decode cX6_isOn 31 = .ok (.iload_n 2, 1) := by decide +kernel
theorem dX6_isOn_32 : decode cX6_isOn 32 = .ok (.iaload, 1) := by decide +kernel
theorem dX6_isOn_33 : decode cX6_isOn 33 = .ok (.aload_n 0, 1) := by decide +kernel
theorem dX6_isOn_34 : decode cX6_isOn 34 = .ok (.getfield 13, 3) := by decide +kernel
theorem dX6_isOn_37 : decode cX6_isOn 37 = .ok (.iload_n 1, 1) := by decide +kernel
theorem dX6_isOn_38 : decode cX6_isOn 38 = .ok (.iaload, 1) := by decide +kernel
theorem dX6_isOn_39 : decode cX6_isOn 39 = .ok (.isub, 1) := by decide +kernel
theorem dX6_isOn_40 : decode cX6_isOn 40 = .ok (.aload_n 0, 1) := by decide +kernel
theorem dX6_isOn_41 : decode cX6_isOn 41 = .ok (.getfield 13, 3) := by decide +kernel
theorem dX6_isOn_44 : decode cX6_isOn 44 = .ok (.iload_n 3, 1) := by decide +kernel
theorem dX6_isOn_45 : decode cX6_isOn 45 = .ok (.iaload, 1) := by decide +kernel
theorem dX6_isOn_46 : decode cX6_isOn 46 = .ok (.aload_n 0, 1) := by decide +kernel
theorem dX6_isOn_47 : decode cX6_isOn 47 = .ok (.getfield 13, 3) := by decide +kernel
theorem dX6_isOn_50 : decode cX6_isOn 50 = .ok (.iload_n 1, 1) := by decide +kernel
theorem dX6_isOn_51 : decode cX6_isOn 51 = .ok (.iaload, 1) := by decide +kernel
theorem dX6_isOn_52 : decode cX6_isOn 52 = .ok (.isub, 1) := by decide +kernel
theorem dX6_isOn_53 : decode cX6_isOn 53 = .ok (.imul, 1) := by decide +kernel
theorem dX6_isOn_54 : decode cX6_isOn 54 = .ok (.iadd, 1) := by decide +kernel
theorem dX6_isOn_55 : decode cX6_isOn 55 = .ok (.istore 4, 2) := by decide +kernel
theorem dX6_isOn_57 : decode cX6_isOn 57 = .ok (.aload_n 0, 1) := by decide +kernel
theorem dX6_isOn_58 : decode cX6_isOn 58 = .ok (.iload_n 2, 1) := by decide +kernel
theorem dX6_isOn_59 : decode cX6_isOn 59 = .ok (.iload_n 3, 1) := by decide +kernel
theorem dX6_isOn_60 : decode cX6_isOn 60 = .ok (.iload_n 1, 1) := by decide +kernel
theorem dX6_isOn_61 : decode cX6_isOn 61 = .ok (.invokevirtual 107, 3) := by decide +kernel
theorem dX6_isOn_64 : decode cX6_isOn 64 = .ok (.ifCond .ne 12, 3) := by decide +kernel
theorem dX6_isOn_67 : decode cX6_isOn 67 = .ok (.iload 4, 2) := by decide +kernel
theorem dX6_isOn_69 : decode cX6_isOn 69 = .ok (.ifCond .gt 7, 3) := by decide +kernel
theorem dX6_isOn_72 : decode cX6_isOn 72 = .ok (.iconst 1, 1) := by decide +kernel
theorem dX6_isOn_73 : decode cX6_isOn 73 = .ok (.goto 4, 3) := by decide +kernel
theorem dX6_isOn_76 : decode cX6_isOn 76 = .ok (.iconst 0, 1) := by decide +kernel
theorem dX6_isOn_77 : decode cX6_isOn 77 = .ok (.ireturn, 1) := by decide +kernel
theorem dX6_areCrossed_0 : decode cX6_areCrossed 0 = .ok (.aload_n 0, 1) := by decide +kernel
theorem dX6_areCrossed_1 : decode cX6_areCrossed 1 = .ok (.getfield 26, 3) := by decide +kernel
theorem dX6_areCrossed_4 : decode cX6_areCrossed 4 = .ok (.iload_n 1, 1) := by decide +kernel
theorem dX6_areCrossed_5 : decode cX6_areCrossed 5 = .ok (.iaload, 1) := by decide +kernel
theorem dX6_areCrossed_6 : decode cX6_areCrossed 6 = .ok (.istore_n 3, 1) := by decide +kernel
theorem dX6_areCrossed_7 : decode cX6_areCrossed 7 = .ok (.aload_n 0, 1) := by decide +kernel
theorem dX6_areCrossed_8 : decode cX6_areCrossed 8 = .ok (.getfield 29, 3) := by decide +kernel
theorem dX6_areCrossed_11 : decode cX6_areCrossed 11 = .ok (.iload_n 1, 1) := by decide +kernel
theorem dX6_areCrossed_12 : decode cX6_areCrossed 12 = .ok (.iaload, 1) := by decide +kernel
theorem dX6_areCrossed_13 : decode cX6_areCrossed 13 = .ok (.istore 4, 2) := by decide +kernel
theorem dX6_areCrossed_15 : decode cX6_areCrossed 15 = .ok (.aload_n 0, 1) := by decide +kernel
theorem dX6_areCrossed_16 : decode cX6_areCrossed 16 = .ok (.getfield 26, 3) := by decide +kernel
theorem dX6_areCrossed_19 : decode cX6_areCrossed 19 = .ok (.iload_n 2, 1) := by decide +kernel
theorem dX6_areCrossed_20 : decode cX6_areCrossed 20 = .ok (.iaload, 1) := by decide +kernel
theorem dX6_areCrossed_21 : decode cX6_areCrossed 21 = .ok (.istore 5, 2) := by decide +kernel
theorem dX6_areCrossed_23 : decode cX6_areCrossed 23 = .ok (.aload_n 0, 1) := by decide +kernel
theorem dX6_areCrossed_24 : decode cX6_areCrossed 24 = .ok (.getfield 29, 3) := by decide +kernel
theorem dX6_areCrossed_27 : decode cX6_areCrossed 27 = .ok (.iload_n 2, 1) := by decide +kernel
theorem dX6_areCrossed_28 : decode cX6_areCrossed 28 = .ok (.iaload, 1) := by decide +kernel
theorem dX6_areCrossed_29 : decode cX6_areCrossed 29 = .ok (.istore 6, 2) := by decide +kernel
theorem dX6_areCrossed_31 : decode cX6_areCrossed 31 = .ok (.iload_n 3, 1) := by decide +kernel
theorem dX6_areCrossed_32 : decode cX6_areCrossed 32 = .ok (.iload 5, 2) := by decide +kernel
theorem dX6_areCrossed_34 : decode cX6_areCrossed 34 = .ok (.if_icmp .eq 23, 3) := by decide +kernel
theorem dX6_areCrossed_37 : decode cX6_areCrossed 37 = .ok (.iload_n 3, 1) := by decide +kernel
theorem dX6_areCrossed_38 : decode cX6_areCrossed 38 = .ok (.iload 6, 2) := by decide +kernel
theorem dX6_areCrossed_40 : decode cX6_areCrossed 40 = .ok (.if_icmp .eq 17, 3) := by decide +kernel
theorem dX6_areCrossed_43 : decode cX6_areCrossed 43 = .ok (.iload 4, 2) := by decide +kernel
theorem dX6_areCrossed_45 : decode cX6_areCrossed 45 = .ok (.iload 5, 2) := by decide +kernel
theorem dX6_areCrossed_47 : decode cX6_areCrossed 47 = .ok (.if_icmp .eq 10, 3) := by decide +kernel
theorem dX6_areCrossed_50 : decode cX6_areCrossed 50 = .ok (.iload 4, 2) := by decide +kernel
theorem dX6_areCrossed_52 : decode cX6_areCrossed 52 = .ok (.iload 6, 2) := by decide +kernel
theorem dX6_areCrossed_54 : decode cX6_areCrossed 54 = .ok (.if_icmp .ne 73, 3) := by decide +kernel
theorem dX6_areCrossed_57 : decode cX6_areCrossed 57 = .ok (.iload_n 3, 1) := by decide +kernel
theorem dX6_areCrossed_58 : decode cX6_areCrossed 58 = .ok (.iload 5, 2) := by decide +kernel
theorem dX6_areCrossed_60 : decode cX6_areCrossed 60 = .ok (.if_icmp .eq 9, 3) := by decide +kernel
theorem dX6_areCrossed_63 : decode cX6_areCrossed 63 = .ok (.iload_n 3, 1) := by decide +kernel
theorem dX6_areCrossed_64 : decode cX6_areCrossed 64 = .ok (.iload 6, 2) := by decide +kernel
theorem dX6_areCrossed_66 : decode cX6_areCrossed 66 = .ok (.if_icmp .ne 7, 3) := by decide +kernel
theorem dX6_areCrossed_69 : decode cX6_areCrossed 69 = .ok (.iload_n 3, 1) := by decide +kernel
theorem dX6_areCrossed_70 : decode cX6_areCrossed 70 = .ok (.goto 5, 3) := by decide +kernel
theorem dX6_areCrossed_73 : decode cX6_areCrossed 73 = .ok (.iload 4, 2) := by decide +kernel
theorem dX6_areCrossed_75 : decode cX6_areCrossed 75 = .ok (.istore 7, 2) := by decide +kernel
theorem dX6_areCrossed_77 : decode cX6_areCrossed 77 = .ok (.iload_n 3, 1) := by decide +kernel
theorem dX6_areCrossed_78 : decode cX6_areCrossed 78 = .ok (.iload 4, 2) := by decide +kernel
theorem dX6_areCrossed_80 : decode cX6_areCrossed 80 = .ok (.iadd, 1) := by decide +kernel
theorem dX6_areCrossed_81 : decode cX6_areCrossed 81 = .ok (.iload 7, 2) := by decide +kernel
theorem dX6_areCrossed_83 : decode cX6_areCrossed 83 = .ok (.isub, 1) := by decide +kernel
theorem dX6_areCrossed_84 : decode cX6_areCrossed 84 = .ok (.istore 8, 2) := by decide +kernel
theorem dX6_areCrossed_86 : decode cX6_areCrossed 86 = .ok (.iload 5, 2) := by decide +kernel
theorem dX6_areCrossed_88 : decode cX6_areCrossed 88 = .ok (.iload 6, 2) := by decide +kernel
theorem dX6_areCrossed_90 : decode cX6_areCrossed 90 = .ok (.iadd, 1) := by decide +kernel
theorem dX6_areCrossed_91 : decode cX6_areCrossed 91 = .ok (.iload 7, 2) := by decide +kernel
theorem dX6_areCrossed_93 : decode cX6_areCrossed 93 = .ok (.isub, 1) := by decide +kernel
theorem dX6_areCrossed_94 : decode cX6_areCrossed 94 = .ok (.istore 9, 2) := by decide +kernel
theorem dX6_areCrossed_96 : decode cX6_areCrossed 96 = .ok (.aload_n 0, 1) := by decide +kernel
theorem dX6_areCrossed_97 : decode cX6_areCrossed 97 = .ok (.iload 8, 2) := by decide +kernel
theorem dX6_areCrossed_99 : decode cX6_areCrossed 99 = .ok (.iload 5, 2) := by decide +kernel
theorem dX6_areCrossed_101 : decode cX6_areCrossed 101 = .ok (.iload 6, 2) := by decide +kernel
theorem dX6_areCrossed_103 : decode cX6_areCrossed 103 = .ok (.invokevirtual 111, 3) := by decide +kernel
theorem dX6_areCrossed_106 : decode cX6_areCrossed 106 = .ok (.ifCond .ne 15, 3) := by decide +kernel
theorem dX6_areCrossed_109 : decode cX6_areCrossed 109 = .ok (.aload_n 0, 1) := by decide +kernel
theorem dX6_areCrossed_110 : decode cX6_areCrossed 110 = .ok (.iload 9, 2) := by decide +kernel
theorem dX6_areCrossed_112 : decode cX6_areCrossed 112 = .ok (.iload_n 3, 1) := by decide +kernel
theorem dX6_areCrossed_113 : decode cX6_areCrossed 113 = .ok (.iload 4, 2) := by decide +kernel
theorem dX6_areCrossed_115 : decode cX6_areCrossed 115 = .ok (.invokevirtual 111, 3) := by decide +kernel
theorem dX6_areCrossed_118 : decode cX6_areCrossed 118 = .ok (.ifCond .eq 7, 3) := by decide +kernel
theorem dX6_areCrossed_121 : decode cX6_areCrossed 121 = .ok (.iconst 1, 1) := by decide +kernel
theorem dX6_areCrossed_122 : decode cX6_areCrossed 122 = .ok (.goto 4, 3) := by decide +kernel
theorem dX6_areCrossed_125 : decode cX6_areCrossed 125 = .ok (.iconst 0, 1) := by decide +kernel
theorem dX6_areCrossed_126 : decode cX6_areCrossed 126 = .ok (.ireturn, 1) := by decide +kernel
theorem dX6_areCrossed_127 : decode cX6_areCrossed 127 = .ok (.aload_n 0, 1) := by decide +kernel
theorem dX6_areCrossed_128 : decode cX6_areCrossed 128 = .ok (.iload_n 3, 1) := by decide +kernel
theorem dX6_areCrossed_129 : decode cX6_areCrossed 129 = .ok (.iload 5, 2) := by decide +kernel
theorem dX6_areCrossed_131 : decode cX6_areCrossed 131 = .ok (.iload 6, 2) := by decide +kernel
theorem dX6_areCrossed_133 : decode cX6_areCrossed 133 = .ok (.invokevirtual 111, 3) := by decide +kernel
theorem dX6_areCrossed_136 : decode cX6_areCrossed 136 = .ok (.ifCond .ne 40, 3) := by decide +kernel
theorem dX6_areCrossed_139 : decode cX6_areCrossed 139 = .ok (.aload_n 0, 1) := by decide +kernel
theorem dX6_areCrossed_140 : decode cX6_areCrossed 140 = .ok (.iload 4, 2) := by decide +kernel
theorem dX6_areCrossed_142 : decode cX6_areCrossed 142 = .ok (.iload 5, 2) := by decide +kernel
theorem dX6_areCrossed_144 : decode cX6_areCrossed 144 = .ok (.iload 6, 2) := by decide +kernel
theorem dX6_areCrossed_146 : decode cX6_areCrossed 146 = .ok (.invokevirtual 111, 3) := by decide +kernel
theorem dX6_areCrossed_149 : decode cX6_areCrossed 149 = .ok (.ifCond .ne 27, 3) := by decide +kernel
theorem dX6_areCrossed_152 : decode cX6_areCrossed 152 = .ok (.aload_n 0, 1) := by decide +kernel
theorem dX6_areCrossed_153 : decode cX6_areCrossed 153 = .ok (.iload 5, 2) := by decide +kernel
theorem dX6_areCrossed_155 : decode cX6_areCrossed 155 = .ok (.iload_n 3, 1) := by decide +kernel
theorem dX6_areCrossed_156 : decode cX6_areCrossed 156 = .ok (.iload 4, 2) := by decide +kernel
theorem dX6_areCrossed_158 : decode cX6_areCrossed 158 = .ok (.invokevirtual 111, 3) := by decide +kernel
theorem dX6_areCrossed_161 : decode cX6_areCrossed 161 = .ok (.ifCond .ne 15, 3) := by decide +kernel
theorem dX6_areCrossed_164 : decode cX6_areCrossed 164 = .ok (.aload_n 0, 1) := by decide +kernel
theorem dX6_areCrossed_165 : decode cX6_areCrossed 165 = .ok (.iload 6, 2) := by decide +kernel
theorem dX6_areCrossed_167 : decode cX6_areCrossed 167 = .ok (.iload_n 3, 1) := by decide +kernel
theorem dX6_areCrossed_168 : decode cX6_areCrossed 168 = .ok (.iload 4, 2) := by decide +kernel
theorem dX6_areCrossed_170 : decode cX6_areCrossed 170 = .ok (.invokevirtual 111, 3) := by decide +kernel
theorem dX6_areCrossed_173 : decode cX6_areCrossed 173 = .ok (.ifCond .eq 5, 3) := by decide +kernel
theorem dX6_areCrossed_176 : decode cX6_areCrossed 176 = .ok (.iconst 1, 1) := by decide +kernel
theorem dX6_areCrossed_177 : decode cX6_areCrossed 177 = .ok (.ireturn, 1) := by decide +kernel
theorem dX6_areCrossed_178 : decode cX6_areCrossed 178 = .ok (.aload_n 0, 1) := by decide +kernel
theorem dX6_areCrossed_179 : decode cX6_areCrossed 179 = .ok (.iload_n 3, 1) := by decide +kernel
theorem dX6_areCrossed_180 : decode cX6_areCrossed 180 = .ok (.iload 4, 2) := by decide +kernel
theorem dX6_areCrossed_182 : decode cX6_areCrossed 182 = .ok (.iload 5, 2) := by decide +kernel
theorem dX6_areCrossed_184 : decode cX6_areCrossed 184 = .ok (.invokevirtual 107, 3) := by decide +kernel
theorem dX6_areCrossed_187 : decode cX6_areCrossed 187 = .ok (.aload_n 0, 1) := by decide +kernel
theorem dX6_areCrossed_188 : decode cX6_areCrossed 188 = .ok (.iload_n 3, 1) := by decide +kernel
theorem dX6_areCrossed_189 : decode cX6_areCrossed 189 = .ok (.iload 4, 2) := by decide +kernel
theorem dX6_areCrossed_191 : decode cX6_areCrossed 191 = .ok (.iload 6, 2) := by decide +kernel
theorem dX6_areCrossed_193 : decode cX6_areCrossed 193 = .ok (.invokevirtual 107, 3) := by decide +kernel
theorem dX6_areCrossed_196 : decode cX6_areCrossed 196 = .ok (.imul, 1) := by decide +kernel
theorem dX6_areCrossed_197 : decode cX6_areCrossed 197 = .ok (.ifCond .ge 30, 3) := by decide +kernel
theorem dX6_areCrossed_200 : decode cX6_areCrossed 200 = .ok (.aload_n 0, 1) := by decide +kernel
theorem dX6_areCrossed_201 : decode cX6_areCrossed 201 = .ok (.iload 5, 2) := by decide +kernel
theorem dX6_areCrossed_203 : decode cX6_areCrossed 203 = .ok (.iload 6, 2) := by decide +kernel
theorem dX6_areCrossed_205 : decode cX6_areCrossed 205 = .ok (.iload_n 3, 1) := by decide +kernel
theorem dX6_areCrossed_206 : decode cX6_areCrossed 206 = .ok (.invokevirtual 107, 3) := by decide +kernel
theorem dX6_areCrossed_209 : decode cX6_areCrossed 209 = .ok (.aload_n 0, 1) := by decide +kernel
theorem dX6_areCrossed_210 : decode cX6_areCrossed 210 = .ok (.iload 5, 2) := by decide +kernel
theorem dX6_areCrossed_212 : decode cX6_areCrossed 212 = .ok (.iload 6, 2) := by decide +kernel
theorem dX6_areCrossed_214 : decode cX6_areCrossed 214 = .ok (.iload 4, 2) := by decide +kernel
theorem dX6_areCrossed_216 : decode cX6_areCrossed 216 = .ok (.invokevirtual 107, 3) := by decide +kernel
theorem dX6_areCrossed_219 : decode cX6_areCrossed 219 = .ok (.imul, 1) := by decide +kernel
theorem dX6_areCrossed_220 : decode cX6_areCrossed 220 = .ok (.ifCond .ge 7, 3) := by decide +kernel
theorem dX6_areCrossed_223 : decode cX6_areCrossed 223 = .ok (.iconst 1, 1) := by decide +kernel
theorem dX6_areCrossed_224 : decode cX6_areCrossed 224 = .ok (.goto 4, 3) := by decide +kernel
theorem dX6_areCrossed_227 : decode cX6_areCrossed 227 = .ok (.iconst 0, 1) := by decide +kernel
theorem dX6_areCrossed_228 : decode cX6_areCrossed 228 = .ok (.ireturn, 1) := by decide +kernel
theorem dX6_cross_0 : decode cX6_cross 0 = .ok (.aload_n 0, 1) := by decide +kernel
theorem dX6_cross_1 : decode cX6_cross 1 = .ok (.iload_n 1, 1) := by decide +kernel
theorem dX6_cross_2 : decode cX6_cross 2 = .ok (.invokevirtual 90, 3) := by decide +kernel
theorem dX6_cross_5 : decode cX6_cross 5 = .ok (.ifCond .eq 33, 3) := by decide +kernel
theorem dX6_cross_8 : decode cX6_cross 8 = .ok (.aload_n 0, 1) := by decide +kernel
theorem dX6_cross_9 : decode cX6_cross 9 = .ok (.iload_n 2, 1) := by decide +kernel
theorem dX6_cross_10 : decode cX6_cross 10 = .ok (.invokevirtual 90, 3) := by decide +kernel
theorem dX6_cross_13 : decode cX6_cross 13 = .ok (.ifCond .eq 25, 3) := by decide +kernel
theorem dX6_cross_16 : decode cX6_cross 16 = .ok (.iload_n 1, 1) := by decide +kernel
theorem dX6_cross_17 : decode cX6_cross 17 = .ok (.iload_n 2, 1) := by decide +kernel
theorem dX6_cross_18 : decode cX6_cross 18 = .ok (.if_icmp .eq 20, 3) := by decide +kernel
theorem dX6_cross_21 : decode cX6_cross 21 = .ok (.aload_n 0, 1) := by decide +kernel
theorem dX6_cross_22 : decode cX6_cross 22 = .ok (.iload_n 1, 1) := by decide +kernel
theorem dX6_cross_23 : decode cX6_cross 23 = .ok (.iload_n 2, 1) := by decide +kernel
theorem dX6_cross_24 : decode cX6_cross 24 = .ok (.invokevirtual 115, 3) := by decide +kernel
theorem dX6_cross_27 : decode cX6_cross 27 = .ok (.ifCond .eq 7, 3) := by decide +kernel
theorem dX6_cross_30 : decode cX6_cross 30 = .ok (.iconst 1, 1) := by decide +kernel
theorem dX6_cross_31 : decode cX6_cross 31 = .ok (.goto 8, 3) := by decide +kernel
theorem dX6_cross_34 : decode cX6_cross 34 = .ok (.iconst 0, 1) := by decide +kernel
theorem dX6_cross_35 : decode cX6_cross 35 = .ok (.goto 4, 3) := by decide +kernel
theorem dX6_cross_38 : decode cX6_cross 38 = .ok (.iconst (-1), 1) := by decide +kernel
theorem dX6_cross_39 : decode cX6_cross 39 = .ok (.ireturn, 1) := by decide +kernel
theorem dX6_determinant_0 : decode cX6_determinant 0 = .ok (.iconst 0, 1) := by decide +kernel
theorem dX6_determinant_1 : decode cX6_determinant 1 = .ok (.istore_n 2, 1) := by decide +kernel
theorem dX6_determinant_2 : decode cX6_determinant 2 = .ok (.iload_n 2, 1) := by decide +kernel
theorem dX6_determinant_3 : decode cX6_determinant 3 = .ok (.aload_n 0, 1) := by decide +kernel
theorem dX6_determinant_4 : decode cX6_determinant 4 = .ok (.getfield 119, 3) := by decide +kernel
theorem dX6_determinant_7 : decode cX6_determinant 7 = .ok (.if_icmp .ge 61, 3) := by decide +kernel
theorem dX6_determinant_10 : decode cX6_determinant 10 = .ok (.iconst 0, 1) := by decide +kernel
theorem dX6_determinant_11 : decode cX6_determinant 11 = .ok (.istore_n 3, 1) := by decide +kernel
theorem dX6_determinant_12 : decode cX6_determinant 12 = .ok (.iload_n 3, 1) := by decide +kernel
theorem dX6_determinant_13 : decode cX6_determinant 13 = .ok (.aload_n 0, 1) := by decide +kernel
theorem dX6_determinant_14 : decode cX6_determinant 14 = .ok (.getfield 119, 3) := by decide +kernel
theorem dX6_determinant_17 : decode cX6_determinant 17 = .ok (.if_icmp .ge 45, 3) := by decide +kernel
theorem dX6_determinant_20 : decode cX6_determinant 20 = .ok (.aload_n 0, 1) := by decide +kernel
theorem dX6_determinant_21 : decode cX6_determinant 21 = .ok (.getfield 42, 3) := by decide +kernel
theorem dX6_determinant_24 : decode cX6_determinant 24 = .ok (.bipush 6, 2) := by decide +kernel
theorem dX6_determinant_26 : decode cX6_determinant 26 = .ok (.iload_n 2, 1) := by decide +kernel
theorem dX6_determinant_27 : decode cX6_determinant 27 = .ok (.imul, 1) := by decide +kernel
theorem dX6_determinant_28 : decode cX6_determinant 28 = .ok (.iload_n 3, 1) := by decide +kernel
theorem dX6_determinant_29 : decode cX6_determinant 29 = .ok (.iadd, 1) := by decide +kernel
theorem dX6_determinant_30 : decode cX6_determinant 30 = .ok (.iload_n 3, 1) := by decide +kernel
theorem dX6_determinant_31 : decode cX6_determinant 31 = .ok (.iload_n 1, 1) := by decide +kernel
theorem dX6_determinant_32 : decode cX6_determinant 32 = .ok (.if_icmp .ne 12, 3) := by decide +kernel
theorem dX6_determinant_35 : decode cX6_determinant 35 = .ok (.aload_n 0, 1) := by decide +kernel
theorem dX6_determinant_36 : decode cX6_determinant 36 = .ok (.getfield 45, 3) := by decide +kernel
theorem dX6_determinant_39 : decode cX6_determinant 39 = .ok (.iload_n 2, 1) := by decide +kernel
theorem dX6_determinant_40 : decode cX6_determinant 40 = .ok (.laload, 1) := by decide +kernel
theorem dX6_determinant_41 : decode cX6_determinant 41 = .ok (.goto 14, 3) := by decide +kernel
theorem dX6_determinant_44 : decode cX6_determinant 44 = .ok (.aload_n 0, 1) := by decide +kernel
theorem dX6_determinant_45 : decode cX6_determinant 45 = .ok (.getfield 38, 3) := by decide +kernel
theorem dX6_determinant_48 : decode cX6_determinant 48 = .ok (.bipush 6, 2) := by decide +kernel
theorem dX6_determinant_50 : decode cX6_determinant 50 = .ok (.iload_n 2, 1) := by decide +kernel
theorem dX6_determinant_51 : decode cX6_determinant 51 = .ok (.imul, 1) := by decide +kernel
theorem dX6_determinant_52 : decode cX6_determinant 52 = .ok (.iload_n 3, 1) := by decide +kernel
theorem dX6_determinant_53 : decode cX6_determinant 53 = .ok (.iadd, 1) := by decide +kernel
theorem dX6_determinant_54 : decode cX6_determinant 54 = .ok (.laload, 1) := by decide +kernel
theorem dX6_determinant_55 : decode cX6_determinant 55 = .ok (.lastore, 1) := by decide +kernel
theorem dX6_determinant_56 : decode cX6_determinant 56 = .ok (.iinc 3 1, 3) := by decide +kernel
theorem dX6_determinant_59 : decode cX6_determinant 59 = .ok (.goto (-47), 3) := by decide +kernel
theorem dX6_determinant_62 : decode cX6_determinant 62 = .ok (.iinc 2 1, 3) := by decide +kernel
theorem dX6_determinant_65 : decode cX6_determinant 65 = .ok (.goto (-63), 3) := by decide +kernel
theorem dX6_determinant_68 : decode cX6_determinant 68 = .ok (.lconst 1, 1) := by decide +kernel
theorem dX6_determinant_69 : decode cX6_determinant 69 = .ok (.lstore_n 2, 1) := by decide +kernel
theorem dX6_determinant_70 : decode cX6_determinant 70 = .ok (.lconst 1, 1) := by decide +kernel
theorem dX6_determinant_71 : decode cX6_determinant 71 = .ok (.lstore 4, 2) := by decide +kernel
theorem dX6_determinant_73 : decode cX6_determinant 73 = .ok (.iconst 0, 1) := by decide +kernel
theorem dX6_determinant_74 : decode cX6_determinant 74 = .ok (.istore 6, 2) := by decide +kernel
theorem dX6_determinant_76 : decode cX6_determinant 76 = .ok (.iload 6, 2) := by decide +kernel
theorem dX6_determinant_78 : decode cX6_determinant 78 = .ok (.aload_n 0, 1) := by decide +kernel
theorem dX6_determinant_79 : decode cX6_determinant 79 = .ok (.getfield 119, 3) := by decide +kernel
theorem dX6_determinant_82 : decode cX6_determinant 82 = .ok (.if_icmp .ge 269, 3) := by decide +kernel
theorem dX6_determinant_85 : decode cX6_determinant 85 = .ok (.iload 6, 2) := by decide +kernel
theorem dX6_determinant_87 : decode cX6_determinant 87 = .ok (.istore 7, 2) := by decide +kernel
theorem dX6_determinant_89 : decode cX6_determinant 89 = .ok (.iload 7, 2) := by decide +kernel
theorem dX6_determinant_91 : decode cX6_determinant 91 = .ok (.aload_n 0, 1) := by decide +kernel
theorem dX6_determinant_92 : decode cX6_determinant 92 = .ok (.getfield 119, 3) := by decide +kernel
theorem dX6_determinant_95 : decode cX6_determinant 95 = .ok (.if_icmp .ge 27, 3) := by decide +kernel
theorem dX6_determinant_98 : decode cX6_determinant 98 = .ok (.aload_n 0, 1) := by decide +kernel
theorem dX6_determinant_99 : decode cX6_determinant 99 = .ok (.getfield 42, 3) := by decide +kernel
theorem dX6_determinant_102 : decode cX6_determinant 102 = .ok (.bipush 6, 2) := by decide +kernel
theorem dX6_determinant_104 : decode cX6_determinant 104 = .ok (.iload 7, 2) := by decide +kernel
theorem dX6_determinant_106 : decode cX6_determinant 106 = .ok (.imul, 1) := by decide +kernel
theorem dX6_determinant_107 : decode cX6_determinant 107 = .ok (.iload 6, 2) := by decide +kernel
theorem dX6_determinant_109 : decode cX6_determinant 109 = .ok (.iadd, 1) := by decide +kernel
theorem dX6_determinant_110 : decode cX6_determinant 110 = .ok (.laload, 1) := by decide +kernel
theorem dX6_determinant_111 : decode cX6_determinant 111 = .ok (.lconst 0, 1) := by decide +kernel
theorem dX6_determinant_112 : decode cX6_determinant 112 = .ok (.lcmp, 1) := by decide +kernel
theorem dX6_determinant_113 : decode cX6_determinant 113 = .ok (.ifCond .ne 9, 3) := by decide +kernel
theorem dX6_determinant_116 : decode cX6_determinant 116 = .ok (.iinc 7 1, 3) := by decide +kernel
theorem dX6_determinant_119 : decode cX6_determinant 119 = .ok (.goto (-30), 3) := by decide +kernel
theorem dX6_determinant_122 : decode cX6_determinant 122 = .ok (.iload 7, 2) := by decide +kernel
theorem dX6_determinant_124 : decode cX6_determinant 124 = .ok (.aload_n 0, 1) := by decide +kernel
theorem dX6_determinant_125 : decode cX6_determinant 125 = .ok (.getfield 119, 3) := by decide +kernel
theorem dX6_determinant_128 : decode cX6_determinant 128 = .ok (.if_icmp .ne 5, 3) := by decide +kernel
theorem dX6_determinant_131 : decode cX6_determinant 131 = .ok (.lconst 0, 1) := by decide +kernel
theorem dX6_determinant_132 : decode cX6_determinant 132 = .ok (.lreturn, 1) := by decide +kernel
theorem dX6_determinant_133 : decode cX6_determinant 133 = .ok (.iload 7, 2) := by decide +kernel
theorem dX6_determinant_135 : decode cX6_determinant 135 = .ok (.iload 6, 2) := by decide +kernel
theorem dX6_determinant_137 : decode cX6_determinant 137 = .ok (.if_icmp .eq 82, 3) := by decide +kernel
theorem dX6_determinant_140 : decode cX6_determinant 140 = .ok (.iconst 0, 1) := by decide +kernel
theorem dX6_determinant_141 : decode cX6_determinant 141 = .ok (.istore 8, 2) := by decide +kernel
theorem dX6_determinant_143 : decode cX6_determinant 143 = .ok (.iload 8, 2) := by decide +kernel
theorem dX6_determinant_145 : decode cX6_determinant 145 = .ok (.aload_n 0, 1) := by decide +kernel
theorem dX6_determinant_146 : decode cX6_determinant 146 = .ok (.getfield 119, 3) := by decide +kernel
theorem dX6_determinant_149 : decode cX6_determinant 149 = .ok (.if_icmp .ge 65, 3) := by decide +kernel
theorem dX6_determinant_152 : decode cX6_determinant 152 = .ok (.aload_n 0, 1) := by decide +kernel
theorem dX6_determinant_153 : decode cX6_determinant 153 = .ok (.getfield 42, 3) := by decide +kernel
theorem dX6_determinant_156 : decode cX6_determinant 156 = .ok (.bipush 6, 2) := by decide +kernel
theorem dX6_determinant_158 : decode cX6_determinant 158 = .ok (.iload 7, 2) := by decide +kernel
theorem dX6_determinant_160 : decode cX6_determinant 160 = .ok (.imul, 1) := by decide +kernel
theorem dX6_determinant_161 : decode cX6_determinant 161 = .ok (.iload 8, 2) := by decide +kernel
theorem dX6_determinant_163 : decode cX6_determinant 163 = .ok (.iadd, 1) := by decide +kernel
theorem dX6_determinant_164 : decode cX6_determinant 164 = .ok (.laload, 1) := by decide +kernel
theorem dX6_determinant_165 : decode cX6_determinant 165 = .ok (.lstore 9, 2) := by decide +kernel
theorem dX6_determinant_167 : decode cX6_determinant 167 = .ok (.aload_n 0, 1) := by decide +kernel
theorem dX6_determinant_168 : decode cX6_determinant 168 = .ok (.getfield 42, 3) := by decide +kernel
theorem dX6_determinant_171 : decode cX6_determinant 171 = .ok (.bipush 6, 2) := by decide +kernel
theorem dX6_determinant_173 : decode cX6_determinant 173 = .ok (.iload 7, 2) := by decide +kernel
theorem dX6_determinant_175 : decode cX6_determinant 175 = .ok (.imul, 1) := by decide +kernel
theorem dX6_determinant_176 : decode cX6_determinant 176 = .ok (.iload 8, 2) := by decide +kernel
theorem dX6_determinant_178 : decode cX6_determinant 178 = .ok (.iadd, 1) := by decide +kernel
theorem dX6_determinant_179 : decode cX6_determinant 179 = .ok (.aload_n 0, 1) := by decide +kernel
theorem dX6_determinant_180 : decode cX6_determinant 180 = .ok (.getfield 42, 3) := by decide +kernel
theorem dX6_determinant_183 : decode cX6_determinant 183 = .ok (.bipush 6, 2) := by decide +kernel
theorem dX6_determinant_185 : decode cX6_determinant 185 = .ok (.iload 6, 2) := by decide +kernel
theorem dX6_determinant_187 : decode cX6_determinant 187 = .ok (.imul, 1) := by decide +kernel
theorem dX6_determinant_188 : decode cX6_determinant 188 = .ok (.iload 8, 2) := by decide +kernel
theorem dX6_determinant_190 : decode cX6_determinant 190 = .ok (.iadd, 1) := by decide +kernel
theorem dX6_determinant_191 : decode cX6_determinant 191 = .ok (.laload, 1) := by decide +kernel
theorem dX6_determinant_192 : decode cX6_determinant 192 = .ok (.lastore, 1) := by decide +kernel
theorem dX6_determinant_193 : decode cX6_determinant 193 = .ok (.aload_n 0, 1) := by decide +kernel
theorem dX6_determinant_194 : decode cX6_determinant 194 = .ok (.getfield 42, 3) := by decide +kernel
theorem dX6_determinant_197 : decode cX6_determinant 197 = .ok (.bipush 6, 2) := by decide +kernel
theorem dX6_determinant_199 : decode cX6_determinant 199 = .ok (.iload 6, 2) := by decide +kernel
theorem dX6_determinant_201 : decode cX6_determinant 201 = .ok (.imul, 1) := by decide +kernel
theorem dX6_determinant_202 : decode cX6_determinant 202 = .ok (.iload 8, 2) := by decide +kernel
theorem dX6_determinant_204 : decode cX6_determinant 204 = .ok (.iadd, 1) := by decide +kernel
theorem dX6_determinant_205 : decode cX6_determinant 205 = .ok (.lload 9, 2) := by decide +kernel
theorem dX6_determinant_207 : decode cX6_determinant 207 = .ok (.lastore, 1) := by decide +kernel
theorem dX6_determinant_208 : decode cX6_determinant 208 = .ok (.iinc 8 1, 3) := by decide +kernel
theorem dX6_determinant_211 : decode cX6_determinant 211 = .ok (.goto (-68), 3) := by decide +kernel
theorem dX6_determinant_214 : decode cX6_determinant 214 = .ok (.lload 4, 2) := by decide +kernel
theorem dX6_determinant_216 : decode cX6_determinant 216 = .ok (.lneg, 1) := by decide +kernel
theorem dX6_determinant_217 : decode cX6_determinant 217 = .ok (.lstore 4, 2) := by decide +kernel
theorem dX6_determinant_219 : decode cX6_determinant 219 = .ok (.iload 6, 2) := by decide +kernel
theorem dX6_determinant_221 : decode cX6_determinant 221 = .ok (.iconst 1, 1) := by decide +kernel
theorem dX6_determinant_222 : decode cX6_determinant 222 = .ok (.iadd, 1) := by decide +kernel
theorem dX6_determinant_223 : decode cX6_determinant 223 = .ok (.istore 8, 2) := by decide +kernel
theorem dX6_determinant_225 : decode cX6_determinant 225 = .ok (.iload 8, 2) := by decide +kernel
theorem dX6_determinant_227 : decode cX6_determinant 227 = .ok (.aload_n 0, 1) := by decide +kernel
theorem dX6_determinant_228 : decode cX6_determinant 228 = .ok (.getfield 119, 3) := by decide +kernel
theorem dX6_determinant_231 : decode cX6_determinant 231 = .ok (.if_icmp .ge 100, 3) := by decide +kernel
theorem dX6_determinant_234 : decode cX6_determinant 234 = .ok (.iload 6, 2) := by decide +kernel
theorem dX6_determinant_236 : decode cX6_determinant 236 = .ok (.iconst 1, 1) := by decide +kernel
theorem dX6_determinant_237 : decode cX6_determinant 237 = .ok (.iadd, 1) := by decide +kernel
theorem dX6_determinant_238 : decode cX6_determinant 238 = .ok (.istore 9, 2) := by decide +kernel
theorem dX6_determinant_240 : decode cX6_determinant 240 = .ok (.iload 9, 2) := by decide +kernel
theorem dX6_determinant_242 : decode cX6_determinant 242 = .ok (.aload_n 0, 1) := by decide +kernel
theorem dX6_determinant_243 : decode cX6_determinant 243 = .ok (.getfield 119, 3) := by decide +kernel
theorem dX6_determinant_246 : decode cX6_determinant 246 = .ok (.if_icmp .ge 79, 3) := by decide +kernel
theorem dX6_determinant_249 : decode cX6_determinant 249 = .ok (.aload_n 0, 1) := by decide +kernel
theorem dX6_determinant_250 : decode cX6_determinant 250 = .ok (.getfield 42, 3) := by decide +kernel
theorem dX6_determinant_253 : decode cX6_determinant 253 = .ok (.bipush 6, 2) := by decide +kernel
theorem dX6_determinant_255 : decode cX6_determinant 255 = .ok (.iload 8, 2) := by decide +kernel
theorem dX6_determinant_257 : decode cX6_determinant 257 = .ok (.imul, 1) := by decide +kernel
theorem dX6_determinant_258 : decode cX6_determinant 258 = .ok (.iload 9, 2) := by decide +kernel
theorem dX6_determinant_260 : decode cX6_determinant 260 = .ok (.iadd, 1) := by decide +kernel
theorem dX6_determinant_261 : decode cX6_determinant 261 = .ok (.aload_n 0, 1) := by decide +kernel
theorem dX6_determinant_262 : decode cX6_determinant 262 = .ok (.getfield 42, 3) := by decide +kernel
theorem dX6_determinant_265 : decode cX6_determinant 265 = .ok (.bipush 6, 2) := by decide +kernel
theorem dX6_determinant_267 : decode cX6_determinant 267 = .ok (.iload 8, 2) := by decide +kernel
theorem dX6_determinant_269 : decode cX6_determinant 269 = .ok (.imul, 1) := by decide +kernel
theorem dX6_determinant_270 : decode cX6_determinant 270 = .ok (.iload 9, 2) := by decide +kernel
theorem dX6_determinant_272 : decode cX6_determinant 272 = .ok (.iadd, 1) := by decide +kernel
theorem dX6_determinant_273 : decode cX6_determinant 273 = .ok (.laload, 1) := by decide +kernel
theorem dX6_determinant_274 : decode cX6_determinant 274 = .ok (.aload_n 0, 1) := by decide +kernel
theorem dX6_determinant_275 : decode cX6_determinant 275 = .ok (.getfield 42, 3) := by decide +kernel
theorem dX6_determinant_278 : decode cX6_determinant 278 = .ok (.bipush 6, 2) := by decide +kernel
theorem dX6_determinant_280 : decode cX6_determinant 280 = .ok (.iload 6, 2) := by decide +kernel
theorem dX6_determinant_282 : decode cX6_determinant 282 = .ok (.imul, 1) := by decide +kernel
theorem dX6_determinant_283 : decode cX6_determinant 283 = .ok (.iload 6, 2) := by decide +kernel
theorem dX6_determinant_285 : decode cX6_determinant 285 = .ok (.iadd, 1) := by decide +kernel
theorem dX6_determinant_286 : decode cX6_determinant 286 = .ok (.laload, 1) := by decide +kernel
theorem dX6_determinant_287 : decode cX6_determinant 287 = .ok (.lmul, 1) := by decide +kernel
theorem dX6_determinant_288 : decode cX6_determinant 288 = .ok (.aload_n 0, 1) := by decide +kernel
theorem dX6_determinant_289 : decode cX6_determinant 289 = .ok (.getfield 42, 3) := by decide +kernel
theorem dX6_determinant_292 : decode cX6_determinant 292 = .ok (.bipush 6, 2) := by decide +kernel
theorem dX6_determinant_294 : decode cX6_determinant 294 = .ok (.iload 8, 2) := by decide +kernel
theorem dX6_determinant_296 : decode cX6_determinant 296 = .ok (.imul, 1) := by decide +kernel
theorem dX6_determinant_297 : decode cX6_determinant 297 = .ok (.iload 6, 2) := by decide +kernel
theorem dX6_determinant_299 : decode cX6_determinant 299 = .ok (.iadd, 1) := by decide +kernel
theorem dX6_determinant_300 : decode cX6_determinant 300 = .ok (.laload, 1) := by decide +kernel
theorem dX6_determinant_301 : decode cX6_determinant 301 = .ok (.aload_n 0, 1) := by decide +kernel
theorem dX6_determinant_302 : decode cX6_determinant 302 = .ok (.getfield 42, 3) := by decide +kernel
theorem dX6_determinant_305 : decode cX6_determinant 305 = .ok (.bipush 6, 2) := by decide +kernel
theorem dX6_determinant_307 : decode cX6_determinant 307 = .ok (.iload 6, 2) := by decide +kernel
theorem dX6_determinant_309 : decode cX6_determinant 309 = .ok (.imul, 1) := by decide +kernel
theorem dX6_determinant_310 : decode cX6_determinant 310 = .ok (.iload 9, 2) := by decide +kernel
theorem dX6_determinant_312 : decode cX6_determinant 312 = .ok (.iadd, 1) := by decide +kernel
theorem dX6_determinant_313 : decode cX6_determinant 313 = .ok (.laload, 1) := by decide +kernel
theorem dX6_determinant_314 : decode cX6_determinant 314 = .ok (.lmul, 1) := by decide +kernel
theorem dX6_determinant_315 : decode cX6_determinant 315 = .ok (.lsub, 1) := by decide +kernel
theorem dX6_determinant_316 : decode cX6_determinant 316 = .ok (.lload_n 2, 1) := by decide +kernel
theorem dX6_determinant_317 : decode cX6_determinant 317 = .ok (.ldiv, 1) := by decide +kernel
theorem dX6_determinant_318 : decode cX6_determinant 318 = .ok (.lastore, 1) := by decide +kernel
theorem dX6_determinant_319 : decode cX6_determinant 319 = .ok (.iinc 9 1, 3) := by decide +kernel
theorem dX6_determinant_322 : decode cX6_determinant 322 = .ok (.goto (-82), 3) := by decide +kernel
theorem dX6_determinant_325 : decode cX6_determinant 325 = .ok (.iinc 8 1, 3) := by decide +kernel
theorem dX6_determinant_328 : decode cX6_determinant 328 = .ok (.goto (-103), 3) := by decide +kernel
theorem dX6_determinant_331 : decode cX6_determinant 331 = .ok (.aload_n 0, 1) := by decide +kernel
theorem dX6_determinant_332 : decode cX6_determinant 332 = .ok (.getfield 42, 3) := by decide +kernel
theorem dX6_determinant_335 : decode cX6_determinant 335 = .ok (.bipush 6, 2) := by decide +kernel
theorem dX6_determinant_337 : decode cX6_determinant 337 = .ok (.iload 6, 2) := by decide +kernel
theorem dX6_determinant_339 : decode cX6_determinant 339 = .ok (.imul, 1) := by decide +kernel
theorem dX6_determinant_340 : decode cX6_determinant 340 = .ok (.iload 6, 2) := by decide +kernel
theorem dX6_determinant_342 : decode cX6_determinant 342 = .ok (.iadd, 1) := by decide +kernel
theorem dX6_determinant_343 : decode cX6_determinant 343 = .ok (.laload, 1) := by decide +kernel
theorem dX6_determinant_344 : decode cX6_determinant 344 = .ok (.lstore_n 2, 1) := by decide +kernel
theorem dX6_determinant_345 : decode cX6_determinant 345 = .ok (.iinc 6 1, 3) := by decide +kernel
theorem dX6_determinant_348 : decode cX6_determinant 348 = .ok (.goto (-272), 3) := by decide +kernel
theorem dX6_determinant_351 : decode cX6_determinant 351 = .ok (.lload 4, 2) := by decide +kernel
theorem dX6_determinant_353 : decode cX6_determinant 353 = .ok (.lload_n 2, 1) := by decide +kernel
theorem dX6_determinant_354 : decode cX6_determinant 354 = .ok (.lmul, 1) := by decide +kernel
theorem dX6_determinant_355 : decode cX6_determinant 355 = .ok (.lreturn, 1) := by decide +kernel
theorem dX6_layRows_0 : decode cX6_layRows 0 = .ok (.aload_n 0, 1) := by decide +kernel
theorem dX6_layRows_1 : decode cX6_layRows 1 = .ok (.iconst 0, 1) := by decide +kernel
theorem dX6_layRows_2 : decode cX6_layRows 2 = .ok (.putfield 119, 3) := by decide +kernel
theorem dX6_layRows_5 : decode cX6_layRows 5 = .ok (.iconst 0, 1) := by decide +kernel
theorem dX6_layRows_6 : decode cX6_layRows 6 = .ok (.istore_n 1, 1) := by decide +kernel
theorem dX6_layRows_7 : decode cX6_layRows 7 = .ok (.iload_n 1, 1) := by decide +kernel
theorem dX6_layRows_8 : decode cX6_layRows 8 = .ok (.aload_n 0, 1) := by decide +kernel
theorem dX6_layRows_9 : decode cX6_layRows 9 = .ok (.getfield 57, 3) := by decide +kernel
theorem dX6_layRows_12 : decode cX6_layRows 12 = .ok (.if_icmp .ge 56, 3) := by decide +kernel
theorem dX6_layRows_15 : decode cX6_layRows 15 = .ok (.aload_n 0, 1) := by decide +kernel
theorem dX6_layRows_16 : decode cX6_layRows 16 = .ok (.getfield 35, 3) := by decide +kernel
theorem dX6_layRows_19 : decode cX6_layRows 19 = .ok (.iload_n 1, 1) := by decide +kernel
theorem dX6_layRows_20 : decode cX6_layRows 20 = .ok (.aload_n 0, 1) := by decide +kernel
theorem dX6_layRows_21 : decode cX6_layRows 21 = .ok (.getfield 16, 3) := by decide +kernel
theorem dX6_layRows_24 : decode cX6_layRows 24 = .ok (.iload_n 1, 1) := by decide +kernel
theorem dX6_layRows_25 : decode cX6_layRows 25 = .ok (.baload, 1) := by decide +kernel
theorem dX6_layRows_26 : decode cX6_layRows 26 = .ok (.ifCond .eq 8, 3) := by decide +kernel
theorem dX6_layRows_29 : decode cX6_layRows 29 = .ok (.bipush (-6), 2) := by decide +kernel
theorem dX6_layRows_31 : decode cX6_layRows 31 = .ok (.goto 7, 3) := by decide +kernel
theorem dX6_layRows_34 : decode cX6_layRows 34 = .ok (.aload_n 0, 1) := by decide +kernel
theorem dX6_layRows_35 : decode cX6_layRows 35 = .ok (.getfield 119, 3) := by decide +kernel
theorem dX6_layRows_38 : decode cX6_layRows 38 = .ok (.iastore, 1) := by decide +kernel
theorem dX6_layRows_39 : decode cX6_layRows 39 = .ok (.aload_n 0, 1) := by decide +kernel
theorem dX6_layRows_40 : decode cX6_layRows 40 = .ok (.dup, 1) := by decide +kernel
theorem dX6_layRows_41 : decode cX6_layRows 41 = .ok (.getfield 119, 3) := by decide +kernel
theorem dX6_layRows_44 : decode cX6_layRows 44 = .ok (.aload_n 0, 1) := by decide +kernel
theorem dX6_layRows_45 : decode cX6_layRows 45 = .ok (.getfield 16, 3) := by decide +kernel
theorem dX6_layRows_48 : decode cX6_layRows 48 = .ok (.iload_n 1, 1) := by decide +kernel
theorem dX6_layRows_49 : decode cX6_layRows 49 = .ok (.baload, 1) := by decide +kernel
theorem dX6_layRows_50 : decode cX6_layRows 50 = .ok (.ifCond .eq 7, 3) := by decide +kernel
theorem dX6_layRows_53 : decode cX6_layRows 53 = .ok (.iconst 0, 1) := by decide +kernel
theorem dX6_layRows_54 : decode cX6_layRows 54 = .ok (.goto 4, 3) := by decide +kernel
theorem dX6_layRows_57 : decode cX6_layRows 57 = .ok (.iconst 2, 1) := by decide +kernel
theorem dX6_layRows_58 : decode cX6_layRows 58 = .ok (.iadd, 1) := by decide +kernel
theorem dX6_layRows_59 : decode cX6_layRows 59 = .ok (.putfield 119, 3) := by decide +kernel
theorem dX6_layRows_62 : decode cX6_layRows 62 = .ok (.iinc 1 1, 3) := by decide +kernel
theorem dX6_layRows_65 : decode cX6_layRows 65 = .ok (.goto (-58), 3) := by decide +kernel
theorem dX6_layRows_68 : decode cX6_layRows 68 = .ok (.return_, 1) := by decide +kernel
theorem dX6_put_0 : decode cX6_put 0 = .ok (.aload_n 0, 1) := by decide +kernel
theorem dX6_put_1 : decode cX6_put 1 = .ok (.getfield 38, 3) := by decide +kernel
theorem dX6_put_4 : decode cX6_put 4 = .ok (.bipush 6, 2) := by decide +kernel
theorem dX6_put_6 : decode cX6_put 6 = .ok (.iload_n 1, 1) := by decide +kernel
theorem dX6_put_7 : decode cX6_put 7 = .ok (.imul, 1) := by decide +kernel
theorem dX6_put_8 : decode cX6_put 8 = .ok (.iload_n 2, 1) := by decide +kernel
theorem dX6_put_9 : decode cX6_put 9 = .ok (.iadd, 1) := by decide +kernel
theorem dX6_put_10 : decode cX6_put 10 = .ok (.lload_n 3, 1) := by decide +kernel
theorem dX6_put_11 : decode cX6_put 11 = .ok (.lastore, 1) := by decide +kernel
theorem dX6_put_12 : decode cX6_put 12 = .ok (.return_, 1) := by decide +kernel
theorem dX6_layCells_0 : decode cX6_layCells 0 = .ok (.iconst 0, 1) := by decide +kernel
theorem dX6_layCells_1 : decode cX6_layCells 1 = .ok (.istore_n 1, 1) := by decide +kernel
theorem dX6_layCells_2 : decode cX6_layCells 2 = .ok (.iload_n 1, 1) := by decide +kernel
theorem dX6_layCells_3 : decode cX6_layCells 3 = .ok (.bipush 36, 2) := by decide +kernel
theorem dX6_layCells_5 : decode cX6_layCells 5 = .ok (.if_icmp .ge 16, 3) := by decide +kernel
theorem dX6_layCells_8 : decode cX6_layCells 8 = .ok (.aload_n 0, 1) := by decide +kernel
theorem dX6_layCells_9 : decode cX6_layCells 9 = .ok (.getfield 38, 3) := by decide +kernel
theorem dX6_layCells_12 : decode cX6_layCells 12 = .ok (.iload_n 1, 1) := by decide +kernel
theorem dX6_layCells_13 : decode cX6_layCells 13 = .ok (.lconst 0, 1) := by decide +kernel
theorem dX6_layCells_14 : decode cX6_layCells 14 = .ok (.lastore, 1) := by decide +kernel
theorem dX6_layCells_15 : decode cX6_layCells 15 = .ok (.iinc 1 1, 3) := by decide +kernel
theorem dX6_layCells_18 : decode cX6_layCells 18 = .ok (.goto (-16), 3) := by decide +kernel
theorem dX6_layCells_21 : decode cX6_layCells 21 = .ok (.iconst 0, 1) := by decide +kernel
theorem dX6_layCells_22 : decode cX6_layCells 22 = .ok (.istore_n 1, 1) := by decide +kernel
theorem dX6_layCells_23 : decode cX6_layCells 23 = .ok (.iload_n 1, 1) := by decide +kernel
theorem dX6_layCells_24 : decode cX6_layCells 24 = .ok (.aload_n 0, 1) := by decide +kernel
theorem dX6_layCells_25 : decode cX6_layCells 25 = .ok (.getfield 119, 3) := by decide +kernel
theorem dX6_layCells_28 : decode cX6_layCells 28 = .ok (.if_icmp .ge 155, 3) := by decide +kernel
theorem dX6_layCells_31 : decode cX6_layCells 31 = .ok (.aload_n 0, 1) := by decide +kernel
theorem dX6_layCells_32 : decode cX6_layCells 32 = .ok (.getfield 26, 3) := by decide +kernel
theorem dX6_layCells_35 : decode cX6_layCells 35 = .ok (.aload_n 0, 1) := by decide +kernel
theorem dX6_layCells_36 : decode cX6_layCells 36 = .ok (.getfield 48, 3) := by decide +kernel
theorem dX6_layCells_39 : decode cX6_layCells 39 = .ok (.iload_n 1, 1) := by decide +kernel
theorem dX6_layCells_40 : decode cX6_layCells 40 = .ok (.iaload, 1) := by decide +kernel
theorem dX6_layCells_41 : decode cX6_layCells 41 = .ok (.iaload, 1) := by decide +kernel
theorem dX6_layCells_42 : decode cX6_layCells 42 = .ok (.istore_n 2, 1) := by decide +kernel
theorem dX6_layCells_43 : decode cX6_layCells 43 = .ok (.aload_n 0, 1) := by decide +kernel
theorem dX6_layCells_44 : decode cX6_layCells 44 = .ok (.getfield 29, 3) := by decide +kernel
theorem dX6_layCells_47 : decode cX6_layCells 47 = .ok (.aload_n 0, 1) := by decide +kernel
theorem dX6_layCells_48 : decode cX6_layCells 48 = .ok (.getfield 48, 3) := by decide +kernel
theorem dX6_layCells_51 : decode cX6_layCells 51 = .ok (.iload_n 1, 1) := by decide +kernel
theorem dX6_layCells_52 : decode cX6_layCells 52 = .ok (.iaload, 1) := by decide +kernel
theorem dX6_layCells_53 : decode cX6_layCells 53 = .ok (.iaload, 1) := by decide +kernel
theorem dX6_layCells_54 : decode cX6_layCells 54 = .ok (.istore_n 3, 1) := by decide +kernel
theorem dX6_layCells_55 : decode cX6_layCells 55 = .ok (.aload_n 0, 1) := by decide +kernel
theorem dX6_layCells_56 : decode cX6_layCells 56 = .ok (.getfield 35, 3) := by decide +kernel
theorem dX6_layCells_59 : decode cX6_layCells 59 = .ok (.iload_n 2, 1) := by decide +kernel
theorem dX6_layCells_60 : decode cX6_layCells 60 = .ok (.iaload, 1) := by decide +kernel
theorem dX6_layCells_61 : decode cX6_layCells 61 = .ok (.ifCond .lt 55, 3) := by decide +kernel
theorem dX6_layCells_64 : decode cX6_layCells 64 = .ok (.aload_n 0, 1) := by decide +kernel
theorem dX6_layCells_65 : decode cX6_layCells 65 = .ok (.aload_n 0, 1) := by decide +kernel
theorem dX6_layCells_66 : decode cX6_layCells 66 = .ok (.getfield 35, 3) := by decide +kernel
theorem dX6_layCells_69 : decode cX6_layCells 69 = .ok (.iload_n 2, 1) := by decide +kernel
theorem dX6_layCells_70 : decode cX6_layCells 70 = .ok (.iaload, 1) := by decide +kernel
theorem dX6_layCells_71 : decode cX6_layCells 71 = .ok (.iload_n 1, 1) := by decide +kernel
theorem dX6_layCells_72 : decode cX6_layCells 72 = .ok (.aload_n 0, 1) := by decide +kernel
theorem dX6_layCells_73 : decode cX6_layCells 73 = .ok (.getfield 7, 3) := by decide +kernel
theorem dX6_layCells_76 : decode cX6_layCells 76 = .ok (.iload_n 3, 1) := by decide +kernel
theorem dX6_layCells_77 : decode cX6_layCells 77 = .ok (.iaload, 1) := by decide +kernel
theorem dX6_layCells_78 : decode cX6_layCells 78 = .ok (.aload_n 0, 1) := by decide +kernel
theorem dX6_layCells_79 : decode cX6_layCells 79 = .ok (.getfield 7, 3) := by decide +kernel
theorem dX6_layCells_82 : decode cX6_layCells 82 = .ok (.iload_n 2, 1) := by decide +kernel
theorem dX6_layCells_83 : decode cX6_layCells 83 = .ok (.iaload, 1) := by decide +kernel
theorem dX6_layCells_84 : decode cX6_layCells 84 = .ok (.isub, 1) := by decide +kernel
theorem dX6_layCells_85 : decode cX6_layCells 85 = .ok (.i2l, 1) := by decide +kernel
theorem dX6_layCells_86 : decode cX6_layCells 86 = .ok (.invokevirtual 122, 3) := by decide +kernel
theorem dX6_layCells_89 : decode cX6_layCells 89 = .ok (.aload_n 0, 1) := by decide +kernel
theorem dX6_layCells_90 : decode cX6_layCells 90 = .ok (.aload_n 0, 1) := by decide +kernel
theorem dX6_layCells_91 : decode cX6_layCells 91 = .ok (.getfield 35, 3) := by decide +kernel
theorem dX6_layCells_94 : decode cX6_layCells 94 = .ok (.iload_n 2, 1) := by decide +kernel
theorem dX6_layCells_95 : decode cX6_layCells 95 = .ok (.iaload, 1) := by decide +kernel
theorem dX6_layCells_96 : decode cX6_layCells 96 = .ok (.iconst 1, 1) := by decide +kernel
theorem dX6_layCells_97 : decode cX6_layCells 97 = .ok (.iadd, 1) := by decide +kernel
theorem dX6_layCells_98 : decode cX6_layCells 98 = .ok (.iload_n 1, 1) := by decide +kernel
theorem dX6_layCells_99 : decode cX6_layCells 99 = .ok (.aload_n 0, 1) := by decide +kernel
theorem dX6_layCells_100 : decode cX6_layCells 100 = .ok (.getfield 13, 3) := by decide +kernel
theorem dX6_layCells_103 : decode cX6_layCells 103 = .ok (.iload_n 3, 1) := by decide +kernel
theorem dX6_layCells_104 : decode cX6_layCells 104 = .ok (.iaload, 1) := by decide +kernel
theorem dX6_layCells_105 : decode cX6_layCells 105 = .ok (.aload_n 0, 1) := by decide +kernel
theorem dX6_layCells_106 : decode cX6_layCells 106 = .ok (.getfield 13, 3) := by decide +kernel
theorem dX6_layCells_109 : decode cX6_layCells 109 = .ok (.iload_n 2, 1) := by decide +kernel
theorem dX6_layCells_110 : decode cX6_layCells 110 = .ok (.iaload, 1) := by decide +kernel
theorem dX6_layCells_111 : decode cX6_layCells 111 = .ok (.isub, 1) := by decide +kernel
theorem dX6_layCells_112 : decode cX6_layCells 112 = .ok (.i2l, 1) := by decide +kernel
theorem dX6_layCells_113 : decode cX6_layCells 113 = .ok (.invokevirtual 122, 3) := by decide +kernel
theorem dX6_layCells_116 : decode cX6_layCells 116 = .ok (.aload_n 0, 1) := by decide +kernel
theorem dX6_layCells_117 : decode cX6_layCells 117 = .ok (.getfield 35, 3) := by decide +kernel
theorem dX6_layCells_120 : decode cX6_layCells 120 = .ok (.iload_n 3, 1) := by decide +kernel
theorem dX6_layCells_121 : decode cX6_layCells 121 = .ok (.iaload, 1) := by decide +kernel
theorem dX6_layCells_122 : decode cX6_layCells 122 = .ok (.ifCond .lt 55, 3) := by decide +kernel
theorem dX6_layCells_125 : decode cX6_layCells 125 = .ok (.aload_n 0, 1) := by decide +kernel
theorem dX6_layCells_126 : decode cX6_layCells 126 = .ok (.aload_n 0, 1) := by decide +kernel
theorem dX6_layCells_127 : decode cX6_layCells 127 = .ok (.getfield 35, 3) := by decide +kernel
theorem dX6_layCells_130 : decode cX6_layCells 130 = .ok (.iload_n 3, 1) := by decide +kernel
theorem dX6_layCells_131 : decode cX6_layCells 131 = .ok (.iaload, 1) := by decide +kernel
theorem dX6_layCells_132 : decode cX6_layCells 132 = .ok (.iload_n 1, 1) := by decide +kernel
theorem dX6_layCells_133 : decode cX6_layCells 133 = .ok (.aload_n 0, 1) := by decide +kernel
theorem dX6_layCells_134 : decode cX6_layCells 134 = .ok (.getfield 7, 3) := by decide +kernel
theorem dX6_layCells_137 : decode cX6_layCells 137 = .ok (.iload_n 2, 1) := by decide +kernel
theorem dX6_layCells_138 : decode cX6_layCells 138 = .ok (.iaload, 1) := by decide +kernel
theorem dX6_layCells_139 : decode cX6_layCells 139 = .ok (.aload_n 0, 1) := by decide +kernel
theorem dX6_layCells_140 : decode cX6_layCells 140 = .ok (.getfield 7, 3) := by decide +kernel
theorem dX6_layCells_143 : decode cX6_layCells 143 = .ok (.iload_n 3, 1) := by decide +kernel
theorem dX6_layCells_144 : decode cX6_layCells 144 = .ok (.iaload, 1) := by decide +kernel
theorem dX6_layCells_145 : decode cX6_layCells 145 = .ok (.isub, 1) := by decide +kernel
theorem dX6_layCells_146 : decode cX6_layCells 146 = .ok (.i2l, 1) := by decide +kernel
theorem dX6_layCells_147 : decode cX6_layCells 147 = .ok (.invokevirtual 122, 3) := by decide +kernel
theorem dX6_layCells_150 : decode cX6_layCells 150 = .ok (.aload_n 0, 1) := by decide +kernel
theorem dX6_layCells_151 : decode cX6_layCells 151 = .ok (.aload_n 0, 1) := by decide +kernel
theorem dX6_layCells_152 : decode cX6_layCells 152 = .ok (.getfield 35, 3) := by decide +kernel
theorem dX6_layCells_155 : decode cX6_layCells 155 = .ok (.iload_n 3, 1) := by decide +kernel
theorem dX6_layCells_156 : decode cX6_layCells 156 = .ok (.iaload, 1) := by decide +kernel
theorem dX6_layCells_157 : decode cX6_layCells 157 = .ok (.iconst 1, 1) := by decide +kernel
theorem dX6_layCells_158 : decode cX6_layCells 158 = .ok (.iadd, 1) := by decide +kernel
theorem dX6_layCells_159 : decode cX6_layCells 159 = .ok (.iload_n 1, 1) := by decide +kernel
theorem dX6_layCells_160 : decode cX6_layCells 160 = .ok (.aload_n 0, 1) := by decide +kernel
theorem dX6_layCells_161 : decode cX6_layCells 161 = .ok (.getfield 13, 3) := by decide +kernel
theorem dX6_layCells_164 : decode cX6_layCells 164 = .ok (.iload_n 2, 1) := by decide +kernel
theorem dX6_layCells_165 : decode cX6_layCells 165 = .ok (.iaload, 1) := by decide +kernel
theorem dX6_layCells_166 : decode cX6_layCells 166 = .ok (.aload_n 0, 1) := by decide +kernel
theorem dX6_layCells_167 : decode cX6_layCells 167 = .ok (.getfield 13, 3) := by decide +kernel
theorem dX6_layCells_170 : decode cX6_layCells 170 = .ok (.iload_n 3, 1) := by decide +kernel
theorem dX6_layCells_171 : decode cX6_layCells 171 = .ok (.iaload, 1) := by decide +kernel
theorem dX6_layCells_172 : decode cX6_layCells 172 = .ok (.isub, 1) := by decide +kernel
theorem dX6_layCells_173 : decode cX6_layCells 173 = .ok (.i2l, 1) := by decide +kernel
theorem dX6_layCells_174 : decode cX6_layCells 174 = .ok (.invokevirtual 122, 3) := by decide +kernel
theorem dX6_layCells_177 : decode cX6_layCells 177 = .ok (.iinc 1 1, 3) := by decide +kernel
theorem dX6_layCells_180 : decode cX6_layCells 180 = .ok (.goto (-157), 3) := by decide +kernel
theorem dX6_layCells_183 : decode cX6_layCells 183 = .ok (.iconst 0, 1) := by decide +kernel
theorem dX6_layCells_184 : decode cX6_layCells 184 = .ok (.istore_n 1, 1) := by decide +kernel
theorem dX6_layCells_185 : decode cX6_layCells 185 = .ok (.iload_n 1, 1) := by decide +kernel
theorem dX6_layCells_186 : decode cX6_layCells 186 = .ok (.aload_n 0, 1) := by decide +kernel
theorem dX6_layCells_187 : decode cX6_layCells 187 = .ok (.getfield 57, 3) := by decide +kernel
theorem dX6_layCells_190 : decode cX6_layCells 190 = .ok (.if_icmp .ge 58, 3) := by decide +kernel
theorem dX6_layCells_193 : decode cX6_layCells 193 = .ok (.aload_n 0, 1) := by decide +kernel
theorem dX6_layCells_194 : decode cX6_layCells 194 = .ok (.getfield 35, 3) := by decide +kernel
theorem dX6_layCells_197 : decode cX6_layCells 197 = .ok (.iload_n 1, 1) := by decide +kernel
theorem dX6_layCells_198 : decode cX6_layCells 198 = .ok (.iaload, 1) := by decide +kernel
theorem dX6_layCells_199 : decode cX6_layCells 199 = .ok (.ifCond .lt 43, 3) := by decide +kernel
theorem dX6_layCells_202 : decode cX6_layCells 202 = .ok (.aload_n 0, 1) := by decide +kernel
theorem dX6_layCells_203 : decode cX6_layCells 203 = .ok (.getfield 45, 3) := by decide +kernel
theorem dX6_layCells_206 : decode cX6_layCells 206 = .ok (.aload_n 0, 1) := by decide +kernel
theorem dX6_layCells_207 : decode cX6_layCells 207 = .ok (.getfield 35, 3) := by decide +kernel
theorem dX6_layCells_210 : decode cX6_layCells 210 = .ok (.iload_n 1, 1) := by decide +kernel
theorem dX6_layCells_211 : decode cX6_layCells 211 = .ok (.iaload, 1) := by decide +kernel
theorem dX6_layCells_212 : decode cX6_layCells 212 = .ok (.aload_n 0, 1) := by decide +kernel
theorem dX6_layCells_213 : decode cX6_layCells 213 = .ok (.getfield 20, 3) := by decide +kernel
theorem dX6_layCells_216 : decode cX6_layCells 216 = .ok (.iload_n 1, 1) := by decide +kernel
theorem dX6_layCells_217 : decode cX6_layCells 217 = .ok (.iaload, 1) := by decide +kernel
theorem dX6_layCells_218 : decode cX6_layCells 218 = .ok (.ineg, 1) := by decide +kernel
theorem dX6_layCells_219 : decode cX6_layCells 219 = .ok (.i2l, 1) := by decide +kernel
theorem dX6_layCells_220 : decode cX6_layCells 220 = .ok (.lastore, 1) := by decide +kernel
theorem dX6_layCells_221 : decode cX6_layCells 221 = .ok (.aload_n 0, 1) := by decide +kernel
theorem dX6_layCells_222 : decode cX6_layCells 222 = .ok (.getfield 45, 3) := by decide +kernel
theorem dX6_layCells_225 : decode cX6_layCells 225 = .ok (.aload_n 0, 1) := by decide +kernel
theorem dX6_layCells_226 : decode cX6_layCells 226 = .ok (.getfield 35, 3) := by decide +kernel
theorem dX6_layCells_229 : decode cX6_layCells 229 = .ok (.iload_n 1, 1) := by decide +kernel
theorem dX6_layCells_230 : decode cX6_layCells 230 = .ok (.iaload, 1) := by decide +kernel
theorem dX6_layCells_231 : decode cX6_layCells 231 = .ok (.iconst 1, 1) := by decide +kernel
theorem dX6_layCells_232 : decode cX6_layCells 232 = .ok (.iadd, 1) := by decide +kernel
theorem dX6_layCells_233 : decode cX6_layCells 233 = .ok (.aload_n 0, 1) := by decide +kernel
theorem dX6_layCells_234 : decode cX6_layCells 234 = .ok (.getfield 23, 3) := by decide +kernel
theorem dX6_layCells_237 : decode cX6_layCells 237 = .ok (.iload_n 1, 1) := by decide +kernel
theorem dX6_layCells_238 : decode cX6_layCells 238 = .ok (.iaload, 1) := by decide +kernel
theorem dX6_layCells_239 : decode cX6_layCells 239 = .ok (.ineg, 1) := by decide +kernel
theorem dX6_layCells_240 : decode cX6_layCells 240 = .ok (.i2l, 1) := by decide +kernel
theorem dX6_layCells_241 : decode cX6_layCells 241 = .ok (.lastore, 1) := by decide +kernel
theorem dX6_layCells_242 : decode cX6_layCells 242 = .ok (.iinc 1 1, 3) := by decide +kernel
theorem dX6_layCells_245 : decode cX6_layCells 245 = .ok (.goto (-60), 3) := by decide +kernel
theorem dX6_layCells_248 : decode cX6_layCells 248 = .ok (.return_, 1) := by decide +kernel
theorem dX6_isChoice_0 : decode cX6_isChoice 0 = .ok (.aload_n 0, 1) := by decide +kernel
theorem dX6_isChoice_1 : decode cX6_isChoice 1 = .ok (.iconst 0, 1) := by decide +kernel
theorem dX6_isChoice_2 : decode cX6_isChoice 2 = .ok (.putfield 126, 3) := by decide +kernel
theorem dX6_isChoice_5 : decode cX6_isChoice 5 = .ok (.iconst 0, 1) := by decide +kernel
theorem dX6_isChoice_6 : decode cX6_isChoice 6 = .ok (.istore_n 2, 1) := by decide +kernel
theorem dX6_isChoice_7 : decode cX6_isChoice 7 = .ok (.iload_n 2, 1) := by decide +kernel
theorem dX6_isChoice_8 : decode cX6_isChoice 8 = .ok (.aload_n 0, 1) := by decide +kernel
theorem dX6_isChoice_9 : decode cX6_isChoice 9 = .ok (.getfield 65, 3) := by decide +kernel
theorem dX6_isChoice_12 : decode cX6_isChoice 12 = .ok (.if_icmp .ge 51, 3) := by decide +kernel
theorem dX6_isChoice_15 : decode cX6_isChoice 15 = .ok (.iload_n 1, 1) := by decide +kernel
