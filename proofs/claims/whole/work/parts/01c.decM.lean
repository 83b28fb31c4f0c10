theorem dX6_isChoice_16 : decode cX6_isChoice 16 = .ok (.iload_n 2, 1) := by decide +kernel
theorem dX6_isChoice_17 : decode cX6_isChoice 17 = .ok (.ishr, 1) := by decide +kernel
theorem dX6_isChoice_18 : decode cX6_isChoice 18 = .ok (.iconst 1, 1) := by decide +kernel
theorem dX6_isChoice_19 : decode cX6_isChoice 19 = .ok (.iand, 1) := by decide +kernel
theorem dX6_isChoice_20 : decode cX6_isChoice 20 = .ok (.iconst 1, 1) := by decide +kernel
theorem dX6_isChoice_21 : decode cX6_isChoice 21 = .ok (.if_icmp .ne 36, 3) := by decide +kernel
theorem dX6_isChoice_24 : decode cX6_isChoice 24 = .ok (.aload_n 0, 1) := by decide +kernel
theorem dX6_isChoice_25 : decode cX6_isChoice 25 = .ok (.getfield 126, 3) := by decide +kernel
theorem dX6_isChoice_28 : decode cX6_isChoice 28 = .ok (.aload_n 0, 1) := by decide +kernel
theorem dX6_isChoice_29 : decode cX6_isChoice 29 = .ok (.getfield 119, 3) := by decide +kernel
theorem dX6_isChoice_32 : decode cX6_isChoice 32 = .ok (.if_icmp .ne 5, 3) := by decide +kernel
theorem dX6_isChoice_35 : decode cX6_isChoice 35 = .ok (.iconst 0, 1) := by decide +kernel
theorem dX6_isChoice_36 : decode cX6_isChoice 36 = .ok (.ireturn, 1) := by decide +kernel
theorem dX6_isChoice_37 : decode cX6_isChoice 37 = .ok (.aload_n 0, 1) := by decide +kernel
theorem dX6_isChoice_38 : decode cX6_isChoice 38 = .ok (.getfield 48, 3) := by decide +kernel
theorem dX6_isChoice_41 : decode cX6_isChoice 41 = .ok (.aload_n 0, 1) := by decide +kernel
theorem dX6_isChoice_42 : decode cX6_isChoice 42 = .ok (.getfield 126, 3) := by decide +kernel
theorem dX6_isChoice_45 : decode cX6_isChoice 45 = .ok (.iload_n 2, 1) := by decide +kernel
theorem dX6_isChoice_46 : decode cX6_isChoice 46 = .ok (.iastore, 1) := by decide +kernel
theorem dX6_isChoice_47 : decode cX6_isChoice 47 = .ok (.aload_n 0, 1) := by decide +kernel
theorem dX6_isChoice_48 : decode cX6_isChoice 48 = .ok (.dup, 1) := by decide +kernel
theorem dX6_isChoice_49 : decode cX6_isChoice 49 = .ok (.getfield 126, 3) := by decide +kernel
theorem dX6_isChoice_52 : decode cX6_isChoice 52 = .ok (.iconst 1, 1) := by decide +kernel
theorem dX6_isChoice_53 : decode cX6_isChoice 53 = .ok (.iadd, 1) := by decide +kernel
theorem dX6_isChoice_54 : decode cX6_isChoice 54 = .ok (.putfield 126, 3) := by decide +kernel
theorem dX6_isChoice_57 : decode cX6_isChoice 57 = .ok (.iinc 2 1, 3) := by decide +kernel
theorem dX6_isChoice_60 : decode cX6_isChoice 60 = .ok (.goto (-53), 3) := by decide +kernel
theorem dX6_isChoice_63 : decode cX6_isChoice 63 = .ok (.aload_n 0, 1) := by decide +kernel
theorem dX6_isChoice_64 : decode cX6_isChoice 64 = .ok (.getfield 126, 3) := by decide +kernel
theorem dX6_isChoice_67 : decode cX6_isChoice 67 = .ok (.aload_n 0, 1) := by decide +kernel
theorem dX6_isChoice_68 : decode cX6_isChoice 68 = .ok (.getfield 119, 3) := by decide +kernel
theorem dX6_isChoice_71 : decode cX6_isChoice 71 = .ok (.if_icmp .eq 5, 3) := by decide +kernel
theorem dX6_isChoice_74 : decode cX6_isChoice 74 = .ok (.iconst 0, 1) := by decide +kernel
theorem dX6_isChoice_75 : decode cX6_isChoice 75 = .ok (.ireturn, 1) := by decide +kernel
theorem dX6_isChoice_76 : decode cX6_isChoice 76 = .ok (.aload_n 0, 1) := by decide +kernel
theorem dX6_isChoice_77 : decode cX6_isChoice 77 = .ok (.invokevirtual 129, 3) := by decide +kernel
theorem dX6_isChoice_80 : decode cX6_isChoice 80 = .ok (.aload_n 0, 1) := by decide +kernel
theorem dX6_isChoice_81 : decode cX6_isChoice 81 = .ok (.aload_n 0, 1) := by decide +kernel
theorem dX6_isChoice_82 : decode cX6_isChoice 82 = .ok (.iconst (-1), 1) := by decide +kernel
theorem dX6_isChoice_83 : decode cX6_isChoice 83 = .ok (.invokevirtual 132, 3) := by decide +kernel
theorem dX6_isChoice_86 : decode cX6_isChoice 86 = .ok (.putfield 136, 3) := by decide +kernel
theorem dX6_isChoice_89 : decode cX6_isChoice 89 = .ok (.aload_n 0, 1) := by decide +kernel
theorem dX6_isChoice_90 : decode cX6_isChoice 90 = .ok (.getfield 136, 3) := by decide +kernel
theorem dX6_isChoice_93 : decode cX6_isChoice 93 = .ok (.lconst 0, 1) := by decide +kernel
theorem dX6_isChoice_94 : decode cX6_isChoice 94 = .ok (.lcmp, 1) := by decide +kernel
theorem dX6_isChoice_95 : decode cX6_isChoice 95 = .ok (.ifCond .ne 5, 3) := by decide +kernel
theorem dX6_isChoice_98 : decode cX6_isChoice 98 = .ok (.iconst 0, 1) := by decide +kernel
theorem dX6_isChoice_99 : decode cX6_isChoice 99 = .ok (.ireturn, 1) := by decide +kernel
theorem dX6_isChoice_100 : decode cX6_isChoice 100 = .ok (.iconst 0, 1) := by decide +kernel
theorem dX6_isChoice_101 : decode cX6_isChoice 101 = .ok (.istore_n 2, 1) := by decide +kernel
theorem dX6_isChoice_102 : decode cX6_isChoice 102 = .ok (.iload_n 2, 1) := by decide +kernel
theorem dX6_isChoice_103 : decode cX6_isChoice 103 = .ok (.aload_n 0, 1) := by decide +kernel
theorem dX6_isChoice_104 : decode cX6_isChoice 104 = .ok (.getfield 119, 3) := by decide +kernel
theorem dX6_isChoice_107 : decode cX6_isChoice 107 = .ok (.if_icmp .ge 36, 3) := by decide +kernel
theorem dX6_isChoice_110 : decode cX6_isChoice 110 = .ok (.aload_n 0, 1) := by decide +kernel
theorem dX6_isChoice_111 : decode cX6_isChoice 111 = .ok (.iload_n 2, 1) := by decide +kernel
theorem dX6_isChoice_112 : decode cX6_isChoice 112 = .ok (.invokevirtual 132, 3) := by decide +kernel
theorem dX6_isChoice_115 : decode cX6_isChoice 115 = .ok (.lstore_n 3, 1) := by decide +kernel
theorem dX6_isChoice_116 : decode cX6_isChoice 116 = .ok (.aload_n 0, 1) := by decide +kernel
theorem dX6_isChoice_117 : decode cX6_isChoice 117 = .ok (.getfield 51, 3) := by decide +kernel
theorem dX6_isChoice_120 : decode cX6_isChoice 120 = .ok (.iload_n 2, 1) := by decide +kernel
theorem dX6_isChoice_121 : decode cX6_isChoice 121 = .ok (.aload_n 0, 1) := by decide +kernel
theorem dX6_isChoice_122 : decode cX6_isChoice 122 = .ok (.getfield 136, 3) := by decide +kernel
theorem dX6_isChoice_125 : decode cX6_isChoice 125 = .ok (.lconst 0, 1) := by decide +kernel
theorem dX6_isChoice_126 : decode cX6_isChoice 126 = .ok (.lcmp, 1) := by decide +kernel
theorem dX6_isChoice_127 : decode cX6_isChoice 127 = .ok (.ifCond .ge 8, 3) := by decide +kernel
theorem dX6_isChoice_130 : decode cX6_isChoice 130 = .ok (.lload_n 3, 1) := by decide +kernel
theorem dX6_isChoice_131 : decode cX6_isChoice 131 = .ok (.lneg, 1) := by decide +kernel
theorem dX6_isChoice_132 : decode cX6_isChoice 132 = .ok (.goto 4, 3) := by decide +kernel
theorem dX6_isChoice_135 : decode cX6_isChoice 135 = .ok (.lload_n 3, 1) := by decide +kernel
theorem dX6_isChoice_136 : decode cX6_isChoice 136 = .ok (.lastore, 1) := by decide +kernel
theorem dX6_isChoice_137 : decode cX6_isChoice 137 = .ok (.iinc 2 1, 3) := by decide +kernel
theorem dX6_isChoice_140 : decode cX6_isChoice 140 = .ok (.goto (-38), 3) := by decide +kernel
theorem dX6_isChoice_143 : decode cX6_isChoice 143 = .ok (.aload_n 0, 1) := by decide +kernel
theorem dX6_isChoice_144 : decode cX6_isChoice 144 = .ok (.aload_n 0, 1) := by decide +kernel
theorem dX6_isChoice_145 : decode cX6_isChoice 145 = .ok (.getfield 136, 3) := by decide +kernel
theorem dX6_isChoice_148 : decode cX6_isChoice 148 = .ok (.invokestatic 140, 3) := by decide +kernel
theorem dX6_isChoice_151 : decode cX6_isChoice 151 = .ok (.putfield 136, 3) := by decide +kernel
theorem dX6_isChoice_154 : decode cX6_isChoice 154 = .ok (.iconst 1, 1) := by decide +kernel
theorem dX6_isChoice_155 : decode cX6_isChoice 155 = .ok (.ireturn, 1) := by decide +kernel
theorem dX6_isAhead_0 : decode cX6_isAhead 0 = .ok (.iload_n 0, 1) := by decide +kernel
theorem dX6_isAhead_1 : decode cX6_isAhead 1 = .ok (.iload_n 1, 1) := by decide +kernel
theorem dX6_isAhead_2 : decode cX6_isAhead 2 = .ok (.ixor, 1) := by decide +kernel
theorem dX6_isAhead_3 : decode cX6_isAhead 3 = .ok (.istore_n 2, 1) := by decide +kernel
theorem dX6_isAhead_4 : decode cX6_isAhead 4 = .ok (.iload_n 0, 1) := by decide +kernel
theorem dX6_isAhead_5 : decode cX6_isAhead 5 = .ok (.iload_n 2, 1) := by decide +kernel
theorem dX6_isAhead_6 : decode cX6_isAhead 6 = .ok (.iand, 1) := by decide +kernel
theorem dX6_isAhead_7 : decode cX6_isAhead 7 = .ok (.iload_n 2, 1) := by decide +kernel
theorem dX6_isAhead_8 : decode cX6_isAhead 8 = .ok (.ineg, 1) := by decide +kernel
theorem dX6_isAhead_9 : decode cX6_isAhead 9 = .ok (.iand, 1) := by decide +kernel
theorem dX6_isAhead_10 : decode cX6_isAhead 10 = .ok (.ifCond .eq 7, 3) := by decide +kernel
theorem dX6_isAhead_13 : decode cX6_isAhead 13 = .ok (.iconst 1, 1) := by decide +kernel
theorem dX6_isAhead_14 : decode cX6_isAhead 14 = .ok (.goto 4, 3) := by decide +kernel
theorem dX6_isAhead_17 : decode cX6_isAhead 17 = .ok (.iconst 0, 1) := by decide +kernel
theorem dX6_isAhead_18 : decode cX6_isAhead 18 = .ok (.ireturn, 1) := by decide +kernel
theorem dX6_after_0 : decode cX6_after 0 = .ok (.bipush (-6), 2) := by decide +kernel
theorem dX6_after_2 : decode cX6_after 2 = .ok (.istore_n 2, 1) := by decide +kernel
theorem dX6_after_3 : decode cX6_after 3 = .ok (.iconst 0, 1) := by decide +kernel
theorem dX6_after_4 : decode cX6_after 4 = .ok (.istore_n 3, 1) := by decide +kernel
theorem dX6_after_5 : decode cX6_after 5 = .ok (.iload_n 3, 1) := by decide +kernel
theorem dX6_after_6 : decode cX6_after 6 = .ok (.iconst 1, 1) := by decide +kernel
theorem dX6_after_7 : decode cX6_after 7 = .ok (.aload_n 0, 1) := by decide +kernel
theorem dX6_after_8 : decode cX6_after 8 = .ok (.getfield 65, 3) := by decide +kernel
theorem dX6_after_11 : decode cX6_after 11 = .ok (.ishl, 1) := by decide +kernel
theorem dX6_after_12 : decode cX6_after 12 = .ok (.if_icmp .ge 62, 3) := by decide +kernel
theorem dX6_after_15 : decode cX6_after 15 = .ok (.iload_n 1, 1) := by decide +kernel
theorem dX6_after_16 : decode cX6_after 16 = .ok (.ifCond .lt 11, 3) := by decide +kernel
theorem dX6_after_19 : decode cX6_after 19 = .ok (.iload_n 1, 1) := by decide +kernel
theorem dX6_after_20 : decode cX6_after 20 = .ok (.iload_n 3, 1) := by decide +kernel
theorem dX6_after_21 : decode cX6_after 21 = .ok (.invokestatic 144, 3) := by decide +kernel
theorem dX6_after_24 : decode cX6_after 24 = .ok (.ifCond .eq 7, 3) := by decide +kernel
theorem dX6_after_27 : decode cX6_after 27 = .ok (.iconst 1, 1) := by decide +kernel
theorem dX6_after_28 : decode cX6_after 28 = .ok (.goto 4, 3) := by decide +kernel
theorem dX6_after_31 : decode cX6_after 31 = .ok (.iconst 0, 1) := by decide +kernel
theorem dX6_after_32 : decode cX6_after 32 = .ok (.istore 4, 2) := by decide +kernel
theorem dX6_after_34 : decode cX6_after 34 = .ok (.iload_n 3, 1) := by decide +kernel
theorem dX6_after_35 : decode cX6_after 35 = .ok (.invokestatic 147, 3) := by decide +kernel
theorem dX6_after_38 : decode cX6_after 38 = .ok (.aload_n 0, 1) := by decide +kernel
theorem dX6_after_39 : decode cX6_after 39 = .ok (.getfield 119, 3) := by decide +kernel
theorem dX6_after_42 : decode cX6_after 42 = .ok (.if_icmp .ne 24, 3) := by decide +kernel
theorem dX6_after_45 : decode cX6_after 45 = .ok (.iload 4, 2) := by decide +kernel
theorem dX6_after_47 : decode cX6_after 47 = .ok (.ifCond .eq 19, 3) := by decide +kernel
theorem dX6_after_50 : decode cX6_after 50 = .ok (.iload_n 2, 1) := by decide +kernel
theorem dX6_after_51 : decode cX6_after 51 = .ok (.ifCond .lt 11, 3) := by decide +kernel
theorem dX6_after_54 : decode cX6_after 54 = .ok (.iload_n 3, 1) := by decide +kernel
theorem dX6_after_55 : decode cX6_after 55 = .ok (.iload_n 2, 1) := by decide +kernel
theorem dX6_after_56 : decode cX6_after 56 = .ok (.invokestatic 144, 3) := by decide +kernel
theorem dX6_after_59 : decode cX6_after 59 = .ok (.ifCond .eq 7, 3) := by decide +kernel
theorem dX6_after_62 : decode cX6_after 62 = .ok (.iload_n 3, 1) := by decide +kernel
theorem dX6_after_63 : decode cX6_after 63 = .ok (.goto 4, 3) := by decide +kernel
theorem dX6_after_66 : decode cX6_after 66 = .ok (.iload_n 2, 1) := by decide +kernel
theorem dX6_after_67 : decode cX6_after 67 = .ok (.istore_n 2, 1) := by decide +kernel
theorem dX6_after_68 : decode cX6_after 68 = .ok (.iinc 3 1, 3) := by decide +kernel
theorem dX6_after_71 : decode cX6_after 71 = .ok (.goto (-66), 3) := by decide +kernel
theorem dX6_after_74 : decode cX6_after 74 = .ok (.iload_n 2, 1) := by decide +kernel
theorem dX6_after_75 : decode cX6_after 75 = .ok (.ireturn, 1) := by decide +kernel
theorem dX6_bits_0 : decode cX6_bits 0 = .ok (.iconst 0, 1) := by decide +kernel
theorem dX6_bits_1 : decode cX6_bits 1 = .ok (.istore_n 1, 1) := by decide +kernel
theorem dX6_bits_2 : decode cX6_bits 2 = .ok (.iconst 0, 1) := by decide +kernel
theorem dX6_bits_3 : decode cX6_bits 3 = .ok (.istore_n 2, 1) := by decide +kernel
theorem dX6_bits_4 : decode cX6_bits 4 = .ok (.iload_n 2, 1) := by decide +kernel
theorem dX6_bits_5 : decode cX6_bits 5 = .ok (.bipush 10, 2) := by decide +kernel
theorem dX6_bits_7 : decode cX6_bits 7 = .ok (.if_icmp .ge 17, 3) := by decide +kernel
theorem dX6_bits_10 : decode cX6_bits 10 = .ok (.iload_n 1, 1) := by decide +kernel
theorem dX6_bits_11 : decode cX6_bits 11 = .ok (.iload_n 0, 1) := by decide +kernel
theorem dX6_bits_12 : decode cX6_bits 12 = .ok (.iload_n 2, 1) := by decide +kernel
theorem dX6_bits_13 : decode cX6_bits 13 = .ok (.ishr, 1) := by decide +kernel
theorem dX6_bits_14 : decode cX6_bits 14 = .ok (.iconst 1, 1) := by decide +kernel
theorem dX6_bits_15 : decode cX6_bits 15 = .ok (.iand, 1) := by decide +kernel
theorem dX6_bits_16 : decode cX6_bits 16 = .ok (.iadd, 1) := by decide +kernel
theorem dX6_bits_17 : decode cX6_bits 17 = .ok (.istore_n 1, 1) := by decide +kernel
theorem dX6_bits_18 : decode cX6_bits 18 = .ok (.iinc 2 1, 3) := by decide +kernel
theorem dX6_bits_21 : decode cX6_bits 21 = .ok (.goto (-17), 3) := by decide +kernel
theorem dX6_bits_24 : decode cX6_bits 24 = .ok (.iload_n 1, 1) := by decide +kernel
theorem dX6_bits_25 : decode cX6_bits 25 = .ok (.ireturn, 1) := by decide +kernel
theorem dX6_stiff_0 : decode cX6_stiff 0 = .ok (.iload_n 1, 1) := by decide +kernel
theorem dX6_stiff_1 : decode cX6_stiff 1 = .ok (.i2l, 1) := by decide +kernel
theorem dX6_stiff_2 : decode cX6_stiff 2 = .ok (.lconst 0, 1) := by decide +kernel
theorem dX6_stiff_3 : decode cX6_stiff 3 = .ok (.iconst 1, 1) := by decide +kernel
theorem dX6_stiff_4 : decode cX6_stiff 4 = .ok (.aload_n 0, 1) := by decide +kernel
theorem dX6_stiff_5 : decode cX6_stiff 5 = .ok (.getfield 65, 3) := by decide +kernel
theorem dX6_stiff_8 : decode cX6_stiff 8 = .ok (.ishl, 1) := by decide +kernel
theorem dX6_stiff_9 : decode cX6_stiff 9 = .ok (.iconst 1, 1) := by decide +kernel
theorem dX6_stiff_10 : decode cX6_stiff 10 = .ok (.isub, 1) := by decide +kernel
theorem dX6_stiff_11 : decode cX6_stiff 11 = .ok (.i2l, 1) := by decide +kernel
theorem dX6_stiff_12 : decode cX6_stiff 12 = .ok (.invokestatic 61, 3) := by decide +kernel
theorem dX6_stiff_15 : decode cX6_stiff 15 = .ok (.ifCond .ne 6, 3) := by decide +kernel
theorem dX6_stiff_18 : decode cX6_stiff 18 = .ok (.bipush (-2), 2) := by decide +kernel
theorem dX6_stiff_20 : decode cX6_stiff 20 = .ok (.ireturn, 1) := by decide +kernel
theorem dX6_stiff_21 : decode cX6_stiff 21 = .ok (.aload_n 0, 1) := by decide +kernel
theorem dX6_stiff_22 : decode cX6_stiff 22 = .ok (.invokevirtual 150, 3) := by decide +kernel
theorem dX6_stiff_25 : decode cX6_stiff 25 = .ok (.iconst 0, 1) := by decide +kernel
theorem dX6_stiff_26 : decode cX6_stiff 26 = .ok (.istore_n 2, 1) := by decide +kernel
theorem dX6_stiff_27 : decode cX6_stiff 27 = .ok (.iload_n 2, 1) := by decide +kernel
theorem dX6_stiff_28 : decode cX6_stiff 28 = .ok (.iconst 1, 1) := by decide +kernel
theorem dX6_stiff_29 : decode cX6_stiff 29 = .ok (.aload_n 0, 1) := by decide +kernel
theorem dX6_stiff_30 : decode cX6_stiff 30 = .ok (.getfield 65, 3) := by decide +kernel
theorem dX6_stiff_33 : decode cX6_stiff 33 = .ok (.ishl, 1) := by decide +kernel
theorem dX6_stiff_34 : decode cX6_stiff 34 = .ok (.if_icmp .ge 27, 3) := by decide +kernel
theorem dX6_stiff_37 : decode cX6_stiff 37 = .ok (.iload_n 2, 1) := by decide +kernel
theorem dX6_stiff_38 : decode cX6_stiff 38 = .ok (.iload_n 1, 1) := by decide +kernel
theorem dX6_stiff_39 : decode cX6_stiff 39 = .ok (.iconst (-1), 1) := by decide +kernel
theorem dX6_stiff_40 : decode cX6_stiff 40 = .ok (.ixor, 1) := by decide +kernel
theorem dX6_stiff_41 : decode cX6_stiff 41 = .ok (.iand, 1) := by decide +kernel
theorem dX6_stiff_42 : decode cX6_stiff 42 = .ok (.ifCond .ne 13, 3) := by decide +kernel
theorem dX6_stiff_45 : decode cX6_stiff 45 = .ok (.aload_n 0, 1) := by decide +kernel
theorem dX6_stiff_46 : decode cX6_stiff 46 = .ok (.iload_n 2, 1) := by decide +kernel
theorem dX6_stiff_47 : decode cX6_stiff 47 = .ok (.invokevirtual 153, 3) := by decide +kernel
theorem dX6_stiff_50 : decode cX6_stiff 50 = .ok (.ifCond .eq 5, 3) := by decide +kernel
theorem dX6_stiff_53 : decode cX6_stiff 53 = .ok (.iconst 1, 1) := by decide +kernel
theorem dX6_stiff_54 : decode cX6_stiff 54 = .ok (.ireturn, 1) := by decide +kernel
theorem dX6_stiff_55 : decode cX6_stiff 55 = .ok (.iinc 2 1, 3) := by decide +kernel
theorem dX6_stiff_58 : decode cX6_stiff 58 = .ok (.goto (-31), 3) := by decide +kernel
theorem dX6_stiff_61 : decode cX6_stiff 61 = .ok (.iconst 0, 1) := by decide +kernel
theorem dX6_stiff_62 : decode cX6_stiff 62 = .ok (.ireturn, 1) := by decide +kernel
theorem dX6_choices_0 : decode cX6_choices 0 = .ok (.aload_n 0, 1) := by decide +kernel
theorem dX6_choices_1 : decode cX6_choices 1 = .ok (.invokevirtual 150, 3) := by decide +kernel
theorem dX6_choices_4 : decode cX6_choices 4 = .ok (.iconst 0, 1) := by decide +kernel
theorem dX6_choices_5 : decode cX6_choices 5 = .ok (.istore_n 1, 1) := by decide +kernel
theorem dX6_choices_6 : decode cX6_choices 6 = .ok (.iconst 0, 1) := by decide +kernel
theorem dX6_choices_7 : decode cX6_choices 7 = .ok (.istore_n 2, 1) := by decide +kernel
theorem dX6_choices_8 : decode cX6_choices 8 = .ok (.iload_n 2, 1) := by decide +kernel
theorem dX6_choices_9 : decode cX6_choices 9 = .ok (.iconst 1, 1) := by decide +kernel
theorem dX6_choices_10 : decode cX6_choices 10 = .ok (.aload_n 0, 1) := by decide +kernel
theorem dX6_choices_11 : decode cX6_choices 11 = .ok (.getfield 65, 3) := by decide +kernel
theorem dX6_choices_14 : decode cX6_choices 14 = .ok (.ishl, 1) := by decide +kernel
theorem dX6_choices_15 : decode cX6_choices 15 = .ok (.if_icmp .ge 25, 3) := by decide +kernel
theorem dX6_choices_18 : decode cX6_choices 18 = .ok (.iload_n 1, 1) := by decide +kernel
theorem dX6_choices_19 : decode cX6_choices 19 = .ok (.aload_n 0, 1) := by decide +kernel
theorem dX6_choices_20 : decode cX6_choices 20 = .ok (.iload_n 2, 1) := by decide +kernel
theorem dX6_choices_21 : decode cX6_choices 21 = .ok (.invokevirtual 153, 3) := by decide +kernel
theorem dX6_choices_24 : decode cX6_choices 24 = .ok (.ifCond .eq 7, 3) := by decide +kernel
theorem dX6_choices_27 : decode cX6_choices 27 = .ok (.iconst 1, 1) := by decide +kernel
theorem dX6_choices_28 : decode cX6_choices 28 = .ok (.goto 4, 3) := by decide +kernel
theorem dX6_choices_31 : decode cX6_choices 31 = .ok (.iconst 0, 1) := by decide +kernel
theorem dX6_choices_32 : decode cX6_choices 32 = .ok (.iadd, 1) := by decide +kernel
theorem dX6_choices_33 : decode cX6_choices 33 = .ok (.istore_n 1, 1) := by decide +kernel
theorem dX6_choices_34 : decode cX6_choices 34 = .ok (.iinc 2 1, 3) := by decide +kernel
theorem dX6_choices_37 : decode cX6_choices 37 = .ok (.goto (-29), 3) := by decide +kernel
theorem dX6_choices_40 : decode cX6_choices 40 = .ok (.iload_n 1, 1) := by decide +kernel
theorem dX6_choices_41 : decode cX6_choices 41 = .ok (.ireturn, 1) := by decide +kernel
theorem dX6_sizeFor_0 : decode cX6_sizeFor 0 = .ok (.lload_n 1, 1) := by decide +kernel
theorem dX6_sizeFor_1 : decode cX6_sizeFor 1 = .ok (.lconst 0, 1) := by decide +kernel
theorem dX6_sizeFor_2 : decode cX6_sizeFor 2 = .ok (.lcmp, 1) := by decide +kernel
theorem dX6_sizeFor_3 : decode cX6_sizeFor 3 = .ok (.ifCond .ne 5, 3) := by decide +kernel
theorem dX6_sizeFor_6 : decode cX6_sizeFor 6 = .ok (.iconst 0, 1) := by decide +kernel
theorem dX6_sizeFor_7 : decode cX6_sizeFor 7 = .ok (.ireturn, 1) := by decide +kernel
theorem dX6_sizeFor_8 : decode cX6_sizeFor 8 = .ok (.bipush (-6), 2) := by decide +kernel
theorem dX6_sizeFor_10 : decode cX6_sizeFor 10 = .ok (.istore_n 3, 1) := by decide +kernel
theorem dX6_sizeFor_11 : decode cX6_sizeFor 11 = .ok (.iconst 0, 1) := by decide +kernel
theorem dX6_sizeFor_12 : decode cX6_sizeFor 12 = .ok (.istore 4, 2) := by decide +kernel
theorem dX6_sizeFor_14 : decode cX6_sizeFor 14 = .ok (.iload 4, 2) := by decide +kernel
theorem dX6_sizeFor_16 : decode cX6_sizeFor 16 = .ok (.aload_n 0, 1) := by decide +kernel
theorem dX6_sizeFor_17 : decode cX6_sizeFor 17 = .ok (.getfield 99, 3) := by decide +kernel
theorem dX6_sizeFor_20 : decode cX6_sizeFor 20 = .ok (.if_icmp .ge 69, 3) := by decide +kernel
theorem dX6_sizeFor_23 : decode cX6_sizeFor 23 = .ok (.aload_n 0, 1) := by decide +kernel
theorem dX6_sizeFor_24 : decode cX6_sizeFor 24 = .ok (.getfield 32, 3) := by decide +kernel
theorem dX6_sizeFor_27 : decode cX6_sizeFor 27 = .ok (.iload 4, 2) := by decide +kernel
theorem dX6_sizeFor_29 : decode cX6_sizeFor 29 = .ok (.iaload, 1) := by decide +kernel
theorem dX6_sizeFor_30 : decode cX6_sizeFor 30 = .ok (.i2l, 1) := by decide +kernel
theorem dX6_sizeFor_31 : decode cX6_sizeFor 31 = .ok (.aload_n 0, 1) := by decide +kernel
theorem dX6_sizeFor_32 : decode cX6_sizeFor 32 = .ok (.getfield 136, 3) := by decide +kernel
theorem dX6_sizeFor_35 : decode cX6_sizeFor 35 = .ok (.lmul, 1) := by decide +kernel
theorem dX6_sizeFor_36 : decode cX6_sizeFor 36 = .ok (.lload_n 1, 1) := by decide +kernel
theorem dX6_sizeFor_37 : decode cX6_sizeFor 37 = .ok (.invokestatic 140, 3) := by decide +kernel
theorem dX6_sizeFor_40 : decode cX6_sizeFor 40 = .ok (.lcmp, 1) := by decide +kernel
theorem dX6_sizeFor_41 : decode cX6_sizeFor 41 = .ok (.ifCond .lt 7, 3) := by decide +kernel
theorem dX6_sizeFor_44 : decode cX6_sizeFor 44 = .ok (.iconst 1, 1) := by decide +kernel
theorem dX6_sizeFor_45 : decode cX6_sizeFor 45 = .ok (.goto 4, 3) := by decide +kernel
theorem dX6_sizeFor_48 : decode cX6_sizeFor 48 = .ok (.iconst 0, 1) := by decide +kernel
theorem dX6_sizeFor_49 : decode cX6_sizeFor 49 = .ok (.istore 5, 2) := by decide +kernel
theorem dX6_sizeFor_51 : decode cX6_sizeFor 51 = .ok (.iload 5, 2) := by decide +kernel
theorem dX6_sizeFor_53 : decode cX6_sizeFor 53 = .ok (.ifCond .eq 28, 3) := by decide +kernel
theorem dX6_sizeFor_56 : decode cX6_sizeFor 56 = .ok (.iload_n 3, 1) := by decide +kernel
theorem dX6_sizeFor_57 : decode cX6_sizeFor 57 = .ok (.ifCond .lt 14, 3) := by decide +kernel
theorem dX6_sizeFor_60 : decode cX6_sizeFor 60 = .ok (.aload_n 0, 1) := by decide +kernel
theorem dX6_sizeFor_61 : decode cX6_sizeFor 61 = .ok (.getfield 32, 3) := by decide +kernel
theorem dX6_sizeFor_64 : decode cX6_sizeFor 64 = .ok (.iload 4, 2) := by decide +kernel
theorem dX6_sizeFor_66 : decode cX6_sizeFor 66 = .ok (.iaload, 1) := by decide +kernel
theorem dX6_sizeFor_67 : decode cX6_sizeFor 67 = .ok (.iload_n 3, 1) := by decide +kernel
theorem dX6_sizeFor_68 : decode cX6_sizeFor 68 = .ok (.if_icmp .ge 13, 3) := by decide +kernel
theorem dX6_sizeFor_71 : decode cX6_sizeFor 71 = .ok (.aload_n 0, 1) := by decide +kernel
theorem dX6_sizeFor_72 : decode cX6_sizeFor 72 = .ok (.getfield 32, 3) := by decide +kernel
theorem dX6_sizeFor_75 : decode cX6_sizeFor 75 = .ok (.iload 4, 2) := by decide +kernel
theorem dX6_sizeFor_77 : decode cX6_sizeFor 77 = .ok (.iaload, 1) := by decide +kernel
theorem dX6_sizeFor_78 : decode cX6_sizeFor 78 = .ok (.goto 4, 3) := by decide +kernel
theorem dX6_sizeFor_81 : decode cX6_sizeFor 81 = .ok (.iload_n 3, 1) := by decide +kernel
theorem dX6_sizeFor_82 : decode cX6_sizeFor 82 = .ok (.istore_n 3, 1) := by decide +kernel
theorem dX6_sizeFor_83 : decode cX6_sizeFor 83 = .ok (.iinc 4 1, 3) := by decide +kernel
theorem dX6_sizeFor_86 : decode cX6_sizeFor 86 = .ok (.goto (-72), 3) := by decide +kernel
theorem dX6_sizeFor_89 : decode cX6_sizeFor 89 = .ok (.iload_n 3, 1) := by decide +kernel
theorem dX6_sizeFor_90 : decode cX6_sizeFor 90 = .ok (.ireturn, 1) := by decide +kernel
theorem dX6_usedBars_0 : decode cX6_usedBars 0 = .ok (.iconst 0, 1) := by decide +kernel
theorem dX6_usedBars_1 : decode cX6_usedBars 1 = .ok (.istore_n 1, 1) := by decide +kernel
theorem dX6_usedBars_2 : decode cX6_usedBars 2 = .ok (.iconst 0, 1) := by decide +kernel
theorem dX6_usedBars_3 : decode cX6_usedBars 3 = .ok (.istore_n 2, 1) := by decide +kernel
theorem dX6_usedBars_4 : decode cX6_usedBars 4 = .ok (.iload_n 2, 1) := by decide +kernel
theorem dX6_usedBars_5 : decode cX6_usedBars 5 = .ok (.aload_n 0, 1) := by decide +kernel
theorem dX6_usedBars_6 : decode cX6_usedBars 6 = .ok (.getfield 119, 3) := by decide +kernel
theorem dX6_usedBars_9 : decode cX6_usedBars 9 = .ok (.if_icmp .ge 35, 3) := by decide +kernel
theorem dX6_usedBars_12 : decode cX6_usedBars 12 = .ok (.iload_n 1, 1) := by decide +kernel
theorem dX6_usedBars_13 : decode cX6_usedBars 13 = .ok (.aload_n 0, 1) := by decide +kernel
theorem dX6_usedBars_14 : decode cX6_usedBars 14 = .ok (.getfield 51, 3) := by decide +kernel
theorem dX6_usedBars_17 : decode cX6_usedBars 17 = .ok (.iload_n 2, 1) := by decide +kernel
theorem dX6_usedBars_18 : decode cX6_usedBars 18 = .ok (.laload, 1) := by decide +kernel
theorem dX6_usedBars_19 : decode cX6_usedBars 19 = .ok (.lconst 0, 1) := by decide +kernel
theorem dX6_usedBars_20 : decode cX6_usedBars 20 = .ok (.lcmp, 1) := by decide +kernel
theorem dX6_usedBars_21 : decode cX6_usedBars 21 = .ok (.ifCond .eq 14, 3) := by decide +kernel
theorem dX6_usedBars_24 : decode cX6_usedBars 24 = .ok (.iconst 1, 1) := by decide +kernel
theorem dX6_usedBars_25 : decode cX6_usedBars 25 = .ok (.aload_n 0, 1) := by decide +kernel
theorem dX6_usedBars_26 : decode cX6_usedBars 26 = .ok (.getfield 48, 3) := by decide +kernel
theorem dX6_usedBars_29 : decode cX6_usedBars 29 = .ok (.iload_n 2, 1) := by decide +kernel
theorem dX6_usedBars_30 : decode cX6_usedBars 30 = .ok (.iaload, 1) := by decide +kernel
theorem dX6_usedBars_31 : decode cX6_usedBars 31 = .ok (.ishl, 1) := by decide +kernel
theorem dX6_usedBars_32 : decode cX6_usedBars 32 = .ok (.goto 4, 3) := by decide +kernel
theorem dX6_usedBars_35 : decode cX6_usedBars 35 = .ok (.iconst 0, 1) := by decide +kernel
theorem dX6_usedBars_36 : decode cX6_usedBars 36 = .ok (.ior, 1) := by decide +kernel
theorem dX6_usedBars_37 : decode cX6_usedBars 37 = .ok (.istore_n 1, 1) := by decide +kernel
theorem dX6_usedBars_38 : decode cX6_usedBars 38 = .ok (.iinc 2 1, 3) := by decide +kernel
theorem dX6_usedBars_41 : decode cX6_usedBars 41 = .ok (.goto (-37), 3) := by decide +kernel
theorem dX6_usedBars_44 : decode cX6_usedBars 44 = .ok (.iload_n 1, 1) := by decide +kernel
theorem dX6_usedBars_45 : decode cX6_usedBars 45 = .ok (.ireturn, 1) := by decide +kernel
theorem dX6_usedJoints_0 : decode cX6_usedJoints 0 = .ok (.iconst 0, 1) := by decide +kernel
theorem dX6_usedJoints_1 : decode cX6_usedJoints 1 = .ok (.istore_n 1, 1) := by decide +kernel
theorem dX6_usedJoints_2 : decode cX6_usedJoints 2 = .ok (.iconst 0, 1) := by decide +kernel
theorem dX6_usedJoints_3 : decode cX6_usedJoints 3 = .ok (.istore_n 2, 1) := by decide +kernel
theorem dX6_usedJoints_4 : decode cX6_usedJoints 4 = .ok (.iload_n 2, 1) := by decide +kernel
theorem dX6_usedJoints_5 : decode cX6_usedJoints 5 = .ok (.aload_n 0, 1) := by decide +kernel
theorem dX6_usedJoints_6 : decode cX6_usedJoints 6 = .ok (.getfield 119, 3) := by decide +kernel
theorem dX6_usedJoints_9 : decode cX6_usedJoints 9 = .ok (.if_icmp .ge 54, 3) := by decide +kernel
theorem dX6_usedJoints_12 : decode cX6_usedJoints 12 = .ok (.iload_n 1, 1) := by decide +kernel
theorem dX6_usedJoints_13 : decode cX6_usedJoints 13 = .ok (.aload_n 0, 1) := by decide +kernel
theorem dX6_usedJoints_14 : decode cX6_usedJoints 14 = .ok (.getfield 51, 3) := by decide +kernel
theorem dX6_usedJoints_17 : decode cX6_usedJoints 17 = .ok (.iload_n 2, 1) := by decide +kernel
theorem dX6_usedJoints_18 : decode cX6_usedJoints 18 = .ok (.laload, 1) := by decide +kernel
theorem dX6_usedJoints_19 : decode cX6_usedJoints 19 = .ok (.lconst 0, 1) := by decide +kernel
theorem dX6_usedJoints_20 : decode cX6_usedJoints 20 = .ok (.lcmp, 1) := by decide +kernel
theorem dX6_usedJoints_21 : decode cX6_usedJoints 21 = .ok (.ifCond .eq 33, 3) := by decide +kernel
theorem dX6_usedJoints_24 : decode cX6_usedJoints 24 = .ok (.iconst 1, 1) := by decide +kernel
theorem dX6_usedJoints_25 : decode cX6_usedJoints 25 = .ok (.aload_n 0, 1) := by decide +kernel
theorem dX6_usedJoints_26 : decode cX6_usedJoints 26 = .ok (.getfield 26, 3) := by decide +kernel
theorem dX6_usedJoints_29 : decode cX6_usedJoints 29 = .ok (.aload_n 0, 1) := by decide +kernel
theorem dX6_usedJoints_30 : decode cX6_usedJoints 30 = .ok (.getfield 48, 3) := by decide +kernel
theorem dX6_usedJoints_33 : decode cX6_usedJoints 33 = .ok (.iload_n 2, 1) := by decide +kernel
theorem dX6_usedJoints_34 : decode cX6_usedJoints 34 = .ok (.iaload, 1) := by decide +kernel
theorem dX6_usedJoints_35 : decode cX6_usedJoints 35 = .ok (.iaload, 1) := by decide +kernel
theorem dX6_usedJoints_36 : decode cX6_usedJoints 36 = .ok (.ishl, 1) := by decide +kernel
theorem dX6_usedJoints_37 : decode cX6_usedJoints 37 = .ok (.iconst 1, 1) := by decide +kernel
theorem dX6_usedJoints_38 : decode cX6_usedJoints 38 = .ok (.aload_n 0, 1) := by decide +kernel
theorem dX6_usedJoints_39 : decode cX6_usedJoints 39 = .ok (.getfield 29, 3) := by decide +kernel
theorem dX6_usedJoints_42 : decode cX6_usedJoints 42 = .ok (.aload_n 0, 1) := by decide +kernel
theorem dX6_usedJoints_43 : decode cX6_usedJoints 43 = .ok (.getfield 48, 3) := by decide +kernel
theorem dX6_usedJoints_46 : decode cX6_usedJoints 46 = .ok (.iload_n 2, 1) := by decide +kernel
theorem dX6_usedJoints_47 : decode cX6_usedJoints 47 = .ok (.iaload, 1) := by decide +kernel
theorem dX6_usedJoints_48 : decode cX6_usedJoints 48 = .ok (.iaload, 1) := by decide +kernel
theorem dX6_usedJoints_49 : decode cX6_usedJoints 49 = .ok (.ishl, 1) := by decide +kernel
theorem dX6_usedJoints_50 : decode cX6_usedJoints 50 = .ok (.ior, 1) := by decide +kernel
theorem dX6_usedJoints_51 : decode cX6_usedJoints 51 = .ok (.goto 4, 3) := by decide +kernel
theorem dX6_usedJoints_54 : decode cX6_usedJoints 54 = .ok (.iconst 0, 1) := by decide +kernel
theorem dX6_usedJoints_55 : decode cX6_usedJoints 55 = .ok (.ior, 1) := by decide +kernel
theorem dX6_usedJoints_56 : decode cX6_usedJoints 56 = .ok (.istore_n 1, 1) := by decide +kernel
theorem dX6_usedJoints_57 : decode cX6_usedJoints 57 = .ok (.iinc 2 1, 3) := by decide +kernel
theorem dX6_usedJoints_60 : decode cX6_usedJoints 60 = .ok (.goto (-56), 3) := by decide +kernel
theorem dX6_usedJoints_63 : decode cX6_usedJoints 63 = .ok (.iload_n 1, 1) := by decide +kernel
theorem dX6_usedJoints_64 : decode cX6_usedJoints 64 = .ok (.ireturn, 1) := by decide +kernel
theorem dX6_costOf_0 : decode cX6_costOf 0 = .ok (.lconst 0, 1) := by decide +kernel
theorem dX6_costOf_1 : decode cX6_costOf 1 = .ok (.lstore_n 2, 1) := by decide +kernel
theorem dX6_costOf_2 : decode cX6_costOf 2 = .ok (.iconst 0, 1) := by decide +kernel
theorem dX6_costOf_3 : decode cX6_costOf 3 = .ok (.istore 4, 2) := by decide +kernel
theorem dX6_costOf_5 : decode cX6_costOf 5 = .ok (.iload 4, 2) := by decide +kernel
theorem dX6_costOf_7 : decode cX6_costOf 7 = .ok (.aload_n 0, 1) := by decide +kernel
theorem dX6_costOf_8 : decode cX6_costOf 8 = .ok (.getfield 119, 3) := by decide +kernel
theorem dX6_costOf_11 : decode cX6_costOf 11 = .ok (.if_icmp .ge 148, 3) := by decide +kernel
theorem dX6_costOf_14 : decode cX6_costOf 14 = .ok (.aload_n 0, 1) := by decide +kernel
theorem dX6_costOf_15 : decode cX6_costOf 15 = .ok (.aload_n 0, 1) := by decide +kernel
theorem dX6_costOf_16 : decode cX6_costOf 16 = .ok (.getfield 51, 3) := by decide +kernel
theorem dX6_costOf_19 : decode cX6_costOf 19 = .ok (.iload 4, 2) := by decide +kernel
theorem dX6_costOf_21 : decode cX6_costOf 21 = .ok (.laload, 1) := by decide +kernel
theorem dX6_costOf_22 : decode cX6_costOf 22 = .ok (.invokevirtual 156, 3) := by decide +kernel
theorem dX6_costOf_25 : decode cX6_costOf 25 = .ok (.istore 5, 2) := by decide +kernel
theorem dX6_costOf_27 : decode cX6_costOf 27 = .ok (.iload_n 1, 1) := by decide +kernel
theorem dX6_costOf_28 : decode cX6_costOf 28 = .ok (.iconst 2, 1) := by decide +kernel
theorem dX6_costOf_29 : decode cX6_costOf 29 = .ok (.if_icmp .ne 12, 3) := by decide +kernel
theorem dX6_costOf_32 : decode cX6_costOf 32 = .ok (.iload 5, 2) := by decide +kernel
theorem dX6_costOf_34 : decode cX6_costOf 34 = .ok (.ifCond .ge 7, 3) := by decide +kernel
theorem dX6_costOf_37 : decode cX6_costOf 37 = .ok (.ldc2_w 160, 3) := by decide +kernel
theorem dX6_costOf_40 : decode cX6_costOf 40 = .ok (.lreturn, 1) := by decide +kernel
theorem dX6_costOf_41 : decode cX6_costOf 41 = .ok (.lload_n 2, 1) := by decide +kernel
theorem dX6_costOf_42 : decode cX6_costOf 42 = .ok (.aload_n 0, 1) := by decide +kernel
theorem dX6_costOf_43 : decode cX6_costOf 43 = .ok (.aload_n 0, 1) := by decide +kernel
theorem dX6_costOf_44 : decode cX6_costOf 44 = .ok (.getfield 48, 3) := by decide +kernel
theorem dX6_costOf_47 : decode cX6_costOf 47 = .ok (.iload 4, 2) := by decide +kernel
theorem dX6_costOf_49 : decode cX6_costOf 49 = .ok (.iaload, 1) := by decide +kernel
theorem dX6_costOf_50 : decode cX6_costOf 50 = .ok (.invokevirtual 93, 3) := by decide +kernel
theorem dX6_costOf_53 : decode cX6_costOf 53 = .ok (.i2l, 1) := by decide +kernel
theorem dX6_costOf_54 : decode cX6_costOf 54 = .ok (.iload_n 1, 1) := by decide +kernel
theorem dX6_costOf_55 : decode cX6_costOf 55 = .ok (.iconst 2, 1) := by decide +kernel
theorem dX6_costOf_56 : decode cX6_costOf 56 = .ok (.if_icmp .ne 14, 3) := by decide +kernel
theorem dX6_costOf_59 : decode cX6_costOf 59 = .ok (.iload 5, 2) := by decide +kernel
theorem dX6_costOf_61 : decode cX6_costOf 61 = .ok (.i2l, 1) := by decide +kernel
theorem dX6_costOf_62 : decode cX6_costOf 62 = .ok (.aload_n 0, 1) := by decide +kernel
theorem dX6_costOf_63 : decode cX6_costOf 63 = .ok (.getfield 136, 3) := by decide +kernel
theorem dX6_costOf_66 : decode cX6_costOf 66 = .ok (.lmul, 1) := by decide +kernel
theorem dX6_costOf_67 : decode cX6_costOf 67 = .ok (.goto 13, 3) := by decide +kernel
theorem dX6_costOf_70 : decode cX6_costOf 70 = .ok (.aload_n 0, 1) := by decide +kernel
theorem dX6_costOf_71 : decode cX6_costOf 71 = .ok (.getfield 51, 3) := by decide +kernel
theorem dX6_costOf_74 : decode cX6_costOf 74 = .ok (.iload 4, 2) := by decide +kernel
theorem dX6_costOf_76 : decode cX6_costOf 76 = .ok (.laload, 1) := by decide +kernel
theorem dX6_costOf_77 : decode cX6_costOf 77 = .ok (.invokestatic 140, 3) := by decide +kernel
theorem dX6_costOf_80 : decode cX6_costOf 80 = .ok (.lmul, 1) := by decide +kernel
theorem dX6_costOf_81 : decode cX6_costOf 81 = .ok (.ladd, 1) := by decide +kernel
theorem dX6_costOf_82 : decode cX6_costOf 82 = .ok (.lstore_n 2, 1) := by decide +kernel
theorem dX6_costOf_83 : decode cX6_costOf 83 = .ok (.iconst 0, 1) := by decide +kernel
theorem dX6_costOf_84 : decode cX6_costOf 84 = .ok (.istore 6, 2) := by decide +kernel
theorem dX6_costOf_86 : decode cX6_costOf 86 = .ok (.iload 6, 2) := by decide +kernel
theorem dX6_costOf_88 : decode cX6_costOf 88 = .ok (.iload 4, 2) := by decide +kernel
theorem dX6_costOf_90 : decode cX6_costOf 90 = .ok (.if_icmp .ge 63, 3) := by decide +kernel
theorem dX6_costOf_93 : decode cX6_costOf 93 = .ok (.iload_n 1, 1) := by decide +kernel
theorem dX6_costOf_94 : decode cX6_costOf 94 = .ok (.iconst 1, 1) := by decide +kernel
theorem dX6_costOf_95 : decode cX6_costOf 95 = .ok (.if_icmp .ne 58, 3) := by decide +kernel
theorem dX6_costOf_98 : decode cX6_costOf 98 = .ok (.aload_n 0, 1) := by decide +kernel
theorem dX6_costOf_99 : decode cX6_costOf 99 = .ok (.getfield 51, 3) := by decide +kernel
theorem dX6_costOf_102 : decode cX6_costOf 102 = .ok (.iload 4, 2) := by decide +kernel
theorem dX6_costOf_104 : decode cX6_costOf 104 = .ok (.laload, 1) := by decide +kernel
theorem dX6_costOf_105 : decode cX6_costOf 105 = .ok (.lconst 0, 1) := by decide +kernel
theorem dX6_costOf_106 : decode cX6_costOf 106 = .ok (.lcmp, 1) := by decide +kernel
theorem dX6_costOf_107 : decode cX6_costOf 107 = .ok (.ifCond .eq 40, 3) := by decide +kernel
theorem dX6_costOf_110 : decode cX6_costOf 110 = .ok (.aload_n 0, 1) := by decide +kernel
theorem dX6_costOf_111 : decode cX6_costOf 111 = .ok (.getfield 51, 3) := by decide +kernel
theorem dX6_costOf_114 : decode cX6_costOf 114 = .ok (.iload 6, 2) := by decide +kernel
theorem dX6_costOf_116 : decode cX6_costOf 116 = .ok (.laload, 1) := by decide +kernel
theorem dX6_costOf_117 : decode cX6_costOf 117 = .ok (.lconst 0, 1) := by decide +kernel
theorem dX6_costOf_118 : decode cX6_costOf 118 = .ok (.lcmp, 1) := by decide +kernel
theorem dX6_costOf_119 : decode cX6_costOf 119 = .ok (.ifCond .eq 28, 3) := by decide +kernel
theorem dX6_costOf_122 : decode cX6_costOf 122 = .ok (.aload_n 0, 1) := by decide +kernel
theorem dX6_costOf_123 : decode cX6_costOf 123 = .ok (.aload_n 0, 1) := by decide +kernel
theorem dX6_costOf_124 : decode cX6_costOf 124 = .ok (.getfield 48, 3) := by decide +kernel
theorem dX6_costOf_127 : decode cX6_costOf 127 = .ok (.iload 4, 2) := by decide +kernel
theorem dX6_costOf_129 : decode cX6_costOf 129 = .ok (.iaload, 1) := by decide +kernel
theorem dX6_costOf_130 : decode cX6_costOf 130 = .ok (.aload_n 0, 1) := by decide +kernel
theorem dX6_costOf_131 : decode cX6_costOf 131 = .ok (.getfield 48, 3) := by decide +kernel
theorem dX6_costOf_134 : decode cX6_costOf 134 = .ok (.iload 6, 2) := by decide +kernel
theorem dX6_costOf_136 : decode cX6_costOf 136 = .ok (.iaload, 1) := by decide +kernel
theorem dX6_costOf_137 : decode cX6_costOf 137 = .ok (.invokevirtual 115, 3) := by decide +kernel
theorem dX6_costOf_140 : decode cX6_costOf 140 = .ok (.ifCond .eq 7, 3) := by decide +kernel
theorem dX6_costOf_143 : decode cX6_costOf 143 = .ok (.ldc2_w 160, 3) := by decide +kernel
theorem dX6_costOf_146 : decode cX6_costOf 146 = .ok (.lreturn, 1) := by decide +kernel
theorem dX6_costOf_147 : decode cX6_costOf 147 = .ok (.iinc 6 1, 3) := by decide +kernel
theorem dX6_costOf_150 : decode cX6_costOf 150 = .ok (.goto (-64), 3) := by decide +kernel
theorem dX6_costOf_153 : decode cX6_costOf 153 = .ok (.iinc 4 1, 3) := by decide +kernel
theorem dX6_costOf_156 : decode cX6_costOf 156 = .ok (.goto (-151), 3) := by decide +kernel
theorem dX6_costOf_159 : decode cX6_costOf 159 = .ok (.lload_n 2, 1) := by decide +kernel
theorem dX6_costOf_160 : decode cX6_costOf 160 = .ok (.iload_n 1, 1) := by decide +kernel
theorem dX6_costOf_161 : decode cX6_costOf 161 = .ok (.iconst 3, 1) := by decide +kernel
theorem dX6_costOf_162 : decode cX6_costOf 162 = .ok (.if_icmp .ne 25, 3) := by decide +kernel
theorem dX6_costOf_165 : decode cX6_costOf 165 = .ok (.aload_n 0, 1) := by decide +kernel
theorem dX6_costOf_166 : decode cX6_costOf 166 = .ok (.getfield 104, 3) := by decide +kernel
theorem dX6_costOf_169 : decode cX6_costOf 169 = .ok (.i2l, 1) := by decide +kernel
theorem dX6_costOf_170 : decode cX6_costOf 170 = .ok (.aload_n 0, 1) := by decide +kernel
theorem dX6_costOf_171 : decode cX6_costOf 171 = .ok (.invokevirtual 162, 3) := by decide +kernel
theorem dX6_costOf_174 : decode cX6_costOf 174 = .ok (.invokestatic 147, 3) := by decide +kernel
theorem dX6_costOf_177 : decode cX6_costOf 177 = .ok (.i2l, 1) := by decide +kernel
theorem dX6_costOf_178 : decode cX6_costOf 178 = .ok (.lmul, 1) := by decide +kernel
theorem dX6_costOf_179 : decode cX6_costOf 179 = .ok (.aload_n 0, 1) := by decide +kernel
theorem dX6_costOf_180 : decode cX6_costOf 180 = .ok (.getfield 136, 3) := by decide +kernel
theorem dX6_costOf_183 : decode cX6_costOf 183 = .ok (.lmul, 1) := by decide +kernel
theorem dX6_costOf_184 : decode cX6_costOf 184 = .ok (.goto 4, 3) := by decide +kernel
theorem dX6_costOf_187 : decode cX6_costOf 187 = .ok (.lconst 0, 1) := by decide +kernel
theorem dX6_costOf_188 : decode cX6_costOf 188 = .ok (.ladd, 1) := by decide +kernel
theorem dX6_costOf_189 : decode cX6_costOf 189 = .ok (.lreturn, 1) := by decide +kernel
theorem dX6_find_0 : decode cX6_find 0 = .ok (.aload_n 0, 1) := by decide +kernel
theorem dX6_find_1 : decode cX6_find 1 = .ok (.invokevirtual 150, 3) := by decide +kernel
theorem dX6_find_4 : decode cX6_find 4 = .ok (.bipush (-6), 2) := by decide +kernel
theorem dX6_find_6 : decode cX6_find 6 = .ok (.istore_n 2, 1) := by decide +kernel
theorem dX6_find_7 : decode cX6_find 7 = .ok (.iconst 0, 1) := by decide +kernel
theorem dX6_find_8 : decode cX6_find 8 = .ok (.istore_n 3, 1) := by decide +kernel
theorem dX6_find_9 : decode cX6_find 9 = .ok (.iload_n 3, 1) := by decide +kernel
theorem dX6_find_10 : decode cX6_find 10 = .ok (.iconst 1, 1) := by decide +kernel
theorem dX6_find_11 : decode cX6_find 11 = .ok (.aload_n 0, 1) := by decide +kernel
theorem dX6_find_12 : decode cX6_find 12 = .ok (.getfield 65, 3) := by decide +kernel
theorem dX6_find_15 : decode cX6_find 15 = .ok (.ishl, 1) := by decide +kernel
theorem dX6_find_16 : decode cX6_find 16 = .ok (.if_icmp .ge 127, 3) := by decide +kernel
theorem dX6_find_19 : decode cX6_find 19 = .ok (.aload_n 0, 1) := by decide +kernel
theorem dX6_find_20 : decode cX6_find 20 = .ok (.iload_n 3, 1) := by decide +kernel
theorem dX6_find_21 : decode cX6_find 21 = .ok (.invokevirtual 153, 3) := by decide +kernel
theorem dX6_find_24 : decode cX6_find 24 = .ok (.ifCond .eq 113, 3) := by decide +kernel
theorem dX6_find_27 : decode cX6_find 27 = .ok (.aload_n 0, 1) := by decide +kernel
theorem dX6_find_28 : decode cX6_find 28 = .ok (.iload_n 1, 1) := by decide +kernel
theorem dX6_find_29 : decode cX6_find 29 = .ok (.invokevirtual 165, 3) := by decide +kernel
theorem dX6_find_32 : decode cX6_find 32 = .ok (.lstore 4, 2) := by decide +kernel
theorem dX6_find_34 : decode cX6_find 34 = .ok (.iload_n 2, 1) := by decide +kernel
theorem dX6_find_35 : decode cX6_find 35 = .ok (.ifCond .lt 23, 3) := by decide +kernel
theorem dX6_find_38 : decode cX6_find 38 = .ok (.lload 4, 2) := by decide +kernel
theorem dX6_find_40 : decode cX6_find 40 = .ok (.aload_n 0, 1) := by decide +kernel
theorem dX6_find_41 : decode cX6_find 41 = .ok (.getfield 168, 3) := by decide +kernel
theorem dX6_find_44 : decode cX6_find 44 = .ok (.lmul, 1) := by decide +kernel
theorem dX6_find_45 : decode cX6_find 45 = .ok (.aload_n 0, 1) := by decide +kernel
theorem dX6_find_46 : decode cX6_find 46 = .ok (.getfield 171, 3) := by decide +kernel
theorem dX6_find_49 : decode cX6_find 49 = .ok (.aload_n 0, 1) := by decide +kernel
theorem dX6_find_50 : decode cX6_find 50 = .ok (.getfield 136, 3) := by decide +kernel
theorem dX6_find_53 : decode cX6_find 53 = .ok (.lmul, 1) := by decide +kernel
theorem dX6_find_54 : decode cX6_find 54 = .ok (.lcmp, 1) := by decide +kernel
theorem dX6_find_55 : decode cX6_find 55 = .ok (.ifCond .ge 7, 3) := by decide +kernel
theorem dX6_find_58 : decode cX6_find 58 = .ok (.iconst 1, 1) := by decide +kernel
theorem dX6_find_59 : decode cX6_find 59 = .ok (.goto 4, 3) := by decide +kernel
theorem dX6_find_62 : decode cX6_find 62 = .ok (.iconst 0, 1) := by decide +kernel
theorem dX6_find_63 : decode cX6_find 63 = .ok (.istore 6, 2) := by decide +kernel
theorem dX6_find_65 : decode cX6_find 65 = .ok (.iload_n 2, 1) := by decide +kernel
theorem dX6_find_66 : decode cX6_find 66 = .ok (.ifCond .lt 35, 3) := by decide +kernel
theorem dX6_find_69 : decode cX6_find 69 = .ok (.lload 4, 2) := by decide +kernel
theorem dX6_find_71 : decode cX6_find 71 = .ok (.aload_n 0, 1) := by decide +kernel
theorem dX6_find_72 : decode cX6_find 72 = .ok (.getfield 168, 3) := by decide +kernel
theorem dX6_find_75 : decode cX6_find 75 = .ok (.lmul, 1) := by decide +kernel
theorem dX6_find_76 : decode cX6_find 76 = .ok (.aload_n 0, 1) := by decide +kernel
theorem dX6_find_77 : decode cX6_find 77 = .ok (.getfield 171, 3) := by decide +kernel
theorem dX6_find_80 : decode cX6_find 80 = .ok (.aload_n 0, 1) := by decide +kernel
theorem dX6_find_81 : decode cX6_find 81 = .ok (.getfield 136, 3) := by decide +kernel
theorem dX6_find_84 : decode cX6_find 84 = .ok (.lmul, 1) := by decide +kernel
theorem dX6_find_85 : decode cX6_find 85 = .ok (.lcmp, 1) := by decide +kernel
theorem dX6_find_86 : decode cX6_find 86 = .ok (.ifCond .ne 15, 3) := by decide +kernel
theorem dX6_find_89 : decode cX6_find 89 = .ok (.iload_n 3, 1) := by decide +kernel
theorem dX6_find_90 : decode cX6_find 90 = .ok (.iload_n 2, 1) := by decide +kernel
theorem dX6_find_91 : decode cX6_find 91 = .ok (.invokestatic 144, 3) := by decide +kernel
theorem dX6_find_94 : decode cX6_find 94 = .ok (.ifCond .eq 7, 3) := by decide +kernel
theorem dX6_find_97 : decode cX6_find 97 = .ok (.iconst 1, 1) := by decide +kernel
theorem dX6_find_98 : decode cX6_find 98 = .ok (.goto 4, 3) := by decide +kernel
theorem dX6_find_101 : decode cX6_find 101 = .ok (.iconst 0, 1) := by decide +kernel
theorem dX6_find_102 : decode cX6_find 102 = .ok (.istore 7, 2) := by decide +kernel
theorem dX6_find_104 : decode cX6_find 104 = .ok (.lload 4, 2) := by decide +kernel
theorem dX6_find_106 : decode cX6_find 106 = .ok (.lconst 0, 1) := by decide +kernel
theorem dX6_find_107 : decode cX6_find 107 = .ok (.lcmp, 1) := by decide +kernel
theorem dX6_find_108 : decode cX6_find 108 = .ok (.ifCond .lt 29, 3) := by decide +kernel
theorem dX6_find_111 : decode cX6_find 111 = .ok (.iload 6, 2) := by decide +kernel
theorem dX6_find_113 : decode cX6_find 113 = .ok (.ifCond .ne 8, 3) := by decide +kernel
theorem dX6_find_116 : decode cX6_find 116 = .ok (.iload 7, 2) := by decide +kernel
theorem dX6_find_118 : decode cX6_find 118 = .ok (.ifCond .eq 19, 3) := by decide +kernel
theorem dX6_find_121 : decode cX6_find 121 = .ok (.iload_n 3, 1) := by decide +kernel
theorem dX6_find_122 : decode cX6_find 122 = .ok (.istore_n 2, 1) := by decide +kernel
theorem dX6_find_123 : decode cX6_find 123 = .ok (.aload_n 0, 1) := by decide +kernel
theorem dX6_find_124 : decode cX6_find 124 = .ok (.lload 4, 2) := by decide +kernel
theorem dX6_find_126 : decode cX6_find 126 = .ok (.putfield 171, 3) := by decide +kernel
theorem dX6_find_129 : decode cX6_find 129 = .ok (.aload_n 0, 1) := by decide +kernel
theorem dX6_find_130 : decode cX6_find 130 = .ok (.aload_n 0, 1) := by decide +kernel
theorem dX6_find_131 : decode cX6_find 131 = .ok (.getfield 136, 3) := by decide +kernel
theorem dX6_find_134 : decode cX6_find 134 = .ok (.putfield 168, 3) := by decide +kernel
theorem dX6_find_137 : decode cX6_find 137 = .ok (.iinc 3 1, 3) := by decide +kernel
theorem dX6_find_140 : decode cX6_find 140 = .ok (.goto (-131), 3) := by decide +kernel
theorem dX6_find_143 : decode cX6_find 143 = .ok (.iload_n 2, 1) := by decide +kernel
theorem dX6_find_144 : decode cX6_find 144 = .ok (.ireturn, 1) := by decide +kernel
theorem dX6_isKind_0 : decode cX6_isKind 0 = .ok (.iload_n 0, 1) := by decide +kernel
theorem dX6_isKind_1 : decode cX6_isKind 1 = .ok (.i2l, 1) := by decide +kernel
theorem dX6_isKind_2 : decode cX6_isKind 2 = .ok (.lconst 0, 1) := by decide +kernel
theorem dX6_isKind_3 : decode cX6_isKind 3 = .ok (.ldc2_w 174, 3) := by decide +kernel
theorem dX6_isKind_6 : decode cX6_isKind 6 = .ok (.invokestatic 61, 3) := by decide +kernel
theorem dX6_isKind_9 : decode cX6_isKind 9 = .ok (.ireturn, 1) := by decide +kernel
theorem dX6_frame_0 : decode cX6_frame 0 = .ok (.iload_n 1, 1) := by decide +kernel
theorem dX6_frame_1 : decode cX6_frame 1 = .ok (.invokestatic 176, 3) := by decide +kernel
theorem dX6_frame_4 : decode cX6_frame 4 = .ok (.ifCond .eq 11, 3) := by decide +kernel
theorem dX6_frame_7 : decode cX6_frame 7 = .ok (.aload_n 0, 1) := by decide +kernel
theorem dX6_frame_8 : decode cX6_frame 8 = .ok (.iload_n 1, 1) := by decide +kernel
theorem dX6_frame_9 : decode cX6_frame 9 = .ok (.invokevirtual 179, 3) := by decide +kernel
theorem dX6_frame_12 : decode cX6_frame 12 = .ok (.goto 5, 3) := by decide +kernel
theorem dX6_frame_15 : decode cX6_frame 15 = .ok (.bipush (-2), 2) := by decide +kernel
theorem dX6_frame_17 : decode cX6_frame 17 = .ok (.ireturn, 1) := by decide +kernel
theorem dX6_isPart_0 : decode cX6_isPart 0 = .ok (.iload_n 0, 1) := by decide +kernel
theorem dX6_isPart_1 : decode cX6_isPart 1 = .ok (.i2l, 1) := by decide +kernel
theorem dX6_isPart_2 : decode cX6_isPart 2 = .ok (.lconst 0, 1) := by decide +kernel
theorem dX6_isPart_3 : decode cX6_isPart 3 = .ok (.lconst 1, 1) := by decide +kernel
theorem dX6_isPart_4 : decode cX6_isPart 4 = .ok (.invokestatic 61, 3) := by decide +kernel
theorem dX6_isPart_7 : decode cX6_isPart 7 = .ok (.ireturn, 1) := by decide +kernel
theorem dX6_cost_0 : decode cX6_cost 0 = .ok (.iload_n 1, 1) := by decide +kernel
theorem dX6_cost_1 : decode cX6_cost 1 = .ok (.invokestatic 176, 3) := by decide +kernel
theorem dX6_cost_4 : decode cX6_cost 4 = .ok (.ifCond .eq 10, 3) := by decide +kernel
theorem dX6_cost_7 : decode cX6_cost 7 = .ok (.iload_n 2, 1) := by decide +kernel
theorem dX6_cost_8 : decode cX6_cost 8 = .ok (.invokestatic 182, 3) := by decide +kernel
theorem dX6_cost_11 : decode cX6_cost 11 = .ok (.ifCond .ne 7, 3) := by decide +kernel
theorem dX6_cost_14 : decode cX6_cost 14 = .ok (.ldc2_w 185, 3) := by decide +kernel
theorem dX6_cost_17 : decode cX6_cost 17 = .ok (.lreturn, 1) := by decide +kernel
theorem dX6_cost_18 : decode cX6_cost 18 = .ok (.aload_n 0, 1) := by decide +kernel
theorem dX6_cost_19 : decode cX6_cost 19 = .ok (.iload_n 1, 1) := by decide +kernel
theorem dX6_cost_20 : decode cX6_cost 20 = .ok (.invokevirtual 179, 3) := by decide +kernel
theorem dX6_cost_23 : decode cX6_cost 23 = .ok (.ifCond .ge 9, 3) := by decide +kernel
theorem dX6_cost_26 : decode cX6_cost 26 = .ok (.ldc2_w 187, 3) := by decide +kernel
theorem dX6_cost_29 : decode cX6_cost 29 = .ok (.goto 15, 3) := by decide +kernel
theorem dX6_cost_32 : decode cX6_cost 32 = .ok (.aload_n 0, 1) := by decide +kernel
theorem dX6_cost_33 : decode cX6_cost 33 = .ok (.getfield 171, 3) := by decide +kernel
theorem dX6_cost_36 : decode cX6_cost 36 = .ok (.aload_n 0, 1) := by decide +kernel
theorem dX6_cost_37 : decode cX6_cost 37 = .ok (.getfield 168, 3) := by decide +kernel
theorem dX6_cost_40 : decode cX6_cost 40 = .ok (.iload_n 2, 1) := by decide +kernel
theorem dX6_cost_41 : decode cX6_cost 41 = .ok (.invokestatic 189, 3) := by decide +kernel
theorem dX6_cost_44 : decode cX6_cost 44 = .ok (.lreturn, 1) := by decide +kernel
theorem dX6_placeOf_0 : decode cX6_placeOf 0 = .ok (.bipush (-6), 2) := by decide +kernel
theorem dX6_placeOf_2 : decode cX6_placeOf 2 = .ok (.istore_n 2, 1) := by decide +kernel
theorem dX6_placeOf_3 : decode cX6_placeOf 3 = .ok (.iconst 0, 1) := by decide +kernel
theorem dX6_placeOf_4 : decode cX6_placeOf 4 = .ok (.istore_n 3, 1) := by decide +kernel
theorem dX6_placeOf_5 : decode cX6_placeOf 5 = .ok (.iload_n 3, 1) := by decide +kernel
theorem dX6_placeOf_6 : decode cX6_placeOf 6 = .ok (.aload_n 0, 1) := by decide +kernel
theorem dX6_placeOf_7 : decode cX6_placeOf 7 = .ok (.getfield 119, 3) := by decide +kernel
theorem dX6_placeOf_10 : decode cX6_placeOf 10 = .ok (.if_icmp .ge 25, 3) := by decide +kernel
theorem dX6_placeOf_13 : decode cX6_placeOf 13 = .ok (.aload_n 0, 1) := by decide +kernel
theorem dX6_placeOf_14 : decode cX6_placeOf 14 = .ok (.getfield 48, 3) := by decide +kernel
theorem dX6_placeOf_17 : decode cX6_placeOf 17 = .ok (.iload_n 3, 1) := by decide +kernel
theorem dX6_placeOf_18 : decode cX6_placeOf 18 = .ok (.iaload, 1) := by decide +kernel
theorem dX6_placeOf_19 : decode cX6_placeOf 19 = .ok (.iload_n 1, 1) := by decide +kernel
theorem dX6_placeOf_20 : decode cX6_placeOf 20 = .ok (.if_icmp .ne 7, 3) := by decide +kernel
theorem dX6_placeOf_23 : decode cX6_placeOf 23 = .ok (.iload_n 3, 1) := by decide +kernel
theorem dX6_placeOf_24 : decode cX6_placeOf 24 = .ok (.goto 4, 3) := by decide +kernel
theorem dX6_placeOf_27 : decode cX6_placeOf 27 = .ok (.iload_n 2, 1) := by decide +kernel
theorem dX6_placeOf_28 : decode cX6_placeOf 28 = .ok (.istore_n 2, 1) := by decide +kernel
theorem dX6_placeOf_29 : decode cX6_placeOf 29 = .ok (.iinc 3 1, 3) := by decide +kernel
theorem dX6_placeOf_32 : decode cX6_placeOf 32 = .ok (.goto (-27), 3) := by decide +kernel
theorem dX6_placeOf_35 : decode cX6_placeOf 35 = .ok (.iload_n 2, 1) := by decide +kernel
theorem dX6_placeOf_36 : decode cX6_placeOf 36 = .ok (.ireturn, 1) := by decide +kernel
theorem dX6_pull_0 : decode cX6_pull 0 = .ok (.aload_n 0, 1) := by decide +kernel
theorem dX6_pull_1 : decode cX6_pull 1 = .ok (.iload_n 2, 1) := by decide +kernel
theorem dX6_pull_2 : decode cX6_pull 2 = .ok (.invokevirtual 90, 3) := by decide +kernel
theorem dX6_pull_5 : decode cX6_pull 5 = .ok (.ifCond .ne 7, 3) := by decide +kernel
theorem dX6_pull_8 : decode cX6_pull 8 = .ok (.ldc2_w 193, 3) := by decide +kernel
theorem dX6_pull_11 : decode cX6_pull 11 = .ok (.lreturn, 1) := by decide +kernel
theorem dX6_pull_12 : decode cX6_pull 12 = .ok (.iload_n 1, 1) := by decide +kernel
theorem dX6_pull_13 : decode cX6_pull 13 = .ok (.invokestatic 176, 3) := by decide +kernel
theorem dX6_pull_16 : decode cX6_pull 16 = .ok (.ifCond .eq 10, 3) := by decide +kernel
theorem dX6_pull_19 : decode cX6_pull 19 = .ok (.iload_n 3, 1) := by decide +kernel
theorem dX6_pull_20 : decode cX6_pull 20 = .ok (.invokestatic 182, 3) := by decide +kernel
theorem dX6_pull_23 : decode cX6_pull 23 = .ok (.ifCond .ne 7, 3) := by decide +kernel
theorem dX6_pull_26 : decode cX6_pull 26 = .ok (.ldc2_w 185, 3) := by decide +kernel
theorem dX6_pull_29 : decode cX6_pull 29 = .ok (.lreturn, 1) := by decide +kernel
theorem dX6_pull_30 : decode cX6_pull 30 = .ok (.aload_n 0, 1) := by decide +kernel
theorem dX6_pull_31 : decode cX6_pull 31 = .ok (.iload_n 1, 1) := by decide +kernel
theorem dX6_pull_32 : decode cX6_pull 32 = .ok (.invokevirtual 179, 3) := by decide +kernel
theorem dX6_pull_35 : decode cX6_pull 35 = .ok (.istore 4, 2) := by decide +kernel
theorem dX6_pull_37 : decode cX6_pull 37 = .ok (.iload 4, 2) := by decide +kernel
theorem dX6_pull_39 : decode cX6_pull 39 = .ok (.ifCond .lt 12, 3) := by decide +kernel
theorem dX6_pull_42 : decode cX6_pull 42 = .ok (.aload_n 0, 1) := by decide +kernel
theorem dX6_pull_43 : decode cX6_pull 43 = .ok (.iload 4, 2) := by decide +kernel
theorem dX6_pull_45 : decode cX6_pull 45 = .ok (.invokevirtual 153, 3) := by decide +kernel
theorem dX6_pull_48 : decode cX6_pull 48 = .ok (.ifCond .ne 7, 3) := by decide +kernel
theorem dX6_pull_51 : decode cX6_pull 51 = .ok (.ldc2_w 187, 3) := by decide +kernel
theorem dX6_pull_54 : decode cX6_pull 54 = .ok (.lreturn, 1) := by decide +kernel
theorem dX6_pull_55 : decode cX6_pull 55 = .ok (.aload_n 0, 1) := by decide +kernel
theorem dX6_pull_56 : decode cX6_pull 56 = .ok (.iload_n 2, 1) := by decide +kernel
theorem dX6_pull_57 : decode cX6_pull 57 = .ok (.invokevirtual 195, 3) := by decide +kernel
theorem dX6_pull_60 : decode cX6_pull 60 = .ok (.istore 5, 2) := by decide +kernel
theorem dX6_pull_62 : decode cX6_pull 62 = .ok (.iload 5, 2) := by decide +kernel
theorem dX6_pull_64 : decode cX6_pull 64 = .ok (.ifCond .ge 12, 3) := by decide +kernel
theorem dX6_pull_67 : decode cX6_pull 67 = .ok (.lconst 0, 1) := by decide +kernel
theorem dX6_pull_68 : decode cX6_pull 68 = .ok (.lconst 1, 1) := by decide +kernel
theorem dX6_pull_69 : decode cX6_pull 69 = .ok (.iload_n 3, 1) := by decide +kernel
theorem dX6_pull_70 : decode cX6_pull 70 = .ok (.invokestatic 189, 3) := by decide +kernel
theorem dX6_pull_73 : decode cX6_pull 73 = .ok (.goto 18, 3) := by decide +kernel
theorem dX6_pull_76 : decode cX6_pull 76 = .ok (.aload_n 0, 1) := by decide +kernel
theorem dX6_pull_77 : decode cX6_pull 77 = .ok (.getfield 51, 3) := by decide +kernel
theorem dX6_pull_80 : decode cX6_pull 80 = .ok (.iload 5, 2) := by decide +kernel
theorem dX6_pull_82 : decode cX6_pull 82 = .ok (.laload, 1) := by decide +kernel
theorem dX6_pull_83 : decode cX6_pull 83 = .ok (.aload_n 0, 1) := by decide +kernel
theorem dX6_pull_84 : decode cX6_pull 84 = .ok (.getfield 136, 3) := by decide +kernel
theorem dX6_pull_87 : decode cX6_pull 87 = .ok (.iload_n 3, 1) := by decide +kernel
theorem dX6_pull_88 : decode cX6_pull 88 = .ok (.invokestatic 189, 3) := by decide +kernel
theorem dX6_pull_91 : decode cX6_pull 91 = .ok (.lreturn, 1) := by decide +kernel
theorem dX6_used_0 : decode cX6_used 0 = .ok (.iload_n 1, 1) := by decide +kernel
theorem dX6_used_1 : decode cX6_used 1 = .ok (.invokestatic 176, 3) := by decide +kernel
theorem dX6_used_4 : decode cX6_used 4 = .ok (.ifCond .eq 10, 3) := by decide +kernel
theorem dX6_used_7 : decode cX6_used 7 = .ok (.iload_n 2, 1) := by decide +kernel
theorem dX6_used_8 : decode cX6_used 8 = .ok (.invokestatic 182, 3) := by decide +kernel
theorem dX6_used_11 : decode cX6_used 11 = .ok (.ifCond .ne 6, 3) := by decide +kernel
theorem dX6_used_14 : decode cX6_used 14 = .ok (.bipush (-2), 2) := by decide +kernel
theorem dX6_used_16 : decode cX6_used 16 = .ok (.ireturn, 1) := by decide +kernel
theorem dX6_used_17 : decode cX6_used 17 = .ok (.aload_n 0, 1) := by decide +kernel
theorem dX6_used_18 : decode cX6_used 18 = .ok (.iload_n 1, 1) := by decide +kernel
theorem dX6_used_19 : decode cX6_used 19 = .ok (.invokevirtual 179, 3) := by decide +kernel
theorem dX6_used_22 : decode cX6_used 22 = .ok (.istore_n 3, 1) := by decide +kernel
theorem dX6_used_23 : decode cX6_used 23 = .ok (.iload_n 3, 1) := by decide +kernel
theorem dX6_used_24 : decode cX6_used 24 = .ok (.ifCond .lt 11, 3) := by decide +kernel
theorem dX6_used_27 : decode cX6_used 27 = .ok (.aload_n 0, 1) := by decide +kernel
theorem dX6_used_28 : decode cX6_used 28 = .ok (.iload_n 3, 1) := by decide +kernel
theorem dX6_used_29 : decode cX6_used 29 = .ok (.invokevirtual 153, 3) := by decide +kernel
theorem dX6_used_32 : decode cX6_used 32 = .ok (.ifCond .ne 8, 3) := by decide +kernel
theorem dX6_used_35 : decode cX6_used 35 = .ok (.bipush (-6), 2) := by decide +kernel
theorem dX6_used_37 : decode cX6_used 37 = .ok (.goto 18, 3) := by decide +kernel
theorem dX6_used_40 : decode cX6_used 40 = .ok (.iload_n 2, 1) := by decide +kernel
theorem dX6_used_41 : decode cX6_used 41 = .ok (.ifCond .ne 10, 3) := by decide +kernel
theorem dX6_used_44 : decode cX6_used 44 = .ok (.aload_n 0, 1) := by decide +kernel
theorem dX6_used_45 : decode cX6_used 45 = .ok (.invokevirtual 198, 3) := by decide +kernel
theorem dX6_used_48 : decode cX6_used 48 = .ok (.goto 7, 3) := by decide +kernel
theorem dX6_used_51 : decode cX6_used 51 = .ok (.aload_n 0, 1) := by decide +kernel
theorem dX6_used_52 : decode cX6_used 52 = .ok (.invokevirtual 162, 3) := by decide +kernel
theorem dX6_used_55 : decode cX6_used 55 = .ok (.ireturn, 1) := by decide +kernel
theorem dX6_sized_0 : decode cX6_sized 0 = .ok (.aload_n 0, 1) := by decide +kernel
theorem dX6_sized_1 : decode cX6_sized 1 = .ok (.iload_n 1, 1) := by decide +kernel
theorem dX6_sized_2 : decode cX6_sized 2 = .ok (.invokevirtual 90, 3) := by decide +kernel
theorem dX6_sized_5 : decode cX6_sized 5 = .ok (.ifCond .ne 5, 3) := by decide +kernel
theorem dX6_sized_8 : decode cX6_sized 8 = .ok (.iconst (-1), 1) := by decide +kernel
theorem dX6_sized_9 : decode cX6_sized 9 = .ok (.ireturn, 1) := by decide +kernel
theorem dX6_sized_10 : decode cX6_sized 10 = .ok (.aload_n 0, 1) := by decide +kernel
theorem dX6_sized_11 : decode cX6_sized 11 = .ok (.iconst 2, 1) := by decide +kernel
theorem dX6_sized_12 : decode cX6_sized 12 = .ok (.invokevirtual 179, 3) := by decide +kernel
theorem dX6_sized_15 : decode cX6_sized 15 = .ok (.istore_n 2, 1) := by decide +kernel
theorem dX6_sized_16 : decode cX6_sized 16 = .ok (.iload_n 2, 1) := by decide +kernel
theorem dX6_sized_17 : decode cX6_sized 17 = .ok (.ifCond .lt 11, 3) := by decide +kernel
theorem dX6_sized_20 : decode cX6_sized 20 = .ok (.aload_n 0, 1) := by decide +kernel
theorem dX6_sized_21 : decode cX6_sized 21 = .ok (.iload_n 2, 1) := by decide +kernel
theorem dX6_sized_22 : decode cX6_sized 22 = .ok (.invokevirtual 153, 3) := by decide +kernel
theorem dX6_sized_25 : decode cX6_sized 25 = .ok (.ifCond .ne 6, 3) := by decide +kernel
theorem dX6_sized_28 : decode cX6_sized 28 = .ok (.bipush (-6), 2) := by decide +kernel
theorem dX6_sized_30 : decode cX6_sized 30 = .ok (.ireturn, 1) := by decide +kernel
theorem dX6_sized_31 : decode cX6_sized 31 = .ok (.aload_n 0, 1) := by decide +kernel
theorem dX6_sized_32 : decode cX6_sized 32 = .ok (.iload_n 1, 1) := by decide +kernel
theorem dX6_sized_33 : decode cX6_sized 33 = .ok (.invokevirtual 195, 3) := by decide +kernel
theorem dX6_sized_36 : decode cX6_sized 36 = .ok (.istore_n 3, 1) := by decide +kernel
theorem dX6_sized_37 : decode cX6_sized 37 = .ok (.iload_n 3, 1) := by decide +kernel
theorem dX6_sized_38 : decode cX6_sized 38 = .ok (.ifCond .ge 7, 3) := by decide +kernel
theorem dX6_sized_41 : decode cX6_sized 41 = .ok (.iconst 0, 1) := by decide +kernel
theorem dX6_sized_42 : decode cX6_sized 42 = .ok (.goto 13, 3) := by decide +kernel
theorem dX6_sized_45 : decode cX6_sized 45 = .ok (.aload_n 0, 1) := by decide +kernel
theorem dX6_sized_46 : decode cX6_sized 46 = .ok (.aload_n 0, 1) := by decide +kernel
theorem dX6_sized_47 : decode cX6_sized 47 = .ok (.getfield 51, 3) := by decide +kernel
theorem dX6_sized_50 : decode cX6_sized 50 = .ok (.iload_n 3, 1) := by decide +kernel
theorem dX6_sized_51 : decode cX6_sized 51 = .ok (.laload, 1) := by decide +kernel
theorem dX6_sized_52 : decode cX6_sized 52 = .ok (.invokevirtual 156, 3) := by decide +kernel
theorem dX6_sized_55 : decode cX6_sized 55 = .ok (.ireturn, 1) := by decide +kernel
theorem dX6_numberOf_0 : decode cX6_numberOf 0 = .ok (.lconst 0, 1) := by decide +kernel
theorem dX6_numberOf_1 : decode cX6_numberOf 1 = .ok (.lstore_n 2, 1) := by decide +kernel
theorem dX6_numberOf_2 : decode cX6_numberOf 2 = .ok (.aload_n 0, 1) := by decide +kernel
theorem dX6_numberOf_3 : decode cX6_numberOf 3 = .ok (.getfield 26, 3) := by decide +kernel
theorem dX6_numberOf_6 : decode cX6_numberOf 6 = .ok (.iload_n 1, 1) := by decide +kernel
theorem dX6_numberOf_7 : decode cX6_numberOf 7 = .ok (.iaload, 1) := by decide +kernel
theorem dX6_numberOf_8 : decode cX6_numberOf 8 = .ok (.istore 4, 2) := by decide +kernel
theorem dX6_numberOf_10 : decode cX6_numberOf 10 = .ok (.aload_n 0, 1) := by decide +kernel
theorem dX6_numberOf_11 : decode cX6_numberOf 11 = .ok (.getfield 29, 3) := by decide +kernel
theorem dX6_numberOf_14 : decode cX6_numberOf 14 = .ok (.iload_n 1, 1) := by decide +kernel
theorem dX6_numberOf_15 : decode cX6_numberOf 15 = .ok (.iaload, 1) := by decide +kernel
theorem dX6_numberOf_16 : decode cX6_numberOf 16 = .ok (.istore 5, 2) := by decide +kernel
theorem dX6_numberOf_18 : decode cX6_numberOf 18 = .ok (.aload_n 0, 1) := by decide +kernel
theorem dX6_numberOf_19 : decode cX6_numberOf 19 = .ok (.getfield 35, 3) := by decide +kernel
theorem dX6_numberOf_22 : decode cX6_numberOf 22 = .ok (.iload 4, 2) := by decide +kernel
theorem dX6_numberOf_24 : decode cX6_numberOf 24 = .ok (.iaload, 1) := by decide +kernel
theorem dX6_numberOf_25 : decode cX6_numberOf 25 = .ok (.ifCond .lt 67, 3) := by decide +kernel
theorem dX6_numberOf_28 : decode cX6_numberOf 28 = .ok (.lload_n 2, 1) := by decide +kernel
theorem dX6_numberOf_29 : decode cX6_numberOf 29 = .ok (.aload_n 0, 1) := by decide +kernel
theorem dX6_numberOf_30 : decode cX6_numberOf 30 = .ok (.getfield 7, 3) := by decide +kernel
theorem dX6_numberOf_33 : decode cX6_numberOf 33 = .ok (.iload 4, 2) := by decide +kernel
theorem dX6_numberOf_35 : decode cX6_numberOf 35 = .ok (.iaload, 1) := by decide +kernel
theorem dX6_numberOf_36 : decode cX6_numberOf 36 = .ok (.aload_n 0, 1) := by decide +kernel
theorem dX6_numberOf_37 : decode cX6_numberOf 37 = .ok (.getfield 7, 3) := by decide +kernel
theorem dX6_numberOf_40 : decode cX6_numberOf 40 = .ok (.iload 5, 2) := by decide +kernel
theorem dX6_numberOf_42 : decode cX6_numberOf 42 = .ok (.iaload, 1) := by decide +kernel
theorem dX6_numberOf_43 : decode cX6_numberOf 43 = .ok (.isub, 1) := by decide +kernel
theorem dX6_numberOf_44 : decode cX6_numberOf 44 = .ok (.i2l, 1) := by decide +kernel
theorem dX6_numberOf_45 : decode cX6_numberOf 45 = .ok (.aload_n 0, 1) := by decide +kernel
theorem dX6_numberOf_46 : decode cX6_numberOf 46 = .ok (.getfield 54, 3) := by decide +kernel
theorem dX6_numberOf_49 : decode cX6_numberOf 49 = .ok (.aload_n 0, 1) := by decide +kernel
theorem dX6_numberOf_50 : decode cX6_numberOf 50 = .ok (.getfield 35, 3) := by decide +kernel
theorem dX6_numberOf_53 : decode cX6_numberOf 53 = .ok (.iload 4, 2) := by decide +kernel
theorem dX6_numberOf_55 : decode cX6_numberOf 55 = .ok (.iaload, 1) := by decide +kernel
theorem dX6_numberOf_56 : decode cX6_numberOf 56 = .ok (.laload, 1) := by decide +kernel
theorem dX6_numberOf_57 : decode cX6_numberOf 57 = .ok (.lmul, 1) := by decide +kernel
theorem dX6_numberOf_58 : decode cX6_numberOf 58 = .ok (.aload_n 0, 1) := by decide +kernel
theorem dX6_numberOf_59 : decode cX6_numberOf 59 = .ok (.getfield 13, 3) := by decide +kernel
theorem dX6_numberOf_62 : decode cX6_numberOf 62 = .ok (.iload 4, 2) := by decide +kernel
theorem dX6_numberOf_64 : decode cX6_numberOf 64 = .ok (.iaload, 1) := by decide +kernel
theorem dX6_numberOf_65 : decode cX6_numberOf 65 = .ok (.aload_n 0, 1) := by decide +kernel
theorem dX6_numberOf_66 : decode cX6_numberOf 66 = .ok (.getfield 13, 3) := by decide +kernel
theorem dX6_numberOf_69 : decode cX6_numberOf 69 = .ok (.iload 5, 2) := by decide +kernel
theorem dX6_numberOf_71 : decode cX6_numberOf 71 = .ok (.iaload, 1) := by decide +kernel
theorem dX6_numberOf_72 : decode cX6_numberOf 72 = .ok (.isub, 1) := by decide +kernel
theorem dX6_numberOf_73 : decode cX6_numberOf 73 = .ok (.i2l, 1) := by decide +kernel
theorem dX6_numberOf_74 : decode cX6_numberOf 74 = .ok (.aload_n 0, 1) := by decide +kernel
theorem dX6_numberOf_75 : decode cX6_numberOf 75 = .ok (.getfield 54, 3) := by decide +kernel
theorem dX6_numberOf_78 : decode cX6_numberOf 78 = .ok (.aload_n 0, 1) := by decide +kernel
theorem dX6_numberOf_79 : decode cX6_numberOf 79 = .ok (.getfield 35, 3) := by decide +kernel
theorem dX6_numberOf_82 : decode cX6_numberOf 82 = .ok (.iload 4, 2) := by decide +kernel
theorem dX6_numberOf_84 : decode cX6_numberOf 84 = .ok (.iaload, 1) := by decide +kernel
theorem dX6_numberOf_85 : decode cX6_numberOf 85 = .ok (.iconst 1, 1) := by decide +kernel
theorem dX6_numberOf_86 : decode cX6_numberOf 86 = .ok (.iadd, 1) := by decide +kernel
theorem dX6_numberOf_87 : decode cX6_numberOf 87 = .ok (.laload, 1) := by decide +kernel
theorem dX6_numberOf_88 : decode cX6_numberOf 88 = .ok (.lmul, 1) := by decide +kernel
theorem dX6_numberOf_89 : decode cX6_numberOf 89 = .ok (.ladd, 1) := by decide +kernel
theorem dX6_numberOf_90 : decode cX6_numberOf 90 = .ok (.ladd, 1) := by decide +kernel
theorem dX6_numberOf_91 : decode cX6_numberOf 91 = .ok (.lstore_n 2, 1) := by decide +kernel
theorem dX6_numberOf_92 : decode cX6_numberOf 92 = .ok (.aload_n 0, 1) := by decide +kernel
theorem dX6_numberOf_93 : decode cX6_numberOf 93 = .ok (.getfield 35, 3) := by decide +kernel
theorem dX6_numberOf_96 : decode cX6_numberOf 96 = .ok (.iload 5, 2) := by decide +kernel
theorem dX6_numberOf_98 : decode cX6_numberOf 98 = .ok (.iaload, 1) := by decide +kernel
theorem dX6_numberOf_99 : decode cX6_numberOf 99 = .ok (.ifCond .lt 67, 3) := by decide +kernel
theorem dX6_numberOf_102 : decode cX6_numberOf 102 = .ok (.lload_n 2, 1) := by decide +kernel
theorem dX6_numberOf_103 : decode cX6_numberOf 103 = .ok (.aload_n 0, 1) := by decide +kernel
theorem dX6_numberOf_104 : decode cX6_numberOf 104 = .ok (.getfield 7, 3) := by decide +kernel
theorem dX6_numberOf_107 : decode cX6_numberOf 107 = .ok (.iload 5, 2) := by decide +kernel
theorem dX6_numberOf_109 : decode cX6_numberOf 109 = .ok (.iaload, 1) := by decide +kernel
theorem dX6_numberOf_110 : decode cX6_numberOf 110 = .ok (.aload_n 0, 1) := by decide +kernel
theorem dX6_numberOf_111 : decode cX6_numberOf 111 = .ok (.getfield 7, 3) := by decide +kernel
theorem dX6_numberOf_114 : decode cX6_numberOf 114 = .ok (.iload 4, 2) := by decide +kernel
theorem dX6_numberOf_116 : decode cX6_numberOf 116 = .ok (.iaload, 1) := by decide +kernel
theorem dX6_numberOf_117 : decode cX6_numberOf 117 = .ok (.isub, 1) := by decide +kernel
theorem dX6_numberOf_118 : decode cX6_numberOf 118 = .ok (.i2l, 1) := by decide +kernel
theorem dX6_numberOf_119 : decode cX6_numberOf 119 = .ok (.aload_n 0, 1) := by decide +kernel
theorem dX6_numberOf_120 : decode cX6_numberOf 120 = .ok (.getfield 54, 3) := by decide +kernel
theorem dX6_numberOf_123 : decode cX6_numberOf 123 = .ok (.aload_n 0, 1) := by decide +kernel
theorem dX6_numberOf_124 : decode cX6_numberOf 124 = .ok (.getfield 35, 3) := by decide +kernel
theorem dX6_numberOf_127 : decode cX6_numberOf 127 = .ok (.iload 5, 2) := by decide +kernel
theorem dX6_numberOf_129 : decode cX6_numberOf 129 = .ok (.iaload, 1) := by decide +kernel
theorem dX6_numberOf_130 : decode cX6_numberOf 130 = .ok (.laload, 1) := by decide +kernel
theorem dX6_numberOf_131 : decode cX6_numberOf 131 = .ok (.lmul, 1) := by decide +kernel
theorem dX6_numberOf_132 : decode cX6_numberOf 132 = .ok (.aload_n 0, 1) := by decide +kernel
theorem dX6_numberOf_133 : decode cX6_numberOf 133 = .ok (.getfield 13, 3) := by decide +kernel
theorem dX6_numberOf_136 : decode cX6_numberOf 136 = .ok (.iload 5, 2) := by decide +kernel
theorem dX6_numberOf_138 : decode cX6_numberOf 138 = .ok (.iaload, 1) := by decide +kernel
theorem dX6_numberOf_139 : decode cX6_numberOf 139 = .ok (.aload_n 0, 1) := by decide +kernel
theorem dX6_numberOf_140 : decode cX6_numberOf 140 = .ok (.getfield 13, 3) := by decide +kernel
theorem dX6_numberOf_143 : decode cX6_numberOf 143 = .ok (.iload 4, 2) := by decide +kernel
theorem dX6_numberOf_145 : decode cX6_numberOf 145 = .ok (.iaload, 1) := by decide +kernel
theorem dX6_numberOf_146 : decode cX6_numberOf 146 = .ok (.isub, 1) := by decide +kernel
theorem dX6_numberOf_147 : decode cX6_numberOf 147 = .ok (.i2l, 1) := by decide +kernel
theorem dX6_numberOf_148 : decode cX6_numberOf 148 = .ok (.aload_n 0, 1) := by decide +kernel
theorem dX6_numberOf_149 : decode cX6_numberOf 149 = .ok (.getfield 54, 3) := by decide +kernel
theorem dX6_numberOf_152 : decode cX6_numberOf 152 = .ok (.aload_n 0, 1) := by decide +kernel
theorem dX6_numberOf_153 : decode cX6_numberOf 153 = .ok (.getfield 35, 3) := by decide +kernel
theorem dX6_numberOf_156 : decode cX6_numberOf 156 = .ok (.iload 5, 2) := by decide +kernel
theorem dX6_numberOf_158 : decode cX6_numberOf 158 = .ok (.iaload, 1) := by decide +kernel
theorem dX6_numberOf_159 : decode cX6_numberOf 159 = .ok (.iconst 1, 1) := by decide +kernel
theorem dX6_numberOf_160 : decode cX6_numberOf 160 = .ok (.iadd, 1) := by decide +kernel
theorem dX6_numberOf_161 : decode cX6_numberOf 161 = .ok (.laload, 1) := by decide +kernel
theorem dX6_numberOf_162 : decode cX6_numberOf 162 = .ok (.lmul, 1) := by decide +kernel
theorem dX6_numberOf_163 : decode cX6_numberOf 163 = .ok (.ladd, 1) := by decide +kernel
theorem dX6_numberOf_164 : decode cX6_numberOf 164 = .ok (.ladd, 1) := by decide +kernel
theorem dX6_numberOf_165 : decode cX6_numberOf 165 = .ok (.lstore_n 2, 1) := by decide +kernel
theorem dX6_numberOf_166 : decode cX6_numberOf 166 = .ok (.lload_n 2, 1) := by decide +kernel
theorem dX6_numberOf_167 : decode cX6_numberOf 167 = .ok (.lreturn, 1) := by decide +kernel
theorem dX6_isGood_0 : decode cX6_isGood 0 = .ok (.aload_n 0, 1) := by decide +kernel
theorem dX6_isGood_1 : decode cX6_isGood 1 = .ok (.iload_n 1, 1) := by decide +kernel
theorem dX6_isGood_2 : decode cX6_isGood 2 = .ok (.invokevirtual 153, 3) := by decide +kernel
theorem dX6_isGood_5 : decode cX6_isGood 5 = .ok (.istore_n 3, 1) := by decide +kernel
theorem dX6_isGood_6 : decode cX6_isGood 6 = .ok (.iconst 0, 1) := by decide +kernel
theorem dX6_isGood_7 : decode cX6_isGood 7 = .ok (.istore 4, 2) := by decide +kernel
theorem dX6_isGood_9 : decode cX6_isGood 9 = .ok (.iconst 0, 1) := by decide +kernel
theorem dX6_isGood_10 : decode cX6_isGood 10 = .ok (.istore 5, 2) := by decide +kernel
theorem dX6_isGood_12 : decode cX6_isGood 12 = .ok (.iload 5, 2) := by decide +kernel
theorem dX6_isGood_14 : decode cX6_isGood 14 = .ok (.aload_n 0, 1) := by decide +kernel
theorem dX6_isGood_15 : decode cX6_isGood 15 = .ok (.getfield 119, 3) := by decide +kernel
theorem dX6_isGood_18 : decode cX6_isGood 18 = .ok (.if_icmp .ge 114, 3) := by decide +kernel
theorem dX6_isGood_21 : decode cX6_isGood 21 = .ok (.aload_n 0, 1) := by decide +kernel
theorem dX6_isGood_22 : decode cX6_isGood 22 = .ok (.aload_n 0, 1) := by decide +kernel
theorem dX6_isGood_23 : decode cX6_isGood 23 = .ok (.getfield 48, 3) := by decide +kernel
theorem dX6_isGood_26 : decode cX6_isGood 26 = .ok (.iload 5, 2) := by decide +kernel
theorem dX6_isGood_28 : decode cX6_isGood 28 = .ok (.iaload, 1) := by decide +kernel
theorem dX6_isGood_29 : decode cX6_isGood 29 = .ok (.invokevirtual 93, 3) := by decide +kernel
theorem dX6_isGood_32 : decode cX6_isGood 32 = .ok (.i2l, 1) := by decide +kernel
theorem dX6_isGood_33 : decode cX6_isGood 33 = .ok (.lstore 6, 2) := by decide +kernel
theorem dX6_isGood_35 : decode cX6_isGood 35 = .ok (.aload_n 0, 1) := by decide +kernel
theorem dX6_isGood_36 : decode cX6_isGood 36 = .ok (.getfield 51, 3) := by decide +kernel
theorem dX6_isGood_39 : decode cX6_isGood 39 = .ok (.iload 5, 2) := by decide +kernel
theorem dX6_isGood_41 : decode cX6_isGood 41 = .ok (.laload, 1) := by decide +kernel
theorem dX6_isGood_42 : decode cX6_isGood 42 = .ok (.lconst 0, 1) := by decide +kernel
theorem dX6_isGood_43 : decode cX6_isGood 43 = .ok (.lcmp, 1) := by decide +kernel
theorem dX6_isGood_44 : decode cX6_isGood 44 = .ok (.ifCond .ne 21, 3) := by decide +kernel
theorem dX6_isGood_47 : decode cX6_isGood 47 = .ok (.iload_n 2, 1) := by decide +kernel
theorem dX6_isGood_48 : decode cX6_isGood 48 = .ok (.iload 4, 2) := by decide +kernel
theorem dX6_isGood_50 : decode cX6_isGood 50 = .ok (.ishr, 1) := by decide +kernel
theorem dX6_isGood_51 : decode cX6_isGood 51 = .ok (.iconst 1, 1) := by decide +kernel
theorem dX6_isGood_52 : decode cX6_isGood 52 = .ok (.iand, 1) := by decide +kernel
theorem dX6_isGood_53 : decode cX6_isGood 53 = .ok (.iconst 1, 1) := by decide +kernel
theorem dX6_isGood_54 : decode cX6_isGood 54 = .ok (.if_icmp .ne 7, 3) := by decide +kernel
theorem dX6_isGood_57 : decode cX6_isGood 57 = .ok (.iconst 1, 1) := by decide +kernel
theorem dX6_isGood_58 : decode cX6_isGood 58 = .ok (.goto 24, 3) := by decide +kernel
theorem dX6_isGood_61 : decode cX6_isGood 61 = .ok (.iconst 0, 1) := by decide +kernel
theorem dX6_isGood_62 : decode cX6_isGood 62 = .ok (.goto 20, 3) := by decide +kernel
theorem dX6_isGood_65 : decode cX6_isGood 65 = .ok (.aload_n 0, 1) := by decide +kernel
theorem dX6_isGood_66 : decode cX6_isGood 66 = .ok (.getfield 51, 3) := by decide +kernel
theorem dX6_isGood_69 : decode cX6_isGood 69 = .ok (.iload 5, 2) := by decide +kernel
theorem dX6_isGood_71 : decode cX6_isGood 71 = .ok (.laload, 1) := by decide +kernel
theorem dX6_isGood_72 : decode cX6_isGood 72 = .ok (.lconst 0, 1) := by decide +kernel
theorem dX6_isGood_73 : decode cX6_isGood 73 = .ok (.lcmp, 1) := by decide +kernel
theorem dX6_isGood_74 : decode cX6_isGood 74 = .ok (.ifCond .ge 7, 3) := by decide +kernel
theorem dX6_isGood_77 : decode cX6_isGood 77 = .ok (.iconst 1, 1) := by decide +kernel
theorem dX6_isGood_78 : decode cX6_isGood 78 = .ok (.goto 4, 3) := by decide +kernel
theorem dX6_isGood_81 : decode cX6_isGood 81 = .ok (.iconst 0, 1) := by decide +kernel
theorem dX6_isGood_82 : decode cX6_isGood 82 = .ok (.istore 8, 2) := by decide +kernel
theorem dX6_isGood_84 : decode cX6_isGood 84 = .ok (.iload 4, 2) := by decide +kernel
theorem dX6_isGood_86 : decode cX6_isGood 86 = .ok (.aload_n 0, 1) := by decide +kernel
theorem dX6_isGood_87 : decode cX6_isGood 87 = .ok (.getfield 51, 3) := by decide +kernel
theorem dX6_isGood_90 : decode cX6_isGood 90 = .ok (.iload 5, 2) := by decide +kernel
theorem dX6_isGood_92 : decode cX6_isGood 92 = .ok (.laload, 1) := by decide +kernel
theorem dX6_isGood_93 : decode cX6_isGood 93 = .ok (.lconst 0, 1) := by decide +kernel
theorem dX6_isGood_94 : decode cX6_isGood 94 = .ok (.lcmp, 1) := by decide +kernel
theorem dX6_isGood_95 : decode cX6_isGood 95 = .ok (.ifCond .ne 7, 3) := by decide +kernel
theorem dX6_isGood_98 : decode cX6_isGood 98 = .ok (.iconst 1, 1) := by decide +kernel
theorem dX6_isGood_99 : decode cX6_isGood 99 = .ok (.goto 4, 3) := by decide +kernel
theorem dX6_isGood_102 : decode cX6_isGood 102 = .ok (.iconst 0, 1) := by decide +kernel
theorem dX6_isGood_103 : decode cX6_isGood 103 = .ok (.iadd, 1) := by decide +kernel
theorem dX6_isGood_104 : decode cX6_isGood 104 = .ok (.istore 4, 2) := by decide +kernel
theorem dX6_isGood_106 : decode cX6_isGood 106 = .ok (.aload_n 0, 1) := by decide +kernel
theorem dX6_isGood_107 : decode cX6_isGood 107 = .ok (.getfield 45, 3) := by decide +kernel
theorem dX6_isGood_110 : decode cX6_isGood 110 = .ok (.iload 5, 2) := by decide +kernel
theorem dX6_isGood_112 : decode cX6_isGood 112 = .ok (.iload 8, 2) := by decide +kernel
theorem dX6_isGood_114 : decode cX6_isGood 114 = .ok (.ifCond .eq 9, 3) := by decide +kernel
theorem dX6_isGood_117 : decode cX6_isGood 117 = .ok (.lload 6, 2) := by decide +kernel
theorem dX6_isGood_119 : decode cX6_isGood 119 = .ok (.lneg, 1) := by decide +kernel
theorem dX6_isGood_120 : decode cX6_isGood 120 = .ok (.goto 5, 3) := by decide +kernel
theorem dX6_isGood_123 : decode cX6_isGood 123 = .ok (.lload 6, 2) := by decide +kernel
theorem dX6_isGood_125 : decode cX6_isGood 125 = .ok (.lastore, 1) := by decide +kernel
theorem dX6_isGood_126 : decode cX6_isGood 126 = .ok (.iinc 5 1, 3) := by decide +kernel
theorem dX6_isGood_129 : decode cX6_isGood 129 = .ok (.goto (-117), 3) := by decide +kernel
theorem dX6_isGood_132 : decode cX6_isGood 132 = .ok (.iconst 0, 1) := by decide +kernel
theorem dX6_isGood_133 : decode cX6_isGood 133 = .ok (.istore 5, 2) := by decide +kernel
theorem dX6_isGood_135 : decode cX6_isGood 135 = .ok (.iload 5, 2) := by decide +kernel
theorem dX6_isGood_137 : decode cX6_isGood 137 = .ok (.bipush 36, 2) := by decide +kernel
theorem dX6_isGood_139 : decode cX6_isGood 139 = .ok (.if_icmp .ge 17, 3) := by decide +kernel
theorem dX6_isGood_142 : decode cX6_isGood 142 = .ok (.aload_n 0, 1) := by decide +kernel
theorem dX6_isGood_143 : decode cX6_isGood 143 = .ok (.getfield 38, 3) := by decide +kernel
theorem dX6_isGood_146 : decode cX6_isGood 146 = .ok (.iload 5, 2) := by decide +kernel
theorem dX6_isGood_148 : decode cX6_isGood 148 = .ok (.lconst 0, 1) := by decide +kernel
theorem dX6_isGood_149 : decode cX6_isGood 149 = .ok (.lastore, 1) := by decide +kernel
theorem dX6_isGood_150 : decode cX6_isGood 150 = .ok (.iinc 5 1, 3) := by decide +kernel
theorem dX6_isGood_153 : decode cX6_isGood 153 = .ok (.goto (-18), 3) := by decide +kernel
theorem dX6_isGood_156 : decode cX6_isGood 156 = .ok (.iconst 0, 1) := by decide +kernel
theorem dX6_isGood_157 : decode cX6_isGood 157 = .ok (.istore 5, 2) := by decide +kernel
theorem dX6_isGood_159 : decode cX6_isGood 159 = .ok (.iload 5, 2) := by decide +kernel
theorem dX6_isGood_161 : decode cX6_isGood 161 = .ok (.aload_n 0, 1) := by decide +kernel
theorem dX6_isGood_162 : decode cX6_isGood 162 = .ok (.getfield 119, 3) := by decide +kernel
theorem dX6_isGood_165 : decode cX6_isGood 165 = .ok (.if_icmp .ge 177, 3) := by decide +kernel
theorem dX6_isGood_168 : decode cX6_isGood 168 = .ok (.aload_n 0, 1) := by decide +kernel
theorem dX6_isGood_169 : decode cX6_isGood 169 = .ok (.getfield 26, 3) := by decide +kernel
theorem dX6_isGood_172 : decode cX6_isGood 172 = .ok (.aload_n 0, 1) := by decide +kernel
theorem dX6_isGood_173 : decode cX6_isGood 173 = .ok (.getfield 48, 3) := by decide +kernel
theorem dX6_isGood_176 : decode cX6_isGood 176 = .ok (.iload 5, 2) := by decide +kernel
theorem dX6_isGood_178 : decode cX6_isGood 178 = .ok (.iaload, 1) := by decide +kernel
theorem dX6_isGood_179 : decode cX6_isGood 179 = .ok (.iaload, 1) := by decide +kernel
theorem dX6_isGood_180 : decode cX6_isGood 180 = .ok (.istore 6, 2) := by decide +kernel
theorem dX6_isGood_182 : decode cX6_isGood 182 = .ok (.aload_n 0, 1) := by decide +kernel
theorem dX6_isGood_183 : decode cX6_isGood 183 = .ok (.getfield 29, 3) := by decide +kernel
theorem dX6_isGood_186 : decode cX6_isGood 186 = .ok (.aload_n 0, 1) := by decide +kernel
theorem dX6_isGood_187 : decode cX6_isGood 187 = .ok (.getfield 48, 3) := by decide +kernel
theorem dX6_isGood_190 : decode cX6_isGood 190 = .ok (.iload 5, 2) := by decide +kernel
theorem dX6_isGood_192 : decode cX6_isGood 192 = .ok (.iaload, 1) := by decide +kernel
theorem dX6_isGood_193 : decode cX6_isGood 193 = .ok (.iaload, 1) := by decide +kernel
theorem dX6_isGood_194 : decode cX6_isGood 194 = .ok (.istore 7, 2) := by decide +kernel
theorem dX6_isGood_196 : decode cX6_isGood 196 = .ok (.aload_n 0, 1) := by decide +kernel
theorem dX6_isGood_197 : decode cX6_isGood 197 = .ok (.getfield 35, 3) := by decide +kernel
theorem dX6_isGood_200 : decode cX6_isGood 200 = .ok (.iload 6, 2) := by decide +kernel
theorem dX6_isGood_202 : decode cX6_isGood 202 = .ok (.iaload, 1) := by decide +kernel
theorem dX6_isGood_203 : decode cX6_isGood 203 = .ok (.ifCond .lt 63, 3) := by decide +kernel
theorem dX6_isGood_206 : decode cX6_isGood 206 = .ok (.aload_n 0, 1) := by decide +kernel
theorem dX6_isGood_207 : decode cX6_isGood 207 = .ok (.iload 5, 2) := by decide +kernel
theorem dX6_isGood_209 : decode cX6_isGood 209 = .ok (.aload_n 0, 1) := by decide +kernel
theorem dX6_isGood_210 : decode cX6_isGood 210 = .ok (.getfield 35, 3) := by decide +kernel
theorem dX6_isGood_213 : decode cX6_isGood 213 = .ok (.iload 6, 2) := by decide +kernel
theorem dX6_isGood_215 : decode cX6_isGood 215 = .ok (.iaload, 1) := by decide +kernel
theorem dX6_isGood_216 : decode cX6_isGood 216 = .ok (.aload_n 0, 1) := by decide +kernel
theorem dX6_isGood_217 : decode cX6_isGood 217 = .ok (.getfield 7, 3) := by decide +kernel
theorem dX6_isGood_220 : decode cX6_isGood 220 = .ok (.iload 6, 2) := by decide +kernel
theorem dX6_isGood_222 : decode cX6_isGood 222 = .ok (.iaload, 1) := by decide +kernel
theorem dX6_isGood_223 : decode cX6_isGood 223 = .ok (.aload_n 0, 1) := by decide +kernel
theorem dX6_isGood_224 : decode cX6_isGood 224 = .ok (.getfield 7, 3) := by decide +kernel
theorem dX6_isGood_227 : decode cX6_isGood 227 = .ok (.iload 7, 2) := by decide +kernel
theorem dX6_isGood_229 : decode cX6_isGood 229 = .ok (.iaload, 1) := by decide +kernel
theorem dX6_isGood_230 : decode cX6_isGood 230 = .ok (.isub, 1) := by decide +kernel
theorem dX6_isGood_231 : decode cX6_isGood 231 = .ok (.i2l, 1) := by decide +kernel
theorem dX6_isGood_232 : decode cX6_isGood 232 = .ok (.invokevirtual 122, 3) := by decide +kernel
theorem dX6_isGood_235 : decode cX6_isGood 235 = .ok (.aload_n 0, 1) := by decide +kernel
theorem dX6_isGood_236 : decode cX6_isGood 236 = .ok (.iload 5, 2) := by decide +kernel
theorem dX6_isGood_238 : decode cX6_isGood 238 = .ok (.aload_n 0, 1) := by decide +kernel
theorem dX6_isGood_239 : decode cX6_isGood 239 = .ok (.getfield 35, 3) := by decide +kernel
theorem dX6_isGood_242 : decode cX6_isGood 242 = .ok (.iload 6, 2) := by decide +kernel
theorem dX6_isGood_244 : decode cX6_isGood 244 = .ok (.iaload, 1) := by decide +kernel
theorem dX6_isGood_245 : decode cX6_isGood 245 = .ok (.iconst 1, 1) := by decide +kernel
theorem dX6_isGood_246 : decode cX6_isGood 246 = .ok (.iadd, 1) := by decide +kernel
theorem dX6_isGood_247 : decode cX6_isGood 247 = .ok (.aload_n 0, 1) := by decide +kernel
theorem dX6_isGood_248 : decode cX6_isGood 248 = .ok (.getfield 13, 3) := by decide +kernel
theorem dX6_isGood_251 : decode cX6_isGood 251 = .ok (.iload 6, 2) := by decide +kernel
theorem dX6_isGood_253 : decode cX6_isGood 253 = .ok (.iaload, 1) := by decide +kernel
theorem dX6_isGood_254 : decode cX6_isGood 254 = .ok (.aload_n 0, 1) := by decide +kernel
theorem dX6_isGood_255 : decode cX6_isGood 255 = .ok (.getfield 13, 3) := by decide +kernel
theorem dX6_isGood_258 : decode cX6_isGood 258 = .ok (.iload 7, 2) := by decide +kernel
theorem dX6_isGood_260 : decode cX6_isGood 260 = .ok (.iaload, 1) := by decide +kernel
theorem dX6_isGood_261 : decode cX6_isGood 261 = .ok (.isub, 1) := by decide +kernel
theorem dX6_isGood_262 : decode cX6_isGood 262 = .ok (.i2l, 1) := by decide +kernel
theorem dX6_isGood_263 : decode cX6_isGood 263 = .ok (.invokevirtual 122, 3) := by decide +kernel
theorem dX6_isGood_266 : decode cX6_isGood 266 = .ok (.aload_n 0, 1) := by decide +kernel
theorem dX6_isGood_267 : decode cX6_isGood 267 = .ok (.getfield 35, 3) := by decide +kernel
theorem dX6_isGood_270 : decode cX6_isGood 270 = .ok (.iload 7, 2) := by decide +kernel
theorem dX6_isGood_272 : decode cX6_isGood 272 = .ok (.iaload, 1) := by decide +kernel
theorem dX6_isGood_273 : decode cX6_isGood 273 = .ok (.ifCond .lt 63, 3) := by decide +kernel
theorem dX6_isGood_276 : decode cX6_isGood 276 = .ok (.aload_n 0, 1) := by decide +kernel
theorem dX6_isGood_277 : decode cX6_isGood 277 = .ok (.iload 5, 2) := by decide +kernel
theorem dX6_isGood_279 : decode cX6_isGood 279 = .ok (.aload_n 0, 1) := by decide +kernel
theorem dX6_isGood_280 : decode cX6_isGood 280 = .ok (.getfield 35, 3) := by decide +kernel
theorem dX6_isGood_283 : decode cX6_isGood 283 = .ok (.iload 7, 2) := by decide +kernel
theorem dX6_isGood_285 : decode cX6_isGood 285 = .ok (.iaload, 1) := by decide +kernel
theorem dX6_isGood_286 : decode cX6_isGood 286 = .ok (.aload_n 0, 1) := by decide +kernel
theorem dX6_isGood_287 : decode cX6_isGood 287 = .ok (.getfield 7, 3) := by decide +kernel
theorem dX6_isGood_290 : decode cX6_isGood 290 = .ok (.iload 7, 2) := by decide +kernel
theorem dX6_isGood_292 : decode cX6_isGood 292 = .ok (.iaload, 1) := by decide +kernel
theorem dX6_isGood_293 : decode cX6_isGood 293 = .ok (.aload_n 0, 1) := by decide +kernel
theorem dX6_isGood_294 : decode cX6_isGood 294 = .ok (.getfield 7, 3) := by decide +kernel
theorem dX6_isGood_297 : decode cX6_isGood 297 = .ok (.iload 6, 2) := by decide +kernel
theorem dX6_isGood_299 : decode cX6_isGood 299 = .ok (.iaload, 1) := by decide +kernel
theorem dX6_isGood_300 : decode cX6_isGood 300 = .ok (.isub, 1) := by decide +kernel
theorem dX6_isGood_301 : decode cX6_isGood 301 = .ok (.i2l, 1) := by decide +kernel
theorem dX6_isGood_302 : decode cX6_isGood 302 = .ok (.invokevirtual 122, 3) := by decide +kernel
theorem dX6_isGood_305 : decode cX6_isGood 305 = .ok (.aload_n 0, 1) := by decide +kernel
theorem dX6_isGood_306 : decode cX6_isGood 306 = .ok (.iload 5, 2) := by decide +kernel
theorem dX6_isGood_308 : decode cX6_isGood 308 = .ok (.aload_n 0, 1) := by decide +kernel
theorem dX6_isGood_309 : decode cX6_isGood 309 = .ok (.getfield 35, 3) := by decide +kernel
theorem dX6_isGood_312 : decode cX6_isGood 312 = .ok (.iload 7, 2) := by decide +kernel
theorem dX6_isGood_314 : decode cX6_isGood 314 = .ok (.iaload, 1) := by decide +kernel
theorem dX6_isGood_315 : decode cX6_isGood 315 = .ok (.iconst 1, 1) := by decide +kernel
theorem dX6_isGood_316 : decode cX6_isGood 316 = .ok (.iadd, 1) := by decide +kernel
theorem dX6_isGood_317 : decode cX6_isGood 317 = .ok (.aload_n 0, 1) := by decide +kernel
theorem dX6_isGood_318 : decode cX6_isGood 318 = .ok (.getfield 13, 3) := by decide +kernel
theorem dX6_isGood_321 : decode cX6_isGood 321 = .ok (.iload 7, 2) := by decide +kernel
theorem dX6_isGood_323 : decode cX6_isGood 323 = .ok (.iaload, 1) := by decide +kernel
theorem dX6_isGood_324 : decode cX6_isGood 324 = .ok (.aload_n 0, 1) := by decide +kernel
theorem dX6_isGood_325 : decode cX6_isGood 325 = .ok (.getfield 13, 3) := by decide +kernel
theorem dX6_isGood_328 : decode cX6_isGood 328 = .ok (.iload 6, 2) := by decide +kernel
theorem dX6_isGood_330 : decode cX6_isGood 330 = .ok (.iaload, 1) := by decide +kernel
theorem dX6_isGood_331 : decode cX6_isGood 331 = .ok (.isub, 1) := by decide +kernel
theorem dX6_isGood_332 : decode cX6_isGood 332 = .ok (.i2l, 1) := by decide +kernel
theorem dX6_isGood_333 : decode cX6_isGood 333 = .ok (.invokevirtual 122, 3) := by decide +kernel
theorem dX6_isGood_336 : decode cX6_isGood 336 = .ok (.iinc 5 1, 3) := by decide +kernel
theorem dX6_isGood_339 : decode cX6_isGood 339 = .ok (.goto (-180), 3) := by decide +kernel
theorem dX6_isGood_342 : decode cX6_isGood 342 = .ok (.aload_n 0, 1) := by decide +kernel
theorem dX6_isGood_343 : decode cX6_isGood 343 = .ok (.iconst (-1), 1) := by decide +kernel
theorem dX6_isGood_344 : decode cX6_isGood 344 = .ok (.invokevirtual 132, 3) := by decide +kernel
theorem dX6_isGood_347 : decode cX6_isGood 347 = .ok (.lstore 5, 2) := by decide +kernel
theorem dX6_isGood_349 : decode cX6_isGood 349 = .ok (.iconst 0, 1) := by decide +kernel
theorem dX6_isGood_350 : decode cX6_isGood 350 = .ok (.istore 7, 2) := by decide +kernel
theorem dX6_isGood_352 : decode cX6_isGood 352 = .ok (.iload 7, 2) := by decide +kernel
theorem dX6_isGood_354 : decode cX6_isGood 354 = .ok (.aload_n 0, 1) := by decide +kernel
theorem dX6_isGood_355 : decode cX6_isGood 355 = .ok (.getfield 119, 3) := by decide +kernel
theorem dX6_isGood_358 : decode cX6_isGood 358 = .ok (.if_icmp .ge 39, 3) := by decide +kernel
theorem dX6_isGood_361 : decode cX6_isGood 361 = .ok (.aload_n 0, 1) := by decide +kernel
theorem dX6_isGood_362 : decode cX6_isGood 362 = .ok (.iload 7, 2) := by decide +kernel
theorem dX6_isGood_364 : decode cX6_isGood 364 = .ok (.invokevirtual 132, 3) := by decide +kernel
theorem dX6_isGood_367 : decode cX6_isGood 367 = .ok (.lstore 8, 2) := by decide +kernel
theorem dX6_isGood_369 : decode cX6_isGood 369 = .ok (.aload_n 0, 1) := by decide +kernel
theorem dX6_isGood_370 : decode cX6_isGood 370 = .ok (.getfield 54, 3) := by decide +kernel
theorem dX6_isGood_373 : decode cX6_isGood 373 = .ok (.iload 7, 2) := by decide +kernel
theorem dX6_isGood_375 : decode cX6_isGood 375 = .ok (.lload 5, 2) := by decide +kernel
theorem dX6_isGood_377 : decode cX6_isGood 377 = .ok (.lconst 0, 1) := by decide +kernel
theorem dX6_isGood_378 : decode cX6_isGood 378 = .ok (.lcmp, 1) := by decide +kernel
theorem dX6_isGood_379 : decode cX6_isGood 379 = .ok (.ifCond .ge 9, 3) := by decide +kernel
theorem dX6_isGood_382 : decode cX6_isGood 382 = .ok (.lload 8, 2) := by decide +kernel
theorem dX6_isGood_384 : decode cX6_isGood 384 = .ok (.lneg, 1) := by decide +kernel
theorem dX6_isGood_385 : decode cX6_isGood 385 = .ok (.goto 5, 3) := by decide +kernel
theorem dX6_isGood_388 : decode cX6_isGood 388 = .ok (.lload 8, 2) := by decide +kernel
theorem dX6_isGood_390 : decode cX6_isGood 390 = .ok (.lastore, 1) := by decide +kernel
theorem dX6_isGood_391 : decode cX6_isGood 391 = .ok (.iinc 7 1, 3) := by decide +kernel
theorem dX6_isGood_394 : decode cX6_isGood 394 = .ok (.goto (-42), 3) := by decide +kernel
theorem dX6_isGood_397 : decode cX6_isGood 397 = .ok (.aload_n 0, 1) := by decide +kernel
theorem dX6_isGood_398 : decode cX6_isGood 398 = .ok (.lload 5, 2) := by decide +kernel
theorem dX6_isGood_400 : decode cX6_isGood 400 = .ok (.invokestatic 140, 3) := by decide +kernel
theorem dX6_isGood_403 : decode cX6_isGood 403 = .ok (.putfield 201, 3) := by decide +kernel
theorem dX6_isGood_406 : decode cX6_isGood 406 = .ok (.iconst 0, 1) := by decide +kernel
theorem dX6_isGood_407 : decode cX6_isGood 407 = .ok (.istore 7, 2) := by decide +kernel
theorem dX6_isGood_409 : decode cX6_isGood 409 = .ok (.iload 7, 2) := by decide +kernel
theorem dX6_isGood_411 : decode cX6_isGood 411 = .ok (.aload_n 0, 1) := by decide +kernel
theorem dX6_isGood_412 : decode cX6_isGood 412 = .ok (.getfield 65, 3) := by decide +kernel
theorem dX6_isGood_415 : decode cX6_isGood 415 = .ok (.if_icmp .ge 44, 3) := by decide +kernel
theorem dX6_isGood_418 : decode cX6_isGood 418 = .ok (.iload_n 3, 1) := by decide +kernel
theorem dX6_isGood_419 : decode cX6_isGood 419 = .ok (.ifCond .eq 40, 3) := by decide +kernel
theorem dX6_isGood_422 : decode cX6_isGood 422 = .ok (.aload_n 0, 1) := by decide +kernel
theorem dX6_isGood_423 : decode cX6_isGood 423 = .ok (.iload 7, 2) := by decide +kernel
theorem dX6_isGood_425 : decode cX6_isGood 425 = .ok (.invokevirtual 204, 3) := by decide +kernel
theorem dX6_isGood_428 : decode cX6_isGood 428 = .ok (.invokestatic 140, 3) := by decide +kernel
theorem dX6_isGood_431 : decode cX6_isGood 431 = .ok (.aload_n 0, 1) := by decide +kernel
theorem dX6_isGood_432 : decode cX6_isGood 432 = .ok (.iload 7, 2) := by decide +kernel
theorem dX6_isGood_434 : decode cX6_isGood 434 = .ok (.invokevirtual 93, 3) := by decide +kernel
theorem dX6_isGood_437 : decode cX6_isGood 437 = .ok (.i2l, 1) := by decide +kernel
theorem dX6_isGood_438 : decode cX6_isGood 438 = .ok (.aload_n 0, 1) := by decide +kernel
theorem dX6_isGood_439 : decode cX6_isGood 439 = .ok (.getfield 201, 3) := by decide +kernel
theorem dX6_isGood_442 : decode cX6_isGood 442 = .ok (.lmul, 1) := by decide +kernel
theorem dX6_isGood_443 : decode cX6_isGood 443 = .ok (.lcmp, 1) := by decide +kernel
theorem dX6_isGood_444 : decode cX6_isGood 444 = .ok (.ifCond .gt 7, 3) := by decide +kernel
theorem dX6_isGood_447 : decode cX6_isGood 447 = .ok (.iconst 1, 1) := by decide +kernel
theorem dX6_isGood_448 : decode cX6_isGood 448 = .ok (.goto 4, 3) := by decide +kernel
theorem dX6_isGood_451 : decode cX6_isGood 451 = .ok (.iconst 0, 1) := by decide +kernel
theorem dX6_isGood_452 : decode cX6_isGood 452 = .ok (.istore_n 3, 1) := by decide +kernel
theorem dX6_isGood_453 : decode cX6_isGood 453 = .ok (.iinc 7 1, 3) := by decide +kernel
theorem dX6_isGood_456 : decode cX6_isGood 456 = .ok (.goto (-47), 3) := by decide +kernel
theorem dX6_isGood_459 : decode cX6_isGood 459 = .ok (.iload_n 3, 1) := by decide +kernel
theorem dX6_isGood_460 : decode cX6_isGood 460 = .ok (.ireturn, 1) := by decide +kernel
theorem dX6_unused_0 : decode cX6_unused 0 = .ok (.iconst 0, 1) := by decide +kernel
theorem dX6_unused_1 : decode cX6_unused 1 = .ok (.istore_n 1, 1) := by decide +kernel
theorem dX6_unused_2 : decode cX6_unused 2 = .ok (.iconst 0, 1) := by decide +kernel
theorem dX6_unused_3 : decode cX6_unused 3 = .ok (.istore_n 2, 1) := by decide +kernel
theorem dX6_unused_4 : decode cX6_unused 4 = .ok (.iload_n 2, 1) := by decide +kernel
theorem dX6_unused_5 : decode cX6_unused 5 = .ok (.aload_n 0, 1) := by decide +kernel
theorem dX6_unused_6 : decode cX6_unused 6 = .ok (.getfield 119, 3) := by decide +kernel
theorem dX6_unused_9 : decode cX6_unused 9 = .ok (.if_icmp .ge 28, 3) := by decide +kernel
theorem dX6_unused_12 : decode cX6_unused 12 = .ok (.iload_n 1, 1) := by decide +kernel
theorem dX6_unused_13 : decode cX6_unused 13 = .ok (.aload_n 0, 1) := by decide +kernel
theorem dX6_unused_14 : decode cX6_unused 14 = .ok (.getfield 51, 3) := by decide +kernel
theorem dX6_unused_17 : decode cX6_unused 17 = .ok (.iload_n 2, 1) := by decide +kernel
theorem dX6_unused_18 : decode cX6_unused 18 = .ok (.laload, 1) := by decide +kernel
theorem dX6_unused_19 : decode cX6_unused 19 = .ok (.lconst 0, 1) := by decide +kernel
theorem dX6_unused_20 : decode cX6_unused 20 = .ok (.lcmp, 1) := by decide +kernel
theorem dX6_unused_21 : decode cX6_unused 21 = .ok (.ifCond .ne 7, 3) := by decide +kernel
theorem dX6_unused_24 : decode cX6_unused 24 = .ok (.iconst 1, 1) := by decide +kernel
theorem dX6_unused_25 : decode cX6_unused 25 = .ok (.goto 4, 3) := by decide +kernel
theorem dX6_unused_28 : decode cX6_unused 28 = .ok (.iconst 0, 1) := by decide +kernel
theorem dX6_unused_29 : decode cX6_unused 29 = .ok (.iadd, 1) := by decide +kernel
theorem dX6_unused_30 : decode cX6_unused 30 = .ok (.istore_n 1, 1) := by decide +kernel
theorem dX6_unused_31 : decode cX6_unused 31 = .ok (.iinc 2 1, 3) := by decide +kernel
theorem dX6_unused_34 : decode cX6_unused 34 = .ok (.goto (-30), 3) := by decide +kernel
theorem dX6_unused_37 : decode cX6_unused 37 = .ok (.iload_n 1, 1) := by decide +kernel
theorem dX6_unused_38 : decode cX6_unused 38 = .ok (.ireturn, 1) := by decide +kernel
theorem dX6_prove_0 : decode cX6_prove 0 = .ok (.aload_n 0, 1) := by decide +kernel
theorem dX6_prove_1 : decode cX6_prove 1 = .ok (.iconst 0, 1) := by decide +kernel
theorem dX6_prove_2 : decode cX6_prove 2 = .ok (.putfield 78, 3) := by decide +kernel
theorem dX6_prove_5 : decode cX6_prove 5 = .ok (.aload_n 0, 1) := by decide +kernel
theorem dX6_prove_6 : decode cX6_prove 6 = .ok (.iconst 0, 1) := by decide +kernel
theorem dX6_prove_7 : decode cX6_prove 7 = .ok (.invokevirtual 179, 3) := by decide +kernel
theorem dX6_prove_10 : decode cX6_prove 10 = .ok (.ifCond .ge 6, 3) := by decide +kernel
theorem dX6_prove_13 : decode cX6_prove 13 = .ok (.bipush (-6), 2) := by decide +kernel
theorem dX6_prove_15 : decode cX6_prove 15 = .ok (.ireturn, 1) := by decide +kernel
theorem dX6_prove_16 : decode cX6_prove 16 = .ok (.aload_n 0, 1) := by decide +kernel
theorem dX6_prove_17 : decode cX6_prove 17 = .ok (.iconst (-1), 1) := by decide +kernel
theorem dX6_prove_18 : decode cX6_prove 18 = .ok (.invokevirtual 207, 3) := by decide +kernel
theorem dX6_prove_21 : decode cX6_prove 21 = .ok (.istore_n 1, 1) := by decide +kernel
theorem dX6_prove_22 : decode cX6_prove 22 = .ok (.iload_n 1, 1) := by decide +kernel
theorem dX6_prove_23 : decode cX6_prove 23 = .ok (.ifCond .lt 79, 3) := by decide +kernel
theorem dX6_prove_26 : decode cX6_prove 26 = .ok (.aload_n 0, 1) := by decide +kernel
theorem dX6_prove_27 : decode cX6_prove 27 = .ok (.iload_n 1, 1) := by decide +kernel
theorem dX6_prove_28 : decode cX6_prove 28 = .ok (.invokevirtual 153, 3) := by decide +kernel
theorem dX6_prove_31 : decode cX6_prove 31 = .ok (.ifCond .eq 62, 3) := by decide +kernel
theorem dX6_prove_34 : decode cX6_prove 34 = .ok (.aload_n 0, 1) := by decide +kernel
theorem dX6_prove_35 : decode cX6_prove 35 = .ok (.iconst 0, 1) := by decide +kernel
theorem dX6_prove_36 : decode cX6_prove 36 = .ok (.invokevirtual 165, 3) := by decide +kernel
theorem dX6_prove_39 : decode cX6_prove 39 = .ok (.aload_n 0, 1) := by decide +kernel
theorem dX6_prove_40 : decode cX6_prove 40 = .ok (.getfield 168, 3) := by decide +kernel
theorem dX6_prove_43 : decode cX6_prove 43 = .ok (.lmul, 1) := by decide +kernel
theorem dX6_prove_44 : decode cX6_prove 44 = .ok (.aload_n 0, 1) := by decide +kernel
theorem dX6_prove_45 : decode cX6_prove 45 = .ok (.getfield 171, 3) := by decide +kernel
theorem dX6_prove_48 : decode cX6_prove 48 = .ok (.aload_n 0, 1) := by decide +kernel
theorem dX6_prove_49 : decode cX6_prove 49 = .ok (.getfield 136, 3) := by decide +kernel
theorem dX6_prove_52 : decode cX6_prove 52 = .ok (.lmul, 1) := by decide +kernel
theorem dX6_prove_53 : decode cX6_prove 53 = .ok (.lcmp, 1) := by decide +kernel
theorem dX6_prove_54 : decode cX6_prove 54 = .ok (.ifCond .ne 39, 3) := by decide +kernel
theorem dX6_prove_57 : decode cX6_prove 57 = .ok (.iconst 1, 1) := by decide +kernel
theorem dX6_prove_58 : decode cX6_prove 58 = .ok (.aload_n 0, 1) := by decide +kernel
theorem dX6_prove_59 : decode cX6_prove 59 = .ok (.invokevirtual 210, 3) := by decide +kernel
theorem dX6_prove_62 : decode cX6_prove 62 = .ok (.ishl, 1) := by decide +kernel
theorem dX6_prove_63 : decode cX6_prove 63 = .ok (.istore_n 2, 1) := by decide +kernel
theorem dX6_prove_64 : decode cX6_prove 64 = .ok (.iconst 0, 1) := by decide +kernel
theorem dX6_prove_65 : decode cX6_prove 65 = .ok (.istore_n 3, 1) := by decide +kernel
theorem dX6_prove_66 : decode cX6_prove 66 = .ok (.iload_n 3, 1) := by decide +kernel
theorem dX6_prove_67 : decode cX6_prove 67 = .ok (.iload_n 2, 1) := by decide +kernel
theorem dX6_prove_68 : decode cX6_prove 68 = .ok (.if_icmp .ge 25, 3) := by decide +kernel
theorem dX6_prove_71 : decode cX6_prove 71 = .ok (.aload_n 0, 1) := by decide +kernel
theorem dX6_prove_72 : decode cX6_prove 72 = .ok (.iload_n 1, 1) := by decide +kernel
theorem dX6_prove_73 : decode cX6_prove 73 = .ok (.iload_n 3, 1) := by decide +kernel
theorem dX6_prove_74 : decode cX6_prove 74 = .ok (.invokevirtual 213, 3) := by decide +kernel
theorem dX6_prove_77 : decode cX6_prove 77 = .ok (.ifCond .eq 10, 3) := by decide +kernel
theorem dX6_prove_80 : decode cX6_prove 80 = .ok (.aload_n 0, 1) := by decide +kernel
theorem dX6_prove_81 : decode cX6_prove 81 = .ok (.iconst 1, 1) := by decide +kernel
theorem dX6_prove_82 : decode cX6_prove 82 = .ok (.putfield 78, 3) := by decide +kernel
theorem dX6_prove_85 : decode cX6_prove 85 = .ok (.iload_n 1, 1) := by decide +kernel
theorem dX6_prove_86 : decode cX6_prove 86 = .ok (.ireturn, 1) := by decide +kernel
theorem dX6_prove_87 : decode cX6_prove 87 = .ok (.iinc 3 1, 3) := by decide +kernel
theorem dX6_prove_90 : decode cX6_prove 90 = .ok (.goto (-24), 3) := by decide +kernel
theorem dX6_prove_93 : decode cX6_prove 93 = .ok (.aload_n 0, 1) := by decide +kernel
theorem dX6_prove_94 : decode cX6_prove 94 = .ok (.iload_n 1, 1) := by decide +kernel
theorem dX6_prove_95 : decode cX6_prove 95 = .ok (.invokevirtual 207, 3) := by decide +kernel
theorem dX6_prove_98 : decode cX6_prove 98 = .ok (.istore_n 1, 1) := by decide +kernel
theorem dX6_prove_99 : decode cX6_prove 99 = .ok (.goto (-77), 3) := by decide +kernel
theorem dX6_prove_102 : decode cX6_prove 102 = .ok (.bipush (-6), 2) := by decide +kernel
theorem dX6_prove_104 : decode cX6_prove 104 = .ok (.ireturn, 1) := by decide +kernel
theorem dX6_field_0 : decode cX6_field 0 = .ok (.aload_n 0, 1) := by decide +kernel
theorem dX6_field_1 : decode cX6_field 1 = .ok (.getfield 78, 3) := by decide +kernel
theorem dX6_field_4 : decode cX6_field 4 = .ok (.ifCond .ne 7, 3) := by decide +kernel
theorem dX6_field_7 : decode cX6_field 7 = .ok (.ldc2_w 216, 3) := by decide +kernel
theorem dX6_field_10 : decode cX6_field 10 = .ok (.lreturn, 1) := by decide +kernel
theorem dX6_field_11 : decode cX6_field 11 = .ok (.aload_n 0, 1) := by decide +kernel
theorem dX6_field_12 : decode cX6_field 12 = .ok (.iload_n 1, 1) := by decide +kernel
theorem dX6_field_13 : decode cX6_field 13 = .ok (.invokevirtual 82, 3) := by decide +kernel
theorem dX6_field_16 : decode cX6_field 16 = .ok (.ifCond .ne 7, 3) := by decide +kernel
theorem dX6_field_19 : decode cX6_field 19 = .ok (.ldc2_w 193, 3) := by decide +kernel
theorem dX6_field_22 : decode cX6_field 22 = .ok (.lreturn, 1) := by decide +kernel
theorem dX6_field_23 : decode cX6_field 23 = .ok (.iload_n 2, 1) := by decide +kernel
theorem dX6_field_24 : decode cX6_field 24 = .ok (.invokestatic 182, 3) := by decide +kernel
theorem dX6_field_27 : decode cX6_field 27 = .ok (.ifCond .eq 10, 3) := by decide +kernel
theorem dX6_field_30 : decode cX6_field 30 = .ok (.iload_n 3, 1) := by decide +kernel
theorem dX6_field_31 : decode cX6_field 31 = .ok (.invokestatic 182, 3) := by decide +kernel
theorem dX6_field_34 : decode cX6_field 34 = .ok (.ifCond .ne 7, 3) := by decide +kernel
theorem dX6_field_37 : decode cX6_field 37 = .ok (.ldc2_w 185, 3) := by decide +kernel
theorem dX6_field_40 : decode cX6_field 40 = .ok (.lreturn, 1) := by decide +kernel
theorem dX6_field_41 : decode cX6_field 41 = .ok (.aload_n 0, 1) := by decide +kernel
theorem dX6_field_42 : decode cX6_field 42 = .ok (.getfield 16, 3) := by decide +kernel
theorem dX6_field_45 : decode cX6_field 45 = .ok (.iload_n 1, 1) := by decide +kernel
theorem dX6_field_46 : decode cX6_field 46 = .ok (.baload, 1) := by decide +kernel
theorem dX6_field_47 : decode cX6_field 47 = .ok (.ifCond .eq 12, 3) := by decide +kernel
theorem dX6_field_50 : decode cX6_field 50 = .ok (.lconst 0, 1) := by decide +kernel
theorem dX6_field_51 : decode cX6_field 51 = .ok (.lconst 1, 1) := by decide +kernel
theorem dX6_field_52 : decode cX6_field 52 = .ok (.iload_n 3, 1) := by decide +kernel
theorem dX6_field_53 : decode cX6_field 53 = .ok (.invokestatic 189, 3) := by decide +kernel
theorem dX6_field_56 : decode cX6_field 56 = .ok (.goto 24, 3) := by decide +kernel
theorem dX6_field_59 : decode cX6_field 59 = .ok (.aload_n 0, 1) := by decide +kernel
theorem dX6_field_60 : decode cX6_field 60 = .ok (.getfield 54, 3) := by decide +kernel
theorem dX6_field_63 : decode cX6_field 63 = .ok (.aload_n 0, 1) := by decide +kernel
theorem dX6_field_64 : decode cX6_field 64 = .ok (.getfield 35, 3) := by decide +kernel
theorem dX6_field_67 : decode cX6_field 67 = .ok (.iload_n 1, 1) := by decide +kernel
theorem dX6_field_68 : decode cX6_field 68 = .ok (.iaload, 1) := by decide +kernel
theorem dX6_field_69 : decode cX6_field 69 = .ok (.iload_n 2, 1) := by decide +kernel
theorem dX6_field_70 : decode cX6_field 70 = .ok (.iadd, 1) := by decide +kernel
theorem dX6_field_71 : decode cX6_field 71 = .ok (.laload, 1) := by decide +kernel
theorem dX6_field_72 : decode cX6_field 72 = .ok (.aload_n 0, 1) := by decide +kernel
theorem dX6_field_73 : decode cX6_field 73 = .ok (.getfield 201, 3) := by decide +kernel
theorem dX6_field_76 : decode cX6_field 76 = .ok (.iload_n 3, 1) := by decide +kernel
theorem dX6_field_77 : decode cX6_field 77 = .ok (.invokestatic 189, 3) := by decide +kernel
theorem dX6_field_80 : decode cX6_field 80 = .ok (.lreturn, 1) := by decide +kernel
theorem dX6_slack_0 : decode cX6_slack 0 = .ok (.aload_n 0, 1) := by decide +kernel
theorem dX6_slack_1 : decode cX6_slack 1 = .ok (.getfield 78, 3) := by decide +kernel
theorem dX6_slack_4 : decode cX6_slack 4 = .ok (.ifCond .ne 7, 3) := by decide +kernel
theorem dX6_slack_7 : decode cX6_slack 7 = .ok (.ldc2_w 216, 3) := by decide +kernel
theorem dX6_slack_10 : decode cX6_slack 10 = .ok (.lreturn, 1) := by decide +kernel
theorem dX6_slack_11 : decode cX6_slack 11 = .ok (.aload_n 0, 1) := by decide +kernel
theorem dX6_slack_12 : decode cX6_slack 12 = .ok (.iload_n 1, 1) := by decide +kernel
theorem dX6_slack_13 : decode cX6_slack 13 = .ok (.invokevirtual 90, 3) := by decide +kernel
theorem dX6_slack_16 : decode cX6_slack 16 = .ok (.ifCond .ne 7, 3) := by decide +kernel
theorem dX6_slack_19 : decode cX6_slack 19 = .ok (.ldc2_w 193, 3) := by decide +kernel
theorem dX6_slack_22 : decode cX6_slack 22 = .ok (.lreturn, 1) := by decide +kernel
theorem dX6_slack_23 : decode cX6_slack 23 = .ok (.iload_n 2, 1) := by decide +kernel
theorem dX6_slack_24 : decode cX6_slack 24 = .ok (.invokestatic 182, 3) := by decide +kernel
theorem dX6_slack_27 : decode cX6_slack 27 = .ok (.ifCond .ne 7, 3) := by decide +kernel
theorem dX6_slack_30 : decode cX6_slack 30 = .ok (.ldc2_w 185, 3) := by decide +kernel
theorem dX6_slack_33 : decode cX6_slack 33 = .ok (.lreturn, 1) := by decide +kernel
theorem dX6_slack_34 : decode cX6_slack 34 = .ok (.aload_n 0, 1) := by decide +kernel
theorem dX6_slack_35 : decode cX6_slack 35 = .ok (.iload_n 1, 1) := by decide +kernel
theorem dX6_slack_36 : decode cX6_slack 36 = .ok (.invokevirtual 93, 3) := by decide +kernel
theorem dX6_slack_39 : decode cX6_slack 39 = .ok (.i2l, 1) := by decide +kernel
theorem dX6_slack_40 : decode cX6_slack 40 = .ok (.aload_n 0, 1) := by decide +kernel
theorem dX6_slack_41 : decode cX6_slack 41 = .ok (.getfield 201, 3) := by decide +kernel
theorem dX6_slack_44 : decode cX6_slack 44 = .ok (.lmul, 1) := by decide +kernel
theorem dX6_slack_45 : decode cX6_slack 45 = .ok (.aload_n 0, 1) := by decide +kernel
theorem dX6_slack_46 : decode cX6_slack 46 = .ok (.iload_n 1, 1) := by decide +kernel
theorem dX6_slack_47 : decode cX6_slack 47 = .ok (.invokevirtual 204, 3) := by decide +kernel
theorem dX6_slack_50 : decode cX6_slack 50 = .ok (.invokestatic 140, 3) := by decide +kernel
theorem dX6_slack_53 : decode cX6_slack 53 = .ok (.lsub, 1) := by decide +kernel
theorem dX6_slack_54 : decode cX6_slack 54 = .ok (.aload_n 0, 1) := by decide +kernel
theorem dX6_slack_55 : decode cX6_slack 55 = .ok (.getfield 201, 3) := by decide +kernel
theorem dX6_slack_58 : decode cX6_slack 58 = .ok (.iload_n 2, 1) := by decide +kernel
theorem dX6_slack_59 : decode cX6_slack 59 = .ok (.invokestatic 189, 3) := by decide +kernel
theorem dX6_slack_62 : decode cX6_slack 62 = .ok (.lreturn, 1) := by decide +kernel
theorem dX6_told_0 : decode cX6_told 0 = .ok (.iload_n 1, 1) := by decide +kernel
theorem dX6_told_1 : decode cX6_told 1 = .ok (.tableswitch 60 0 4 #[35, 40, 45, 50, 55], 35) := by decide +kernel
theorem dX6_told_36 : decode cX6_told 36 = .ok (.aload_n 0, 1) := by decide +kernel
theorem dX6_told_37 : decode cX6_told 37 = .ok (.getfield 57, 3) := by decide +kernel
theorem dX6_told_40 : decode cX6_told 40 = .ok (.ireturn, 1) := by decide +kernel
theorem dX6_told_41 : decode cX6_told 41 = .ok (.aload_n 0, 1) := by decide +kernel
theorem dX6_told_42 : decode cX6_told 42 = .ok (.invokevirtual 74, 3) := by decide +kernel
theorem dX6_told_45 : decode cX6_told 45 = .ok (.ireturn, 1) := by decide +kernel
theorem dX6_told_46 : decode cX6_told 46 = .ok (.aload_n 0, 1) := by decide +kernel
theorem dX6_told_47 : decode cX6_told 47 = .ok (.getfield 65, 3) := by decide +kernel
theorem dX6_told_50 : decode cX6_told 50 = .ok (.ireturn, 1) := by decide +kernel
theorem dX6_told_51 : decode cX6_told 51 = .ok (.aload_n 0, 1) := by decide +kernel
theorem dX6_told_52 : decode cX6_told 52 = .ok (.getfield 99, 3) := by decide +kernel
theorem dX6_told_55 : decode cX6_told 55 = .ok (.ireturn, 1) := by decide +kernel
theorem dX6_told_56 : decode cX6_told 56 = .ok (.aload_n 0, 1) := by decide +kernel
theorem dX6_told_57 : decode cX6_told 57 = .ok (.getfield 104, 3) := by decide +kernel
theorem dX6_told_60 : decode cX6_told 60 = .ok (.ireturn, 1) := by decide +kernel
theorem dX6_told_61 : decode cX6_told 61 = .ok (.bipush (-2), 2) := by decide +kernel
theorem dX6_told_63 : decode cX6_told 63 = .ok (.ireturn, 1) := by decide +kernel
