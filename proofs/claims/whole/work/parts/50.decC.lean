theorem dX0_init_0 : decode cX0_init 0 = .ok (.aload_n 0, 1) := by decide +kernel
theorem dX0_init_1 : decode cX0_init 1 = .ok (.invokespecial 3, 3) := by decide +kernel
theorem dX0_init_4 : decode cX0_init 4 = .ok (.aload_n 0, 1) := by decide +kernel
theorem dX0_init_5 : decode cX0_init 5 = .ok (.lconst 1, 1) := by decide +kernel
theorem dX0_init_6 : decode cX0_init 6 = .ok (.putfield 9, 3) := by decide +kernel
theorem dX0_init_9 : decode cX0_init 9 = .ok (.aload_n 0, 1) := by decide +kernel
theorem dX0_init_10 : decode cX0_init 10 = .ok (.bipush 10, 2) := by decide +kernel
theorem dX0_init_12 : decode cX0_init 12 = .ok (.newarray .long, 2) := by decide +kernel
theorem dX0_init_14 : decode cX0_init 14 = .ok (.putfield 15, 3) := by decide +kernel
theorem dX0_init_17 : decode cX0_init 17 = .ok (.return_, 1) := by decide +kernel
theorem dX0_uses_0 : decode cX0_uses 0 = .ok (.aload_n 0, 1) := by decide +kernel
theorem dX0_uses_1 : decode cX0_uses 1 = .ok (.getfield 19, 3) := by decide +kernel
theorem dX0_uses_4 : decode cX0_uses 4 = .ok (.iload_n 1, 1) := by decide +kernel
theorem dX0_uses_5 : decode cX0_uses 5 = .ok (.ishr, 1) := by decide +kernel
theorem dX0_uses_6 : decode cX0_uses 6 = .ok (.iconst 1, 1) := by decide +kernel
theorem dX0_uses_7 : decode cX0_uses 7 = .ok (.iand, 1) := by decide +kernel
theorem dX0_uses_8 : decode cX0_uses 8 = .ok (.iconst 1, 1) := by decide +kernel
theorem dX0_uses_9 : decode cX0_uses 9 = .ok (.if_icmp .ne 7, 3) := by decide +kernel
theorem dX0_uses_12 : decode cX0_uses 12 = .ok (.iconst 1, 1) := by decide +kernel
theorem dX0_uses_13 : decode cX0_uses 13 = .ok (.goto 4, 3) := by decide +kernel
theorem dX0_uses_16 : decode cX0_uses 16 = .ok (.iconst 0, 1) := by decide +kernel
theorem dX0_uses_17 : decode cX0_uses 17 = .ok (.ireturn, 1) := by decide +kernel
theorem dX0_givesWayTo_0 : decode cX0_givesWayTo 0 = .ok (.aload_n 0, 1) := by decide +kernel
theorem dX0_givesWayTo_1 : decode cX0_givesWayTo 1 = .ok (.getfield 23, 3) := by decide +kernel
theorem dX0_givesWayTo_4 : decode cX0_givesWayTo 4 = .ok (.ifCond .eq 19, 3) := by decide +kernel
theorem dX0_givesWayTo_7 : decode cX0_givesWayTo 7 = .ok (.lload_n 1, 1) := by decide +kernel
theorem dX0_givesWayTo_8 : decode cX0_givesWayTo 8 = .ok (.aload_n 0, 1) := by decide +kernel
theorem dX0_givesWayTo_9 : decode cX0_givesWayTo 9 = .ok (.getfield 9, 3) := by decide +kernel
theorem dX0_givesWayTo_12 : decode cX0_givesWayTo 12 = .ok (.lmul, 1) := by decide +kernel
theorem dX0_givesWayTo_13 : decode cX0_givesWayTo 13 = .ok (.aload_n 0, 1) := by decide +kernel
theorem dX0_givesWayTo_14 : decode cX0_givesWayTo 14 = .ok (.getfield 27, 3) := by decide +kernel
theorem dX0_givesWayTo_17 : decode cX0_givesWayTo 17 = .ok (.lload_n 3, 1) := by decide +kernel
theorem dX0_givesWayTo_18 : decode cX0_givesWayTo 18 = .ok (.lmul, 1) := by decide +kernel
theorem dX0_givesWayTo_19 : decode cX0_givesWayTo 19 = .ok (.lcmp, 1) := by decide +kernel
theorem dX0_givesWayTo_20 : decode cX0_givesWayTo 20 = .ok (.ifCond .ge 7, 3) := by decide +kernel
theorem dX0_givesWayTo_23 : decode cX0_givesWayTo 23 = .ok (.iconst 1, 1) := by decide +kernel
theorem dX0_givesWayTo_24 : decode cX0_givesWayTo 24 = .ok (.goto 4, 3) := by decide +kernel
theorem dX0_givesWayTo_27 : decode cX0_givesWayTo 27 = .ok (.iconst 0, 1) := by decide +kernel
theorem dX0_givesWayTo_28 : decode cX0_givesWayTo 28 = .ok (.ireturn, 1) := by decide +kernel
theorem dX0_become_0 : decode cX0_become 0 = .ok (.aload_n 0, 1) := by decide +kernel
theorem dX0_become_1 : decode cX0_become 1 = .ok (.iconst 1, 1) := by decide +kernel
theorem dX0_become_2 : decode cX0_become 2 = .ok (.putfield 23, 3) := by decide +kernel
theorem dX0_become_5 : decode cX0_become 5 = .ok (.aload_n 0, 1) := by decide +kernel
theorem dX0_become_6 : decode cX0_become 6 = .ok (.aload_n 1, 1) := by decide +kernel
theorem dX0_become_7 : decode cX0_become 7 = .ok (.getfield 30, 3) := by decide +kernel
theorem dX0_become_10 : decode cX0_become 10 = .ok (.putfield 30, 3) := by decide +kernel
theorem dX0_become_13 : decode cX0_become 13 = .ok (.aload_n 0, 1) := by decide +kernel
theorem dX0_become_14 : decode cX0_become 14 = .ok (.aload_n 1, 1) := by decide +kernel
theorem dX0_become_15 : decode cX0_become 15 = .ok (.getfield 19, 3) := by decide +kernel
theorem dX0_become_18 : decode cX0_become 18 = .ok (.putfield 19, 3) := by decide +kernel
theorem dX0_become_21 : decode cX0_become 21 = .ok (.aload_n 0, 1) := by decide +kernel
theorem dX0_become_22 : decode cX0_become 22 = .ok (.aload_n 1, 1) := by decide +kernel
theorem dX0_become_23 : decode cX0_become 23 = .ok (.getfield 33, 3) := by decide +kernel
theorem dX0_become_26 : decode cX0_become 26 = .ok (.putfield 33, 3) := by decide +kernel
theorem dX0_become_29 : decode cX0_become 29 = .ok (.aload_n 0, 1) := by decide +kernel
theorem dX0_become_30 : decode cX0_become 30 = .ok (.lload_n 2, 1) := by decide +kernel
theorem dX0_become_31 : decode cX0_become 31 = .ok (.putfield 27, 3) := by decide +kernel
theorem dX0_become_34 : decode cX0_become 34 = .ok (.aload_n 0, 1) := by decide +kernel
theorem dX0_become_35 : decode cX0_become 35 = .ok (.aload_n 1, 1) := by decide +kernel
theorem dX0_become_36 : decode cX0_become 36 = .ok (.getfield 9, 3) := by decide +kernel
theorem dX0_become_39 : decode cX0_become 39 = .ok (.putfield 9, 3) := by decide +kernel
theorem dX0_become_42 : decode cX0_become 42 = .ok (.aload_n 1, 1) := by decide +kernel
theorem dX0_become_43 : decode cX0_become 43 = .ok (.getfield 15, 3) := by decide +kernel
theorem dX0_become_46 : decode cX0_become 46 = .ok (.iconst 0, 1) := by decide +kernel
theorem dX0_become_47 : decode cX0_become 47 = .ok (.aload_n 0, 1) := by decide +kernel
theorem dX0_become_48 : decode cX0_become 48 = .ok (.getfield 15, 3) := by decide +kernel
theorem dX0_become_51 : decode cX0_become 51 = .ok (.iconst 0, 1) := by decide +kernel
theorem dX0_become_52 : decode cX0_become 52 = .ok (.bipush 10, 2) := by decide +kernel
theorem dX0_become_54 : decode cX0_become 54 = .ok (.invokestatic 36, 3) := by decide +kernel
theorem dX0_become_57 : decode cX0_become 57 = .ok (.return_, 1) := by decide +kernel
theorem dX1_init_0 : decode cX1_init 0 = .ok (.aload_n 0, 1) := by decide +kernel
theorem dX1_init_1 : decode cX1_init 1 = .ok (.invokespecial 3, 3) := by decide +kernel
theorem dX1_init_4 : decode cX1_init 4 = .ok (.aload_n 0, 1) := by decide +kernel
theorem dX1_init_5 : decode cX1_init 5 = .ok (.bipush 6, 2) := by decide +kernel
theorem dX1_init_7 : decode cX1_init 7 = .ok (.bipush 12, 2) := by decide +kernel
theorem dX1_init_9 : decode cX1_init 9 = .ok (.multianewarray 9 2, 4) := by decide +kernel
theorem dX1_init_13 : decode cX1_init 13 = .ok (.putfield 11, 3) := by decide +kernel
theorem dX1_init_16 : decode cX1_init 16 = .ok (.aload_n 0, 1) := by decide +kernel
theorem dX1_init_17 : decode cX1_init 17 = .ok (.bipush 6, 2) := by decide +kernel
theorem dX1_init_19 : decode cX1_init 19 = .ok (.newarray .int, 2) := by decide +kernel
theorem dX1_init_21 : decode cX1_init 21 = .ok (.putfield 16, 3) := by decide +kernel
theorem dX1_init_24 : decode cX1_init 24 = .ok (.aload_n 0, 1) := by decide +kernel
theorem dX1_init_25 : decode cX1_init 25 = .ok (.lconst 1, 1) := by decide +kernel
theorem dX1_init_26 : decode cX1_init 26 = .ok (.putfield 20, 3) := by decide +kernel
theorem dX1_init_29 : decode cX1_init 29 = .ok (.aload_n 0, 1) := by decide +kernel
theorem dX1_init_30 : decode cX1_init 30 = .ok (.aload_n 1, 1) := by decide +kernel
theorem dX1_init_31 : decode cX1_init 31 = .ok (.putfield 24, 3) := by decide +kernel
theorem dX1_init_34 : decode cX1_init 34 = .ok (.return_, 1) := by decide +kernel
theorem dX1_take_0 : decode cX1_take 0 = .ok (.aload_n 0, 1) := by decide +kernel
theorem dX1_take_1 : decode cX1_take 1 = .ok (.aload_n 0, 1) := by decide +kernel
theorem dX1_take_2 : decode cX1_take 2 = .ok (.getfield 24, 3) := by decide +kernel
theorem dX1_take_5 : decode cX1_take 5 = .ok (.invokevirtual 28, 3) := by decide +kernel
theorem dX1_take_8 : decode cX1_take 8 = .ok (.putfield 34, 3) := by decide +kernel
theorem dX1_take_11 : decode cX1_take 11 = .ok (.aload_n 0, 1) := by decide +kernel
theorem dX1_take_12 : decode cX1_take 12 = .ok (.iload_n 1, 1) := by decide +kernel
theorem dX1_take_13 : decode cX1_take 13 = .ok (.invokevirtual 38, 3) := by decide +kernel
theorem dX1_take_16 : decode cX1_take 16 = .ok (.aload_n 0, 1) := by decide +kernel
theorem dX1_take_17 : decode cX1_take 17 = .ok (.invokevirtual 42, 3) := by decide +kernel
theorem dX1_take_20 : decode cX1_take 20 = .ok (.iconst 0, 1) := by decide +kernel
theorem dX1_take_21 : decode cX1_take 21 = .ok (.istore_n 2, 1) := by decide +kernel
theorem dX1_take_22 : decode cX1_take 22 = .ok (.iload_n 2, 1) := by decide +kernel
theorem dX1_take_23 : decode cX1_take 23 = .ok (.aload_n 0, 1) := by decide +kernel
theorem dX1_take_24 : decode cX1_take 24 = .ok (.getfield 34, 3) := by decide +kernel
theorem dX1_take_27 : decode cX1_take 27 = .ok (.if_icmp .ge 14, 3) := by decide +kernel
theorem dX1_take_30 : decode cX1_take 30 = .ok (.aload_n 0, 1) := by decide +kernel
theorem dX1_take_31 : decode cX1_take 31 = .ok (.iload_n 2, 1) := by decide +kernel
theorem dX1_take_32 : decode cX1_take 32 = .ok (.invokevirtual 45, 3) := by decide +kernel
theorem dX1_take_35 : decode cX1_take 35 = .ok (.iinc 2 1, 3) := by decide +kernel
theorem dX1_take_38 : decode cX1_take 38 = .ok (.goto (-16), 3) := by decide +kernel
theorem dX1_take_41 : decode cX1_take 41 = .ok (.return_, 1) := by decide +kernel
theorem dX1_at_0 : decode cX1_at 0 = .ok (.aload_n 0, 1) := by decide +kernel
theorem dX1_at_1 : decode cX1_at 1 = .ok (.getfield 11, 3) := by decide +kernel
theorem dX1_at_4 : decode cX1_at 4 = .ok (.iload_n 1, 1) := by decide +kernel
theorem dX1_at_5 : decode cX1_at 5 = .ok (.aaload, 1) := by decide +kernel
theorem dX1_at_6 : decode cX1_at 6 = .ok (.aload_n 0, 1) := by decide +kernel
theorem dX1_at_7 : decode cX1_at 7 = .ok (.getfield 34, 3) := by decide +kernel
theorem dX1_at_10 : decode cX1_at 10 = .ok (.iload_n 2, 1) := by decide +kernel
theorem dX1_at_11 : decode cX1_at 11 = .ok (.iadd, 1) := by decide +kernel
theorem dX1_at_12 : decode cX1_at 12 = .ok (.laload, 1) := by decide +kernel
theorem dX1_at_13 : decode cX1_at 13 = .ok (.lreturn, 1) := by decide +kernel
theorem dX1_listBars_0 : decode cX1_listBars 0 = .ok (.iconst 0, 1) := by decide +kernel
theorem dX1_listBars_1 : decode cX1_listBars 1 = .ok (.istore_n 2, 1) := by decide +kernel
theorem dX1_listBars_2 : decode cX1_listBars 2 = .ok (.iconst 0, 1) := by decide +kernel
theorem dX1_listBars_3 : decode cX1_listBars 3 = .ok (.istore_n 3, 1) := by decide +kernel
theorem dX1_listBars_4 : decode cX1_listBars 4 = .ok (.iload_n 3, 1) := by decide +kernel
theorem dX1_listBars_5 : decode cX1_listBars 5 = .ok (.aload_n 0, 1) := by decide +kernel
theorem dX1_listBars_6 : decode cX1_listBars 6 = .ok (.getfield 24, 3) := by decide +kernel
theorem dX1_listBars_9 : decode cX1_listBars 9 = .ok (.getfield 48, 3) := by decide +kernel
theorem dX1_listBars_12 : decode cX1_listBars 12 = .ok (.if_icmp .ge 36, 3) := by decide +kernel
theorem dX1_listBars_15 : decode cX1_listBars 15 = .ok (.iload_n 2, 1) := by decide +kernel
theorem dX1_listBars_16 : decode cX1_listBars 16 = .ok (.aload_n 0, 1) := by decide +kernel
theorem dX1_listBars_17 : decode cX1_listBars 17 = .ok (.getfield 34, 3) := by decide +kernel
theorem dX1_listBars_20 : decode cX1_listBars 20 = .ok (.if_icmp .ge 28, 3) := by decide +kernel
theorem dX1_listBars_23 : decode cX1_listBars 23 = .ok (.iload_n 1, 1) := by decide +kernel
theorem dX1_listBars_24 : decode cX1_listBars 24 = .ok (.iload_n 3, 1) := by decide +kernel
theorem dX1_listBars_25 : decode cX1_listBars 25 = .ok (.ishr, 1) := by decide +kernel
theorem dX1_listBars_26 : decode cX1_listBars 26 = .ok (.iconst 1, 1) := by decide +kernel
theorem dX1_listBars_27 : decode cX1_listBars 27 = .ok (.iand, 1) := by decide +kernel
theorem dX1_listBars_28 : decode cX1_listBars 28 = .ok (.iconst 1, 1) := by decide +kernel
theorem dX1_listBars_29 : decode cX1_listBars 29 = .ok (.if_icmp .ne 13, 3) := by decide +kernel
theorem dX1_listBars_32 : decode cX1_listBars 32 = .ok (.aload_n 0, 1) := by decide +kernel
theorem dX1_listBars_33 : decode cX1_listBars 33 = .ok (.getfield 16, 3) := by decide +kernel
theorem dX1_listBars_36 : decode cX1_listBars 36 = .ok (.iload_n 2, 1) := by decide +kernel
theorem dX1_listBars_37 : decode cX1_listBars 37 = .ok (.iload_n 3, 1) := by decide +kernel
theorem dX1_listBars_38 : decode cX1_listBars 38 = .ok (.iastore, 1) := by decide +kernel
theorem dX1_listBars_39 : decode cX1_listBars 39 = .ok (.iinc 2 1, 3) := by decide +kernel
theorem dX1_listBars_42 : decode cX1_listBars 42 = .ok (.iinc 3 1, 3) := by decide +kernel
theorem dX1_listBars_45 : decode cX1_listBars 45 = .ok (.goto (-41), 3) := by decide +kernel
theorem dX1_listBars_48 : decode cX1_listBars 48 = .ok (.return_, 1) := by decide +kernel
theorem dX1_clearTable_0 : decode cX1_clearTable 0 = .ok (.iconst 0, 1) := by decide +kernel
theorem dX1_clearTable_1 : decode cX1_clearTable 1 = .ok (.istore_n 1, 1) := by decide +kernel
theorem dX1_clearTable_2 : decode cX1_clearTable 2 = .ok (.iload_n 1, 1) := by decide +kernel
theorem dX1_clearTable_3 : decode cX1_clearTable 3 = .ok (.aload_n 0, 1) := by decide +kernel
theorem dX1_clearTable_4 : decode cX1_clearTable 4 = .ok (.getfield 34, 3) := by decide +kernel
theorem dX1_clearTable_7 : decode cX1_clearTable 7 = .ok (.if_icmp .ge 50, 3) := by decide +kernel
theorem dX1_clearTable_10 : decode cX1_clearTable 10 = .ok (.iconst 0, 1) := by decide +kernel
theorem dX1_clearTable_11 : decode cX1_clearTable 11 = .ok (.istore_n 2, 1) := by decide +kernel
theorem dX1_clearTable_12 : decode cX1_clearTable 12 = .ok (.iload_n 2, 1) := by decide +kernel
theorem dX1_clearTable_13 : decode cX1_clearTable 13 = .ok (.iconst 2, 1) := by decide +kernel
theorem dX1_clearTable_14 : decode cX1_clearTable 14 = .ok (.aload_n 0, 1) := by decide +kernel
theorem dX1_clearTable_15 : decode cX1_clearTable 15 = .ok (.getfield 34, 3) := by decide +kernel
theorem dX1_clearTable_18 : decode cX1_clearTable 18 = .ok (.imul, 1) := by decide +kernel
theorem dX1_clearTable_19 : decode cX1_clearTable 19 = .ok (.if_icmp .ge 32, 3) := by decide +kernel
theorem dX1_clearTable_22 : decode cX1_clearTable 22 = .ok (.aload_n 0, 1) := by decide +kernel
theorem dX1_clearTable_23 : decode cX1_clearTable 23 = .ok (.getfield 11, 3) := by decide +kernel
theorem dX1_clearTable_26 : decode cX1_clearTable 26 = .ok (.iload_n 1, 1) := by decide +kernel
theorem dX1_clearTable_27 : decode cX1_clearTable 27 = .ok (.aaload, 1) := by decide +kernel
theorem dX1_clearTable_28 : decode cX1_clearTable 28 = .ok (.iload_n 2, 1) := by decide +kernel
theorem dX1_clearTable_29 : decode cX1_clearTable 29 = .ok (.iload_n 2, 1) := by decide +kernel
theorem dX1_clearTable_30 : decode cX1_clearTable 30 = .ok (.aload_n 0, 1) := by decide +kernel
theorem dX1_clearTable_31 : decode cX1_clearTable 31 = .ok (.getfield 34, 3) := by decide +kernel
theorem dX1_clearTable_34 : decode cX1_clearTable 34 = .ok (.iload_n 1, 1) := by decide +kernel
theorem dX1_clearTable_35 : decode cX1_clearTable 35 = .ok (.iadd, 1) := by decide +kernel
theorem dX1_clearTable_36 : decode cX1_clearTable 36 = .ok (.if_icmp .ne 7, 3) := by decide +kernel
theorem dX1_clearTable_39 : decode cX1_clearTable 39 = .ok (.lconst 1, 1) := by decide +kernel
theorem dX1_clearTable_40 : decode cX1_clearTable 40 = .ok (.goto 4, 3) := by decide +kernel
theorem dX1_clearTable_43 : decode cX1_clearTable 43 = .ok (.lconst 0, 1) := by decide +kernel
theorem dX1_clearTable_44 : decode cX1_clearTable 44 = .ok (.lastore, 1) := by decide +kernel
theorem dX1_clearTable_45 : decode cX1_clearTable 45 = .ok (.iinc 2 1, 3) := by decide +kernel
theorem dX1_clearTable_48 : decode cX1_clearTable 48 = .ok (.goto (-36), 3) := by decide +kernel
theorem dX1_clearTable_51 : decode cX1_clearTable 51 = .ok (.iinc 1 1, 3) := by decide +kernel
theorem dX1_clearTable_54 : decode cX1_clearTable 54 = .ok (.goto (-52), 3) := by decide +kernel
theorem dX1_clearTable_57 : decode cX1_clearTable 57 = .ok (.return_, 1) := by decide +kernel
theorem dX1_fillColumn_0 : decode cX1_fillColumn 0 = .ok (.aload_n 0, 1) := by decide +kernel
theorem dX1_fillColumn_1 : decode cX1_fillColumn 1 = .ok (.getfield 16, 3) := by decide +kernel
theorem dX1_fillColumn_4 : decode cX1_fillColumn 4 = .ok (.iload_n 1, 1) := by decide +kernel
theorem dX1_fillColumn_5 : decode cX1_fillColumn 5 = .ok (.iaload, 1) := by decide +kernel
theorem dX1_fillColumn_6 : decode cX1_fillColumn 6 = .ok (.istore_n 2, 1) := by decide +kernel
theorem dX1_fillColumn_7 : decode cX1_fillColumn 7 = .ok (.aload_n 0, 1) := by decide +kernel
theorem dX1_fillColumn_8 : decode cX1_fillColumn 8 = .ok (.getfield 24, 3) := by decide +kernel
theorem dX1_fillColumn_11 : decode cX1_fillColumn 11 = .ok (.getfield 50, 3) := by decide +kernel
theorem dX1_fillColumn_14 : decode cX1_fillColumn 14 = .ok (.aload_n 0, 1) := by decide +kernel
theorem dX1_fillColumn_15 : decode cX1_fillColumn 15 = .ok (.getfield 24, 3) := by decide +kernel
theorem dX1_fillColumn_18 : decode cX1_fillColumn 18 = .ok (.getfield 53, 3) := by decide +kernel
theorem dX1_fillColumn_21 : decode cX1_fillColumn 21 = .ok (.iload_n 2, 1) := by decide +kernel
theorem dX1_fillColumn_22 : decode cX1_fillColumn 22 = .ok (.iaload, 1) := by decide +kernel
theorem dX1_fillColumn_23 : decode cX1_fillColumn 23 = .ok (.iaload, 1) := by decide +kernel
theorem dX1_fillColumn_24 : decode cX1_fillColumn 24 = .ok (.istore_n 3, 1) := by decide +kernel
theorem dX1_fillColumn_25 : decode cX1_fillColumn 25 = .ok (.iload_n 3, 1) := by decide +kernel
theorem dX1_fillColumn_26 : decode cX1_fillColumn 26 = .ok (.iconst (-1), 1) := by decide +kernel
theorem dX1_fillColumn_27 : decode cX1_fillColumn 27 = .ok (.if_icmp .eq 41, 3) := by decide +kernel
theorem dX1_fillColumn_30 : decode cX1_fillColumn 30 = .ok (.aload_n 0, 1) := by decide +kernel
theorem dX1_fillColumn_31 : decode cX1_fillColumn 31 = .ok (.getfield 11, 3) := by decide +kernel
theorem dX1_fillColumn_34 : decode cX1_fillColumn 34 = .ok (.iload_n 3, 1) := by decide +kernel
theorem dX1_fillColumn_35 : decode cX1_fillColumn 35 = .ok (.aaload, 1) := by decide +kernel
theorem dX1_fillColumn_36 : decode cX1_fillColumn 36 = .ok (.iload_n 1, 1) := by decide +kernel
theorem dX1_fillColumn_37 : decode cX1_fillColumn 37 = .ok (.aload_n 0, 1) := by decide +kernel
theorem dX1_fillColumn_38 : decode cX1_fillColumn 38 = .ok (.getfield 24, 3) := by decide +kernel
theorem dX1_fillColumn_41 : decode cX1_fillColumn 41 = .ok (.getfield 56, 3) := by decide +kernel
theorem dX1_fillColumn_44 : decode cX1_fillColumn 44 = .ok (.iload_n 2, 1) := by decide +kernel
theorem dX1_fillColumn_45 : decode cX1_fillColumn 45 = .ok (.iaload, 1) := by decide +kernel
theorem dX1_fillColumn_46 : decode cX1_fillColumn 46 = .ok (.i2l, 1) := by decide +kernel
theorem dX1_fillColumn_47 : decode cX1_fillColumn 47 = .ok (.lastore, 1) := by decide +kernel
theorem dX1_fillColumn_48 : decode cX1_fillColumn 48 = .ok (.aload_n 0, 1) := by decide +kernel
theorem dX1_fillColumn_49 : decode cX1_fillColumn 49 = .ok (.getfield 11, 3) := by decide +kernel
theorem dX1_fillColumn_52 : decode cX1_fillColumn 52 = .ok (.iload_n 3, 1) := by decide +kernel
theorem dX1_fillColumn_53 : decode cX1_fillColumn 53 = .ok (.iconst 1, 1) := by decide +kernel
theorem dX1_fillColumn_54 : decode cX1_fillColumn 54 = .ok (.iadd, 1) := by decide +kernel
theorem dX1_fillColumn_55 : decode cX1_fillColumn 55 = .ok (.aaload, 1) := by decide +kernel
theorem dX1_fillColumn_56 : decode cX1_fillColumn 56 = .ok (.iload_n 1, 1) := by decide +kernel
theorem dX1_fillColumn_57 : decode cX1_fillColumn 57 = .ok (.aload_n 0, 1) := by decide +kernel
theorem dX1_fillColumn_58 : decode cX1_fillColumn 58 = .ok (.getfield 24, 3) := by decide +kernel
theorem dX1_fillColumn_61 : decode cX1_fillColumn 61 = .ok (.getfield 59, 3) := by decide +kernel
theorem dX1_fillColumn_64 : decode cX1_fillColumn 64 = .ok (.iload_n 2, 1) := by decide +kernel
theorem dX1_fillColumn_65 : decode cX1_fillColumn 65 = .ok (.iaload, 1) := by decide +kernel
theorem dX1_fillColumn_66 : decode cX1_fillColumn 66 = .ok (.i2l, 1) := by decide +kernel
theorem dX1_fillColumn_67 : decode cX1_fillColumn 67 = .ok (.lastore, 1) := by decide +kernel
theorem dX1_fillColumn_68 : decode cX1_fillColumn 68 = .ok (.aload_n 0, 1) := by decide +kernel
theorem dX1_fillColumn_69 : decode cX1_fillColumn 69 = .ok (.getfield 24, 3) := by decide +kernel
theorem dX1_fillColumn_72 : decode cX1_fillColumn 72 = .ok (.getfield 50, 3) := by decide +kernel
theorem dX1_fillColumn_75 : decode cX1_fillColumn 75 = .ok (.aload_n 0, 1) := by decide +kernel
theorem dX1_fillColumn_76 : decode cX1_fillColumn 76 = .ok (.getfield 24, 3) := by decide +kernel
theorem dX1_fillColumn_79 : decode cX1_fillColumn 79 = .ok (.getfield 62, 3) := by decide +kernel
theorem dX1_fillColumn_82 : decode cX1_fillColumn 82 = .ok (.iload_n 2, 1) := by decide +kernel
theorem dX1_fillColumn_83 : decode cX1_fillColumn 83 = .ok (.iaload, 1) := by decide +kernel
theorem dX1_fillColumn_84 : decode cX1_fillColumn 84 = .ok (.iaload, 1) := by decide +kernel
theorem dX1_fillColumn_85 : decode cX1_fillColumn 85 = .ok (.istore 4, 2) := by decide +kernel
theorem dX1_fillColumn_87 : decode cX1_fillColumn 87 = .ok (.iload 4, 2) := by decide +kernel
theorem dX1_fillColumn_89 : decode cX1_fillColumn 89 = .ok (.iconst (-1), 1) := by decide +kernel
theorem dX1_fillColumn_90 : decode cX1_fillColumn 90 = .ok (.if_icmp .eq 45, 3) := by decide +kernel
theorem dX1_fillColumn_93 : decode cX1_fillColumn 93 = .ok (.aload_n 0, 1) := by decide +kernel
theorem dX1_fillColumn_94 : decode cX1_fillColumn 94 = .ok (.getfield 11, 3) := by decide +kernel
theorem dX1_fillColumn_97 : decode cX1_fillColumn 97 = .ok (.iload 4, 2) := by decide +kernel
theorem dX1_fillColumn_99 : decode cX1_fillColumn 99 = .ok (.aaload, 1) := by decide +kernel
theorem dX1_fillColumn_100 : decode cX1_fillColumn 100 = .ok (.iload_n 1, 1) := by decide +kernel
theorem dX1_fillColumn_101 : decode cX1_fillColumn 101 = .ok (.aload_n 0, 1) := by decide +kernel
theorem dX1_fillColumn_102 : decode cX1_fillColumn 102 = .ok (.getfield 24, 3) := by decide +kernel
theorem dX1_fillColumn_105 : decode cX1_fillColumn 105 = .ok (.getfield 56, 3) := by decide +kernel
theorem dX1_fillColumn_108 : decode cX1_fillColumn 108 = .ok (.iload_n 2, 1) := by decide +kernel
theorem dX1_fillColumn_109 : decode cX1_fillColumn 109 = .ok (.iaload, 1) := by decide +kernel
theorem dX1_fillColumn_110 : decode cX1_fillColumn 110 = .ok (.ineg, 1) := by decide +kernel
theorem dX1_fillColumn_111 : decode cX1_fillColumn 111 = .ok (.i2l, 1) := by decide +kernel
theorem dX1_fillColumn_112 : decode cX1_fillColumn 112 = .ok (.lastore, 1) := by decide +kernel
theorem dX1_fillColumn_113 : decode cX1_fillColumn 113 = .ok (.aload_n 0, 1) := by decide +kernel
theorem dX1_fillColumn_114 : decode cX1_fillColumn 114 = .ok (.getfield 11, 3) := by decide +kernel
theorem dX1_fillColumn_117 : decode cX1_fillColumn 117 = .ok (.iload 4, 2) := by decide +kernel
theorem dX1_fillColumn_119 : decode cX1_fillColumn 119 = .ok (.iconst 1, 1) := by decide +kernel
theorem dX1_fillColumn_120 : decode cX1_fillColumn 120 = .ok (.iadd, 1) := by decide +kernel
theorem dX1_fillColumn_121 : decode cX1_fillColumn 121 = .ok (.aaload, 1) := by decide +kernel
theorem dX1_fillColumn_122 : decode cX1_fillColumn 122 = .ok (.iload_n 1, 1) := by decide +kernel
theorem dX1_fillColumn_123 : decode cX1_fillColumn 123 = .ok (.aload_n 0, 1) := by decide +kernel
theorem dX1_fillColumn_124 : decode cX1_fillColumn 124 = .ok (.getfield 24, 3) := by decide +kernel
theorem dX1_fillColumn_127 : decode cX1_fillColumn 127 = .ok (.getfield 59, 3) := by decide +kernel
theorem dX1_fillColumn_130 : decode cX1_fillColumn 130 = .ok (.iload_n 2, 1) := by decide +kernel
theorem dX1_fillColumn_131 : decode cX1_fillColumn 131 = .ok (.iaload, 1) := by decide +kernel
theorem dX1_fillColumn_132 : decode cX1_fillColumn 132 = .ok (.ineg, 1) := by decide +kernel
theorem dX1_fillColumn_133 : decode cX1_fillColumn 133 = .ok (.i2l, 1) := by decide +kernel
theorem dX1_fillColumn_134 : decode cX1_fillColumn 134 = .ok (.lastore, 1) := by decide +kernel
theorem dX1_fillColumn_135 : decode cX1_fillColumn 135 = .ok (.return_, 1) := by decide +kernel
theorem dX1_invert_0 : decode cX1_invert 0 = .ok (.lconst 1, 1) := by decide +kernel
theorem dX1_invert_1 : decode cX1_invert 1 = .ok (.lstore_n 1, 1) := by decide +kernel
theorem dX1_invert_2 : decode cX1_invert 2 = .ok (.iconst 0, 1) := by decide +kernel
theorem dX1_invert_3 : decode cX1_invert 3 = .ok (.istore_n 3, 1) := by decide +kernel
theorem dX1_invert_4 : decode cX1_invert 4 = .ok (.iload_n 3, 1) := by decide +kernel
theorem dX1_invert_5 : decode cX1_invert 5 = .ok (.aload_n 0, 1) := by decide +kernel
theorem dX1_invert_6 : decode cX1_invert 6 = .ok (.getfield 34, 3) := by decide +kernel
theorem dX1_invert_9 : decode cX1_invert 9 = .ok (.if_icmp .ge 46, 3) := by decide +kernel
theorem dX1_invert_12 : decode cX1_invert 12 = .ok (.aload_n 0, 1) := by decide +kernel
theorem dX1_invert_13 : decode cX1_invert 13 = .ok (.iload_n 3, 1) := by decide +kernel
theorem dX1_invert_14 : decode cX1_invert 14 = .ok (.invokevirtual 65, 3) := by decide +kernel
theorem dX1_invert_17 : decode cX1_invert 17 = .ok (.istore 4, 2) := by decide +kernel
theorem dX1_invert_19 : decode cX1_invert 19 = .ok (.iload 4, 2) := by decide +kernel
theorem dX1_invert_21 : decode cX1_invert 21 = .ok (.iconst (-1), 1) := by decide +kernel
theorem dX1_invert_22 : decode cX1_invert 22 = .ok (.if_icmp .ne 5, 3) := by decide +kernel
theorem dX1_invert_25 : decode cX1_invert 25 = .ok (.iconst 0, 1) := by decide +kernel
theorem dX1_invert_26 : decode cX1_invert 26 = .ok (.ireturn, 1) := by decide +kernel
theorem dX1_invert_27 : decode cX1_invert 27 = .ok (.aload_n 0, 1) := by decide +kernel
theorem dX1_invert_28 : decode cX1_invert 28 = .ok (.iload 4, 2) := by decide +kernel
theorem dX1_invert_30 : decode cX1_invert 30 = .ok (.iload_n 3, 1) := by decide +kernel
theorem dX1_invert_31 : decode cX1_invert 31 = .ok (.invokevirtual 69, 3) := by decide +kernel
theorem dX1_invert_34 : decode cX1_invert 34 = .ok (.aload_n 0, 1) := by decide +kernel
theorem dX1_invert_35 : decode cX1_invert 35 = .ok (.iload_n 3, 1) := by decide +kernel
theorem dX1_invert_36 : decode cX1_invert 36 = .ok (.lload_n 1, 1) := by decide +kernel
theorem dX1_invert_37 : decode cX1_invert 37 = .ok (.invokevirtual 73, 3) := by decide +kernel
theorem dX1_invert_40 : decode cX1_invert 40 = .ok (.aload_n 0, 1) := by decide +kernel
theorem dX1_invert_41 : decode cX1_invert 41 = .ok (.getfield 11, 3) := by decide +kernel
theorem dX1_invert_44 : decode cX1_invert 44 = .ok (.iload_n 3, 1) := by decide +kernel
theorem dX1_invert_45 : decode cX1_invert 45 = .ok (.aaload, 1) := by decide +kernel
theorem dX1_invert_46 : decode cX1_invert 46 = .ok (.iload_n 3, 1) := by decide +kernel
theorem dX1_invert_47 : decode cX1_invert 47 = .ok (.laload, 1) := by decide +kernel
theorem dX1_invert_48 : decode cX1_invert 48 = .ok (.lstore_n 1, 1) := by decide +kernel
theorem dX1_invert_49 : decode cX1_invert 49 = .ok (.iinc 3 1, 3) := by decide +kernel
theorem dX1_invert_52 : decode cX1_invert 52 = .ok (.goto (-48), 3) := by decide +kernel
theorem dX1_invert_55 : decode cX1_invert 55 = .ok (.aload_n 0, 1) := by decide +kernel
theorem dX1_invert_56 : decode cX1_invert 56 = .ok (.lload_n 1, 1) := by decide +kernel
theorem dX1_invert_57 : decode cX1_invert 57 = .ok (.putfield 20, 3) := by decide +kernel
theorem dX1_invert_60 : decode cX1_invert 60 = .ok (.aload_n 0, 1) := by decide +kernel
theorem dX1_invert_61 : decode cX1_invert 61 = .ok (.getfield 20, 3) := by decide +kernel
theorem dX1_invert_64 : decode cX1_invert 64 = .ok (.lconst 0, 1) := by decide +kernel
theorem dX1_invert_65 : decode cX1_invert 65 = .ok (.lcmp, 1) := by decide +kernel
theorem dX1_invert_66 : decode cX1_invert 66 = .ok (.ifCond .ge 7, 3) := by decide +kernel
theorem dX1_invert_69 : decode cX1_invert 69 = .ok (.aload_n 0, 1) := by decide +kernel
theorem dX1_invert_70 : decode cX1_invert 70 = .ok (.invokevirtual 77, 3) := by decide +kernel
theorem dX1_invert_73 : decode cX1_invert 73 = .ok (.iconst 1, 1) := by decide +kernel
theorem dX1_invert_74 : decode cX1_invert 74 = .ok (.ireturn, 1) := by decide +kernel
theorem dX1_rowWithPivot_0 : decode cX1_rowWithPivot 0 = .ok (.iload_n 1, 1) := by decide +kernel
theorem dX1_rowWithPivot_1 : decode cX1_rowWithPivot 1 = .ok (.istore_n 2, 1) := by decide +kernel
theorem dX1_rowWithPivot_2 : decode cX1_rowWithPivot 2 = .ok (.iload_n 2, 1) := by decide +kernel
theorem dX1_rowWithPivot_3 : decode cX1_rowWithPivot 3 = .ok (.aload_n 0, 1) := by decide +kernel
theorem dX1_rowWithPivot_4 : decode cX1_rowWithPivot 4 = .ok (.getfield 34, 3) := by decide +kernel
theorem dX1_rowWithPivot_7 : decode cX1_rowWithPivot 7 = .ok (.if_icmp .ge 24, 3) := by decide +kernel
theorem dX1_rowWithPivot_10 : decode cX1_rowWithPivot 10 = .ok (.aload_n 0, 1) := by decide +kernel
theorem dX1_rowWithPivot_11 : decode cX1_rowWithPivot 11 = .ok (.getfield 11, 3) := by decide +kernel
theorem dX1_rowWithPivot_14 : decode cX1_rowWithPivot 14 = .ok (.iload_n 2, 1) := by decide +kernel
theorem dX1_rowWithPivot_15 : decode cX1_rowWithPivot 15 = .ok (.aaload, 1) := by decide +kernel
theorem dX1_rowWithPivot_16 : decode cX1_rowWithPivot 16 = .ok (.iload_n 1, 1) := by decide +kernel
theorem dX1_rowWithPivot_17 : decode cX1_rowWithPivot 17 = .ok (.laload, 1) := by decide +kernel
theorem dX1_rowWithPivot_18 : decode cX1_rowWithPivot 18 = .ok (.lconst 0, 1) := by decide +kernel
theorem dX1_rowWithPivot_19 : decode cX1_rowWithPivot 19 = .ok (.lcmp, 1) := by decide +kernel
theorem dX1_rowWithPivot_20 : decode cX1_rowWithPivot 20 = .ok (.ifCond .eq 5, 3) := by decide +kernel
theorem dX1_rowWithPivot_23 : decode cX1_rowWithPivot 23 = .ok (.iload_n 2, 1) := by decide +kernel
theorem dX1_rowWithPivot_24 : decode cX1_rowWithPivot 24 = .ok (.ireturn, 1) := by decide +kernel
theorem dX1_rowWithPivot_25 : decode cX1_rowWithPivot 25 = .ok (.iinc 2 1, 3) := by decide +kernel
theorem dX1_rowWithPivot_28 : decode cX1_rowWithPivot 28 = .ok (.goto (-26), 3) := by decide +kernel
theorem dX1_rowWithPivot_31 : decode cX1_rowWithPivot 31 = .ok (.iconst (-1), 1) := by decide +kernel
theorem dX1_rowWithPivot_32 : decode cX1_rowWithPivot 32 = .ok (.ireturn, 1) := by decide +kernel
theorem dX1_swapRows_0 : decode cX1_swapRows 0 = .ok (.iconst 0, 1) := by decide +kernel
theorem dX1_swapRows_1 : decode cX1_swapRows 1 = .ok (.istore_n 3, 1) := by decide +kernel
theorem dX1_swapRows_2 : decode cX1_swapRows 2 = .ok (.iload_n 3, 1) := by decide +kernel
theorem dX1_swapRows_3 : decode cX1_swapRows 3 = .ok (.iconst 2, 1) := by decide +kernel
theorem dX1_swapRows_4 : decode cX1_swapRows 4 = .ok (.aload_n 0, 1) := by decide +kernel
theorem dX1_swapRows_5 : decode cX1_swapRows 5 = .ok (.getfield 34, 3) := by decide +kernel
theorem dX1_swapRows_8 : decode cX1_swapRows 8 = .ok (.imul, 1) := by decide +kernel
theorem dX1_swapRows_9 : decode cX1_swapRows 9 = .ok (.if_icmp .ge 45, 3) := by decide +kernel
theorem dX1_swapRows_12 : decode cX1_swapRows 12 = .ok (.aload_n 0, 1) := by decide +kernel
theorem dX1_swapRows_13 : decode cX1_swapRows 13 = .ok (.getfield 11, 3) := by decide +kernel
theorem dX1_swapRows_16 : decode cX1_swapRows 16 = .ok (.iload_n 1, 1) := by decide +kernel
theorem dX1_swapRows_17 : decode cX1_swapRows 17 = .ok (.aaload, 1) := by decide +kernel
theorem dX1_swapRows_18 : decode cX1_swapRows 18 = .ok (.iload_n 3, 1) := by decide +kernel
theorem dX1_swapRows_19 : decode cX1_swapRows 19 = .ok (.laload, 1) := by decide +kernel
theorem dX1_swapRows_20 : decode cX1_swapRows 20 = .ok (.lstore 4, 2) := by decide +kernel
theorem dX1_swapRows_22 : decode cX1_swapRows 22 = .ok (.aload_n 0, 1) := by decide +kernel
theorem dX1_swapRows_23 : decode cX1_swapRows 23 = .ok (.getfield 11, 3) := by decide +kernel
theorem dX1_swapRows_26 : decode cX1_swapRows 26 = .ok (.iload_n 1, 1) := by decide +kernel
theorem dX1_swapRows_27 : decode cX1_swapRows 27 = .ok (.aaload, 1) := by decide +kernel
theorem dX1_swapRows_28 : decode cX1_swapRows 28 = .ok (.iload_n 3, 1) := by decide +kernel
theorem dX1_swapRows_29 : decode cX1_swapRows 29 = .ok (.aload_n 0, 1) := by decide +kernel
theorem dX1_swapRows_30 : decode cX1_swapRows 30 = .ok (.getfield 11, 3) := by decide +kernel
theorem dX1_swapRows_33 : decode cX1_swapRows 33 = .ok (.iload_n 2, 1) := by decide +kernel
theorem dX1_swapRows_34 : decode cX1_swapRows 34 = .ok (.aaload, 1) := by decide +kernel
theorem dX1_swapRows_35 : decode cX1_swapRows 35 = .ok (.iload_n 3, 1) := by decide +kernel
theorem dX1_swapRows_36 : decode cX1_swapRows 36 = .ok (.laload, 1) := by decide +kernel
theorem dX1_swapRows_37 : decode cX1_swapRows 37 = .ok (.lastore, 1) := by decide +kernel
theorem dX1_swapRows_38 : decode cX1_swapRows 38 = .ok (.aload_n 0, 1) := by decide +kernel
theorem dX1_swapRows_39 : decode cX1_swapRows 39 = .ok (.getfield 11, 3) := by decide +kernel
theorem dX1_swapRows_42 : decode cX1_swapRows 42 = .ok (.iload_n 2, 1) := by decide +kernel
theorem dX1_swapRows_43 : decode cX1_swapRows 43 = .ok (.aaload, 1) := by decide +kernel
theorem dX1_swapRows_44 : decode cX1_swapRows 44 = .ok (.iload_n 3, 1) := by decide +kernel
theorem dX1_swapRows_45 : decode cX1_swapRows 45 = .ok (.lload 4, 2) := by decide +kernel
theorem dX1_swapRows_47 : decode cX1_swapRows 47 = .ok (.lastore, 1) := by decide +kernel
theorem dX1_swapRows_48 : decode cX1_swapRows 48 = .ok (.iinc 3 1, 3) := by decide +kernel
theorem dX1_swapRows_51 : decode cX1_swapRows 51 = .ok (.goto (-49), 3) := by decide +kernel
theorem dX1_swapRows_54 : decode cX1_swapRows 54 = .ok (.return_, 1) := by decide +kernel
theorem dX1_clearColumn_0 : decode cX1_clearColumn 0 = .ok (.lload_n 2, 1) := by decide +kernel
theorem dX1_clearColumn_1 : decode cX1_clearColumn 1 = .ok (.lconst 0, 1) := by decide +kernel
theorem dX1_clearColumn_2 : decode cX1_clearColumn 2 = .ok (.lcmp, 1) := by decide +kernel
theorem dX1_clearColumn_3 : decode cX1_clearColumn 3 = .ok (.ifCond .ne 4, 3) := by decide +kernel
theorem dX1_clearColumn_6 : decode cX1_clearColumn 6 = .ok (.return_, 1) := by decide +kernel
theorem dX1_clearColumn_7 : decode cX1_clearColumn 7 = .ok (.aload_n 0, 1) := by decide +kernel
theorem dX1_clearColumn_8 : decode cX1_clearColumn 8 = .ok (.getfield 11, 3) := by decide +kernel
theorem dX1_clearColumn_11 : decode cX1_clearColumn 11 = .ok (.iload_n 1, 1) := by decide +kernel
theorem dX1_clearColumn_12 : decode cX1_clearColumn 12 = .ok (.aaload, 1) := by decide +kernel
theorem dX1_clearColumn_13 : decode cX1_clearColumn 13 = .ok (.iload_n 1, 1) := by decide +kernel
theorem dX1_clearColumn_14 : decode cX1_clearColumn 14 = .ok (.laload, 1) := by decide +kernel
theorem dX1_clearColumn_15 : decode cX1_clearColumn 15 = .ok (.lstore 4, 2) := by decide +kernel
theorem dX1_clearColumn_17 : decode cX1_clearColumn 17 = .ok (.iconst 0, 1) := by decide +kernel
theorem dX1_clearColumn_18 : decode cX1_clearColumn 18 = .ok (.istore 6, 2) := by decide +kernel
theorem dX1_clearColumn_20 : decode cX1_clearColumn 20 = .ok (.iload 6, 2) := by decide +kernel
theorem dX1_clearColumn_22 : decode cX1_clearColumn 22 = .ok (.aload_n 0, 1) := by decide +kernel
theorem dX1_clearColumn_23 : decode cX1_clearColumn 23 = .ok (.getfield 34, 3) := by decide +kernel
theorem dX1_clearColumn_26 : decode cX1_clearColumn 26 = .ok (.if_icmp .ge 84, 3) := by decide +kernel
theorem dX1_clearColumn_29 : decode cX1_clearColumn 29 = .ok (.aload_n 0, 1) := by decide +kernel
theorem dX1_clearColumn_30 : decode cX1_clearColumn 30 = .ok (.getfield 11, 3) := by decide +kernel
theorem dX1_clearColumn_33 : decode cX1_clearColumn 33 = .ok (.iload 6, 2) := by decide +kernel
theorem dX1_clearColumn_35 : decode cX1_clearColumn 35 = .ok (.aaload, 1) := by decide +kernel
theorem dX1_clearColumn_36 : decode cX1_clearColumn 36 = .ok (.iload_n 1, 1) := by decide +kernel
theorem dX1_clearColumn_37 : decode cX1_clearColumn 37 = .ok (.laload, 1) := by decide +kernel
theorem dX1_clearColumn_38 : decode cX1_clearColumn 38 = .ok (.lstore 7, 2) := by decide +kernel
theorem dX1_clearColumn_40 : decode cX1_clearColumn 40 = .ok (.iconst 0, 1) := by decide +kernel
theorem dX1_clearColumn_41 : decode cX1_clearColumn 41 = .ok (.istore 9, 2) := by decide +kernel
theorem dX1_clearColumn_43 : decode cX1_clearColumn 43 = .ok (.iload 9, 2) := by decide +kernel
theorem dX1_clearColumn_45 : decode cX1_clearColumn 45 = .ok (.iconst 2, 1) := by decide +kernel
theorem dX1_clearColumn_46 : decode cX1_clearColumn 46 = .ok (.aload_n 0, 1) := by decide +kernel
theorem dX1_clearColumn_47 : decode cX1_clearColumn 47 = .ok (.getfield 34, 3) := by decide +kernel
theorem dX1_clearColumn_50 : decode cX1_clearColumn 50 = .ok (.imul, 1) := by decide +kernel
theorem dX1_clearColumn_51 : decode cX1_clearColumn 51 = .ok (.if_icmp .ge 53, 3) := by decide +kernel
theorem dX1_clearColumn_54 : decode cX1_clearColumn 54 = .ok (.iload 6, 2) := by decide +kernel
theorem dX1_clearColumn_56 : decode cX1_clearColumn 56 = .ok (.iload_n 1, 1) := by decide +kernel
theorem dX1_clearColumn_57 : decode cX1_clearColumn 57 = .ok (.if_icmp .eq 47, 3) := by decide +kernel
theorem dX1_clearColumn_60 : decode cX1_clearColumn 60 = .ok (.aload_n 0, 1) := by decide +kernel
theorem dX1_clearColumn_61 : decode cX1_clearColumn 61 = .ok (.getfield 11, 3) := by decide +kernel
theorem dX1_clearColumn_64 : decode cX1_clearColumn 64 = .ok (.iload 6, 2) := by decide +kernel
theorem dX1_clearColumn_66 : decode cX1_clearColumn 66 = .ok (.aaload, 1) := by decide +kernel
theorem dX1_clearColumn_67 : decode cX1_clearColumn 67 = .ok (.iload 9, 2) := by decide +kernel
theorem dX1_clearColumn_69 : decode cX1_clearColumn 69 = .ok (.lload 4, 2) := by decide +kernel
theorem dX1_clearColumn_71 : decode cX1_clearColumn 71 = .ok (.aload_n 0, 1) := by decide +kernel
theorem dX1_clearColumn_72 : decode cX1_clearColumn 72 = .ok (.getfield 11, 3) := by decide +kernel
theorem dX1_clearColumn_75 : decode cX1_clearColumn 75 = .ok (.iload 6, 2) := by decide +kernel
theorem dX1_clearColumn_77 : decode cX1_clearColumn 77 = .ok (.aaload, 1) := by decide +kernel
theorem dX1_clearColumn_78 : decode cX1_clearColumn 78 = .ok (.iload 9, 2) := by decide +kernel
theorem dX1_clearColumn_80 : decode cX1_clearColumn 80 = .ok (.laload, 1) := by decide +kernel
theorem dX1_clearColumn_81 : decode cX1_clearColumn 81 = .ok (.lmul, 1) := by decide +kernel
theorem dX1_clearColumn_82 : decode cX1_clearColumn 82 = .ok (.lload 7, 2) := by decide +kernel
theorem dX1_clearColumn_84 : decode cX1_clearColumn 84 = .ok (.aload_n 0, 1) := by decide +kernel
theorem dX1_clearColumn_85 : decode cX1_clearColumn 85 = .ok (.getfield 11, 3) := by decide +kernel
theorem dX1_clearColumn_88 : decode cX1_clearColumn 88 = .ok (.iload_n 1, 1) := by decide +kernel
theorem dX1_clearColumn_89 : decode cX1_clearColumn 89 = .ok (.aaload, 1) := by decide +kernel
theorem dX1_clearColumn_90 : decode cX1_clearColumn 90 = .ok (.iload 9, 2) := by decide +kernel
theorem dX1_clearColumn_92 : decode cX1_clearColumn 92 = .ok (.laload, 1) := by decide +kernel
theorem dX1_clearColumn_93 : decode cX1_clearColumn 93 = .ok (.lmul, 1) := by decide +kernel
theorem dX1_clearColumn_94 : decode cX1_clearColumn 94 = .ok (.lsub, 1) := by decide +kernel
theorem dX1_clearColumn_95 : decode cX1_clearColumn 95 = .ok (.lload_n 2, 1) := by decide +kernel
theorem dX1_clearColumn_96 : decode cX1_clearColumn 96 = .ok (.ldiv, 1) := by decide +kernel
theorem dX1_clearColumn_97 : decode cX1_clearColumn 97 = .ok (.lastore, 1) := by decide +kernel
theorem dX1_clearColumn_98 : decode cX1_clearColumn 98 = .ok (.iinc 9 1, 3) := by decide +kernel
theorem dX1_clearColumn_101 : decode cX1_clearColumn 101 = .ok (.goto (-58), 3) := by decide +kernel
theorem dX1_clearColumn_104 : decode cX1_clearColumn 104 = .ok (.iinc 6 1, 3) := by decide +kernel
theorem dX1_clearColumn_107 : decode cX1_clearColumn 107 = .ok (.goto (-87), 3) := by decide +kernel
theorem dX1_clearColumn_110 : decode cX1_clearColumn 110 = .ok (.return_, 1) := by decide +kernel
theorem dX1_turnSigns_0 : decode cX1_turnSigns 0 = .ok (.aload_n 0, 1) := by decide +kernel
theorem dX1_turnSigns_1 : decode cX1_turnSigns 1 = .ok (.aload_n 0, 1) := by decide +kernel
theorem dX1_turnSigns_2 : decode cX1_turnSigns 2 = .ok (.getfield 20, 3) := by decide +kernel
theorem dX1_turnSigns_5 : decode cX1_turnSigns 5 = .ok (.lneg, 1) := by decide +kernel
theorem dX1_turnSigns_6 : decode cX1_turnSigns 6 = .ok (.putfield 20, 3) := by decide +kernel
theorem dX1_turnSigns_9 : decode cX1_turnSigns 9 = .ok (.iconst 0, 1) := by decide +kernel
theorem dX1_turnSigns_10 : decode cX1_turnSigns 10 = .ok (.istore_n 1, 1) := by decide +kernel
theorem dX1_turnSigns_11 : decode cX1_turnSigns 11 = .ok (.iload_n 1, 1) := by decide +kernel
theorem dX1_turnSigns_12 : decode cX1_turnSigns 12 = .ok (.aload_n 0, 1) := by decide +kernel
theorem dX1_turnSigns_13 : decode cX1_turnSigns 13 = .ok (.getfield 34, 3) := by decide +kernel
theorem dX1_turnSigns_16 : decode cX1_turnSigns 16 = .ok (.if_icmp .ge 47, 3) := by decide +kernel
theorem dX1_turnSigns_19 : decode cX1_turnSigns 19 = .ok (.aload_n 0, 1) := by decide +kernel
theorem dX1_turnSigns_20 : decode cX1_turnSigns 20 = .ok (.getfield 34, 3) := by decide +kernel
theorem dX1_turnSigns_23 : decode cX1_turnSigns 23 = .ok (.istore_n 2, 1) := by decide +kernel
theorem dX1_turnSigns_24 : decode cX1_turnSigns 24 = .ok (.iload_n 2, 1) := by decide +kernel
theorem dX1_turnSigns_25 : decode cX1_turnSigns 25 = .ok (.iconst 2, 1) := by decide +kernel
theorem dX1_turnSigns_26 : decode cX1_turnSigns 26 = .ok (.aload_n 0, 1) := by decide +kernel
theorem dX1_turnSigns_27 : decode cX1_turnSigns 27 = .ok (.getfield 34, 3) := by decide +kernel
theorem dX1_turnSigns_30 : decode cX1_turnSigns 30 = .ok (.imul, 1) := by decide +kernel
theorem dX1_turnSigns_31 : decode cX1_turnSigns 31 = .ok (.if_icmp .ge 26, 3) := by decide +kernel
theorem dX1_turnSigns_34 : decode cX1_turnSigns 34 = .ok (.aload_n 0, 1) := by decide +kernel
theorem dX1_turnSigns_35 : decode cX1_turnSigns 35 = .ok (.getfield 11, 3) := by decide +kernel
theorem dX1_turnSigns_38 : decode cX1_turnSigns 38 = .ok (.iload_n 1, 1) := by decide +kernel
theorem dX1_turnSigns_39 : decode cX1_turnSigns 39 = .ok (.aaload, 1) := by decide +kernel
theorem dX1_turnSigns_40 : decode cX1_turnSigns 40 = .ok (.iload_n 2, 1) := by decide +kernel
theorem dX1_turnSigns_41 : decode cX1_turnSigns 41 = .ok (.aload_n 0, 1) := by decide +kernel
theorem dX1_turnSigns_42 : decode cX1_turnSigns 42 = .ok (.getfield 11, 3) := by decide +kernel
theorem dX1_turnSigns_45 : decode cX1_turnSigns 45 = .ok (.iload_n 1, 1) := by decide +kernel
theorem dX1_turnSigns_46 : decode cX1_turnSigns 46 = .ok (.aaload, 1) := by decide +kernel
theorem dX1_turnSigns_47 : decode cX1_turnSigns 47 = .ok (.iload_n 2, 1) := by decide +kernel
theorem dX1_turnSigns_48 : decode cX1_turnSigns 48 = .ok (.laload, 1) := by decide +kernel
theorem dX1_turnSigns_49 : decode cX1_turnSigns 49 = .ok (.lneg, 1) := by decide +kernel
theorem dX1_turnSigns_50 : decode cX1_turnSigns 50 = .ok (.lastore, 1) := by decide +kernel
theorem dX1_turnSigns_51 : decode cX1_turnSigns 51 = .ok (.iinc 2 1, 3) := by decide +kernel
theorem dX1_turnSigns_54 : decode cX1_turnSigns 54 = .ok (.goto (-30), 3) := by decide +kernel
theorem dX1_turnSigns_57 : decode cX1_turnSigns 57 = .ok (.iinc 1 1, 3) := by decide +kernel
theorem dX1_turnSigns_60 : decode cX1_turnSigns 60 = .ok (.goto (-49), 3) := by decide +kernel
theorem dX1_turnSigns_63 : decode cX1_turnSigns 63 = .ok (.return_, 1) := by decide +kernel
theorem dX2_init_0 : decode cX2_init 0 = .ok (.aload_n 0, 1) := by decide +kernel
theorem dX2_init_1 : decode cX2_init 1 = .ok (.invokespecial 3, 3) := by decide +kernel
theorem dX2_init_4 : decode cX2_init 4 = .ok (.aload_n 0, 1) := by decide +kernel
theorem dX2_init_5 : decode cX2_init 5 = .ok (.bipush 6, 2) := by decide +kernel
theorem dX2_init_7 : decode cX2_init 7 = .ok (.newarray .int, 2) := by decide +kernel
theorem dX2_init_9 : decode cX2_init 9 = .ok (.putfield 9, 3) := by decide +kernel
theorem dX2_init_12 : decode cX2_init 12 = .ok (.aload_n 0, 1) := by decide +kernel
theorem dX2_init_13 : decode cX2_init 13 = .ok (.bipush 6, 2) := by decide +kernel
theorem dX2_init_15 : decode cX2_init 15 = .ok (.newarray .int, 2) := by decide +kernel
theorem dX2_init_17 : decode cX2_init 17 = .ok (.putfield 15, 3) := by decide +kernel
theorem dX2_init_20 : decode cX2_init 20 = .ok (.aload_n 0, 1) := by decide +kernel
theorem dX2_init_21 : decode cX2_init 21 = .ok (.bipush 6, 2) := by decide +kernel
theorem dX2_init_23 : decode cX2_init 23 = .ok (.newarray .int, 2) := by decide +kernel
theorem dX2_init_25 : decode cX2_init 25 = .ok (.putfield 18, 3) := by decide +kernel
theorem dX2_init_28 : decode cX2_init 28 = .ok (.aload_n 0, 1) := by decide +kernel
theorem dX2_init_29 : decode cX2_init 29 = .ok (.bipush 6, 2) := by decide +kernel
theorem dX2_init_31 : decode cX2_init 31 = .ok (.newarray .int, 2) := by decide +kernel
theorem dX2_init_33 : decode cX2_init 33 = .ok (.putfield 21, 3) := by decide +kernel
theorem dX2_init_36 : decode cX2_init 36 = .ok (.aload_n 0, 1) := by decide +kernel
theorem dX2_init_37 : decode cX2_init 37 = .ok (.bipush 10, 2) := by decide +kernel
theorem dX2_init_39 : decode cX2_init 39 = .ok (.newarray .int, 2) := by decide +kernel
theorem dX2_init_41 : decode cX2_init 41 = .ok (.putfield 24, 3) := by decide +kernel
theorem dX2_init_44 : decode cX2_init 44 = .ok (.aload_n 0, 1) := by decide +kernel
theorem dX2_init_45 : decode cX2_init 45 = .ok (.bipush 10, 2) := by decide +kernel
theorem dX2_init_47 : decode cX2_init 47 = .ok (.newarray .int, 2) := by decide +kernel
theorem dX2_init_49 : decode cX2_init 49 = .ok (.putfield 27, 3) := by decide +kernel
theorem dX2_init_52 : decode cX2_init 52 = .ok (.aload_n 0, 1) := by decide +kernel
theorem dX2_init_53 : decode cX2_init 53 = .ok (.bipush 10, 2) := by decide +kernel
theorem dX2_init_55 : decode cX2_init 55 = .ok (.newarray .int, 2) := by decide +kernel
theorem dX2_init_57 : decode cX2_init 57 = .ok (.putfield 30, 3) := by decide +kernel
theorem dX2_init_60 : decode cX2_init 60 = .ok (.aload_n 0, 1) := by decide +kernel
theorem dX2_init_61 : decode cX2_init 61 = .ok (.bipush 10, 2) := by decide +kernel
theorem dX2_init_63 : decode cX2_init 63 = .ok (.newarray .int, 2) := by decide +kernel
theorem dX2_init_65 : decode cX2_init 65 = .ok (.putfield 33, 3) := by decide +kernel
theorem dX2_init_68 : decode cX2_init 68 = .ok (.aload_n 0, 1) := by decide +kernel
theorem dX2_init_69 : decode cX2_init 69 = .ok (.bipush 10, 2) := by decide +kernel
theorem dX2_init_71 : decode cX2_init 71 = .ok (.newarray .int, 2) := by decide +kernel
theorem dX2_init_73 : decode cX2_init 73 = .ok (.putfield 36, 3) := by decide +kernel
theorem dX2_init_76 : decode cX2_init 76 = .ok (.aload_n 0, 1) := by decide +kernel
theorem dX2_init_77 : decode cX2_init 77 = .ok (.bipush 10, 2) := by decide +kernel
theorem dX2_init_79 : decode cX2_init 79 = .ok (.newarray .int, 2) := by decide +kernel
theorem dX2_init_81 : decode cX2_init 81 = .ok (.putfield 39, 3) := by decide +kernel
theorem dX2_init_84 : decode cX2_init 84 = .ok (.aload_n 0, 1) := by decide +kernel
theorem dX2_init_85 : decode cX2_init 85 = .ok (.iconst 5, 1) := by decide +kernel
theorem dX2_init_86 : decode cX2_init 86 = .ok (.newarray .int, 2) := by decide +kernel
theorem dX2_init_88 : decode cX2_init 88 = .ok (.putfield 42, 3) := by decide +kernel
theorem dX2_init_91 : decode cX2_init 91 = .ok (.return_, 1) := by decide +kernel
theorem dX2_hasJoint_0 : decode cX2_hasJoint 0 = .ok (.iload_n 1, 1) := by decide +kernel
theorem dX2_hasJoint_1 : decode cX2_hasJoint 1 = .ok (.ifCond .lt 15, 3) := by decide +kernel
theorem dX2_hasJoint_4 : decode cX2_hasJoint 4 = .ok (.iload_n 1, 1) := by decide +kernel
theorem dX2_hasJoint_5 : decode cX2_hasJoint 5 = .ok (.aload_n 0, 1) := by decide +kernel
theorem dX2_hasJoint_6 : decode cX2_hasJoint 6 = .ok (.getfield 45, 3) := by decide +kernel
theorem dX2_hasJoint_9 : decode cX2_hasJoint 9 = .ok (.if_icmp .ge 7, 3) := by decide +kernel
theorem dX2_hasJoint_12 : decode cX2_hasJoint 12 = .ok (.iconst 1, 1) := by decide +kernel
theorem dX2_hasJoint_13 : decode cX2_hasJoint 13 = .ok (.goto 4, 3) := by decide +kernel
theorem dX2_hasJoint_16 : decode cX2_hasJoint 16 = .ok (.iconst 0, 1) := by decide +kernel
theorem dX2_hasJoint_17 : decode cX2_hasJoint 17 = .ok (.ireturn, 1) := by decide +kernel
theorem dX2_hasBar_0 : decode cX2_hasBar 0 = .ok (.iload_n 1, 1) := by decide +kernel
theorem dX2_hasBar_1 : decode cX2_hasBar 1 = .ok (.ifCond .lt 15, 3) := by decide +kernel
theorem dX2_hasBar_4 : decode cX2_hasBar 4 = .ok (.iload_n 1, 1) := by decide +kernel
theorem dX2_hasBar_5 : decode cX2_hasBar 5 = .ok (.aload_n 0, 1) := by decide +kernel
theorem dX2_hasBar_6 : decode cX2_hasBar 6 = .ok (.getfield 49, 3) := by decide +kernel
theorem dX2_hasBar_9 : decode cX2_hasBar 9 = .ok (.if_icmp .ge 7, 3) := by decide +kernel
theorem dX2_hasBar_12 : decode cX2_hasBar 12 = .ok (.iconst 1, 1) := by decide +kernel
theorem dX2_hasBar_13 : decode cX2_hasBar 13 = .ok (.goto 4, 3) := by decide +kernel
theorem dX2_hasBar_16 : decode cX2_hasBar 16 = .ok (.iconst 0, 1) := by decide +kernel
theorem dX2_hasBar_17 : decode cX2_hasBar 17 = .ok (.ireturn, 1) := by decide +kernel
theorem dX2_rows_0 : decode cX2_rows 0 = .ok (.iconst 2, 1) := by decide +kernel
theorem dX2_rows_1 : decode cX2_rows 1 = .ok (.aload_n 0, 1) := by decide +kernel
theorem dX2_rows_2 : decode cX2_rows 2 = .ok (.getfield 52, 3) := by decide +kernel
theorem dX2_rows_5 : decode cX2_rows 5 = .ok (.imul, 1) := by decide +kernel
theorem dX2_rows_6 : decode cX2_rows 6 = .ok (.ireturn, 1) := by decide +kernel
theorem dX2_hasJointAt_0 : decode cX2_hasJointAt 0 = .ok (.iconst 0, 1) := by decide +kernel
theorem dX2_hasJointAt_1 : decode cX2_hasJointAt 1 = .ok (.istore_n 3, 1) := by decide +kernel
theorem dX2_hasJointAt_2 : decode cX2_hasJointAt 2 = .ok (.iload_n 3, 1) := by decide +kernel
theorem dX2_hasJointAt_3 : decode cX2_hasJointAt 3 = .ok (.aload_n 0, 1) := by decide +kernel
theorem dX2_hasJointAt_4 : decode cX2_hasJointAt 4 = .ok (.getfield 45, 3) := by decide +kernel
theorem dX2_hasJointAt_7 : decode cX2_hasJointAt 7 = .ok (.if_icmp .ge 31, 3) := by decide +kernel
theorem dX2_hasJointAt_10 : decode cX2_hasJointAt 10 = .ok (.aload_n 0, 1) := by decide +kernel
theorem dX2_hasJointAt_11 : decode cX2_hasJointAt 11 = .ok (.getfield 9, 3) := by decide +kernel
theorem dX2_hasJointAt_14 : decode cX2_hasJointAt 14 = .ok (.iload_n 3, 1) := by decide +kernel
theorem dX2_hasJointAt_15 : decode cX2_hasJointAt 15 = .ok (.iaload, 1) := by decide +kernel
theorem dX2_hasJointAt_16 : decode cX2_hasJointAt 16 = .ok (.iload_n 1, 1) := by decide +kernel
theorem dX2_hasJointAt_17 : decode cX2_hasJointAt 17 = .ok (.if_icmp .ne 15, 3) := by decide +kernel
theorem dX2_hasJointAt_20 : decode cX2_hasJointAt 20 = .ok (.aload_n 0, 1) := by decide +kernel
theorem dX2_hasJointAt_21 : decode cX2_hasJointAt 21 = .ok (.getfield 15, 3) := by decide +kernel
theorem dX2_hasJointAt_24 : decode cX2_hasJointAt 24 = .ok (.iload_n 3, 1) := by decide +kernel
theorem dX2_hasJointAt_25 : decode cX2_hasJointAt 25 = .ok (.iaload, 1) := by decide +kernel
theorem dX2_hasJointAt_26 : decode cX2_hasJointAt 26 = .ok (.iload_n 2, 1) := by decide +kernel
theorem dX2_hasJointAt_27 : decode cX2_hasJointAt 27 = .ok (.if_icmp .ne 5, 3) := by decide +kernel
theorem dX2_hasJointAt_30 : decode cX2_hasJointAt 30 = .ok (.iconst 1, 1) := by decide +kernel
theorem dX2_hasJointAt_31 : decode cX2_hasJointAt 31 = .ok (.ireturn, 1) := by decide +kernel
theorem dX2_hasJointAt_32 : decode cX2_hasJointAt 32 = .ok (.iinc 3 1, 3) := by decide +kernel
theorem dX2_hasJointAt_35 : decode cX2_hasJointAt 35 = .ok (.goto (-33), 3) := by decide +kernel
theorem dX2_hasJointAt_38 : decode cX2_hasJointAt 38 = .ok (.iconst 0, 1) := by decide +kernel
theorem dX2_hasJointAt_39 : decode cX2_hasJointAt 39 = .ok (.ireturn, 1) := by decide +kernel
theorem dX2_hasBarBetween_0 : decode cX2_hasBarBetween 0 = .ok (.iconst 0, 1) := by decide +kernel
theorem dX2_hasBarBetween_1 : decode cX2_hasBarBetween 1 = .ok (.istore_n 3, 1) := by decide +kernel
theorem dX2_hasBarBetween_2 : decode cX2_hasBarBetween 2 = .ok (.iload_n 3, 1) := by decide +kernel
theorem dX2_hasBarBetween_3 : decode cX2_hasBarBetween 3 = .ok (.aload_n 0, 1) := by decide +kernel
theorem dX2_hasBarBetween_4 : decode cX2_hasBarBetween 4 = .ok (.getfield 49, 3) := by decide +kernel
theorem dX2_hasBarBetween_7 : decode cX2_hasBarBetween 7 = .ok (.if_icmp .ge 51, 3) := by decide +kernel
theorem dX2_hasBarBetween_10 : decode cX2_hasBarBetween 10 = .ok (.aload_n 0, 1) := by decide +kernel
theorem dX2_hasBarBetween_11 : decode cX2_hasBarBetween 11 = .ok (.getfield 24, 3) := by decide +kernel
theorem dX2_hasBarBetween_14 : decode cX2_hasBarBetween 14 = .ok (.iload_n 3, 1) := by decide +kernel
theorem dX2_hasBarBetween_15 : decode cX2_hasBarBetween 15 = .ok (.iaload, 1) := by decide +kernel
theorem dX2_hasBarBetween_16 : decode cX2_hasBarBetween 16 = .ok (.iload_n 1, 1) := by decide +kernel
theorem dX2_hasBarBetween_17 : decode cX2_hasBarBetween 17 = .ok (.if_icmp .ne 13, 3) := by decide +kernel
theorem dX2_hasBarBetween_20 : decode cX2_hasBarBetween 20 = .ok (.aload_n 0, 1) := by decide +kernel
theorem dX2_hasBarBetween_21 : decode cX2_hasBarBetween 21 = .ok (.getfield 27, 3) := by decide +kernel
theorem dX2_hasBarBetween_24 : decode cX2_hasBarBetween 24 = .ok (.iload_n 3, 1) := by decide +kernel
theorem dX2_hasBarBetween_25 : decode cX2_hasBarBetween 25 = .ok (.iaload, 1) := by decide +kernel
theorem dX2_hasBarBetween_26 : decode cX2_hasBarBetween 26 = .ok (.iload_n 2, 1) := by decide +kernel
theorem dX2_hasBarBetween_27 : decode cX2_hasBarBetween 27 = .ok (.if_icmp .eq 23, 3) := by decide +kernel
theorem dX2_hasBarBetween_30 : decode cX2_hasBarBetween 30 = .ok (.aload_n 0, 1) := by decide +kernel
theorem dX2_hasBarBetween_31 : decode cX2_hasBarBetween 31 = .ok (.getfield 24, 3) := by decide +kernel
theorem dX2_hasBarBetween_34 : decode cX2_hasBarBetween 34 = .ok (.iload_n 3, 1) := by decide +kernel
theorem dX2_hasBarBetween_35 : decode cX2_hasBarBetween 35 = .ok (.iaload, 1) := by decide +kernel
theorem dX2_hasBarBetween_36 : decode cX2_hasBarBetween 36 = .ok (.iload_n 2, 1) := by decide +kernel
theorem dX2_hasBarBetween_37 : decode cX2_hasBarBetween 37 = .ok (.if_icmp .ne 15, 3) := by decide +kernel
theorem dX2_hasBarBetween_40 : decode cX2_hasBarBetween 40 = .ok (.aload_n 0, 1) := by decide +kernel
theorem dX2_hasBarBetween_41 : decode cX2_hasBarBetween 41 = .ok (.getfield 27, 3) := by decide +kernel
theorem dX2_hasBarBetween_44 : decode cX2_hasBarBetween 44 = .ok (.iload_n 3, 1) := by decide +kernel
theorem dX2_hasBarBetween_45 : decode cX2_hasBarBetween 45 = .ok (.iaload, 1) := by decide +kernel
theorem dX2_hasBarBetween_46 : decode cX2_hasBarBetween 46 = .ok (.iload_n 1, 1) := by decide +kernel
theorem dX2_hasBarBetween_47 : decode cX2_hasBarBetween 47 = .ok (.if_icmp .ne 5, 3) := by decide +kernel
theorem dX2_hasBarBetween_50 : decode cX2_hasBarBetween 50 = .ok (.iconst 1, 1) := by decide +kernel
theorem dX2_hasBarBetween_51 : decode cX2_hasBarBetween 51 = .ok (.ireturn, 1) := by decide +kernel
theorem dX2_hasBarBetween_52 : decode cX2_hasBarBetween 52 = .ok (.iinc 3 1, 3) := by decide +kernel
theorem dX2_hasBarBetween_55 : decode cX2_hasBarBetween 55 = .ok (.goto (-53), 3) := by decide +kernel
theorem dX2_hasBarBetween_58 : decode cX2_hasBarBetween 58 = .ok (.iconst 0, 1) := by decide +kernel
theorem dX2_hasBarBetween_59 : decode cX2_hasBarBetween 59 = .ok (.ireturn, 1) := by decide +kernel
theorem dX2_hasSize_0 : decode cX2_hasSize 0 = .ok (.iconst 0, 1) := by decide +kernel
theorem dX2_hasSize_1 : decode cX2_hasSize 1 = .ok (.istore_n 2, 1) := by decide +kernel
theorem dX2_hasSize_2 : decode cX2_hasSize 2 = .ok (.iload_n 2, 1) := by decide +kernel
theorem dX2_hasSize_3 : decode cX2_hasSize 3 = .ok (.aload_n 0, 1) := by decide +kernel
theorem dX2_hasSize_4 : decode cX2_hasSize 4 = .ok (.getfield 55, 3) := by decide +kernel
theorem dX2_hasSize_7 : decode cX2_hasSize 7 = .ok (.if_icmp .ge 21, 3) := by decide +kernel
theorem dX2_hasSize_10 : decode cX2_hasSize 10 = .ok (.aload_n 0, 1) := by decide +kernel
theorem dX2_hasSize_11 : decode cX2_hasSize 11 = .ok (.getfield 42, 3) := by decide +kernel
theorem dX2_hasSize_14 : decode cX2_hasSize 14 = .ok (.iload_n 2, 1) := by decide +kernel
theorem dX2_hasSize_15 : decode cX2_hasSize 15 = .ok (.iaload, 1) := by decide +kernel
theorem dX2_hasSize_16 : decode cX2_hasSize 16 = .ok (.iload_n 1, 1) := by decide +kernel
theorem dX2_hasSize_17 : decode cX2_hasSize 17 = .ok (.if_icmp .ne 5, 3) := by decide +kernel
theorem dX2_hasSize_20 : decode cX2_hasSize 20 = .ok (.iconst 1, 1) := by decide +kernel
theorem dX2_hasSize_21 : decode cX2_hasSize 21 = .ok (.ireturn, 1) := by decide +kernel
theorem dX2_hasSize_22 : decode cX2_hasSize 22 = .ok (.iinc 2 1, 3) := by decide +kernel
theorem dX2_hasSize_25 : decode cX2_hasSize 25 = .ok (.goto (-23), 3) := by decide +kernel
theorem dX2_hasSize_28 : decode cX2_hasSize 28 = .ok (.iconst 0, 1) := by decide +kernel
theorem dX2_hasSize_29 : decode cX2_hasSize 29 = .ok (.ireturn, 1) := by decide +kernel
theorem dX2_addJoint_0 : decode cX2_addJoint 0 = .ok (.aload_n 0, 1) := by decide +kernel
theorem dX2_addJoint_1 : decode cX2_addJoint 1 = .ok (.getfield 45, 3) := by decide +kernel
theorem dX2_addJoint_4 : decode cX2_addJoint 4 = .ok (.istore 4, 2) := by decide +kernel
theorem dX2_addJoint_6 : decode cX2_addJoint 6 = .ok (.aload_n 0, 1) := by decide +kernel
theorem dX2_addJoint_7 : decode cX2_addJoint 7 = .ok (.getfield 9, 3) := by decide +kernel
theorem dX2_addJoint_10 : decode cX2_addJoint 10 = .ok (.iload 4, 2) := by decide +kernel
theorem dX2_addJoint_12 : decode cX2_addJoint 12 = .ok (.iload_n 1, 1) := by decide +kernel
theorem dX2_addJoint_13 : decode cX2_addJoint 13 = .ok (.iastore, 1) := by decide +kernel
theorem dX2_addJoint_14 : decode cX2_addJoint 14 = .ok (.aload_n 0, 1) := by decide +kernel
theorem dX2_addJoint_15 : decode cX2_addJoint 15 = .ok (.getfield 15, 3) := by decide +kernel
theorem dX2_addJoint_18 : decode cX2_addJoint 18 = .ok (.iload 4, 2) := by decide +kernel
theorem dX2_addJoint_20 : decode cX2_addJoint 20 = .ok (.iload_n 2, 1) := by decide +kernel
theorem dX2_addJoint_21 : decode cX2_addJoint 21 = .ok (.iastore, 1) := by decide +kernel
theorem dX2_addJoint_22 : decode cX2_addJoint 22 = .ok (.aload_n 0, 1) := by decide +kernel
theorem dX2_addJoint_23 : decode cX2_addJoint 23 = .ok (.getfield 18, 3) := by decide +kernel
theorem dX2_addJoint_26 : decode cX2_addJoint 26 = .ok (.iload 4, 2) := by decide +kernel
theorem dX2_addJoint_28 : decode cX2_addJoint 28 = .ok (.iconst (-1), 1) := by decide +kernel
theorem dX2_addJoint_29 : decode cX2_addJoint 29 = .ok (.iastore, 1) := by decide +kernel
theorem dX2_addJoint_30 : decode cX2_addJoint 30 = .ok (.iload_n 3, 1) := by decide +kernel
theorem dX2_addJoint_31 : decode cX2_addJoint 31 = .ok (.ifCond .ne 24, 3) := by decide +kernel
theorem dX2_addJoint_34 : decode cX2_addJoint 34 = .ok (.aload_n 0, 1) := by decide +kernel
theorem dX2_addJoint_35 : decode cX2_addJoint 35 = .ok (.getfield 18, 3) := by decide +kernel
theorem dX2_addJoint_38 : decode cX2_addJoint 38 = .ok (.iload 4, 2) := by decide +kernel
theorem dX2_addJoint_40 : decode cX2_addJoint 40 = .ok (.aload_n 0, 1) := by decide +kernel
theorem dX2_addJoint_41 : decode cX2_addJoint 41 = .ok (.invokevirtual 58, 3) := by decide +kernel
theorem dX2_addJoint_44 : decode cX2_addJoint 44 = .ok (.iastore, 1) := by decide +kernel
theorem dX2_addJoint_45 : decode cX2_addJoint 45 = .ok (.aload_n 0, 1) := by decide +kernel
theorem dX2_addJoint_46 : decode cX2_addJoint 46 = .ok (.dup, 1) := by decide +kernel
theorem dX2_addJoint_47 : decode cX2_addJoint 47 = .ok (.getfield 52, 3) := by decide +kernel
theorem dX2_addJoint_50 : decode cX2_addJoint 50 = .ok (.iconst 1, 1) := by decide +kernel
theorem dX2_addJoint_51 : decode cX2_addJoint 51 = .ok (.iadd, 1) := by decide +kernel
theorem dX2_addJoint_52 : decode cX2_addJoint 52 = .ok (.putfield 52, 3) := by decide +kernel
theorem dX2_addJoint_55 : decode cX2_addJoint 55 = .ok (.aload_n 0, 1) := by decide +kernel
theorem dX2_addJoint_56 : decode cX2_addJoint 56 = .ok (.dup, 1) := by decide +kernel
theorem dX2_addJoint_57 : decode cX2_addJoint 57 = .ok (.getfield 45, 3) := by decide +kernel
theorem dX2_addJoint_60 : decode cX2_addJoint 60 = .ok (.iconst 1, 1) := by decide +kernel
theorem dX2_addJoint_61 : decode cX2_addJoint 61 = .ok (.iadd, 1) := by decide +kernel
theorem dX2_addJoint_62 : decode cX2_addJoint 62 = .ok (.putfield 45, 3) := by decide +kernel
theorem dX2_addJoint_65 : decode cX2_addJoint 65 = .ok (.iload 4, 2) := by decide +kernel
theorem dX2_addJoint_67 : decode cX2_addJoint 67 = .ok (.ireturn, 1) := by decide +kernel
theorem dX2_addBar_0 : decode cX2_addBar 0 = .ok (.aload_n 0, 1) := by decide +kernel
theorem dX2_addBar_1 : decode cX2_addBar 1 = .ok (.getfield 49, 3) := by decide +kernel
theorem dX2_addBar_4 : decode cX2_addBar 4 = .ok (.istore_n 3, 1) := by decide +kernel
theorem dX2_addBar_5 : decode cX2_addBar 5 = .ok (.aload_n 0, 1) := by decide +kernel
theorem dX2_addBar_6 : decode cX2_addBar 6 = .ok (.getfield 24, 3) := by decide +kernel
theorem dX2_addBar_9 : decode cX2_addBar 9 = .ok (.iload_n 3, 1) := by decide +kernel
theorem dX2_addBar_10 : decode cX2_addBar 10 = .ok (.iload_n 1, 1) := by decide +kernel
theorem dX2_addBar_11 : decode cX2_addBar 11 = .ok (.iastore, 1) := by decide +kernel
theorem dX2_addBar_12 : decode cX2_addBar 12 = .ok (.aload_n 0, 1) := by decide +kernel
theorem dX2_addBar_13 : decode cX2_addBar 13 = .ok (.getfield 27, 3) := by decide +kernel
theorem dX2_addBar_16 : decode cX2_addBar 16 = .ok (.iload_n 3, 1) := by decide +kernel
theorem dX2_addBar_17 : decode cX2_addBar 17 = .ok (.iload_n 2, 1) := by decide +kernel
theorem dX2_addBar_18 : decode cX2_addBar 18 = .ok (.iastore, 1) := by decide +kernel
theorem dX2_addBar_19 : decode cX2_addBar 19 = .ok (.aload_n 0, 1) := by decide +kernel
theorem dX2_addBar_20 : decode cX2_addBar 20 = .ok (.getfield 30, 3) := by decide +kernel
theorem dX2_addBar_23 : decode cX2_addBar 23 = .ok (.iload_n 3, 1) := by decide +kernel
theorem dX2_addBar_24 : decode cX2_addBar 24 = .ok (.aload_n 0, 1) := by decide +kernel
theorem dX2_addBar_25 : decode cX2_addBar 25 = .ok (.getfield 9, 3) := by decide +kernel
theorem dX2_addBar_28 : decode cX2_addBar 28 = .ok (.iload_n 2, 1) := by decide +kernel
theorem dX2_addBar_29 : decode cX2_addBar 29 = .ok (.iaload, 1) := by decide +kernel
theorem dX2_addBar_30 : decode cX2_addBar 30 = .ok (.aload_n 0, 1) := by decide +kernel
theorem dX2_addBar_31 : decode cX2_addBar 31 = .ok (.getfield 9, 3) := by decide +kernel
theorem dX2_addBar_34 : decode cX2_addBar 34 = .ok (.iload_n 1, 1) := by decide +kernel
theorem dX2_addBar_35 : decode cX2_addBar 35 = .ok (.iaload, 1) := by decide +kernel
theorem dX2_addBar_36 : decode cX2_addBar 36 = .ok (.isub, 1) := by decide +kernel
theorem dX2_addBar_37 : decode cX2_addBar 37 = .ok (.iastore, 1) := by decide +kernel
theorem dX2_addBar_38 : decode cX2_addBar 38 = .ok (.aload_n 0, 1) := by decide +kernel
theorem dX2_addBar_39 : decode cX2_addBar 39 = .ok (.getfield 33, 3) := by decide +kernel
theorem dX2_addBar_42 : decode cX2_addBar 42 = .ok (.iload_n 3, 1) := by decide +kernel
theorem dX2_addBar_43 : decode cX2_addBar 43 = .ok (.aload_n 0, 1) := by decide +kernel
theorem dX2_addBar_44 : decode cX2_addBar 44 = .ok (.getfield 15, 3) := by decide +kernel
theorem dX2_addBar_47 : decode cX2_addBar 47 = .ok (.iload_n 2, 1) := by decide +kernel
theorem dX2_addBar_48 : decode cX2_addBar 48 = .ok (.iaload, 1) := by decide +kernel
theorem dX2_addBar_49 : decode cX2_addBar 49 = .ok (.aload_n 0, 1) := by decide +kernel
theorem dX2_addBar_50 : decode cX2_addBar 50 = .ok (.getfield 15, 3) := by decide +kernel
theorem dX2_addBar_53 : decode cX2_addBar 53 = .ok (.iload_n 1, 1) := by decide +kernel
theorem dX2_addBar_54 : decode cX2_addBar 54 = .ok (.iaload, 1) := by decide +kernel
theorem dX2_addBar_55 : decode cX2_addBar 55 = .ok (.isub, 1) := by decide +kernel
theorem dX2_addBar_56 : decode cX2_addBar 56 = .ok (.iastore, 1) := by decide +kernel
theorem dX2_addBar_57 : decode cX2_addBar 57 = .ok (.aload_n 0, 1) := by decide +kernel
theorem dX2_addBar_58 : decode cX2_addBar 58 = .ok (.getfield 36, 3) := by decide +kernel
theorem dX2_addBar_61 : decode cX2_addBar 61 = .ok (.iload_n 3, 1) := by decide +kernel
theorem dX2_addBar_62 : decode cX2_addBar 62 = .ok (.aload_n 0, 1) := by decide +kernel
theorem dX2_addBar_63 : decode cX2_addBar 63 = .ok (.getfield 30, 3) := by decide +kernel
theorem dX2_addBar_66 : decode cX2_addBar 66 = .ok (.iload_n 3, 1) := by decide +kernel
theorem dX2_addBar_67 : decode cX2_addBar 67 = .ok (.iaload, 1) := by decide +kernel
theorem dX2_addBar_68 : decode cX2_addBar 68 = .ok (.aload_n 0, 1) := by decide +kernel
theorem dX2_addBar_69 : decode cX2_addBar 69 = .ok (.getfield 30, 3) := by decide +kernel
theorem dX2_addBar_72 : decode cX2_addBar 72 = .ok (.iload_n 3, 1) := by decide +kernel
theorem dX2_addBar_73 : decode cX2_addBar 73 = .ok (.iaload, 1) := by decide +kernel
theorem dX2_addBar_74 : decode cX2_addBar 74 = .ok (.imul, 1) := by decide +kernel
theorem dX2_addBar_75 : decode cX2_addBar 75 = .ok (.aload_n 0, 1) := by decide +kernel
theorem dX2_addBar_76 : decode cX2_addBar 76 = .ok (.getfield 33, 3) := by decide +kernel
theorem dX2_addBar_79 : decode cX2_addBar 79 = .ok (.iload_n 3, 1) := by decide +kernel
theorem dX2_addBar_80 : decode cX2_addBar 80 = .ok (.iaload, 1) := by decide +kernel
theorem dX2_addBar_81 : decode cX2_addBar 81 = .ok (.aload_n 0, 1) := by decide +kernel
theorem dX2_addBar_82 : decode cX2_addBar 82 = .ok (.getfield 33, 3) := by decide +kernel
theorem dX2_addBar_85 : decode cX2_addBar 85 = .ok (.iload_n 3, 1) := by decide +kernel
theorem dX2_addBar_86 : decode cX2_addBar 86 = .ok (.iaload, 1) := by decide +kernel
theorem dX2_addBar_87 : decode cX2_addBar 87 = .ok (.imul, 1) := by decide +kernel
theorem dX2_addBar_88 : decode cX2_addBar 88 = .ok (.iadd, 1) := by decide +kernel
theorem dX2_addBar_89 : decode cX2_addBar 89 = .ok (.iastore, 1) := by decide +kernel
theorem dX2_addBar_90 : decode cX2_addBar 90 = .ok (.aload_n 0, 1) := by decide +kernel
theorem dX2_addBar_91 : decode cX2_addBar 91 = .ok (.getfield 39, 3) := by decide +kernel
theorem dX2_addBar_94 : decode cX2_addBar 94 = .ok (.iload_n 3, 1) := by decide +kernel
theorem dX2_addBar_95 : decode cX2_addBar 95 = .ok (.iconst 0, 1) := by decide +kernel
theorem dX2_addBar_96 : decode cX2_addBar 96 = .ok (.iastore, 1) := by decide +kernel
theorem dX2_addBar_97 : decode cX2_addBar 97 = .ok (.iconst 0, 1) := by decide +kernel
theorem dX2_addBar_98 : decode cX2_addBar 98 = .ok (.istore 4, 2) := by decide +kernel
theorem dX2_addBar_100 : decode cX2_addBar 100 = .ok (.iload 4, 2) := by decide +kernel
theorem dX2_addBar_102 : decode cX2_addBar 102 = .ok (.iload_n 3, 1) := by decide +kernel
theorem dX2_addBar_103 : decode cX2_addBar 103 = .ok (.if_icmp .ge 36, 3) := by decide +kernel
theorem dX2_addBar_106 : decode cX2_addBar 106 = .ok (.aload_n 0, 1) := by decide +kernel
theorem dX2_addBar_107 : decode cX2_addBar 107 = .ok (.getfield 39, 3) := by decide +kernel
theorem dX2_addBar_110 : decode cX2_addBar 110 = .ok (.iload_n 3, 1) := by decide +kernel
theorem dX2_addBar_111 : decode cX2_addBar 111 = .ok (.dup2, 1) := by decide +kernel
theorem dX2_addBar_112 : decode cX2_addBar 112 = .ok (.iaload, 1) := by decide +kernel
theorem dX2_addBar_113 : decode cX2_addBar 113 = .ok (.aload_n 0, 1) := by decide +kernel
theorem dX2_addBar_114 : decode cX2_addBar 114 = .ok (.iload_n 3, 1) := by decide +kernel
theorem dX2_addBar_115 : decode cX2_addBar 115 = .ok (.iload 4, 2) := by decide +kernel
theorem dX2_addBar_117 : decode cX2_addBar 117 = .ok (.invokevirtual 62, 3) := by decide +kernel
theorem dX2_addBar_120 : decode cX2_addBar 120 = .ok (.ifCond .eq 10, 3) := by decide +kernel
theorem dX2_addBar_123 : decode cX2_addBar 123 = .ok (.iconst 1, 1) := by decide +kernel
theorem dX2_addBar_124 : decode cX2_addBar 124 = .ok (.iload 4, 2) := by decide +kernel
theorem dX2_addBar_126 : decode cX2_addBar 126 = .ok (.ishl, 1) := by decide +kernel
theorem dX2_addBar_127 : decode cX2_addBar 127 = .ok (.goto 4, 3) := by decide +kernel
theorem dX2_addBar_130 : decode cX2_addBar 130 = .ok (.iconst 0, 1) := by decide +kernel
theorem dX2_addBar_131 : decode cX2_addBar 131 = .ok (.ior, 1) := by decide +kernel
theorem dX2_addBar_132 : decode cX2_addBar 132 = .ok (.iastore, 1) := by decide +kernel
theorem dX2_addBar_133 : decode cX2_addBar 133 = .ok (.iinc 4 1, 3) := by decide +kernel
theorem dX2_addBar_136 : decode cX2_addBar 136 = .ok (.goto (-36), 3) := by decide +kernel
theorem dX2_addBar_139 : decode cX2_addBar 139 = .ok (.aload_n 0, 1) := by decide +kernel
theorem dX2_addBar_140 : decode cX2_addBar 140 = .ok (.dup, 1) := by decide +kernel
theorem dX2_addBar_141 : decode cX2_addBar 141 = .ok (.getfield 49, 3) := by decide +kernel
theorem dX2_addBar_144 : decode cX2_addBar 144 = .ok (.iconst 1, 1) := by decide +kernel
theorem dX2_addBar_145 : decode cX2_addBar 145 = .ok (.iadd, 1) := by decide +kernel
theorem dX2_addBar_146 : decode cX2_addBar 146 = .ok (.putfield 49, 3) := by decide +kernel
theorem dX2_addBar_149 : decode cX2_addBar 149 = .ok (.iload_n 3, 1) := by decide +kernel
theorem dX2_addBar_150 : decode cX2_addBar 150 = .ok (.ireturn, 1) := by decide +kernel
theorem dX2_addSize_0 : decode cX2_addSize 0 = .ok (.aload_n 0, 1) := by decide +kernel
theorem dX2_addSize_1 : decode cX2_addSize 1 = .ok (.getfield 42, 3) := by decide +kernel
theorem dX2_addSize_4 : decode cX2_addSize 4 = .ok (.aload_n 0, 1) := by decide +kernel
theorem dX2_addSize_5 : decode cX2_addSize 5 = .ok (.getfield 55, 3) := by decide +kernel
theorem dX2_addSize_8 : decode cX2_addSize 8 = .ok (.iload_n 1, 1) := by decide +kernel
theorem dX2_addSize_9 : decode cX2_addSize 9 = .ok (.iastore, 1) := by decide +kernel
theorem dX2_addSize_10 : decode cX2_addSize 10 = .ok (.aload_n 0, 1) := by decide +kernel
theorem dX2_addSize_11 : decode cX2_addSize 11 = .ok (.dup, 1) := by decide +kernel
theorem dX2_addSize_12 : decode cX2_addSize 12 = .ok (.getfield 55, 3) := by decide +kernel
theorem dX2_addSize_15 : decode cX2_addSize 15 = .ok (.iconst 1, 1) := by decide +kernel
theorem dX2_addSize_16 : decode cX2_addSize 16 = .ok (.iadd, 1) := by decide +kernel
theorem dX2_addSize_17 : decode cX2_addSize 17 = .ok (.putfield 55, 3) := by decide +kernel
theorem dX2_addSize_20 : decode cX2_addSize 20 = .ok (.aload_n 0, 1) := by decide +kernel
theorem dX2_addSize_21 : decode cX2_addSize 21 = .ok (.getfield 55, 3) := by decide +kernel
theorem dX2_addSize_24 : decode cX2_addSize 24 = .ok (.ireturn, 1) := by decide +kernel
theorem dX2_barsCross_0 : decode cX2_barsCross 0 = .ok (.aload_n 0, 1) := by decide +kernel
theorem dX2_barsCross_1 : decode cX2_barsCross 1 = .ok (.getfield 39, 3) := by decide +kernel
theorem dX2_barsCross_4 : decode cX2_barsCross 4 = .ok (.iload_n 1, 1) := by decide +kernel
theorem dX2_barsCross_5 : decode cX2_barsCross 5 = .ok (.iload_n 2, 1) := by decide +kernel
theorem dX2_barsCross_6 : decode cX2_barsCross 6 = .ok (.invokestatic 66, 3) := by decide +kernel
theorem dX2_barsCross_9 : decode cX2_barsCross 9 = .ok (.iaload, 1) := by decide +kernel
theorem dX2_barsCross_10 : decode cX2_barsCross 10 = .ok (.iload_n 1, 1) := by decide +kernel
theorem dX2_barsCross_11 : decode cX2_barsCross 11 = .ok (.iload_n 2, 1) := by decide +kernel
theorem dX2_barsCross_12 : decode cX2_barsCross 12 = .ok (.invokestatic 72, 3) := by decide +kernel
theorem dX2_barsCross_15 : decode cX2_barsCross 15 = .ok (.ishr, 1) := by decide +kernel
theorem dX2_barsCross_16 : decode cX2_barsCross 16 = .ok (.iconst 1, 1) := by decide +kernel
theorem dX2_barsCross_17 : decode cX2_barsCross 17 = .ok (.iand, 1) := by decide +kernel
theorem dX2_barsCross_18 : decode cX2_barsCross 18 = .ok (.iconst 1, 1) := by decide +kernel
theorem dX2_barsCross_19 : decode cX2_barsCross 19 = .ok (.if_icmp .ne 7, 3) := by decide +kernel
theorem dX2_barsCross_22 : decode cX2_barsCross 22 = .ok (.iconst 1, 1) := by decide +kernel
theorem dX2_barsCross_23 : decode cX2_barsCross 23 = .ok (.goto 4, 3) := by decide +kernel
theorem dX2_barsCross_26 : decode cX2_barsCross 26 = .ok (.iconst 0, 1) := by decide +kernel
theorem dX2_barsCross_27 : decode cX2_barsCross 27 = .ok (.ireturn, 1) := by decide +kernel
theorem dX2_meet_0 : decode cX2_meet 0 = .ok (.aload_n 0, 1) := by decide +kernel
theorem dX2_meet_1 : decode cX2_meet 1 = .ok (.getfield 24, 3) := by decide +kernel
theorem dX2_meet_4 : decode cX2_meet 4 = .ok (.iload_n 1, 1) := by decide +kernel
theorem dX2_meet_5 : decode cX2_meet 5 = .ok (.iaload, 1) := by decide +kernel
theorem dX2_meet_6 : decode cX2_meet 6 = .ok (.istore_n 3, 1) := by decide +kernel
theorem dX2_meet_7 : decode cX2_meet 7 = .ok (.aload_n 0, 1) := by decide +kernel
theorem dX2_meet_8 : decode cX2_meet 8 = .ok (.getfield 27, 3) := by decide +kernel
theorem dX2_meet_11 : decode cX2_meet 11 = .ok (.iload_n 1, 1) := by decide +kernel
theorem dX2_meet_12 : decode cX2_meet 12 = .ok (.iaload, 1) := by decide +kernel
theorem dX2_meet_13 : decode cX2_meet 13 = .ok (.istore 4, 2) := by decide +kernel
theorem dX2_meet_15 : decode cX2_meet 15 = .ok (.aload_n 0, 1) := by decide +kernel
theorem dX2_meet_16 : decode cX2_meet 16 = .ok (.getfield 24, 3) := by decide +kernel
theorem dX2_meet_19 : decode cX2_meet 19 = .ok (.iload_n 2, 1) := by decide +kernel
theorem dX2_meet_20 : decode cX2_meet 20 = .ok (.iaload, 1) := by decide +kernel
theorem dX2_meet_21 : decode cX2_meet 21 = .ok (.istore 5, 2) := by decide +kernel
theorem dX2_meet_23 : decode cX2_meet 23 = .ok (.aload_n 0, 1) := by decide +kernel
theorem dX2_meet_24 : decode cX2_meet 24 = .ok (.getfield 27, 3) := by decide +kernel
theorem dX2_meet_27 : decode cX2_meet 27 = .ok (.iload_n 2, 1) := by decide +kernel
theorem dX2_meet_28 : decode cX2_meet 28 = .ok (.iaload, 1) := by decide +kernel
theorem dX2_meet_29 : decode cX2_meet 29 = .ok (.istore 6, 2) := by decide +kernel
theorem dX2_meet_31 : decode cX2_meet 31 = .ok (.iload_n 3, 1) := by decide +kernel
theorem dX2_meet_32 : decode cX2_meet 32 = .ok (.iload 5, 2) := by decide +kernel
theorem dX2_meet_34 : decode cX2_meet 34 = .ok (.if_icmp .ne 13, 3) := by decide +kernel
theorem dX2_meet_37 : decode cX2_meet 37 = .ok (.aload_n 0, 1) := by decide +kernel
theorem dX2_meet_38 : decode cX2_meet 38 = .ok (.iload_n 3, 1) := by decide +kernel
theorem dX2_meet_39 : decode cX2_meet 39 = .ok (.iload 4, 2) := by decide +kernel
theorem dX2_meet_41 : decode cX2_meet 41 = .ok (.iload 6, 2) := by decide +kernel
theorem dX2_meet_43 : decode cX2_meet 43 = .ok (.invokevirtual 75, 3) := by decide +kernel
theorem dX2_meet_46 : decode cX2_meet 46 = .ok (.ireturn, 1) := by decide +kernel
theorem dX2_meet_47 : decode cX2_meet 47 = .ok (.iload_n 3, 1) := by decide +kernel
theorem dX2_meet_48 : decode cX2_meet 48 = .ok (.iload 6, 2) := by decide +kernel
theorem dX2_meet_50 : decode cX2_meet 50 = .ok (.if_icmp .ne 13, 3) := by decide +kernel
theorem dX2_meet_53 : decode cX2_meet 53 = .ok (.aload_n 0, 1) := by decide +kernel
theorem dX2_meet_54 : decode cX2_meet 54 = .ok (.iload_n 3, 1) := by decide +kernel
theorem dX2_meet_55 : decode cX2_meet 55 = .ok (.iload 4, 2) := by decide +kernel
theorem dX2_meet_57 : decode cX2_meet 57 = .ok (.iload 5, 2) := by decide +kernel
theorem dX2_meet_59 : decode cX2_meet 59 = .ok (.invokevirtual 75, 3) := by decide +kernel
theorem dX2_meet_62 : decode cX2_meet 62 = .ok (.ireturn, 1) := by decide +kernel
theorem dX2_meet_63 : decode cX2_meet 63 = .ok (.iload 4, 2) := by decide +kernel
theorem dX2_meet_65 : decode cX2_meet 65 = .ok (.iload 5, 2) := by decide +kernel
theorem dX2_meet_67 : decode cX2_meet 67 = .ok (.if_icmp .ne 13, 3) := by decide +kernel
theorem dX2_meet_70 : decode cX2_meet 70 = .ok (.aload_n 0, 1) := by decide +kernel
theorem dX2_meet_71 : decode cX2_meet 71 = .ok (.iload 4, 2) := by decide +kernel
theorem dX2_meet_73 : decode cX2_meet 73 = .ok (.iload_n 3, 1) := by decide +kernel
theorem dX2_meet_74 : decode cX2_meet 74 = .ok (.iload 6, 2) := by decide +kernel
theorem dX2_meet_76 : decode cX2_meet 76 = .ok (.invokevirtual 75, 3) := by decide +kernel
theorem dX2_meet_79 : decode cX2_meet 79 = .ok (.ireturn, 1) := by decide +kernel
theorem dX2_meet_80 : decode cX2_meet 80 = .ok (.iload 4, 2) := by decide +kernel
theorem dX2_meet_82 : decode cX2_meet 82 = .ok (.iload 6, 2) := by decide +kernel
theorem dX2_meet_84 : decode cX2_meet 84 = .ok (.if_icmp .ne 13, 3) := by decide +kernel
theorem dX2_meet_87 : decode cX2_meet 87 = .ok (.aload_n 0, 1) := by decide +kernel
theorem dX2_meet_88 : decode cX2_meet 88 = .ok (.iload 4, 2) := by decide +kernel
theorem dX2_meet_90 : decode cX2_meet 90 = .ok (.iload_n 3, 1) := by decide +kernel
theorem dX2_meet_91 : decode cX2_meet 91 = .ok (.iload 5, 2) := by decide +kernel
theorem dX2_meet_93 : decode cX2_meet 93 = .ok (.invokevirtual 75, 3) := by decide +kernel
theorem dX2_meet_96 : decode cX2_meet 96 = .ok (.ireturn, 1) := by decide +kernel
theorem dX2_meet_97 : decode cX2_meet 97 = .ok (.aload_n 0, 1) := by decide +kernel
theorem dX2_meet_98 : decode cX2_meet 98 = .ok (.iload_n 3, 1) := by decide +kernel
theorem dX2_meet_99 : decode cX2_meet 99 = .ok (.iload 4, 2) := by decide +kernel
theorem dX2_meet_101 : decode cX2_meet 101 = .ok (.iload 5, 2) := by decide +kernel
theorem dX2_meet_103 : decode cX2_meet 103 = .ok (.iload 6, 2) := by decide +kernel
theorem dX2_meet_105 : decode cX2_meet 105 = .ok (.invokevirtual 79, 3) := by decide +kernel
theorem dX2_meet_108 : decode cX2_meet 108 = .ok (.ireturn, 1) := by decide +kernel
theorem dX2_sameWay_0 : decode cX2_sameWay 0 = .ok (.aload_n 0, 1) := by decide +kernel
theorem dX2_sameWay_1 : decode cX2_sameWay 1 = .ok (.getfield 9, 3) := by decide +kernel
theorem dX2_sameWay_4 : decode cX2_sameWay 4 = .ok (.iload_n 2, 1) := by decide +kernel
theorem dX2_sameWay_5 : decode cX2_sameWay 5 = .ok (.iaload, 1) := by decide +kernel
theorem dX2_sameWay_6 : decode cX2_sameWay 6 = .ok (.aload_n 0, 1) := by decide +kernel
theorem dX2_sameWay_7 : decode cX2_sameWay 7 = .ok (.getfield 9, 3) := by decide +kernel
theorem dX2_sameWay_10 : decode cX2_sameWay 10 = .ok (.iload_n 1, 1) := by decide +kernel
theorem dX2_sameWay_11 : decode cX2_sameWay 11 = .ok (.iaload, 1) := by decide +kernel
theorem dX2_sameWay_12 : decode cX2_sameWay 12 = .ok (.isub, 1) := by decide +kernel
theorem dX2_sameWay_13 : decode cX2_sameWay 13 = .ok (.aload_n 0, 1) := by decide +kernel
theorem dX2_sameWay_14 : decode cX2_sameWay 14 = .ok (.getfield 9, 3) := by decide +kernel
theorem dX2_sameWay_17 : decode cX2_sameWay 17 = .ok (.iload_n 3, 1) := by decide +kernel
theorem dX2_sameWay_18 : decode cX2_sameWay 18 = .ok (.iaload, 1) := by decide +kernel
theorem dX2_sameWay_19 : decode cX2_sameWay 19 = .ok (.aload_n 0, 1) := by decide +kernel
theorem dX2_sameWay_20 : decode cX2_sameWay 20 = .ok (.getfield 9, 3) := by decide +kernel
theorem dX2_sameWay_23 : decode cX2_sameWay 23 = .ok (.iload_n 1, 1) := by decide +kernel
theorem dX2_sameWay_24 : decode cX2_sameWay 24 = .ok (.iaload, 1) := by decide +kernel
theorem dX2_sameWay_25 : decode cX2_sameWay 25 = .ok (.isub, 1) := by decide +kernel
theorem dX2_sameWay_26 : decode cX2_sameWay 26 = .ok (.imul, 1) := by decide +kernel
theorem dX2_sameWay_27 : decode cX2_sameWay 27 = .ok (.aload_n 0, 1) := by decide +kernel
theorem dX2_sameWay_28 : decode cX2_sameWay 28 = .ok (.getfield 15, 3) := by decide +kernel
theorem dX2_sameWay_31 : decode cX2_sameWay 31 = .ok (.iload_n 2, 1) := by decide +kernel
theorem dX2_sameWay_32 : decode cX2_sameWay 32 = .ok (.iaload, 1) := by decide +kernel
theorem dX2_sameWay_33 : decode cX2_sameWay 33 = .ok (.aload_n 0, 1) := by decide +kernel
theorem dX2_sameWay_34 : decode cX2_sameWay 34 = .ok (.getfield 15, 3) := by decide +kernel
theorem dX2_sameWay_37 : decode cX2_sameWay 37 = .ok (.iload_n 1, 1) := by decide +kernel
theorem dX2_sameWay_38 : decode cX2_sameWay 38 = .ok (.iaload, 1) := by decide +kernel
theorem dX2_sameWay_39 : decode cX2_sameWay 39 = .ok (.isub, 1) := by decide +kernel
theorem dX2_sameWay_40 : decode cX2_sameWay 40 = .ok (.aload_n 0, 1) := by decide +kernel
theorem dX2_sameWay_41 : decode cX2_sameWay 41 = .ok (.getfield 15, 3) := by decide +kernel
theorem dX2_sameWay_44 : decode cX2_sameWay 44 = .ok (.iload_n 3, 1) := by decide +kernel
theorem dX2_sameWay_45 : decode cX2_sameWay 45 = .ok (.iaload, 1) := by decide +kernel
theorem dX2_sameWay_46 : decode cX2_sameWay 46 = .ok (.aload_n 0, 1) := by decide +kernel
theorem dX2_sameWay_47 : decode cX2_sameWay 47 = .ok (.getfield 15, 3) := by decide +kernel
theorem dX2_sameWay_50 : decode cX2_sameWay 50 = .ok (.iload_n 1, 1) := by decide +kernel
theorem dX2_sameWay_51 : decode cX2_sameWay 51 = .ok (.iaload, 1) := by decide +kernel
theorem dX2_sameWay_52 : decode cX2_sameWay 52 = .ok (.isub, 1) := by decide +kernel
theorem dX2_sameWay_53 : decode cX2_sameWay 53 = .ok (.imul, 1) := by decide +kernel
theorem dX2_sameWay_54 : decode cX2_sameWay 54 = .ok (.iadd, 1) := by decide +kernel
theorem dX2_sameWay_55 : decode cX2_sameWay 55 = .ok (.istore 4, 2) := by decide +kernel
theorem dX2_sameWay_57 : decode cX2_sameWay 57 = .ok (.aload_n 0, 1) := by decide +kernel
theorem dX2_sameWay_58 : decode cX2_sameWay 58 = .ok (.iload_n 1, 1) := by decide +kernel
theorem dX2_sameWay_59 : decode cX2_sameWay 59 = .ok (.iload_n 2, 1) := by decide +kernel
theorem dX2_sameWay_60 : decode cX2_sameWay 60 = .ok (.iload_n 3, 1) := by decide +kernel
theorem dX2_sameWay_61 : decode cX2_sameWay 61 = .ok (.invokevirtual 83, 3) := by decide +kernel
theorem dX2_sameWay_64 : decode cX2_sameWay 64 = .ok (.ifCond .ne 12, 3) := by decide +kernel
theorem dX2_sameWay_67 : decode cX2_sameWay 67 = .ok (.iload 4, 2) := by decide +kernel
theorem dX2_sameWay_69 : decode cX2_sameWay 69 = .ok (.ifCond .le 7, 3) := by decide +kernel
theorem dX2_sameWay_72 : decode cX2_sameWay 72 = .ok (.iconst 1, 1) := by decide +kernel
theorem dX2_sameWay_73 : decode cX2_sameWay 73 = .ok (.goto 4, 3) := by decide +kernel
theorem dX2_sameWay_76 : decode cX2_sameWay 76 = .ok (.iconst 0, 1) := by decide +kernel
theorem dX2_sameWay_77 : decode cX2_sameWay 77 = .ok (.ireturn, 1) := by decide +kernel
theorem dX2_touch_0 : decode cX2_touch 0 = .ok (.aload_n 0, 1) := by decide +kernel
theorem dX2_touch_1 : decode cX2_touch 1 = .ok (.iload_n 1, 1) := by decide +kernel
theorem dX2_touch_2 : decode cX2_touch 2 = .ok (.iload_n 2, 1) := by decide +kernel
theorem dX2_touch_3 : decode cX2_touch 3 = .ok (.iload_n 3, 1) := by decide +kernel
theorem dX2_touch_4 : decode cX2_touch 4 = .ok (.invokevirtual 87, 3) := by decide +kernel
theorem dX2_touch_7 : decode cX2_touch 7 = .ok (.ifCond .ne 36, 3) := by decide +kernel
theorem dX2_touch_10 : decode cX2_touch 10 = .ok (.aload_n 0, 1) := by decide +kernel
theorem dX2_touch_11 : decode cX2_touch 11 = .ok (.iload_n 1, 1) := by decide +kernel
theorem dX2_touch_12 : decode cX2_touch 12 = .ok (.iload_n 2, 1) := by decide +kernel
theorem dX2_touch_13 : decode cX2_touch 13 = .ok (.iload 4, 2) := by decide +kernel
theorem dX2_touch_15 : decode cX2_touch 15 = .ok (.invokevirtual 87, 3) := by decide +kernel
theorem dX2_touch_18 : decode cX2_touch 18 = .ok (.ifCond .ne 25, 3) := by decide +kernel
theorem dX2_touch_21 : decode cX2_touch 21 = .ok (.aload_n 0, 1) := by decide +kernel
theorem dX2_touch_22 : decode cX2_touch 22 = .ok (.iload_n 3, 1) := by decide +kernel
theorem dX2_touch_23 : decode cX2_touch 23 = .ok (.iload 4, 2) := by decide +kernel
theorem dX2_touch_25 : decode cX2_touch 25 = .ok (.iload_n 1, 1) := by decide +kernel
theorem dX2_touch_26 : decode cX2_touch 26 = .ok (.invokevirtual 87, 3) := by decide +kernel
theorem dX2_touch_29 : decode cX2_touch 29 = .ok (.ifCond .ne 14, 3) := by decide +kernel
theorem dX2_touch_32 : decode cX2_touch 32 = .ok (.aload_n 0, 1) := by decide +kernel
theorem dX2_touch_33 : decode cX2_touch 33 = .ok (.iload_n 3, 1) := by decide +kernel
theorem dX2_touch_34 : decode cX2_touch 34 = .ok (.iload 4, 2) := by decide +kernel
theorem dX2_touch_36 : decode cX2_touch 36 = .ok (.iload_n 2, 1) := by decide +kernel
theorem dX2_touch_37 : decode cX2_touch 37 = .ok (.invokevirtual 87, 3) := by decide +kernel
theorem dX2_touch_40 : decode cX2_touch 40 = .ok (.ifCond .eq 5, 3) := by decide +kernel
theorem dX2_touch_43 : decode cX2_touch 43 = .ok (.iconst 1, 1) := by decide +kernel
theorem dX2_touch_44 : decode cX2_touch 44 = .ok (.ireturn, 1) := by decide +kernel
theorem dX2_touch_45 : decode cX2_touch 45 = .ok (.aload_n 0, 1) := by decide +kernel
theorem dX2_touch_46 : decode cX2_touch 46 = .ok (.iload_n 1, 1) := by decide +kernel
theorem dX2_touch_47 : decode cX2_touch 47 = .ok (.iload_n 2, 1) := by decide +kernel
theorem dX2_touch_48 : decode cX2_touch 48 = .ok (.iload_n 3, 1) := by decide +kernel
theorem dX2_touch_49 : decode cX2_touch 49 = .ok (.invokevirtual 83, 3) := by decide +kernel
theorem dX2_touch_52 : decode cX2_touch 52 = .ok (.aload_n 0, 1) := by decide +kernel
theorem dX2_touch_53 : decode cX2_touch 53 = .ok (.iload_n 1, 1) := by decide +kernel
theorem dX2_touch_54 : decode cX2_touch 54 = .ok (.iload_n 2, 1) := by decide +kernel
theorem dX2_touch_55 : decode cX2_touch 55 = .ok (.iload 4, 2) := by decide +kernel
theorem dX2_touch_57 : decode cX2_touch 57 = .ok (.invokevirtual 83, 3) := by decide +kernel
theorem dX2_touch_60 : decode cX2_touch 60 = .ok (.imul, 1) := by decide +kernel
theorem dX2_touch_61 : decode cX2_touch 61 = .ok (.ifCond .ge 27, 3) := by decide +kernel
theorem dX2_touch_64 : decode cX2_touch 64 = .ok (.aload_n 0, 1) := by decide +kernel
theorem dX2_touch_65 : decode cX2_touch 65 = .ok (.iload_n 3, 1) := by decide +kernel
theorem dX2_touch_66 : decode cX2_touch 66 = .ok (.iload 4, 2) := by decide +kernel
theorem dX2_touch_68 : decode cX2_touch 68 = .ok (.iload_n 1, 1) := by decide +kernel
theorem dX2_touch_69 : decode cX2_touch 69 = .ok (.invokevirtual 83, 3) := by decide +kernel
theorem dX2_touch_72 : decode cX2_touch 72 = .ok (.aload_n 0, 1) := by decide +kernel
theorem dX2_touch_73 : decode cX2_touch 73 = .ok (.iload_n 3, 1) := by decide +kernel
theorem dX2_touch_74 : decode cX2_touch 74 = .ok (.iload 4, 2) := by decide +kernel
theorem dX2_touch_76 : decode cX2_touch 76 = .ok (.iload_n 2, 1) := by decide +kernel
theorem dX2_touch_77 : decode cX2_touch 77 = .ok (.invokevirtual 83, 3) := by decide +kernel
theorem dX2_touch_80 : decode cX2_touch 80 = .ok (.imul, 1) := by decide +kernel
theorem dX2_touch_81 : decode cX2_touch 81 = .ok (.ifCond .ge 7, 3) := by decide +kernel
theorem dX2_touch_84 : decode cX2_touch 84 = .ok (.iconst 1, 1) := by decide +kernel
theorem dX2_touch_85 : decode cX2_touch 85 = .ok (.goto 4, 3) := by decide +kernel
theorem dX2_touch_88 : decode cX2_touch 88 = .ok (.iconst 0, 1) := by decide +kernel
theorem dX2_touch_89 : decode cX2_touch 89 = .ok (.ireturn, 1) := by decide +kernel
theorem dX2_isOn_0 : decode cX2_isOn 0 = .ok (.aload_n 0, 1) := by decide +kernel
theorem dX2_isOn_1 : decode cX2_isOn 1 = .ok (.iload_n 1, 1) := by decide +kernel
theorem dX2_isOn_2 : decode cX2_isOn 2 = .ok (.iload_n 2, 1) := by decide +kernel
theorem dX2_isOn_3 : decode cX2_isOn 3 = .ok (.iload_n 3, 1) := by decide +kernel
theorem dX2_isOn_4 : decode cX2_isOn 4 = .ok (.invokevirtual 83, 3) := by decide +kernel
theorem dX2_isOn_7 : decode cX2_isOn 7 = .ok (.ifCond .ne 103, 3) := by decide +kernel
theorem dX2_isOn_10 : decode cX2_isOn 10 = .ok (.aload_n 0, 1) := by decide +kernel
theorem dX2_isOn_11 : decode cX2_isOn 11 = .ok (.getfield 9, 3) := by decide +kernel
theorem dX2_isOn_14 : decode cX2_isOn 14 = .ok (.iload_n 3, 1) := by decide +kernel
theorem dX2_isOn_15 : decode cX2_isOn 15 = .ok (.iaload, 1) := by decide +kernel
theorem dX2_isOn_16 : decode cX2_isOn 16 = .ok (.aload_n 0, 1) := by decide +kernel
theorem dX2_isOn_17 : decode cX2_isOn 17 = .ok (.getfield 9, 3) := by decide +kernel
theorem dX2_isOn_20 : decode cX2_isOn 20 = .ok (.iload_n 1, 1) := by decide +kernel
theorem dX2_isOn_21 : decode cX2_isOn 21 = .ok (.iaload, 1) := by decide +kernel
theorem dX2_isOn_22 : decode cX2_isOn 22 = .ok (.aload_n 0, 1) := by decide +kernel
theorem dX2_isOn_23 : decode cX2_isOn 23 = .ok (.getfield 9, 3) := by decide +kernel
theorem dX2_isOn_26 : decode cX2_isOn 26 = .ok (.iload_n 2, 1) := by decide +kernel
theorem dX2_isOn_27 : decode cX2_isOn 27 = .ok (.iaload, 1) := by decide +kernel
theorem dX2_isOn_28 : decode cX2_isOn 28 = .ok (.invokestatic 72, 3) := by decide +kernel
theorem dX2_isOn_31 : decode cX2_isOn 31 = .ok (.if_icmp .lt 79, 3) := by decide +kernel
theorem dX2_isOn_34 : decode cX2_isOn 34 = .ok (.aload_n 0, 1) := by decide +kernel
theorem dX2_isOn_35 : decode cX2_isOn 35 = .ok (.getfield 9, 3) := by decide +kernel
theorem dX2_isOn_38 : decode cX2_isOn 38 = .ok (.iload_n 3, 1) := by decide +kernel
theorem dX2_isOn_39 : decode cX2_isOn 39 = .ok (.iaload, 1) := by decide +kernel
theorem dX2_isOn_40 : decode cX2_isOn 40 = .ok (.aload_n 0, 1) := by decide +kernel
theorem dX2_isOn_41 : decode cX2_isOn 41 = .ok (.getfield 9, 3) := by decide +kernel
theorem dX2_isOn_44 : decode cX2_isOn 44 = .ok (.iload_n 1, 1) := by decide +kernel
theorem dX2_isOn_45 : decode cX2_isOn 45 = .ok (.iaload, 1) := by decide +kernel
theorem dX2_isOn_46 : decode cX2_isOn 46 = .ok (.aload_n 0, 1) := by decide +kernel
theorem dX2_isOn_47 : decode cX2_isOn 47 = .ok (.getfield 9, 3) := by decide +kernel
theorem dX2_isOn_50 : decode cX2_isOn 50 = .ok (.iload_n 2, 1) := by decide +kernel
theorem dX2_isOn_51 : decode cX2_isOn 51 = .ok (.iaload, 1) := by decide +kernel
theorem dX2_isOn_52 : decode cX2_isOn 52 = .ok (.invokestatic 66, 3) := by decide +kernel
theorem dX2_isOn_55 : decode cX2_isOn 55 = .ok (.if_icmp .gt 55, 3) := by decide +kernel
theorem dX2_isOn_58 : decode cX2_isOn 58 = .ok (.aload_n 0, 1) := by decide +kernel
theorem dX2_isOn_59 : decode cX2_isOn 59 = .ok (.getfield 15, 3) := by decide +kernel
theorem dX2_isOn_62 : decode cX2_isOn 62 = .ok (.iload_n 3, 1) := by decide +kernel
theorem dX2_isOn_63 : decode cX2_isOn 63 = .ok (.iaload, 1) := by decide +kernel
theorem dX2_isOn_64 : decode cX2_isOn 64 = .ok (.aload_n 0, 1) := by decide +kernel
theorem dX2_isOn_65 : decode cX2_isOn 65 = .ok (.getfield 15, 3) := by decide +kernel
theorem dX2_isOn_68 : decode cX2_isOn 68 = .ok (.iload_n 1, 1) := by decide +kernel
theorem dX2_isOn_69 : decode cX2_isOn 69 = .ok (.iaload, 1) := by decide +kernel
theorem dX2_isOn_70 : decode cX2_isOn 70 = .ok (.aload_n 0, 1) := by decide +kernel
theorem dX2_isOn_71 : decode cX2_isOn 71 = .ok (.getfield 15, 3) := by decide +kernel
theorem dX2_isOn_74 : decode cX2_isOn 74 = .ok (.iload_n 2, 1) := by decide +kernel
theorem dX2_isOn_75 : decode cX2_isOn 75 = .ok (.iaload, 1) := by decide +kernel
theorem dX2_isOn_76 : decode cX2_isOn 76 = .ok (.invokestatic 72, 3) := by decide +kernel
theorem dX2_isOn_79 : decode cX2_isOn 79 = .ok (.if_icmp .lt 31, 3) := by decide +kernel
theorem dX2_isOn_82 : decode cX2_isOn 82 = .ok (.aload_n 0, 1) := by decide +kernel
theorem dX2_isOn_83 : decode cX2_isOn 83 = .ok (.getfield 15, 3) := by decide +kernel
theorem dX2_isOn_86 : decode cX2_isOn 86 = .ok (.iload_n 3, 1) := by decide +kernel
theorem dX2_isOn_87 : decode cX2_isOn 87 = .ok (.iaload, 1) := by decide +kernel
theorem dX2_isOn_88 : decode cX2_isOn 88 = .ok (.aload_n 0, 1) := by decide +kernel
theorem dX2_isOn_89 : decode cX2_isOn 89 = .ok (.getfield 15, 3) := by decide +kernel
theorem dX2_isOn_92 : decode cX2_isOn 92 = .ok (.iload_n 1, 1) := by decide +kernel
theorem dX2_isOn_93 : decode cX2_isOn 93 = .ok (.iaload, 1) := by decide +kernel
theorem dX2_isOn_94 : decode cX2_isOn 94 = .ok (.aload_n 0, 1) := by decide +kernel
theorem dX2_isOn_95 : decode cX2_isOn 95 = .ok (.getfield 15, 3) := by decide +kernel
theorem dX2_isOn_98 : decode cX2_isOn 98 = .ok (.iload_n 2, 1) := by decide +kernel
theorem dX2_isOn_99 : decode cX2_isOn 99 = .ok (.iaload, 1) := by decide +kernel
theorem dX2_isOn_100 : decode cX2_isOn 100 = .ok (.invokestatic 66, 3) := by decide +kernel
theorem dX2_isOn_103 : decode cX2_isOn 103 = .ok (.if_icmp .gt 7, 3) := by decide +kernel
theorem dX2_isOn_106 : decode cX2_isOn 106 = .ok (.iconst 1, 1) := by decide +kernel
theorem dX2_isOn_107 : decode cX2_isOn 107 = .ok (.goto 4, 3) := by decide +kernel
theorem dX2_isOn_110 : decode cX2_isOn 110 = .ok (.iconst 0, 1) := by decide +kernel
theorem dX2_isOn_111 : decode cX2_isOn 111 = .ok (.ireturn, 1) := by decide +kernel
theorem dX2_side_0 : decode cX2_side 0 = .ok (.aload_n 0, 1) := by decide +kernel
theorem dX2_side_1 : decode cX2_side 1 = .ok (.getfield 9, 3) := by decide +kernel
theorem dX2_side_4 : decode cX2_side 4 = .ok (.iload_n 2, 1) := by decide +kernel
theorem dX2_side_5 : decode cX2_side 5 = .ok (.iaload, 1) := by decide +kernel
theorem dX2_side_6 : decode cX2_side 6 = .ok (.aload_n 0, 1) := by decide +kernel
theorem dX2_side_7 : decode cX2_side 7 = .ok (.getfield 9, 3) := by decide +kernel
theorem dX2_side_10 : decode cX2_side 10 = .ok (.iload_n 1, 1) := by decide +kernel
theorem dX2_side_11 : decode cX2_side 11 = .ok (.iaload, 1) := by decide +kernel
theorem dX2_side_12 : decode cX2_side 12 = .ok (.isub, 1) := by decide +kernel
theorem dX2_side_13 : decode cX2_side 13 = .ok (.aload_n 0, 1) := by decide +kernel
theorem dX2_side_14 : decode cX2_side 14 = .ok (.getfield 15, 3) := by decide +kernel
theorem dX2_side_17 : decode cX2_side 17 = .ok (.iload_n 3, 1) := by decide +kernel
theorem dX2_side_18 : decode cX2_side 18 = .ok (.iaload, 1) := by decide +kernel
theorem dX2_side_19 : decode cX2_side 19 = .ok (.aload_n 0, 1) := by decide +kernel
theorem dX2_side_20 : decode cX2_side 20 = .ok (.getfield 15, 3) := by decide +kernel
theorem dX2_side_23 : decode cX2_side 23 = .ok (.iload_n 1, 1) := by decide +kernel
theorem dX2_side_24 : decode cX2_side 24 = .ok (.iaload, 1) := by decide +kernel
theorem dX2_side_25 : decode cX2_side 25 = .ok (.isub, 1) := by decide +kernel
theorem dX2_side_26 : decode cX2_side 26 = .ok (.imul, 1) := by decide +kernel
theorem dX2_side_27 : decode cX2_side 27 = .ok (.aload_n 0, 1) := by decide +kernel
theorem dX2_side_28 : decode cX2_side 28 = .ok (.getfield 15, 3) := by decide +kernel
theorem dX2_side_31 : decode cX2_side 31 = .ok (.iload_n 2, 1) := by decide +kernel
theorem dX2_side_32 : decode cX2_side 32 = .ok (.iaload, 1) := by decide +kernel
theorem dX2_side_33 : decode cX2_side 33 = .ok (.aload_n 0, 1) := by decide +kernel
theorem dX2_side_34 : decode cX2_side 34 = .ok (.getfield 15, 3) := by decide +kernel
theorem dX2_side_37 : decode cX2_side 37 = .ok (.iload_n 1, 1) := by decide +kernel
theorem dX2_side_38 : decode cX2_side 38 = .ok (.iaload, 1) := by decide +kernel
theorem dX2_side_39 : decode cX2_side 39 = .ok (.isub, 1) := by decide +kernel
theorem dX2_side_40 : decode cX2_side 40 = .ok (.aload_n 0, 1) := by decide +kernel
theorem dX2_side_41 : decode cX2_side 41 = .ok (.getfield 9, 3) := by decide +kernel
theorem dX2_side_44 : decode cX2_side 44 = .ok (.iload_n 3, 1) := by decide +kernel
theorem dX2_side_45 : decode cX2_side 45 = .ok (.iaload, 1) := by decide +kernel
theorem dX2_side_46 : decode cX2_side 46 = .ok (.aload_n 0, 1) := by decide +kernel
theorem dX2_side_47 : decode cX2_side 47 = .ok (.getfield 9, 3) := by decide +kernel
theorem dX2_side_50 : decode cX2_side 50 = .ok (.iload_n 1, 1) := by decide +kernel
theorem dX2_side_51 : decode cX2_side 51 = .ok (.iaload, 1) := by decide +kernel
theorem dX2_side_52 : decode cX2_side 52 = .ok (.isub, 1) := by decide +kernel
theorem dX2_side_53 : decode cX2_side 53 = .ok (.imul, 1) := by decide +kernel
theorem dX2_side_54 : decode cX2_side 54 = .ok (.isub, 1) := by decide +kernel
theorem dX2_side_55 : decode cX2_side 55 = .ok (.ireturn, 1) := by decide +kernel
theorem dX3_init_0 : decode cX3_init 0 = .ok (.aload_n 0, 1) := by decide +kernel
theorem dX3_init_1 : decode cX3_init 1 = .ok (.invokespecial 3, 3) := by decide +kernel
theorem dX3_init_4 : decode cX3_init 4 = .ok (.aload_n 0, 1) := by decide +kernel
theorem dX3_init_5 : decode cX3_init 5 = .ok (.lconst 1, 1) := by decide +kernel
theorem dX3_init_6 : decode cX3_init 6 = .ok (.putfield 9, 3) := by decide +kernel
theorem dX3_init_9 : decode cX3_init 9 = .ok (.aload_n 0, 1) := by decide +kernel
theorem dX3_init_10 : decode cX3_init 10 = .ok (.bipush 6, 2) := by decide +kernel
theorem dX3_init_12 : decode cX3_init 12 = .ok (.newarray .long, 2) := by decide +kernel
theorem dX3_init_14 : decode cX3_init 14 = .ok (.putfield 15, 3) := by decide +kernel
theorem dX3_init_17 : decode cX3_init 17 = .ok (.aload_n 0, 1) := by decide +kernel
theorem dX3_init_18 : decode cX3_init 18 = .ok (.bipush 6, 2) := by decide +kernel
theorem dX3_init_20 : decode cX3_init 20 = .ok (.newarray .long, 2) := by decide +kernel
theorem dX3_init_22 : decode cX3_init 22 = .ok (.putfield 19, 3) := by decide +kernel
theorem dX3_init_25 : decode cX3_init 25 = .ok (.aload_n 0, 1) := by decide +kernel
theorem dX3_init_26 : decode cX3_init 26 = .ok (.aload_n 1, 1) := by decide +kernel
theorem dX3_init_27 : decode cX3_init 27 = .ok (.putfield 22, 3) := by decide +kernel
theorem dX3_init_30 : decode cX3_init 30 = .ok (.aload_n 0, 1) := by decide +kernel
theorem dX3_init_31 : decode cX3_init 31 = .ok (.aload_n 2, 1) := by decide +kernel
theorem dX3_init_32 : decode cX3_init 32 = .ok (.putfield 26, 3) := by decide +kernel
theorem dX3_init_35 : decode cX3_init 35 = .ok (.return_, 1) := by decide +kernel
theorem dX3_look_0 : decode cX3_look 0 = .ok (.iconst 0, 1) := by decide +kernel
theorem dX3_look_1 : decode cX3_look 1 = .ok (.istore_n 2, 1) := by decide +kernel
theorem dX3_look_2 : decode cX3_look 2 = .ok (.iload_n 2, 1) := by decide +kernel
theorem dX3_look_3 : decode cX3_look 3 = .ok (.aload_n 0, 1) := by decide +kernel
theorem dX3_look_4 : decode cX3_look 4 = .ok (.getfield 26, 3) := by decide +kernel
theorem dX3_look_7 : decode cX3_look 7 = .ok (.getfield 30, 3) := by decide +kernel
theorem dX3_look_10 : decode cX3_look 10 = .ok (.if_icmp .ge 47, 3) := by decide +kernel
theorem dX3_look_13 : decode cX3_look 13 = .ok (.aload_n 0, 1) := by decide +kernel
theorem dX3_look_14 : decode cX3_look 14 = .ok (.getfield 36, 3) := by decide +kernel
theorem dX3_look_17 : decode cX3_look 17 = .ok (.ifCond .ne 40, 3) := by decide +kernel
theorem dX3_look_20 : decode cX3_look 20 = .ok (.aload_n 0, 1) := by decide +kernel
theorem dX3_look_21 : decode cX3_look 21 = .ok (.getfield 26, 3) := by decide +kernel
theorem dX3_look_24 : decode cX3_look 24 = .ok (.aload_n 0, 1) := by decide +kernel
theorem dX3_look_25 : decode cX3_look 25 = .ok (.getfield 26, 3) := by decide +kernel
theorem dX3_look_28 : decode cX3_look 28 = .ok (.getfield 40, 3) := by decide +kernel
theorem dX3_look_31 : decode cX3_look 31 = .ok (.iload_n 2, 1) := by decide +kernel
theorem dX3_look_32 : decode cX3_look 32 = .ok (.iaload, 1) := by decide +kernel
theorem dX3_look_33 : decode cX3_look 33 = .ok (.invokevirtual 44, 3) := by decide +kernel
theorem dX3_look_36 : decode cX3_look 36 = .ok (.ifCond .eq 15, 3) := by decide +kernel
theorem dX3_look_39 : decode cX3_look 39 = .ok (.aload_n 0, 1) := by decide +kernel
theorem dX3_look_40 : decode cX3_look 40 = .ok (.aload_n 1, 1) := by decide +kernel
theorem dX3_look_41 : decode cX3_look 41 = .ok (.invokevirtual 48, 3) := by decide +kernel
theorem dX3_look_44 : decode cX3_look 44 = .ok (.ifCond .eq 7, 3) := by decide +kernel
theorem dX3_look_47 : decode cX3_look 47 = .ok (.aload_n 0, 1) := by decide +kernel
theorem dX3_look_48 : decode cX3_look 48 = .ok (.invokevirtual 52, 3) := by decide +kernel
theorem dX3_look_51 : decode cX3_look 51 = .ok (.iinc 2 1, 3) := by decide +kernel
theorem dX3_look_54 : decode cX3_look 54 = .ok (.goto (-52), 3) := by decide +kernel
theorem dX3_look_57 : decode cX3_look 57 = .ok (.return_, 1) := by decide +kernel
theorem dX3_fieldTop_0 : decode cX3_fieldTop 0 = .ok (.aload_n 0, 1) := by decide +kernel
theorem dX3_fieldTop_1 : decode cX3_fieldTop 1 = .ok (.getfield 22, 3) := by decide +kernel
theorem dX3_fieldTop_4 : decode cX3_fieldTop 4 = .ok (.getfield 55, 3) := by decide +kernel
theorem dX3_fieldTop_7 : decode cX3_fieldTop 7 = .ok (.iload_n 1, 1) := by decide +kernel
theorem dX3_fieldTop_8 : decode cX3_fieldTop 8 = .ok (.iaload, 1) := by decide +kernel
theorem dX3_fieldTop_9 : decode cX3_fieldTop 9 = .ok (.istore_n 3, 1) := by decide +kernel
theorem dX3_fieldTop_10 : decode cX3_fieldTop 10 = .ok (.iload_n 3, 1) := by decide +kernel
theorem dX3_fieldTop_11 : decode cX3_fieldTop 11 = .ok (.iconst (-1), 1) := by decide +kernel
theorem dX3_fieldTop_12 : decode cX3_fieldTop 12 = .ok (.if_icmp .ne 7, 3) := by decide +kernel
theorem dX3_fieldTop_15 : decode cX3_fieldTop 15 = .ok (.lconst 0, 1) := by decide +kernel
theorem dX3_fieldTop_16 : decode cX3_fieldTop 16 = .ok (.goto 11, 3) := by decide +kernel
theorem dX3_fieldTop_19 : decode cX3_fieldTop 19 = .ok (.aload_n 0, 1) := by decide +kernel
theorem dX3_fieldTop_20 : decode cX3_fieldTop 20 = .ok (.getfield 15, 3) := by decide +kernel
theorem dX3_fieldTop_23 : decode cX3_fieldTop 23 = .ok (.iload_n 3, 1) := by decide +kernel
theorem dX3_fieldTop_24 : decode cX3_fieldTop 24 = .ok (.iload_n 2, 1) := by decide +kernel
theorem dX3_fieldTop_25 : decode cX3_fieldTop 25 = .ok (.iadd, 1) := by decide +kernel
theorem dX3_fieldTop_26 : decode cX3_fieldTop 26 = .ok (.laload, 1) := by decide +kernel
theorem dX3_fieldTop_27 : decode cX3_fieldTop 27 = .ok (.lreturn, 1) := by decide +kernel
theorem dX3_slackTop_0 : decode cX3_slackTop 0 = .ok (.aload_n 0, 1) := by decide +kernel
theorem dX3_slackTop_1 : decode cX3_slackTop 1 = .ok (.getfield 22, 3) := by decide +kernel
theorem dX3_slackTop_4 : decode cX3_slackTop 4 = .ok (.getfield 60, 3) := by decide +kernel
theorem dX3_slackTop_7 : decode cX3_slackTop 7 = .ok (.iload_n 1, 1) := by decide +kernel
theorem dX3_slackTop_8 : decode cX3_slackTop 8 = .ok (.iaload, 1) := by decide +kernel
theorem dX3_slackTop_9 : decode cX3_slackTop 9 = .ok (.istore_n 2, 1) := by decide +kernel
theorem dX3_slackTop_10 : decode cX3_slackTop 10 = .ok (.aload_n 0, 1) := by decide +kernel
theorem dX3_slackTop_11 : decode cX3_slackTop 11 = .ok (.getfield 22, 3) := by decide +kernel
theorem dX3_slackTop_14 : decode cX3_slackTop 14 = .ok (.getfield 63, 3) := by decide +kernel
theorem dX3_slackTop_17 : decode cX3_slackTop 17 = .ok (.iload_n 1, 1) := by decide +kernel
theorem dX3_slackTop_18 : decode cX3_slackTop 18 = .ok (.iaload, 1) := by decide +kernel
theorem dX3_slackTop_19 : decode cX3_slackTop 19 = .ok (.istore_n 3, 1) := by decide +kernel
theorem dX3_slackTop_20 : decode cX3_slackTop 20 = .ok (.aload_n 0, 1) := by decide +kernel
theorem dX3_slackTop_21 : decode cX3_slackTop 21 = .ok (.getfield 22, 3) := by decide +kernel
theorem dX3_slackTop_24 : decode cX3_slackTop 24 = .ok (.getfield 66, 3) := by decide +kernel
theorem dX3_slackTop_27 : decode cX3_slackTop 27 = .ok (.iload_n 1, 1) := by decide +kernel
theorem dX3_slackTop_28 : decode cX3_slackTop 28 = .ok (.iaload, 1) := by decide +kernel
theorem dX3_slackTop_29 : decode cX3_slackTop 29 = .ok (.i2l, 1) := by decide +kernel
theorem dX3_slackTop_30 : decode cX3_slackTop 30 = .ok (.aload_n 0, 1) := by decide +kernel
theorem dX3_slackTop_31 : decode cX3_slackTop 31 = .ok (.iload_n 3, 1) := by decide +kernel
theorem dX3_slackTop_32 : decode cX3_slackTop 32 = .ok (.iconst 0, 1) := by decide +kernel
theorem dX3_slackTop_33 : decode cX3_slackTop 33 = .ok (.invokevirtual 69, 3) := by decide +kernel
theorem dX3_slackTop_36 : decode cX3_slackTop 36 = .ok (.aload_n 0, 1) := by decide +kernel
theorem dX3_slackTop_37 : decode cX3_slackTop 37 = .ok (.iload_n 2, 1) := by decide +kernel
theorem dX3_slackTop_38 : decode cX3_slackTop 38 = .ok (.iconst 0, 1) := by decide +kernel
theorem dX3_slackTop_39 : decode cX3_slackTop 39 = .ok (.invokevirtual 69, 3) := by decide +kernel
theorem dX3_slackTop_42 : decode cX3_slackTop 42 = .ok (.lsub, 1) := by decide +kernel
theorem dX3_slackTop_43 : decode cX3_slackTop 43 = .ok (.lmul, 1) := by decide +kernel
theorem dX3_slackTop_44 : decode cX3_slackTop 44 = .ok (.aload_n 0, 1) := by decide +kernel
theorem dX3_slackTop_45 : decode cX3_slackTop 45 = .ok (.getfield 22, 3) := by decide +kernel
theorem dX3_slackTop_48 : decode cX3_slackTop 48 = .ok (.getfield 73, 3) := by decide +kernel
theorem dX3_slackTop_51 : decode cX3_slackTop 51 = .ok (.iload_n 1, 1) := by decide +kernel
theorem dX3_slackTop_52 : decode cX3_slackTop 52 = .ok (.iaload, 1) := by decide +kernel
theorem dX3_slackTop_53 : decode cX3_slackTop 53 = .ok (.i2l, 1) := by decide +kernel
theorem dX3_slackTop_54 : decode cX3_slackTop 54 = .ok (.aload_n 0, 1) := by decide +kernel
theorem dX3_slackTop_55 : decode cX3_slackTop 55 = .ok (.iload_n 3, 1) := by decide +kernel
theorem dX3_slackTop_56 : decode cX3_slackTop 56 = .ok (.iconst 1, 1) := by decide +kernel
theorem dX3_slackTop_57 : decode cX3_slackTop 57 = .ok (.invokevirtual 69, 3) := by decide +kernel
theorem dX3_slackTop_60 : decode cX3_slackTop 60 = .ok (.aload_n 0, 1) := by decide +kernel
theorem dX3_slackTop_61 : decode cX3_slackTop 61 = .ok (.iload_n 2, 1) := by decide +kernel
theorem dX3_slackTop_62 : decode cX3_slackTop 62 = .ok (.iconst 1, 1) := by decide +kernel
theorem dX3_slackTop_63 : decode cX3_slackTop 63 = .ok (.invokevirtual 69, 3) := by decide +kernel
theorem dX3_slackTop_66 : decode cX3_slackTop 66 = .ok (.lsub, 1) := by decide +kernel
theorem dX3_slackTop_67 : decode cX3_slackTop 67 = .ok (.lmul, 1) := by decide +kernel
theorem dX3_slackTop_68 : decode cX3_slackTop 68 = .ok (.ladd, 1) := by decide +kernel
theorem dX3_slackTop_69 : decode cX3_slackTop 69 = .ok (.lstore 4, 2) := by decide +kernel
theorem dX3_slackTop_71 : decode cX3_slackTop 71 = .ok (.aload_n 0, 1) := by decide +kernel
theorem dX3_slackTop_72 : decode cX3_slackTop 72 = .ok (.getfield 22, 3) := by decide +kernel
theorem dX3_slackTop_75 : decode cX3_slackTop 75 = .ok (.getfield 76, 3) := by decide +kernel
theorem dX3_slackTop_78 : decode cX3_slackTop 78 = .ok (.iload_n 1, 1) := by decide +kernel
theorem dX3_slackTop_79 : decode cX3_slackTop 79 = .ok (.iaload, 1) := by decide +kernel
theorem dX3_slackTop_80 : decode cX3_slackTop 80 = .ok (.i2l, 1) := by decide +kernel
theorem dX3_slackTop_81 : decode cX3_slackTop 81 = .ok (.aload_n 0, 1) := by decide +kernel
theorem dX3_slackTop_82 : decode cX3_slackTop 82 = .ok (.getfield 9, 3) := by decide +kernel
theorem dX3_slackTop_85 : decode cX3_slackTop 85 = .ok (.lmul, 1) := by decide +kernel
theorem dX3_slackTop_86 : decode cX3_slackTop 86 = .ok (.lload 4, 2) := by decide +kernel
theorem dX3_slackTop_88 : decode cX3_slackTop 88 = .ok (.invokestatic 79, 3) := by decide +kernel
theorem dX3_slackTop_91 : decode cX3_slackTop 91 = .ok (.lsub, 1) := by decide +kernel
theorem dX3_slackTop_92 : decode cX3_slackTop 92 = .ok (.lreturn, 1) := by decide +kernel
theorem dX3_costsAsMuchAs_0 : decode cX3_costsAsMuchAs 0 = .ok (.aload_n 0, 1) := by decide +kernel
theorem dX3_costsAsMuchAs_1 : decode cX3_costsAsMuchAs 1 = .ok (.getfield 26, 3) := by decide +kernel
theorem dX3_costsAsMuchAs_4 : decode cX3_costsAsMuchAs 4 = .ok (.invokevirtual 85, 3) := by decide +kernel
theorem dX3_costsAsMuchAs_7 : decode cX3_costsAsMuchAs 7 = .ok (.aload_n 1, 1) := by decide +kernel
theorem dX3_costsAsMuchAs_8 : decode cX3_costsAsMuchAs 8 = .ok (.getfield 89, 3) := by decide +kernel
theorem dX3_costsAsMuchAs_11 : decode cX3_costsAsMuchAs 11 = .ok (.lmul, 1) := by decide +kernel
theorem dX3_costsAsMuchAs_12 : decode cX3_costsAsMuchAs 12 = .ok (.aload_n 1, 1) := by decide +kernel
theorem dX3_costsAsMuchAs_13 : decode cX3_costsAsMuchAs 13 = .ok (.getfield 92, 3) := by decide +kernel
theorem dX3_costsAsMuchAs_16 : decode cX3_costsAsMuchAs 16 = .ok (.aload_n 0, 1) := by decide +kernel
theorem dX3_costsAsMuchAs_17 : decode cX3_costsAsMuchAs 17 = .ok (.getfield 26, 3) := by decide +kernel
theorem dX3_costsAsMuchAs_20 : decode cX3_costsAsMuchAs 20 = .ok (.getfield 95, 3) := by decide +kernel
theorem dX3_costsAsMuchAs_23 : decode cX3_costsAsMuchAs 23 = .ok (.getfield 89, 3) := by decide +kernel
theorem dX3_costsAsMuchAs_26 : decode cX3_costsAsMuchAs 26 = .ok (.lmul, 1) := by decide +kernel
theorem dX3_costsAsMuchAs_27 : decode cX3_costsAsMuchAs 27 = .ok (.lcmp, 1) := by decide +kernel
theorem dX3_costsAsMuchAs_28 : decode cX3_costsAsMuchAs 28 = .ok (.ifCond .ne 7, 3) := by decide +kernel
theorem dX3_costsAsMuchAs_31 : decode cX3_costsAsMuchAs 31 = .ok (.iconst 1, 1) := by decide +kernel
theorem dX3_costsAsMuchAs_32 : decode cX3_costsAsMuchAs 32 = .ok (.goto 4, 3) := by decide +kernel
theorem dX3_costsAsMuchAs_35 : decode cX3_costsAsMuchAs 35 = .ok (.iconst 0, 1) := by decide +kernel
theorem dX3_costsAsMuchAs_36 : decode cX3_costsAsMuchAs 36 = .ok (.ireturn, 1) := by decide +kernel
theorem dX3_lookAtTrial_0 : decode cX3_lookAtTrial 0 = .ok (.aload_n 0, 1) := by decide +kernel
theorem dX3_lookAtTrial_1 : decode cX3_lookAtTrial 1 = .ok (.getfield 26, 3) := by decide +kernel
theorem dX3_lookAtTrial_4 : decode cX3_lookAtTrial 4 = .ok (.getfield 99, 3) := by decide +kernel
theorem dX3_lookAtTrial_7 : decode cX3_lookAtTrial 7 = .ok (.getfield 103, 3) := by decide +kernel
theorem dX3_lookAtTrial_10 : decode cX3_lookAtTrial 10 = .ok (.aload_n 0, 1) := by decide +kernel
theorem dX3_lookAtTrial_11 : decode cX3_lookAtTrial 11 = .ok (.getfield 26, 3) := by decide +kernel
theorem dX3_lookAtTrial_14 : decode cX3_lookAtTrial 14 = .ok (.getfield 95, 3) := by decide +kernel
theorem dX3_lookAtTrial_17 : decode cX3_lookAtTrial 17 = .ok (.getfield 108, 3) := by decide +kernel
theorem dX3_lookAtTrial_20 : decode cX3_lookAtTrial 20 = .ok (.invokestatic 111, 3) := by decide +kernel
theorem dX3_lookAtTrial_23 : decode cX3_lookAtTrial 23 = .ok (.isub, 1) := by decide +kernel
theorem dX3_lookAtTrial_24 : decode cX3_lookAtTrial 24 = .ok (.istore_n 1, 1) := by decide +kernel
theorem dX3_lookAtTrial_25 : decode cX3_lookAtTrial 25 = .ok (.iconst 0, 1) := by decide +kernel
theorem dX3_lookAtTrial_26 : decode cX3_lookAtTrial 26 = .ok (.istore_n 2, 1) := by decide +kernel
theorem dX3_lookAtTrial_27 : decode cX3_lookAtTrial 27 = .ok (.iload_n 2, 1) := by decide +kernel
theorem dX3_lookAtTrial_28 : decode cX3_lookAtTrial 28 = .ok (.iconst 1, 1) := by decide +kernel
theorem dX3_lookAtTrial_29 : decode cX3_lookAtTrial 29 = .ok (.iload_n 1, 1) := by decide +kernel
theorem dX3_lookAtTrial_30 : decode cX3_lookAtTrial 30 = .ok (.ishl, 1) := by decide +kernel
theorem dX3_lookAtTrial_31 : decode cX3_lookAtTrial 31 = .ok (.if_icmp .ge 33, 3) := by decide +kernel
theorem dX3_lookAtTrial_34 : decode cX3_lookAtTrial 34 = .ok (.aload_n 0, 1) := by decide +kernel
theorem dX3_lookAtTrial_35 : decode cX3_lookAtTrial 35 = .ok (.getfield 36, 3) := by decide +kernel
theorem dX3_lookAtTrial_38 : decode cX3_lookAtTrial 38 = .ok (.ifCond .ne 26, 3) := by decide +kernel
theorem dX3_lookAtTrial_41 : decode cX3_lookAtTrial 41 = .ok (.aload_n 0, 1) := by decide +kernel
theorem dX3_lookAtTrial_42 : decode cX3_lookAtTrial 42 = .ok (.iload_n 2, 1) := by decide +kernel
theorem dX3_lookAtTrial_43 : decode cX3_lookAtTrial 43 = .ok (.invokevirtual 117, 3) := by decide +kernel
theorem dX3_lookAtTrial_46 : decode cX3_lookAtTrial 46 = .ok (.aload_n 0, 1) := by decide +kernel
theorem dX3_lookAtTrial_47 : decode cX3_lookAtTrial 47 = .ok (.invokevirtual 121, 3) := by decide +kernel
theorem dX3_lookAtTrial_50 : decode cX3_lookAtTrial 50 = .ok (.aload_n 0, 1) := by decide +kernel
theorem dX3_lookAtTrial_51 : decode cX3_lookAtTrial 51 = .ok (.aload_n 0, 1) := by decide +kernel
theorem dX3_lookAtTrial_52 : decode cX3_lookAtTrial 52 = .ok (.invokevirtual 124, 3) := by decide +kernel
theorem dX3_lookAtTrial_55 : decode cX3_lookAtTrial 55 = .ok (.putfield 36, 3) := by decide +kernel
theorem dX3_lookAtTrial_58 : decode cX3_lookAtTrial 58 = .ok (.iinc 2 1, 3) := by decide +kernel
theorem dX3_lookAtTrial_61 : decode cX3_lookAtTrial 61 = .ok (.goto (-34), 3) := by decide +kernel
theorem dX3_lookAtTrial_64 : decode cX3_lookAtTrial 64 = .ok (.aload_n 0, 1) := by decide +kernel
theorem dX3_lookAtTrial_65 : decode cX3_lookAtTrial 65 = .ok (.aload_n 0, 1) := by decide +kernel
theorem dX3_lookAtTrial_66 : decode cX3_lookAtTrial 66 = .ok (.getfield 26, 3) := by decide +kernel
theorem dX3_lookAtTrial_69 : decode cX3_lookAtTrial 69 = .ok (.getfield 95, 3) := by decide +kernel
theorem dX3_lookAtTrial_72 : decode cX3_lookAtTrial 72 = .ok (.getfield 128, 3) := by decide +kernel
theorem dX3_lookAtTrial_75 : decode cX3_lookAtTrial 75 = .ok (.putfield 131, 3) := by decide +kernel
theorem dX3_lookAtTrial_78 : decode cX3_lookAtTrial 78 = .ok (.return_, 1) := by decide +kernel
theorem dX3_setWanted_0 : decode cX3_setWanted 0 = .ok (.iload_n 1, 1) := by decide +kernel
theorem dX3_setWanted_1 : decode cX3_setWanted 1 = .ok (.istore_n 2, 1) := by decide +kernel
theorem dX3_setWanted_2 : decode cX3_setWanted 2 = .ok (.iconst 0, 1) := by decide +kernel
theorem dX3_setWanted_3 : decode cX3_setWanted 3 = .ok (.istore_n 3, 1) := by decide +kernel
theorem dX3_setWanted_4 : decode cX3_setWanted 4 = .ok (.iload_n 3, 1) := by decide +kernel
theorem dX3_setWanted_5 : decode cX3_setWanted 5 = .ok (.aload_n 0, 1) := by decide +kernel
theorem dX3_setWanted_6 : decode cX3_setWanted 6 = .ok (.getfield 26, 3) := by decide +kernel
theorem dX3_setWanted_9 : decode cX3_setWanted 9 = .ok (.getfield 99, 3) := by decide +kernel
theorem dX3_setWanted_12 : decode cX3_setWanted 12 = .ok (.getfield 103, 3) := by decide +kernel
theorem dX3_setWanted_15 : decode cX3_setWanted 15 = .ok (.if_icmp .ge 118, 3) := by decide +kernel
theorem dX3_setWanted_18 : decode cX3_setWanted 18 = .ok (.aload_n 0, 1) := by decide +kernel
theorem dX3_setWanted_19 : decode cX3_setWanted 19 = .ok (.getfield 26, 3) := by decide +kernel
theorem dX3_setWanted_22 : decode cX3_setWanted 22 = .ok (.getfield 99, 3) := by decide +kernel
theorem dX3_setWanted_25 : decode cX3_setWanted 25 = .ok (.getfield 132, 3) := by decide +kernel
theorem dX3_setWanted_28 : decode cX3_setWanted 28 = .ok (.iload_n 3, 1) := by decide +kernel
theorem dX3_setWanted_29 : decode cX3_setWanted 29 = .ok (.iaload, 1) := by decide +kernel
theorem dX3_setWanted_30 : decode cX3_setWanted 30 = .ok (.istore 4, 2) := by decide +kernel
theorem dX3_setWanted_32 : decode cX3_setWanted 32 = .ok (.aload_n 0, 1) := by decide +kernel
theorem dX3_setWanted_33 : decode cX3_setWanted 33 = .ok (.getfield 26, 3) := by decide +kernel
theorem dX3_setWanted_36 : decode cX3_setWanted 36 = .ok (.getfield 95, 3) := by decide +kernel
theorem dX3_setWanted_39 : decode cX3_setWanted 39 = .ok (.getfield 134, 3) := by decide +kernel
theorem dX3_setWanted_42 : decode cX3_setWanted 42 = .ok (.iload 4, 2) := by decide +kernel
theorem dX3_setWanted_44 : decode cX3_setWanted 44 = .ok (.laload, 1) := by decide +kernel
theorem dX3_setWanted_45 : decode cX3_setWanted 45 = .ok (.lconst 0, 1) := by decide +kernel
theorem dX3_setWanted_46 : decode cX3_setWanted 46 = .ok (.lcmp, 1) := by decide +kernel
theorem dX3_setWanted_47 : decode cX3_setWanted 47 = .ok (.ifCond .ge 7, 3) := by decide +kernel
theorem dX3_setWanted_50 : decode cX3_setWanted 50 = .ok (.iconst 1, 1) := by decide +kernel
theorem dX3_setWanted_51 : decode cX3_setWanted 51 = .ok (.goto 4, 3) := by decide +kernel
theorem dX3_setWanted_54 : decode cX3_setWanted 54 = .ok (.iconst 0, 1) := by decide +kernel
theorem dX3_setWanted_55 : decode cX3_setWanted 55 = .ok (.istore 5, 2) := by decide +kernel
theorem dX3_setWanted_57 : decode cX3_setWanted 57 = .ok (.aload_n 0, 1) := by decide +kernel
theorem dX3_setWanted_58 : decode cX3_setWanted 58 = .ok (.getfield 26, 3) := by decide +kernel
theorem dX3_setWanted_61 : decode cX3_setWanted 61 = .ok (.getfield 95, 3) := by decide +kernel
theorem dX3_setWanted_64 : decode cX3_setWanted 64 = .ok (.iload 4, 2) := by decide +kernel
theorem dX3_setWanted_66 : decode cX3_setWanted 66 = .ok (.invokevirtual 137, 3) := by decide +kernel
theorem dX3_setWanted_69 : decode cX3_setWanted 69 = .ok (.ifCond .ne 21, 3) := by decide +kernel
theorem dX3_setWanted_72 : decode cX3_setWanted 72 = .ok (.iload_n 2, 1) := by decide +kernel
theorem dX3_setWanted_73 : decode cX3_setWanted 73 = .ok (.iconst 1, 1) := by decide +kernel
theorem dX3_setWanted_74 : decode cX3_setWanted 74 = .ok (.iand, 1) := by decide +kernel
theorem dX3_setWanted_75 : decode cX3_setWanted 75 = .ok (.iconst 1, 1) := by decide +kernel
theorem dX3_setWanted_76 : decode cX3_setWanted 76 = .ok (.if_icmp .ne 7, 3) := by decide +kernel
theorem dX3_setWanted_79 : decode cX3_setWanted 79 = .ok (.iconst 1, 1) := by decide +kernel
theorem dX3_setWanted_80 : decode cX3_setWanted 80 = .ok (.goto 4, 3) := by decide +kernel
theorem dX3_setWanted_83 : decode cX3_setWanted 83 = .ok (.iconst 0, 1) := by decide +kernel
theorem dX3_setWanted_84 : decode cX3_setWanted 84 = .ok (.istore 5, 2) := by decide +kernel
theorem dX3_setWanted_86 : decode cX3_setWanted 86 = .ok (.iload_n 2, 1) := by decide +kernel
theorem dX3_setWanted_87 : decode cX3_setWanted 87 = .ok (.iconst 1, 1) := by decide +kernel
theorem dX3_setWanted_88 : decode cX3_setWanted 88 = .ok (.ishr, 1) := by decide +kernel
theorem dX3_setWanted_89 : decode cX3_setWanted 89 = .ok (.istore_n 2, 1) := by decide +kernel
theorem dX3_setWanted_90 : decode cX3_setWanted 90 = .ok (.aload_n 0, 1) := by decide +kernel
theorem dX3_setWanted_91 : decode cX3_setWanted 91 = .ok (.getfield 19, 3) := by decide +kernel
theorem dX3_setWanted_94 : decode cX3_setWanted 94 = .ok (.iload_n 3, 1) := by decide +kernel
theorem dX3_setWanted_95 : decode cX3_setWanted 95 = .ok (.iload 5, 2) := by decide +kernel
theorem dX3_setWanted_97 : decode cX3_setWanted 97 = .ok (.ifCond .eq 18, 3) := by decide +kernel
theorem dX3_setWanted_100 : decode cX3_setWanted 100 = .ok (.aload_n 0, 1) := by decide +kernel
theorem dX3_setWanted_101 : decode cX3_setWanted 101 = .ok (.getfield 22, 3) := by decide +kernel
theorem dX3_setWanted_104 : decode cX3_setWanted 104 = .ok (.getfield 76, 3) := by decide +kernel
theorem dX3_setWanted_107 : decode cX3_setWanted 107 = .ok (.iload 4, 2) := by decide +kernel
theorem dX3_setWanted_109 : decode cX3_setWanted 109 = .ok (.iaload, 1) := by decide +kernel
theorem dX3_setWanted_110 : decode cX3_setWanted 110 = .ok (.ineg, 1) := by decide +kernel
theorem dX3_setWanted_111 : decode cX3_setWanted 111 = .ok (.i2l, 1) := by decide +kernel
theorem dX3_setWanted_112 : decode cX3_setWanted 112 = .ok (.goto 14, 3) := by decide +kernel
theorem dX3_setWanted_115 : decode cX3_setWanted 115 = .ok (.aload_n 0, 1) := by decide +kernel
theorem dX3_setWanted_116 : decode cX3_setWanted 116 = .ok (.getfield 22, 3) := by decide +kernel
theorem dX3_setWanted_119 : decode cX3_setWanted 119 = .ok (.getfield 76, 3) := by decide +kernel
theorem dX3_setWanted_122 : decode cX3_setWanted 122 = .ok (.iload 4, 2) := by decide +kernel
theorem dX3_setWanted_124 : decode cX3_setWanted 124 = .ok (.iaload, 1) := by decide +kernel
theorem dX3_setWanted_125 : decode cX3_setWanted 125 = .ok (.i2l, 1) := by decide +kernel
theorem dX3_setWanted_126 : decode cX3_setWanted 126 = .ok (.lastore, 1) := by decide +kernel
theorem dX3_setWanted_127 : decode cX3_setWanted 127 = .ok (.iinc 3 1, 3) := by decide +kernel
theorem dX3_setWanted_130 : decode cX3_setWanted 130 = .ok (.goto (-126), 3) := by decide +kernel
theorem dX3_setWanted_133 : decode cX3_setWanted 133 = .ok (.return_, 1) := by decide +kernel
theorem dX3_setField_0 : decode cX3_setField 0 = .ok (.aload_n 0, 1) := by decide +kernel
theorem dX3_setField_1 : decode cX3_setField 1 = .ok (.aload_n 0, 1) := by decide +kernel
theorem dX3_setField_2 : decode cX3_setField 2 = .ok (.getfield 26, 3) := by decide +kernel
