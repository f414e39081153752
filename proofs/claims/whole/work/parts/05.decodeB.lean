-- written by wip/gen (blockruler.py)
theorem d_Long_bitCount_0 : decode b_Long_bitCount 0 = .ok (.lload_n 0, 1) := by decide +kernel
theorem d_Long_bitCount_1 : decode b_Long_bitCount 1 = .ok (.lload_n 0, 1) := by decide +kernel
theorem d_Long_bitCount_2 : decode b_Long_bitCount 2 = .ok (.iconst 1, 1) := by decide +kernel
theorem d_Long_bitCount_3 : decode b_Long_bitCount 3 = .ok (.lushr, 1) := by decide +kernel
theorem d_Long_bitCount_4 : decode b_Long_bitCount 4 = .ok (.ldc2_w 314, 3) := by decide +kernel
theorem d_Long_bitCount_7 : decode b_Long_bitCount 7 = .ok (.land, 1) := by decide +kernel
theorem d_Long_bitCount_8 : decode b_Long_bitCount 8 = .ok (.lsub, 1) := by decide +kernel
theorem d_Long_bitCount_9 : decode b_Long_bitCount 9 = .ok (.lstore_n 0, 1) := by decide +kernel
theorem d_Long_bitCount_10 : decode b_Long_bitCount 10 = .ok (.lload_n 0, 1) := by decide +kernel
theorem d_Long_bitCount_11 : decode b_Long_bitCount 11 = .ok (.ldc2_w 316, 3) := by decide +kernel
theorem d_Long_bitCount_14 : decode b_Long_bitCount 14 = .ok (.land, 1) := by decide +kernel
theorem d_Long_bitCount_15 : decode b_Long_bitCount 15 = .ok (.lload_n 0, 1) := by decide +kernel
theorem d_Long_bitCount_16 : decode b_Long_bitCount 16 = .ok (.iconst 2, 1) := by decide +kernel
theorem d_Long_bitCount_17 : decode b_Long_bitCount 17 = .ok (.lushr, 1) := by decide +kernel
theorem d_Long_bitCount_18 : decode b_Long_bitCount 18 = .ok (.ldc2_w 316, 3) := by decide +kernel
theorem d_Long_bitCount_21 : decode b_Long_bitCount 21 = .ok (.land, 1) := by decide +kernel
theorem d_Long_bitCount_22 : decode b_Long_bitCount 22 = .ok (.ladd, 1) := by decide +kernel
theorem d_Long_bitCount_23 : decode b_Long_bitCount 23 = .ok (.lstore_n 0, 1) := by decide +kernel
theorem d_Long_bitCount_24 : decode b_Long_bitCount 24 = .ok (.lload_n 0, 1) := by decide +kernel
theorem d_Long_bitCount_25 : decode b_Long_bitCount 25 = .ok (.lload_n 0, 1) := by decide +kernel
theorem d_Long_bitCount_26 : decode b_Long_bitCount 26 = .ok (.iconst 4, 1) := by decide +kernel
theorem d_Long_bitCount_27 : decode b_Long_bitCount 27 = .ok (.lushr, 1) := by decide +kernel
theorem d_Long_bitCount_28 : decode b_Long_bitCount 28 = .ok (.ladd, 1) := by decide +kernel
theorem d_Long_bitCount_29 : decode b_Long_bitCount 29 = .ok (.ldc2_w 318, 3) := by decide +kernel
theorem d_Long_bitCount_32 : decode b_Long_bitCount 32 = .ok (.land, 1) := by decide +kernel
theorem d_Long_bitCount_33 : decode b_Long_bitCount 33 = .ok (.lstore_n 0, 1) := by decide +kernel
theorem d_Long_bitCount_34 : decode b_Long_bitCount 34 = .ok (.lload_n 0, 1) := by decide +kernel
theorem d_Long_bitCount_35 : decode b_Long_bitCount 35 = .ok (.lload_n 0, 1) := by decide +kernel
theorem d_Long_bitCount_36 : decode b_Long_bitCount 36 = .ok (.bipush 8, 2) := by decide +kernel
theorem d_Long_bitCount_38 : decode b_Long_bitCount 38 = .ok (.lushr, 1) := by decide +kernel
theorem d_Long_bitCount_39 : decode b_Long_bitCount 39 = .ok (.ladd, 1) := by decide +kernel
theorem d_Long_bitCount_40 : decode b_Long_bitCount 40 = .ok (.lstore_n 0, 1) := by decide +kernel
theorem d_Long_bitCount_41 : decode b_Long_bitCount 41 = .ok (.lload_n 0, 1) := by decide +kernel
theorem d_Long_bitCount_42 : decode b_Long_bitCount 42 = .ok (.lload_n 0, 1) := by decide +kernel
theorem d_Long_bitCount_43 : decode b_Long_bitCount 43 = .ok (.bipush 16, 2) := by decide +kernel
theorem d_Long_bitCount_45 : decode b_Long_bitCount 45 = .ok (.lushr, 1) := by decide +kernel
theorem d_Long_bitCount_46 : decode b_Long_bitCount 46 = .ok (.ladd, 1) := by decide +kernel
theorem d_Long_bitCount_47 : decode b_Long_bitCount 47 = .ok (.lstore_n 0, 1) := by decide +kernel
theorem d_Long_bitCount_48 : decode b_Long_bitCount 48 = .ok (.lload_n 0, 1) := by decide +kernel
theorem d_Long_bitCount_49 : decode b_Long_bitCount 49 = .ok (.lload_n 0, 1) := by decide +kernel
theorem d_Long_bitCount_50 : decode b_Long_bitCount 50 = .ok (.bipush 32, 2) := by decide +kernel
theorem d_Long_bitCount_52 : decode b_Long_bitCount 52 = .ok (.lushr, 1) := by decide +kernel
theorem d_Long_bitCount_53 : decode b_Long_bitCount 53 = .ok (.ladd, 1) := by decide +kernel
theorem d_Long_bitCount_54 : decode b_Long_bitCount 54 = .ok (.lstore_n 0, 1) := by decide +kernel
theorem d_Long_bitCount_55 : decode b_Long_bitCount 55 = .ok (.lload_n 0, 1) := by decide +kernel
theorem d_Long_bitCount_56 : decode b_Long_bitCount 56 = .ok (.l2i, 1) := by decide +kernel
theorem d_Long_bitCount_57 : decode b_Long_bitCount 57 = .ok (.bipush 127, 2) := by decide +kernel
theorem d_Long_bitCount_59 : decode b_Long_bitCount 59 = .ok (.iand, 1) := by decide +kernel
theorem d_Long_bitCount_60 : decode b_Long_bitCount 60 = .ok (.ireturn, 1) := by decide +kernel
theorem d_Web_hasBlock_0 : decode b_Web_hasBlock 0 = .ok (.iload_n 1, 1) := by decide +kernel
theorem d_Web_hasBlock_1 : decode b_Web_hasBlock 1 = .ok (.ifCond .lt 15, 3) := by decide +kernel
theorem d_Web_hasBlock_4 : decode b_Web_hasBlock 4 = .ok (.iload_n 1, 1) := by decide +kernel
theorem d_Web_hasBlock_5 : decode b_Web_hasBlock 5 = .ok (.aload_n 0, 1) := by decide +kernel
theorem d_Web_hasBlock_6 : decode b_Web_hasBlock 6 = .ok (.getfield 18, 3) := by decide +kernel
theorem d_Web_hasBlock_9 : decode b_Web_hasBlock 9 = .ok (.if_icmp .ge 7, 3) := by decide +kernel
theorem d_Web_hasBlock_12 : decode b_Web_hasBlock 12 = .ok (.iconst 1, 1) := by decide +kernel
theorem d_Web_hasBlock_13 : decode b_Web_hasBlock 13 = .ok (.goto 4, 3) := by decide +kernel
theorem d_Web_hasBlock_16 : decode b_Web_hasBlock 16 = .ok (.iconst 0, 1) := by decide +kernel
theorem d_Web_hasBlock_17 : decode b_Web_hasBlock 17 = .ok (.ireturn, 1) := by decide +kernel
theorem d_Web_hasWay_0 : decode b_Web_hasWay 0 = .ok (.aload_n 0, 1) := by decide +kernel
theorem d_Web_hasWay_1 : decode b_Web_hasWay 1 = .ok (.iload_n 1, 1) := by decide +kernel
theorem d_Web_hasWay_2 : decode b_Web_hasWay 2 = .ok (.invokevirtual 25, 3) := by decide +kernel
theorem d_Web_hasWay_5 : decode b_Web_hasWay 5 = .ok (.ifCond .eq 21, 3) := by decide +kernel
theorem d_Web_hasWay_8 : decode b_Web_hasWay 8 = .ok (.iload_n 2, 1) := by decide +kernel
theorem d_Web_hasWay_9 : decode b_Web_hasWay 9 = .ok (.ifCond .lt 17, 3) := by decide +kernel
theorem d_Web_hasWay_12 : decode b_Web_hasWay 12 = .ok (.iload_n 2, 1) := by decide +kernel
theorem d_Web_hasWay_13 : decode b_Web_hasWay 13 = .ok (.aload_n 0, 1) := by decide +kernel
theorem d_Web_hasWay_14 : decode b_Web_hasWay 14 = .ok (.getfield 9, 3) := by decide +kernel
theorem d_Web_hasWay_17 : decode b_Web_hasWay 17 = .ok (.iload_n 1, 1) := by decide +kernel
theorem d_Web_hasWay_18 : decode b_Web_hasWay 18 = .ok (.iaload, 1) := by decide +kernel
theorem d_Web_hasWay_19 : decode b_Web_hasWay 19 = .ok (.if_icmp .ge 7, 3) := by decide +kernel
theorem d_Web_hasWay_22 : decode b_Web_hasWay 22 = .ok (.iconst 1, 1) := by decide +kernel
theorem d_Web_hasWay_23 : decode b_Web_hasWay 23 = .ok (.goto 4, 3) := by decide +kernel
theorem d_Web_hasWay_26 : decode b_Web_hasWay 26 = .ok (.iconst 0, 1) := by decide +kernel
theorem d_Web_hasWay_27 : decode b_Web_hasWay 27 = .ok (.ireturn, 1) := by decide +kernel
theorem d_Web_endOf_0 : decode b_Web_endOf 0 = .ok (.aload_n 0, 1) := by decide +kernel
theorem d_Web_endOf_1 : decode b_Web_endOf 1 = .ok (.getfield 15, 3) := by decide +kernel
theorem d_Web_endOf_4 : decode b_Web_endOf 4 = .ok (.iload_n 1, 1) := by decide +kernel
theorem d_Web_endOf_5 : decode b_Web_endOf 5 = .ok (.bipush 8, 2) := by decide +kernel
theorem d_Web_endOf_7 : decode b_Web_endOf 7 = .ok (.imul, 1) := by decide +kernel
theorem d_Web_endOf_8 : decode b_Web_endOf 8 = .ok (.iload_n 2, 1) := by decide +kernel
theorem d_Web_endOf_9 : decode b_Web_endOf 9 = .ok (.iadd, 1) := by decide +kernel
theorem d_Web_endOf_10 : decode b_Web_endOf 10 = .ok (.iaload, 1) := by decide +kernel
theorem d_Web_endOf_11 : decode b_Web_endOf 11 = .ok (.ireturn, 1) := by decide +kernel
theorem d_Web_addBlock_0 : decode b_Web_addBlock 0 = .ok (.aload_n 0, 1) := by decide +kernel
theorem d_Web_addBlock_1 : decode b_Web_addBlock 1 = .ok (.getfield 18, 3) := by decide +kernel
theorem d_Web_addBlock_4 : decode b_Web_addBlock 4 = .ok (.istore_n 1, 1) := by decide +kernel
theorem d_Web_addBlock_5 : decode b_Web_addBlock 5 = .ok (.aload_n 0, 1) := by decide +kernel
theorem d_Web_addBlock_6 : decode b_Web_addBlock 6 = .ok (.dup, 1) := by decide +kernel
theorem d_Web_addBlock_7 : decode b_Web_addBlock 7 = .ok (.getfield 18, 3) := by decide +kernel
theorem d_Web_addBlock_10 : decode b_Web_addBlock 10 = .ok (.iconst 1, 1) := by decide +kernel
theorem d_Web_addBlock_11 : decode b_Web_addBlock 11 = .ok (.iadd, 1) := by decide +kernel
theorem d_Web_addBlock_12 : decode b_Web_addBlock 12 = .ok (.putfield 18, 3) := by decide +kernel
theorem d_Web_addBlock_15 : decode b_Web_addBlock 15 = .ok (.iload_n 1, 1) := by decide +kernel
theorem d_Web_addBlock_16 : decode b_Web_addBlock 16 = .ok (.ireturn, 1) := by decide +kernel
theorem d_Web_addWay_0 : decode b_Web_addWay 0 = .ok (.aload_n 0, 1) := by decide +kernel
theorem d_Web_addWay_1 : decode b_Web_addWay 1 = .ok (.getfield 9, 3) := by decide +kernel
theorem d_Web_addWay_4 : decode b_Web_addWay 4 = .ok (.iload_n 1, 1) := by decide +kernel
theorem d_Web_addWay_5 : decode b_Web_addWay 5 = .ok (.iaload, 1) := by decide +kernel
theorem d_Web_addWay_6 : decode b_Web_addWay 6 = .ok (.istore_n 3, 1) := by decide +kernel
theorem d_Web_addWay_7 : decode b_Web_addWay 7 = .ok (.aload_n 0, 1) := by decide +kernel
theorem d_Web_addWay_8 : decode b_Web_addWay 8 = .ok (.getfield 15, 3) := by decide +kernel
theorem d_Web_addWay_11 : decode b_Web_addWay 11 = .ok (.iload_n 1, 1) := by decide +kernel
theorem d_Web_addWay_12 : decode b_Web_addWay 12 = .ok (.bipush 8, 2) := by decide +kernel
theorem d_Web_addWay_14 : decode b_Web_addWay 14 = .ok (.imul, 1) := by decide +kernel
theorem d_Web_addWay_15 : decode b_Web_addWay 15 = .ok (.iload_n 3, 1) := by decide +kernel
theorem d_Web_addWay_16 : decode b_Web_addWay 16 = .ok (.iadd, 1) := by decide +kernel
theorem d_Web_addWay_17 : decode b_Web_addWay 17 = .ok (.iload_n 2, 1) := by decide +kernel
theorem d_Web_addWay_18 : decode b_Web_addWay 18 = .ok (.iastore, 1) := by decide +kernel
theorem d_Web_addWay_19 : decode b_Web_addWay 19 = .ok (.aload_n 0, 1) := by decide +kernel
theorem d_Web_addWay_20 : decode b_Web_addWay 20 = .ok (.getfield 9, 3) := by decide +kernel
theorem d_Web_addWay_23 : decode b_Web_addWay 23 = .ok (.iload_n 1, 1) := by decide +kernel
theorem d_Web_addWay_24 : decode b_Web_addWay 24 = .ok (.dup2, 1) := by decide +kernel
theorem d_Web_addWay_25 : decode b_Web_addWay 25 = .ok (.iaload, 1) := by decide +kernel
theorem d_Web_addWay_26 : decode b_Web_addWay 26 = .ok (.iconst 1, 1) := by decide +kernel
theorem d_Web_addWay_27 : decode b_Web_addWay 27 = .ok (.iadd, 1) := by decide +kernel
theorem d_Web_addWay_28 : decode b_Web_addWay 28 = .ok (.iastore, 1) := by decide +kernel
theorem d_Web_addWay_29 : decode b_Web_addWay 29 = .ok (.aload_n 0, 1) := by decide +kernel
theorem d_Web_addWay_30 : decode b_Web_addWay 30 = .ok (.dup, 1) := by decide +kernel
theorem d_Web_addWay_31 : decode b_Web_addWay 31 = .ok (.getfield 22, 3) := by decide +kernel
theorem d_Web_addWay_34 : decode b_Web_addWay 34 = .ok (.iconst 1, 1) := by decide +kernel
theorem d_Web_addWay_35 : decode b_Web_addWay 35 = .ok (.iadd, 1) := by decide +kernel
theorem d_Web_addWay_36 : decode b_Web_addWay 36 = .ok (.putfield 22, 3) := by decide +kernel
theorem d_Web_addWay_39 : decode b_Web_addWay 39 = .ok (.iload_n 3, 1) := by decide +kernel
theorem d_Web_addWay_40 : decode b_Web_addWay 40 = .ok (.ireturn, 1) := by decide +kernel
theorem d_Web_removeWay_0 : decode b_Web_removeWay 0 = .ok (.aload_n 0, 1) := by decide +kernel
theorem d_Web_removeWay_1 : decode b_Web_removeWay 1 = .ok (.iload_n 1, 1) := by decide +kernel
theorem d_Web_removeWay_2 : decode b_Web_removeWay 2 = .ok (.iload_n 2, 1) := by decide +kernel
theorem d_Web_removeWay_3 : decode b_Web_removeWay 3 = .ok (.invokevirtual 29, 3) := by decide +kernel
theorem d_Web_removeWay_6 : decode b_Web_removeWay 6 = .ok (.istore_n 3, 1) := by decide +kernel
theorem d_Web_removeWay_7 : decode b_Web_removeWay 7 = .ok (.iload_n 1, 1) := by decide +kernel
theorem d_Web_removeWay_8 : decode b_Web_removeWay 8 = .ok (.bipush 8, 2) := by decide +kernel
theorem d_Web_removeWay_10 : decode b_Web_removeWay 10 = .ok (.imul, 1) := by decide +kernel
theorem d_Web_removeWay_11 : decode b_Web_removeWay 11 = .ok (.istore 4, 2) := by decide +kernel
theorem d_Web_removeWay_13 : decode b_Web_removeWay 13 = .ok (.iload_n 2, 1) := by decide +kernel
theorem d_Web_removeWay_14 : decode b_Web_removeWay 14 = .ok (.iconst 1, 1) := by decide +kernel
theorem d_Web_removeWay_15 : decode b_Web_removeWay 15 = .ok (.iadd, 1) := by decide +kernel
theorem d_Web_removeWay_16 : decode b_Web_removeWay 16 = .ok (.istore 5, 2) := by decide +kernel
theorem d_Web_removeWay_18 : decode b_Web_removeWay 18 = .ok (.iload 5, 2) := by decide +kernel
theorem d_Web_removeWay_20 : decode b_Web_removeWay 20 = .ok (.aload_n 0, 1) := by decide +kernel
theorem d_Web_removeWay_21 : decode b_Web_removeWay 21 = .ok (.getfield 9, 3) := by decide +kernel
theorem d_Web_removeWay_24 : decode b_Web_removeWay 24 = .ok (.iload_n 1, 1) := by decide +kernel
theorem d_Web_removeWay_25 : decode b_Web_removeWay 25 = .ok (.iaload, 1) := by decide +kernel
theorem d_Web_removeWay_26 : decode b_Web_removeWay 26 = .ok (.if_icmp .ge 31, 3) := by decide +kernel
theorem d_Web_removeWay_29 : decode b_Web_removeWay 29 = .ok (.aload_n 0, 1) := by decide +kernel
theorem d_Web_removeWay_30 : decode b_Web_removeWay 30 = .ok (.getfield 15, 3) := by decide +kernel
theorem d_Web_removeWay_33 : decode b_Web_removeWay 33 = .ok (.iload 4, 2) := by decide +kernel
theorem d_Web_removeWay_35 : decode b_Web_removeWay 35 = .ok (.iload 5, 2) := by decide +kernel
theorem d_Web_removeWay_37 : decode b_Web_removeWay 37 = .ok (.iadd, 1) := by decide +kernel
theorem d_Web_removeWay_38 : decode b_Web_removeWay 38 = .ok (.iconst 1, 1) := by decide +kernel
theorem d_Web_removeWay_39 : decode b_Web_removeWay 39 = .ok (.isub, 1) := by decide +kernel
theorem d_Web_removeWay_40 : decode b_Web_removeWay 40 = .ok (.aload_n 0, 1) := by decide +kernel
theorem d_Web_removeWay_41 : decode b_Web_removeWay 41 = .ok (.getfield 15, 3) := by decide +kernel
theorem d_Web_removeWay_44 : decode b_Web_removeWay 44 = .ok (.iload 4, 2) := by decide +kernel
theorem d_Web_removeWay_46 : decode b_Web_removeWay 46 = .ok (.iload 5, 2) := by decide +kernel
theorem d_Web_removeWay_48 : decode b_Web_removeWay 48 = .ok (.iadd, 1) := by decide +kernel
theorem d_Web_removeWay_49 : decode b_Web_removeWay 49 = .ok (.iaload, 1) := by decide +kernel
theorem d_Web_removeWay_50 : decode b_Web_removeWay 50 = .ok (.iastore, 1) := by decide +kernel
theorem d_Web_removeWay_51 : decode b_Web_removeWay 51 = .ok (.iinc 5 1, 3) := by decide +kernel
theorem d_Web_removeWay_54 : decode b_Web_removeWay 54 = .ok (.goto (-36), 3) := by decide +kernel
theorem d_Web_removeWay_57 : decode b_Web_removeWay 57 = .ok (.aload_n 0, 1) := by decide +kernel
theorem d_Web_removeWay_58 : decode b_Web_removeWay 58 = .ok (.getfield 9, 3) := by decide +kernel
theorem d_Web_removeWay_61 : decode b_Web_removeWay 61 = .ok (.iload_n 1, 1) := by decide +kernel
theorem d_Web_removeWay_62 : decode b_Web_removeWay 62 = .ok (.dup2, 1) := by decide +kernel
theorem d_Web_removeWay_63 : decode b_Web_removeWay 63 = .ok (.iaload, 1) := by decide +kernel
theorem d_Web_removeWay_64 : decode b_Web_removeWay 64 = .ok (.iconst 1, 1) := by decide +kernel
theorem d_Web_removeWay_65 : decode b_Web_removeWay 65 = .ok (.isub, 1) := by decide +kernel
theorem d_Web_removeWay_66 : decode b_Web_removeWay 66 = .ok (.iastore, 1) := by decide +kernel
theorem d_Web_removeWay_67 : decode b_Web_removeWay 67 = .ok (.aload_n 0, 1) := by decide +kernel
theorem d_Web_removeWay_68 : decode b_Web_removeWay 68 = .ok (.dup, 1) := by decide +kernel
theorem d_Web_removeWay_69 : decode b_Web_removeWay 69 = .ok (.getfield 22, 3) := by decide +kernel
theorem d_Web_removeWay_72 : decode b_Web_removeWay 72 = .ok (.iconst 1, 1) := by decide +kernel
theorem d_Web_removeWay_73 : decode b_Web_removeWay 73 = .ok (.isub, 1) := by decide +kernel
theorem d_Web_removeWay_74 : decode b_Web_removeWay 74 = .ok (.putfield 22, 3) := by decide +kernel
theorem d_Web_removeWay_77 : decode b_Web_removeWay 77 = .ok (.iload_n 3, 1) := by decide +kernel
theorem d_Web_removeWay_78 : decode b_Web_removeWay 78 = .ok (.ireturn, 1) := by decide +kernel
theorem d_Web_moveWay_0 : decode b_Web_moveWay 0 = .ok (.aload_n 0, 1) := by decide +kernel
theorem d_Web_moveWay_1 : decode b_Web_moveWay 1 = .ok (.iload_n 1, 1) := by decide +kernel
theorem d_Web_moveWay_2 : decode b_Web_moveWay 2 = .ok (.iload_n 2, 1) := by decide +kernel
theorem d_Web_moveWay_3 : decode b_Web_moveWay 3 = .ok (.invokevirtual 29, 3) := by decide +kernel
theorem d_Web_moveWay_6 : decode b_Web_moveWay 6 = .ok (.istore 4, 2) := by decide +kernel
theorem d_Web_moveWay_8 : decode b_Web_moveWay 8 = .ok (.aload_n 0, 1) := by decide +kernel
theorem d_Web_moveWay_9 : decode b_Web_moveWay 9 = .ok (.getfield 15, 3) := by decide +kernel
theorem d_Web_moveWay_12 : decode b_Web_moveWay 12 = .ok (.iload_n 1, 1) := by decide +kernel
theorem d_Web_moveWay_13 : decode b_Web_moveWay 13 = .ok (.bipush 8, 2) := by decide +kernel
theorem d_Web_moveWay_15 : decode b_Web_moveWay 15 = .ok (.imul, 1) := by decide +kernel
theorem d_Web_moveWay_16 : decode b_Web_moveWay 16 = .ok (.iload_n 2, 1) := by decide +kernel
theorem d_Web_moveWay_17 : decode b_Web_moveWay 17 = .ok (.iadd, 1) := by decide +kernel
theorem d_Web_moveWay_18 : decode b_Web_moveWay 18 = .ok (.iload_n 3, 1) := by decide +kernel
theorem d_Web_moveWay_19 : decode b_Web_moveWay 19 = .ok (.iastore, 1) := by decide +kernel
theorem d_Web_moveWay_20 : decode b_Web_moveWay 20 = .ok (.iload 4, 2) := by decide +kernel
theorem d_Web_moveWay_22 : decode b_Web_moveWay 22 = .ok (.ireturn, 1) := by decide +kernel
theorem d_BlockRuler_only_0 : decode b_BlockRuler_only 0 = .ok (.lconst 1, 1) := by decide +kernel
theorem d_BlockRuler_only_1 : decode b_BlockRuler_only 1 = .ok (.iload_n 0, 1) := by decide +kernel
theorem d_BlockRuler_only_2 : decode b_BlockRuler_only 2 = .ok (.lshl, 1) := by decide +kernel
theorem d_BlockRuler_only_3 : decode b_BlockRuler_only 3 = .ok (.lreturn, 1) := by decide +kernel
theorem d_BlockRuler_holds_0 : decode b_BlockRuler_holds 0 = .ok (.lload_n 0, 1) := by decide +kernel
theorem d_BlockRuler_holds_1 : decode b_BlockRuler_holds 1 = .ok (.iload_n 2, 1) := by decide +kernel
theorem d_BlockRuler_holds_2 : decode b_BlockRuler_holds 2 = .ok (.lushr, 1) := by decide +kernel
theorem d_BlockRuler_holds_3 : decode b_BlockRuler_holds 3 = .ok (.lconst 1, 1) := by decide +kernel
theorem d_BlockRuler_holds_4 : decode b_BlockRuler_holds 4 = .ok (.land, 1) := by decide +kernel
theorem d_BlockRuler_holds_5 : decode b_BlockRuler_holds 5 = .ok (.lconst 0, 1) := by decide +kernel
theorem d_BlockRuler_holds_6 : decode b_BlockRuler_holds 6 = .ok (.lcmp, 1) := by decide +kernel
theorem d_BlockRuler_holds_7 : decode b_BlockRuler_holds 7 = .ok (.ifCond .eq 7, 3) := by decide +kernel
theorem d_BlockRuler_holds_10 : decode b_BlockRuler_holds 10 = .ok (.iconst 1, 1) := by decide +kernel
theorem d_BlockRuler_holds_11 : decode b_BlockRuler_holds 11 = .ok (.goto 4, 3) := by decide +kernel
theorem d_BlockRuler_holds_14 : decode b_BlockRuler_holds 14 = .ok (.iconst 0, 1) := by decide +kernel
theorem d_BlockRuler_holds_15 : decode b_BlockRuler_holds 15 = .ok (.ireturn, 1) := by decide +kernel
theorem d_BlockRuler_least_0 : decode b_BlockRuler_least 0 = .ok (.lload_n 0, 1) := by decide +kernel
theorem d_BlockRuler_least_1 : decode b_BlockRuler_least 1 = .ok (.lload_n 0, 1) := by decide +kernel
theorem d_BlockRuler_least_2 : decode b_BlockRuler_least 2 = .ok (.lneg, 1) := by decide +kernel
theorem d_BlockRuler_least_3 : decode b_BlockRuler_least 3 = .ok (.land, 1) := by decide +kernel
theorem d_BlockRuler_least_4 : decode b_BlockRuler_least 4 = .ok (.lconst 1, 1) := by decide +kernel
theorem d_BlockRuler_least_5 : decode b_BlockRuler_least 5 = .ok (.lsub, 1) := by decide +kernel
theorem d_BlockRuler_least_6 : decode b_BlockRuler_least 6 = .ok (.invokestatic 143, 3) := by decide +kernel
theorem d_BlockRuler_least_9 : decode b_BlockRuler_least 9 = .ok (.ireturn, 1) := by decide +kernel
theorem d_BlockRuler_withoutLeast_0 : decode b_BlockRuler_withoutLeast 0 = .ok (.lload_n 0, 1) := by decide +kernel
theorem d_BlockRuler_withoutLeast_1 : decode b_BlockRuler_withoutLeast 1 = .ok (.lload_n 0, 1) := by decide +kernel
theorem d_BlockRuler_withoutLeast_2 : decode b_BlockRuler_withoutLeast 2 = .ok (.lconst 1, 1) := by decide +kernel
theorem d_BlockRuler_withoutLeast_3 : decode b_BlockRuler_withoutLeast 3 = .ok (.lsub, 1) := by decide +kernel
theorem d_BlockRuler_withoutLeast_4 : decode b_BlockRuler_withoutLeast 4 = .ok (.land, 1) := by decide +kernel
theorem d_BlockRuler_withoutLeast_5 : decode b_BlockRuler_withoutLeast 5 = .ok (.lreturn, 1) := by decide +kernel
theorem d_BlockRuler_nth_0 : decode b_BlockRuler_nth 0 = .ok (.iload_n 2, 1) := by decide +kernel
theorem d_BlockRuler_nth_1 : decode b_BlockRuler_nth 1 = .ok (.ifCond .lt 11, 3) := by decide +kernel
theorem d_BlockRuler_nth_4 : decode b_BlockRuler_nth 4 = .ok (.iload_n 2, 1) := by decide +kernel
theorem d_BlockRuler_nth_5 : decode b_BlockRuler_nth 5 = .ok (.lload_n 0, 1) := by decide +kernel
theorem d_BlockRuler_nth_6 : decode b_BlockRuler_nth 6 = .ok (.invokestatic 143, 3) := by decide +kernel
theorem d_BlockRuler_nth_9 : decode b_BlockRuler_nth 9 = .ok (.if_icmp .lt 5, 3) := by decide +kernel
theorem d_BlockRuler_nth_12 : decode b_BlockRuler_nth 12 = .ok (.iconst (-1), 1) := by decide +kernel
theorem d_BlockRuler_nth_13 : decode b_BlockRuler_nth 13 = .ok (.ireturn, 1) := by decide +kernel
theorem d_BlockRuler_nth_14 : decode b_BlockRuler_nth 14 = .ok (.lload_n 0, 1) := by decide +kernel
theorem d_BlockRuler_nth_15 : decode b_BlockRuler_nth 15 = .ok (.lstore_n 3, 1) := by decide +kernel
theorem d_BlockRuler_nth_16 : decode b_BlockRuler_nth 16 = .ok (.iconst 0, 1) := by decide +kernel
theorem d_BlockRuler_nth_17 : decode b_BlockRuler_nth 17 = .ok (.istore 5, 2) := by decide +kernel
theorem d_BlockRuler_nth_19 : decode b_BlockRuler_nth 19 = .ok (.iload 5, 2) := by decide +kernel
theorem d_BlockRuler_nth_21 : decode b_BlockRuler_nth 21 = .ok (.iload_n 2, 1) := by decide +kernel
theorem d_BlockRuler_nth_22 : decode b_BlockRuler_nth 22 = .ok (.if_icmp .ge 14, 3) := by decide +kernel
theorem d_BlockRuler_nth_25 : decode b_BlockRuler_nth 25 = .ok (.lload_n 3, 1) := by decide +kernel
theorem d_BlockRuler_nth_26 : decode b_BlockRuler_nth 26 = .ok (.invokestatic 187, 3) := by decide +kernel
theorem d_BlockRuler_nth_29 : decode b_BlockRuler_nth 29 = .ok (.lstore_n 3, 1) := by decide +kernel
theorem d_BlockRuler_nth_30 : decode b_BlockRuler_nth 30 = .ok (.iinc 5 1, 3) := by decide +kernel
theorem d_BlockRuler_nth_33 : decode b_BlockRuler_nth 33 = .ok (.goto (-14), 3) := by decide +kernel
theorem d_BlockRuler_nth_36 : decode b_BlockRuler_nth 36 = .ok (.lload_n 3, 1) := by decide +kernel
theorem d_BlockRuler_nth_37 : decode b_BlockRuler_nth 37 = .ok (.invokestatic 191, 3) := by decide +kernel
theorem d_BlockRuler_nth_40 : decode b_BlockRuler_nth 40 = .ok (.ireturn, 1) := by decide +kernel
theorem d_Walk_blockAt_0 : decode b_Walk_blockAt 0 = .ok (.aload_n 0, 1) := by decide +kernel
theorem d_Walk_blockAt_1 : decode b_Walk_blockAt 1 = .ok (.getfield 19, 3) := by decide +kernel
theorem d_Walk_blockAt_4 : decode b_Walk_blockAt 4 = .ok (.aload_n 0, 1) := by decide +kernel
theorem d_Walk_blockAt_5 : decode b_Walk_blockAt 5 = .ok (.getfield 35, 3) := by decide +kernel
theorem d_Walk_blockAt_8 : decode b_Walk_blockAt 8 = .ok (.iconst 1, 1) := by decide +kernel
theorem d_Walk_blockAt_9 : decode b_Walk_blockAt 9 = .ok (.isub, 1) := by decide +kernel
theorem d_Walk_blockAt_10 : decode b_Walk_blockAt 10 = .ok (.iload_n 1, 1) := by decide +kernel
theorem d_Walk_blockAt_11 : decode b_Walk_blockAt 11 = .ok (.isub, 1) := by decide +kernel
theorem d_Walk_blockAt_12 : decode b_Walk_blockAt 12 = .ok (.iaload, 1) := by decide +kernel
theorem d_Walk_blockAt_13 : decode b_Walk_blockAt 13 = .ok (.ireturn, 1) := by decide +kernel
theorem d_Walk_lastOf_0 : decode b_Walk_lastOf 0 = .ok (.iconst 0, 1) := by decide +kernel
theorem d_Walk_lastOf_1 : decode b_Walk_lastOf 1 = .ok (.istore_n 3, 1) := by decide +kernel
theorem d_Walk_lastOf_2 : decode b_Walk_lastOf 2 = .ok (.iload_n 3, 1) := by decide +kernel
theorem d_Walk_lastOf_3 : decode b_Walk_lastOf 3 = .ok (.aload_n 0, 1) := by decide +kernel
theorem d_Walk_lastOf_4 : decode b_Walk_lastOf 4 = .ok (.getfield 35, 3) := by decide +kernel
theorem d_Walk_lastOf_7 : decode b_Walk_lastOf 7 = .ok (.if_icmp .ge 29, 3) := by decide +kernel
theorem d_Walk_lastOf_10 : decode b_Walk_lastOf 10 = .ok (.lload_n 1, 1) := by decide +kernel
theorem d_Walk_lastOf_11 : decode b_Walk_lastOf 11 = .ok (.aload_n 0, 1) := by decide +kernel
theorem d_Walk_lastOf_12 : decode b_Walk_lastOf 12 = .ok (.getfield 19, 3) := by decide +kernel
theorem d_Walk_lastOf_15 : decode b_Walk_lastOf 15 = .ok (.iload_n 3, 1) := by decide +kernel
theorem d_Walk_lastOf_16 : decode b_Walk_lastOf 16 = .ok (.iaload, 1) := by decide +kernel
theorem d_Walk_lastOf_17 : decode b_Walk_lastOf 17 = .ok (.invokestatic 57, 3) := by decide +kernel
theorem d_Walk_lastOf_20 : decode b_Walk_lastOf 20 = .ok (.ifCond .eq 10, 3) := by decide +kernel
theorem d_Walk_lastOf_23 : decode b_Walk_lastOf 23 = .ok (.aload_n 0, 1) := by decide +kernel
theorem d_Walk_lastOf_24 : decode b_Walk_lastOf 24 = .ok (.getfield 19, 3) := by decide +kernel
theorem d_Walk_lastOf_27 : decode b_Walk_lastOf 27 = .ok (.iload_n 3, 1) := by decide +kernel
theorem d_Walk_lastOf_28 : decode b_Walk_lastOf 28 = .ok (.iaload, 1) := by decide +kernel
theorem d_Walk_lastOf_29 : decode b_Walk_lastOf 29 = .ok (.ireturn, 1) := by decide +kernel
theorem d_Walk_lastOf_30 : decode b_Walk_lastOf 30 = .ok (.iinc 3 1, 3) := by decide +kernel
theorem d_Walk_lastOf_33 : decode b_Walk_lastOf 33 = .ok (.goto (-31), 3) := by decide +kernel
theorem d_Walk_lastOf_36 : decode b_Walk_lastOf 36 = .ok (.iconst (-1), 1) := by decide +kernel
theorem d_Walk_lastOf_37 : decode b_Walk_lastOf 37 = .ok (.ireturn, 1) := by decide +kernel
theorem d_Walk_clear_0 : decode b_Walk_clear 0 = .ok (.aload_n 0, 1) := by decide +kernel
theorem d_Walk_clear_1 : decode b_Walk_clear 1 = .ok (.iconst 0, 1) := by decide +kernel
theorem d_Walk_clear_2 : decode b_Walk_clear 2 = .ok (.putfield 35, 3) := by decide +kernel
theorem d_Walk_clear_5 : decode b_Walk_clear 5 = .ok (.iconst 0, 1) := by decide +kernel
theorem d_Walk_clear_6 : decode b_Walk_clear 6 = .ok (.istore_n 1, 1) := by decide +kernel
theorem d_Walk_clear_7 : decode b_Walk_clear 7 = .ok (.iload_n 1, 1) := by decide +kernel
theorem d_Walk_clear_8 : decode b_Walk_clear 8 = .ok (.bipush 64, 2) := by decide +kernel
theorem d_Walk_clear_10 : decode b_Walk_clear 10 = .ok (.if_icmp .ge 37, 3) := by decide +kernel
theorem d_Walk_clear_13 : decode b_Walk_clear 13 = .ok (.aload_n 0, 1) := by decide +kernel
theorem d_Walk_clear_14 : decode b_Walk_clear 14 = .ok (.getfield 15, 3) := by decide +kernel
theorem d_Walk_clear_17 : decode b_Walk_clear 17 = .ok (.iload_n 1, 1) := by decide +kernel
theorem d_Walk_clear_18 : decode b_Walk_clear 18 = .ok (.iconst (-1), 1) := by decide +kernel
theorem d_Walk_clear_19 : decode b_Walk_clear 19 = .ok (.iastore, 1) := by decide +kernel
theorem d_Walk_clear_20 : decode b_Walk_clear 20 = .ok (.aload_n 0, 1) := by decide +kernel
theorem d_Walk_clear_21 : decode b_Walk_clear 21 = .ok (.getfield 25, 3) := by decide +kernel
theorem d_Walk_clear_24 : decode b_Walk_clear 24 = .ok (.iload_n 1, 1) := by decide +kernel
theorem d_Walk_clear_25 : decode b_Walk_clear 25 = .ok (.iconst 0, 1) := by decide +kernel
theorem d_Walk_clear_26 : decode b_Walk_clear 26 = .ok (.iastore, 1) := by decide +kernel
theorem d_Walk_clear_27 : decode b_Walk_clear 27 = .ok (.aload_n 0, 1) := by decide +kernel
theorem d_Walk_clear_28 : decode b_Walk_clear 28 = .ok (.getfield 28, 3) := by decide +kernel
theorem d_Walk_clear_31 : decode b_Walk_clear 31 = .ok (.iload_n 1, 1) := by decide +kernel
theorem d_Walk_clear_32 : decode b_Walk_clear 32 = .ok (.lconst 0, 1) := by decide +kernel
theorem d_Walk_clear_33 : decode b_Walk_clear 33 = .ok (.lastore, 1) := by decide +kernel
theorem d_Walk_clear_34 : decode b_Walk_clear 34 = .ok (.aload_n 0, 1) := by decide +kernel
theorem d_Walk_clear_35 : decode b_Walk_clear 35 = .ok (.getfield 32, 3) := by decide +kernel
theorem d_Walk_clear_38 : decode b_Walk_clear 38 = .ok (.iload_n 1, 1) := by decide +kernel
theorem d_Walk_clear_39 : decode b_Walk_clear 39 = .ok (.iconst 0, 1) := by decide +kernel
theorem d_Walk_clear_40 : decode b_Walk_clear 40 = .ok (.iastore, 1) := by decide +kernel
theorem d_Walk_clear_41 : decode b_Walk_clear 41 = .ok (.iinc 1 1, 3) := by decide +kernel
theorem d_Walk_clear_44 : decode b_Walk_clear 44 = .ok (.goto (-37), 3) := by decide +kernel
theorem d_Walk_clear_47 : decode b_Walk_clear 47 = .ok (.return_, 1) := by decide +kernel
theorem d_Walk_goDeep_0 : decode b_Walk_goDeep 0 = .ok (.aload_n 0, 1) := by decide +kernel
theorem d_Walk_goDeep_1 : decode b_Walk_goDeep 1 = .ok (.iconst 0, 1) := by decide +kernel
theorem d_Walk_goDeep_2 : decode b_Walk_goDeep 2 = .ok (.invokestatic 61, 3) := by decide +kernel
theorem d_Walk_goDeep_5 : decode b_Walk_goDeep 5 = .ok (.putfield 39, 3) := by decide +kernel
theorem d_Walk_goDeep_8 : decode b_Walk_goDeep 8 = .ok (.aload_n 0, 1) := by decide +kernel
theorem d_Walk_goDeep_9 : decode b_Walk_goDeep 9 = .ok (.getfield 22, 3) := by decide +kernel
theorem d_Walk_goDeep_12 : decode b_Walk_goDeep 12 = .ok (.iconst 0, 1) := by decide +kernel
theorem d_Walk_goDeep_13 : decode b_Walk_goDeep 13 = .ok (.iconst 0, 1) := by decide +kernel
theorem d_Walk_goDeep_14 : decode b_Walk_goDeep 14 = .ok (.iastore, 1) := by decide +kernel
theorem d_Walk_goDeep_15 : decode b_Walk_goDeep 15 = .ok (.iconst 1, 1) := by decide +kernel
theorem d_Walk_goDeep_16 : decode b_Walk_goDeep 16 = .ok (.istore_n 1, 1) := by decide +kernel
theorem d_Walk_goDeep_17 : decode b_Walk_goDeep 17 = .ok (.iconst 0, 1) := by decide +kernel
theorem d_Walk_goDeep_18 : decode b_Walk_goDeep 18 = .ok (.istore_n 2, 1) := by decide +kernel
theorem d_Walk_goDeep_19 : decode b_Walk_goDeep 19 = .ok (.iload_n 2, 1) := by decide +kernel
theorem d_Walk_goDeep_20 : decode b_Walk_goDeep 20 = .ok (.sipush 576, 3) := by decide +kernel
theorem d_Walk_goDeep_23 : decode b_Walk_goDeep 23 = .ok (.if_icmp .ge 129, 3) := by decide +kernel
theorem d_Walk_goDeep_26 : decode b_Walk_goDeep 26 = .ok (.iload_n 1, 1) := by decide +kernel
theorem d_Walk_goDeep_27 : decode b_Walk_goDeep 27 = .ok (.ifCond .le 125, 3) := by decide +kernel
theorem d_Walk_goDeep_30 : decode b_Walk_goDeep 30 = .ok (.aload_n 0, 1) := by decide +kernel
theorem d_Walk_goDeep_31 : decode b_Walk_goDeep 31 = .ok (.getfield 22, 3) := by decide +kernel
theorem d_Walk_goDeep_34 : decode b_Walk_goDeep 34 = .ok (.iload_n 1, 1) := by decide +kernel
theorem d_Walk_goDeep_35 : decode b_Walk_goDeep 35 = .ok (.iconst 1, 1) := by decide +kernel
theorem d_Walk_goDeep_36 : decode b_Walk_goDeep 36 = .ok (.isub, 1) := by decide +kernel
theorem d_Walk_goDeep_37 : decode b_Walk_goDeep 37 = .ok (.iaload, 1) := by decide +kernel
theorem d_Walk_goDeep_38 : decode b_Walk_goDeep 38 = .ok (.istore_n 3, 1) := by decide +kernel
theorem d_Walk_goDeep_39 : decode b_Walk_goDeep 39 = .ok (.aload_n 0, 1) := by decide +kernel
theorem d_Walk_goDeep_40 : decode b_Walk_goDeep 40 = .ok (.getfield 25, 3) := by decide +kernel
theorem d_Walk_goDeep_43 : decode b_Walk_goDeep 43 = .ok (.iload_n 3, 1) := by decide +kernel
theorem d_Walk_goDeep_44 : decode b_Walk_goDeep 44 = .ok (.iaload, 1) := by decide +kernel
theorem d_Walk_goDeep_45 : decode b_Walk_goDeep 45 = .ok (.aload_n 0, 1) := by decide +kernel
theorem d_Walk_goDeep_46 : decode b_Walk_goDeep 46 = .ok (.getfield 9, 3) := by decide +kernel
theorem d_Walk_goDeep_49 : decode b_Walk_goDeep 49 = .ok (.getfield 65, 3) := by decide +kernel
theorem d_Walk_goDeep_52 : decode b_Walk_goDeep 52 = .ok (.iload_n 3, 1) := by decide +kernel
theorem d_Walk_goDeep_53 : decode b_Walk_goDeep 53 = .ok (.iaload, 1) := by decide +kernel
theorem d_Walk_goDeep_54 : decode b_Walk_goDeep 54 = .ok (.if_icmp .lt 29, 3) := by decide +kernel
theorem d_Walk_goDeep_57 : decode b_Walk_goDeep 57 = .ok (.aload_n 0, 1) := by decide +kernel
theorem d_Walk_goDeep_58 : decode b_Walk_goDeep 58 = .ok (.getfield 19, 3) := by decide +kernel
theorem d_Walk_goDeep_61 : decode b_Walk_goDeep 61 = .ok (.aload_n 0, 1) := by decide +kernel
theorem d_Walk_goDeep_62 : decode b_Walk_goDeep 62 = .ok (.getfield 35, 3) := by decide +kernel
theorem d_Walk_goDeep_65 : decode b_Walk_goDeep 65 = .ok (.iload_n 3, 1) := by decide +kernel
theorem d_Walk_goDeep_66 : decode b_Walk_goDeep 66 = .ok (.iastore, 1) := by decide +kernel
theorem d_Walk_goDeep_67 : decode b_Walk_goDeep 67 = .ok (.aload_n 0, 1) := by decide +kernel
theorem d_Walk_goDeep_68 : decode b_Walk_goDeep 68 = .ok (.dup, 1) := by decide +kernel
theorem d_Walk_goDeep_69 : decode b_Walk_goDeep 69 = .ok (.getfield 35, 3) := by decide +kernel
theorem d_Walk_goDeep_72 : decode b_Walk_goDeep 72 = .ok (.iconst 1, 1) := by decide +kernel
theorem d_Walk_goDeep_73 : decode b_Walk_goDeep 73 = .ok (.iadd, 1) := by decide +kernel
theorem d_Walk_goDeep_74 : decode b_Walk_goDeep 74 = .ok (.putfield 35, 3) := by decide +kernel
theorem d_Walk_goDeep_77 : decode b_Walk_goDeep 77 = .ok (.iinc 1 (-1), 3) := by decide +kernel
theorem d_Walk_goDeep_80 : decode b_Walk_goDeep 80 = .ok (.goto 66, 3) := by decide +kernel
theorem d_Walk_goDeep_83 : decode b_Walk_goDeep 83 = .ok (.aload_n 0, 1) := by decide +kernel
theorem d_Walk_goDeep_84 : decode b_Walk_goDeep 84 = .ok (.getfield 9, 3) := by decide +kernel
theorem d_Walk_goDeep_87 : decode b_Walk_goDeep 87 = .ok (.iload_n 3, 1) := by decide +kernel
theorem d_Walk_goDeep_88 : decode b_Walk_goDeep 88 = .ok (.aload_n 0, 1) := by decide +kernel
theorem d_Walk_goDeep_89 : decode b_Walk_goDeep 89 = .ok (.getfield 25, 3) := by decide +kernel
theorem d_Walk_goDeep_92 : decode b_Walk_goDeep 92 = .ok (.iload_n 3, 1) := by decide +kernel
theorem d_Walk_goDeep_93 : decode b_Walk_goDeep 93 = .ok (.iaload, 1) := by decide +kernel
theorem d_Walk_goDeep_94 : decode b_Walk_goDeep 94 = .ok (.invokevirtual 70, 3) := by decide +kernel
theorem d_Walk_goDeep_97 : decode b_Walk_goDeep 97 = .ok (.istore 4, 2) := by decide +kernel
theorem d_Walk_goDeep_99 : decode b_Walk_goDeep 99 = .ok (.aload_n 0, 1) := by decide +kernel
theorem d_Walk_goDeep_100 : decode b_Walk_goDeep 100 = .ok (.getfield 25, 3) := by decide +kernel
theorem d_Walk_goDeep_103 : decode b_Walk_goDeep 103 = .ok (.iload_n 3, 1) := by decide +kernel
theorem d_Walk_goDeep_104 : decode b_Walk_goDeep 104 = .ok (.dup2, 1) := by decide +kernel
theorem d_Walk_goDeep_105 : decode b_Walk_goDeep 105 = .ok (.iaload, 1) := by decide +kernel
theorem d_Walk_goDeep_106 : decode b_Walk_goDeep 106 = .ok (.iconst 1, 1) := by decide +kernel
theorem d_Walk_goDeep_107 : decode b_Walk_goDeep 107 = .ok (.iadd, 1) := by decide +kernel
theorem d_Walk_goDeep_108 : decode b_Walk_goDeep 108 = .ok (.iastore, 1) := by decide +kernel
theorem d_Walk_goDeep_109 : decode b_Walk_goDeep 109 = .ok (.aload_n 0, 1) := by decide +kernel
theorem d_Walk_goDeep_110 : decode b_Walk_goDeep 110 = .ok (.getfield 39, 3) := by decide +kernel
theorem d_Walk_goDeep_113 : decode b_Walk_goDeep 113 = .ok (.iload 4, 2) := by decide +kernel
theorem d_Walk_goDeep_115 : decode b_Walk_goDeep 115 = .ok (.invokestatic 57, 3) := by decide +kernel
theorem d_Walk_goDeep_118 : decode b_Walk_goDeep 118 = .ok (.ifCond .ne 28, 3) := by decide +kernel
theorem d_Walk_goDeep_121 : decode b_Walk_goDeep 121 = .ok (.aload_n 0, 1) := by decide +kernel
theorem d_Walk_goDeep_122 : decode b_Walk_goDeep 122 = .ok (.dup, 1) := by decide +kernel
theorem d_Walk_goDeep_123 : decode b_Walk_goDeep 123 = .ok (.getfield 39, 3) := by decide +kernel
theorem d_Walk_goDeep_126 : decode b_Walk_goDeep 126 = .ok (.iload 4, 2) := by decide +kernel
theorem d_Walk_goDeep_128 : decode b_Walk_goDeep 128 = .ok (.invokestatic 61, 3) := by decide +kernel
theorem d_Walk_goDeep_131 : decode b_Walk_goDeep 131 = .ok (.lor, 1) := by decide +kernel
theorem d_Walk_goDeep_132 : decode b_Walk_goDeep 132 = .ok (.putfield 39, 3) := by decide +kernel
theorem d_Walk_goDeep_135 : decode b_Walk_goDeep 135 = .ok (.aload_n 0, 1) := by decide +kernel
theorem d_Walk_goDeep_136 : decode b_Walk_goDeep 136 = .ok (.getfield 22, 3) := by decide +kernel
theorem d_Walk_goDeep_139 : decode b_Walk_goDeep 139 = .ok (.iload_n 1, 1) := by decide +kernel
theorem d_Walk_goDeep_140 : decode b_Walk_goDeep 140 = .ok (.iload 4, 2) := by decide +kernel
theorem d_Walk_goDeep_142 : decode b_Walk_goDeep 142 = .ok (.iastore, 1) := by decide +kernel
theorem d_Walk_goDeep_143 : decode b_Walk_goDeep 143 = .ok (.iinc 1 1, 3) := by decide +kernel
theorem d_Walk_goDeep_146 : decode b_Walk_goDeep 146 = .ok (.iinc 2 1, 3) := by decide +kernel
theorem d_Walk_goDeep_149 : decode b_Walk_goDeep 149 = .ok (.goto (-130), 3) := by decide +kernel
theorem d_Walk_goDeep_152 : decode b_Walk_goDeep 152 = .ok (.return_, 1) := by decide +kernel
theorem d_Walk_markEndsOf_0 : decode b_Walk_markEndsOf 0 = .ok (.iconst 0, 1) := by decide +kernel
theorem d_Walk_markEndsOf_1 : decode b_Walk_markEndsOf 1 = .ok (.istore_n 2, 1) := by decide +kernel
theorem d_Walk_markEndsOf_2 : decode b_Walk_markEndsOf 2 = .ok (.iload_n 2, 1) := by decide +kernel
theorem d_Walk_markEndsOf_3 : decode b_Walk_markEndsOf 3 = .ok (.aload_n 0, 1) := by decide +kernel
theorem d_Walk_markEndsOf_4 : decode b_Walk_markEndsOf 4 = .ok (.getfield 9, 3) := by decide +kernel
theorem d_Walk_markEndsOf_7 : decode b_Walk_markEndsOf 7 = .ok (.getfield 65, 3) := by decide +kernel
theorem d_Walk_markEndsOf_10 : decode b_Walk_markEndsOf 10 = .ok (.iload_n 1, 1) := by decide +kernel
theorem d_Walk_markEndsOf_11 : decode b_Walk_markEndsOf 11 = .ok (.iaload, 1) := by decide +kernel
theorem d_Walk_markEndsOf_12 : decode b_Walk_markEndsOf 12 = .ok (.if_icmp .ge 42, 3) := by decide +kernel
theorem d_Walk_markEndsOf_15 : decode b_Walk_markEndsOf 15 = .ok (.aload_n 0, 1) := by decide +kernel
theorem d_Walk_markEndsOf_16 : decode b_Walk_markEndsOf 16 = .ok (.getfield 9, 3) := by decide +kernel
theorem d_Walk_markEndsOf_19 : decode b_Walk_markEndsOf 19 = .ok (.iload_n 1, 1) := by decide +kernel
theorem d_Walk_markEndsOf_20 : decode b_Walk_markEndsOf 20 = .ok (.iload_n 2, 1) := by decide +kernel
theorem d_Walk_markEndsOf_21 : decode b_Walk_markEndsOf 21 = .ok (.invokevirtual 70, 3) := by decide +kernel
theorem d_Walk_markEndsOf_24 : decode b_Walk_markEndsOf 24 = .ok (.istore_n 3, 1) := by decide +kernel
theorem d_Walk_markEndsOf_25 : decode b_Walk_markEndsOf 25 = .ok (.aload_n 0, 1) := by decide +kernel
theorem d_Walk_markEndsOf_26 : decode b_Walk_markEndsOf 26 = .ok (.getfield 28, 3) := by decide +kernel
theorem d_Walk_markEndsOf_29 : decode b_Walk_markEndsOf 29 = .ok (.iload_n 3, 1) := by decide +kernel
theorem d_Walk_markEndsOf_30 : decode b_Walk_markEndsOf 30 = .ok (.dup2, 1) := by decide +kernel
theorem d_Walk_markEndsOf_31 : decode b_Walk_markEndsOf 31 = .ok (.laload, 1) := by decide +kernel
theorem d_Walk_markEndsOf_32 : decode b_Walk_markEndsOf 32 = .ok (.iload_n 1, 1) := by decide +kernel
theorem d_Walk_markEndsOf_33 : decode b_Walk_markEndsOf 33 = .ok (.invokestatic 61, 3) := by decide +kernel
theorem d_Walk_markEndsOf_36 : decode b_Walk_markEndsOf 36 = .ok (.lor, 1) := by decide +kernel
theorem d_Walk_markEndsOf_37 : decode b_Walk_markEndsOf 37 = .ok (.lastore, 1) := by decide +kernel
theorem d_Walk_markEndsOf_38 : decode b_Walk_markEndsOf 38 = .ok (.aload_n 0, 1) := by decide +kernel
theorem d_Walk_markEndsOf_39 : decode b_Walk_markEndsOf 39 = .ok (.getfield 32, 3) := by decide +kernel
theorem d_Walk_markEndsOf_42 : decode b_Walk_markEndsOf 42 = .ok (.iload_n 3, 1) := by decide +kernel
theorem d_Walk_markEndsOf_43 : decode b_Walk_markEndsOf 43 = .ok (.dup2, 1) := by decide +kernel
theorem d_Walk_markEndsOf_44 : decode b_Walk_markEndsOf 44 = .ok (.iaload, 1) := by decide +kernel
theorem d_Walk_markEndsOf_45 : decode b_Walk_markEndsOf 45 = .ok (.iconst 1, 1) := by decide +kernel
theorem d_Walk_markEndsOf_46 : decode b_Walk_markEndsOf 46 = .ok (.iadd, 1) := by decide +kernel
theorem d_Walk_markEndsOf_47 : decode b_Walk_markEndsOf 47 = .ok (.iastore, 1) := by decide +kernel
theorem d_Walk_markEndsOf_48 : decode b_Walk_markEndsOf 48 = .ok (.iinc 2 1, 3) := by decide +kernel
theorem d_Walk_markEndsOf_51 : decode b_Walk_markEndsOf 51 = .ok (.goto (-49), 3) := by decide +kernel
theorem d_Walk_markEndsOf_54 : decode b_Walk_markEndsOf 54 = .ok (.return_, 1) := by decide +kernel
theorem d_Walk_make_0 : decode b_Walk_make 0 = .ok (.aload_n 0, 1) := by decide +kernel
theorem d_Walk_make_1 : decode b_Walk_make 1 = .ok (.invokevirtual 43, 3) := by decide +kernel
theorem d_Walk_make_4 : decode b_Walk_make 4 = .ok (.aload_n 0, 1) := by decide +kernel
theorem d_Walk_make_5 : decode b_Walk_make 5 = .ok (.invokevirtual 46, 3) := by decide +kernel
theorem d_Walk_make_8 : decode b_Walk_make 8 = .ok (.iconst 0, 1) := by decide +kernel
theorem d_Walk_make_9 : decode b_Walk_make 9 = .ok (.istore_n 1, 1) := by decide +kernel
theorem d_Walk_make_10 : decode b_Walk_make 10 = .ok (.iload_n 1, 1) := by decide +kernel
theorem d_Walk_make_11 : decode b_Walk_make 11 = .ok (.aload_n 0, 1) := by decide +kernel
theorem d_Walk_make_12 : decode b_Walk_make 12 = .ok (.getfield 35, 3) := by decide +kernel
theorem d_Walk_make_15 : decode b_Walk_make 15 = .ok (.if_icmp .ge 27, 3) := by decide +kernel
theorem d_Walk_make_18 : decode b_Walk_make 18 = .ok (.aload_n 0, 1) := by decide +kernel
theorem d_Walk_make_19 : decode b_Walk_make 19 = .ok (.iload_n 1, 1) := by decide +kernel
theorem d_Walk_make_20 : decode b_Walk_make 20 = .ok (.invokevirtual 49, 3) := by decide +kernel
theorem d_Walk_make_23 : decode b_Walk_make 23 = .ok (.istore_n 2, 1) := by decide +kernel
theorem d_Walk_make_24 : decode b_Walk_make 24 = .ok (.aload_n 0, 1) := by decide +kernel
theorem d_Walk_make_25 : decode b_Walk_make 25 = .ok (.getfield 15, 3) := by decide +kernel
theorem d_Walk_make_28 : decode b_Walk_make 28 = .ok (.iload_n 2, 1) := by decide +kernel
theorem d_Walk_make_29 : decode b_Walk_make 29 = .ok (.iload_n 1, 1) := by decide +kernel
theorem d_Walk_make_30 : decode b_Walk_make 30 = .ok (.iastore, 1) := by decide +kernel
theorem d_Walk_make_31 : decode b_Walk_make 31 = .ok (.aload_n 0, 1) := by decide +kernel
theorem d_Walk_make_32 : decode b_Walk_make 32 = .ok (.iload_n 2, 1) := by decide +kernel
theorem d_Walk_make_33 : decode b_Walk_make 33 = .ok (.invokevirtual 53, 3) := by decide +kernel
theorem d_Walk_make_36 : decode b_Walk_make 36 = .ok (.iinc 1 1, 3) := by decide +kernel
theorem d_Walk_make_39 : decode b_Walk_make 39 = .ok (.goto (-29), 3) := by decide +kernel
theorem d_Walk_make_42 : decode b_Walk_make 42 = .ok (.return_, 1) := by decide +kernel
theorem d_Rulers_isRuled_0 : decode b_Rulers_isRuled 0 = .ok (.aload_n 0, 1) := by decide +kernel
theorem d_Rulers_isRuled_1 : decode b_Rulers_isRuled 1 = .ok (.getfield 15, 3) := by decide +kernel
theorem d_Rulers_isRuled_4 : decode b_Rulers_isRuled 4 = .ok (.iload_n 2, 1) := by decide +kernel
theorem d_Rulers_isRuled_5 : decode b_Rulers_isRuled 5 = .ok (.laload, 1) := by decide +kernel
theorem d_Rulers_isRuled_6 : decode b_Rulers_isRuled 6 = .ok (.iload_n 1, 1) := by decide +kernel
theorem d_Rulers_isRuled_7 : decode b_Rulers_isRuled 7 = .ok (.invokestatic 25, 3) := by decide +kernel
theorem d_Rulers_isRuled_10 : decode b_Rulers_isRuled 10 = .ok (.ireturn, 1) := by decide +kernel
theorem d_Rulers_realmOf_0 : decode b_Rulers_realmOf 0 = .ok (.lconst 0, 1) := by decide +kernel
theorem d_Rulers_realmOf_1 : decode b_Rulers_realmOf 1 = .ok (.lstore_n 2, 1) := by decide +kernel
theorem d_Rulers_realmOf_2 : decode b_Rulers_realmOf 2 = .ok (.iconst 0, 1) := by decide +kernel
theorem d_Rulers_realmOf_3 : decode b_Rulers_realmOf 3 = .ok (.istore 4, 2) := by decide +kernel
theorem d_Rulers_realmOf_5 : decode b_Rulers_realmOf 5 = .ok (.iload 4, 2) := by decide +kernel
theorem d_Rulers_realmOf_7 : decode b_Rulers_realmOf 7 = .ok (.bipush 64, 2) := by decide +kernel
theorem d_Rulers_realmOf_9 : decode b_Rulers_realmOf 9 = .ok (.if_icmp .ge 27, 3) := by decide +kernel
theorem d_Rulers_realmOf_12 : decode b_Rulers_realmOf 12 = .ok (.aload_n 0, 1) := by decide +kernel
theorem d_Rulers_realmOf_13 : decode b_Rulers_realmOf 13 = .ok (.iload_n 1, 1) := by decide +kernel
theorem d_Rulers_realmOf_14 : decode b_Rulers_realmOf 14 = .ok (.iload 4, 2) := by decide +kernel
theorem d_Rulers_realmOf_16 : decode b_Rulers_realmOf 16 = .ok (.invokevirtual 37, 3) := by decide +kernel
theorem d_Rulers_realmOf_19 : decode b_Rulers_realmOf 19 = .ok (.ifCond .eq 11, 3) := by decide +kernel
theorem d_Rulers_realmOf_22 : decode b_Rulers_realmOf 22 = .ok (.lload_n 2, 1) := by decide +kernel
theorem d_Rulers_realmOf_23 : decode b_Rulers_realmOf 23 = .ok (.iload 4, 2) := by decide +kernel
theorem d_Rulers_realmOf_25 : decode b_Rulers_realmOf 25 = .ok (.invokestatic 29, 3) := by decide +kernel
theorem d_Rulers_realmOf_28 : decode b_Rulers_realmOf 28 = .ok (.lor, 1) := by decide +kernel
theorem d_Rulers_realmOf_29 : decode b_Rulers_realmOf 29 = .ok (.lstore_n 2, 1) := by decide +kernel
theorem d_Rulers_realmOf_30 : decode b_Rulers_realmOf 30 = .ok (.iinc 4 1, 3) := by decide +kernel
theorem d_Rulers_realmOf_33 : decode b_Rulers_realmOf 33 = .ok (.goto (-28), 3) := by decide +kernel
theorem d_Rulers_realmOf_36 : decode b_Rulers_realmOf 36 = .ok (.lload_n 2, 1) := by decide +kernel
theorem d_Rulers_realmOf_37 : decode b_Rulers_realmOf 37 = .ok (.lreturn, 1) := by decide +kernel
theorem d_Rulers_edgeOf_0 : decode b_Rulers_edgeOf 0 = .ok (.aload_n 0, 1) := by decide +kernel
theorem d_Rulers_edgeOf_1 : decode b_Rulers_edgeOf 1 = .ok (.iload_n 1, 1) := by decide +kernel
theorem d_Rulers_edgeOf_2 : decode b_Rulers_edgeOf 2 = .ok (.invokevirtual 41, 3) := by decide +kernel
theorem d_Rulers_edgeOf_5 : decode b_Rulers_edgeOf 5 = .ok (.lstore_n 2, 1) := by decide +kernel
theorem d_Rulers_edgeOf_6 : decode b_Rulers_edgeOf 6 = .ok (.lload_n 2, 1) := by decide +kernel
theorem d_Rulers_edgeOf_7 : decode b_Rulers_edgeOf 7 = .ok (.iload_n 1, 1) := by decide +kernel
theorem d_Rulers_edgeOf_8 : decode b_Rulers_edgeOf 8 = .ok (.invokestatic 29, 3) := by decide +kernel
theorem d_Rulers_edgeOf_11 : decode b_Rulers_edgeOf 11 = .ok (.ldc2_w 44, 3) := by decide +kernel
theorem d_Rulers_edgeOf_14 : decode b_Rulers_edgeOf 14 = .ok (.lxor, 1) := by decide +kernel
theorem d_Rulers_edgeOf_15 : decode b_Rulers_edgeOf 15 = .ok (.land, 1) := by decide +kernel
theorem d_Rulers_edgeOf_16 : decode b_Rulers_edgeOf 16 = .ok (.lstore 4, 2) := by decide +kernel
theorem d_Rulers_edgeOf_18 : decode b_Rulers_edgeOf 18 = .ok (.lconst 0, 1) := by decide +kernel
theorem d_Rulers_edgeOf_19 : decode b_Rulers_edgeOf 19 = .ok (.lstore 6, 2) := by decide +kernel
theorem d_Rulers_edgeOf_21 : decode b_Rulers_edgeOf 21 = .ok (.iconst 0, 1) := by decide +kernel
theorem d_Rulers_edgeOf_22 : decode b_Rulers_edgeOf 22 = .ok (.istore 8, 2) := by decide +kernel
theorem d_Rulers_edgeOf_24 : decode b_Rulers_edgeOf 24 = .ok (.iload 8, 2) := by decide +kernel
theorem d_Rulers_edgeOf_26 : decode b_Rulers_edgeOf 26 = .ok (.bipush 64, 2) := by decide +kernel
theorem d_Rulers_edgeOf_28 : decode b_Rulers_edgeOf 28 = .ok (.if_icmp .ge 46, 3) := by decide +kernel
theorem d_Rulers_edgeOf_31 : decode b_Rulers_edgeOf 31 = .ok (.aload_n 0, 1) := by decide +kernel
theorem d_Rulers_edgeOf_32 : decode b_Rulers_edgeOf 32 = .ok (.getfield 9, 3) := by decide +kernel
theorem d_Rulers_edgeOf_35 : decode b_Rulers_edgeOf 35 = .ok (.getfield 46, 3) := by decide +kernel
theorem d_Rulers_edgeOf_38 : decode b_Rulers_edgeOf 38 = .ok (.iload 8, 2) := by decide +kernel
theorem d_Rulers_edgeOf_40 : decode b_Rulers_edgeOf 40 = .ok (.laload, 1) := by decide +kernel
theorem d_Rulers_edgeOf_41 : decode b_Rulers_edgeOf 41 = .ok (.lload_n 2, 1) := by decide +kernel
theorem d_Rulers_edgeOf_42 : decode b_Rulers_edgeOf 42 = .ok (.land, 1) := by decide +kernel
theorem d_Rulers_edgeOf_43 : decode b_Rulers_edgeOf 43 = .ok (.lconst 0, 1) := by decide +kernel
theorem d_Rulers_edgeOf_44 : decode b_Rulers_edgeOf 44 = .ok (.lcmp, 1) := by decide +kernel
theorem d_Rulers_edgeOf_45 : decode b_Rulers_edgeOf 45 = .ok (.ifCond .eq 23, 3) := by decide +kernel
theorem d_Rulers_edgeOf_48 : decode b_Rulers_edgeOf 48 = .ok (.lload 4, 2) := by decide +kernel
theorem d_Rulers_edgeOf_50 : decode b_Rulers_edgeOf 50 = .ok (.iload 8, 2) := by decide +kernel
theorem d_Rulers_edgeOf_52 : decode b_Rulers_edgeOf 52 = .ok (.invokestatic 25, 3) := by decide +kernel
theorem d_Rulers_edgeOf_55 : decode b_Rulers_edgeOf 55 = .ok (.ifCond .ne 13, 3) := by decide +kernel
theorem d_Rulers_edgeOf_58 : decode b_Rulers_edgeOf 58 = .ok (.lload 6, 2) := by decide +kernel
theorem d_Rulers_edgeOf_60 : decode b_Rulers_edgeOf 60 = .ok (.iload 8, 2) := by decide +kernel
theorem d_Rulers_edgeOf_62 : decode b_Rulers_edgeOf 62 = .ok (.invokestatic 29, 3) := by decide +kernel
theorem d_Rulers_edgeOf_65 : decode b_Rulers_edgeOf 65 = .ok (.lor, 1) := by decide +kernel
theorem d_Rulers_edgeOf_66 : decode b_Rulers_edgeOf 66 = .ok (.lstore 6, 2) := by decide +kernel
theorem d_Rulers_edgeOf_68 : decode b_Rulers_edgeOf 68 = .ok (.iinc 8 1, 3) := by decide +kernel
theorem d_Rulers_edgeOf_71 : decode b_Rulers_edgeOf 71 = .ok (.goto (-47), 3) := by decide +kernel
theorem d_Rulers_edgeOf_74 : decode b_Rulers_edgeOf 74 = .ok (.lload 6, 2) := by decide +kernel
theorem d_Rulers_edgeOf_76 : decode b_Rulers_edgeOf 76 = .ok (.lreturn, 1) := by decide +kernel
theorem d_Rulers_sharedBy_0 : decode b_Rulers_sharedBy 0 = .ok (.aload_n 0, 1) := by decide +kernel
theorem d_Rulers_sharedBy_1 : decode b_Rulers_sharedBy 1 = .ok (.getfield 9, 3) := by decide +kernel
theorem d_Rulers_sharedBy_4 : decode b_Rulers_sharedBy 4 = .ok (.getfield 19, 3) := by decide +kernel
theorem d_Rulers_sharedBy_7 : decode b_Rulers_sharedBy 7 = .ok (.lstore_n 3, 1) := by decide +kernel
theorem d_Rulers_sharedBy_8 : decode b_Rulers_sharedBy 8 = .ok (.lload_n 1, 1) := by decide +kernel
theorem d_Rulers_sharedBy_9 : decode b_Rulers_sharedBy 9 = .ok (.lstore 5, 2) := by decide +kernel
theorem d_Rulers_sharedBy_11 : decode b_Rulers_sharedBy 11 = .ok (.lload_n 1, 1) := by decide +kernel
theorem d_Rulers_sharedBy_12 : decode b_Rulers_sharedBy 12 = .ok (.invokestatic 61, 3) := by decide +kernel
theorem d_Rulers_sharedBy_15 : decode b_Rulers_sharedBy 15 = .ok (.istore 7, 2) := by decide +kernel
theorem d_Rulers_sharedBy_17 : decode b_Rulers_sharedBy 17 = .ok (.iconst 0, 1) := by decide +kernel
theorem d_Rulers_sharedBy_18 : decode b_Rulers_sharedBy 18 = .ok (.istore 8, 2) := by decide +kernel
theorem d_Rulers_sharedBy_20 : decode b_Rulers_sharedBy 20 = .ok (.iload 8, 2) := by decide +kernel
theorem d_Rulers_sharedBy_22 : decode b_Rulers_sharedBy 22 = .ok (.iload 7, 2) := by decide +kernel
theorem d_Rulers_sharedBy_24 : decode b_Rulers_sharedBy 24 = .ok (.if_icmp .ge 29, 3) := by decide +kernel
theorem d_Rulers_sharedBy_27 : decode b_Rulers_sharedBy 27 = .ok (.lload_n 3, 1) := by decide +kernel
theorem d_Rulers_sharedBy_28 : decode b_Rulers_sharedBy 28 = .ok (.aload_n 0, 1) := by decide +kernel
theorem d_Rulers_sharedBy_29 : decode b_Rulers_sharedBy 29 = .ok (.getfield 15, 3) := by decide +kernel
theorem d_Rulers_sharedBy_32 : decode b_Rulers_sharedBy 32 = .ok (.lload 5, 2) := by decide +kernel
theorem d_Rulers_sharedBy_34 : decode b_Rulers_sharedBy 34 = .ok (.invokestatic 67, 3) := by decide +kernel
theorem d_Rulers_sharedBy_37 : decode b_Rulers_sharedBy 37 = .ok (.laload, 1) := by decide +kernel
theorem d_Rulers_sharedBy_38 : decode b_Rulers_sharedBy 38 = .ok (.land, 1) := by decide +kernel
theorem d_Rulers_sharedBy_39 : decode b_Rulers_sharedBy 39 = .ok (.lstore_n 3, 1) := by decide +kernel
theorem d_Rulers_sharedBy_40 : decode b_Rulers_sharedBy 40 = .ok (.lload 5, 2) := by decide +kernel
theorem d_Rulers_sharedBy_42 : decode b_Rulers_sharedBy 42 = .ok (.invokestatic 70, 3) := by decide +kernel
theorem d_Rulers_sharedBy_45 : decode b_Rulers_sharedBy 45 = .ok (.lstore 5, 2) := by decide +kernel
theorem d_Rulers_sharedBy_47 : decode b_Rulers_sharedBy 47 = .ok (.iinc 8 1, 3) := by decide +kernel
theorem d_Rulers_sharedBy_50 : decode b_Rulers_sharedBy 50 = .ok (.goto (-30), 3) := by decide +kernel
theorem d_Rulers_sharedBy_53 : decode b_Rulers_sharedBy 53 = .ok (.lload_n 3, 1) := by decide +kernel
theorem d_Rulers_sharedBy_54 : decode b_Rulers_sharedBy 54 = .ok (.lreturn, 1) := by decide +kernel
theorem d_Rulers_narrow_0 : decode b_Rulers_narrow 0 = .ok (.iconst 0, 1) := by decide +kernel
theorem d_Rulers_narrow_1 : decode b_Rulers_narrow 1 = .ok (.istore_n 1, 1) := by decide +kernel
theorem d_Rulers_narrow_2 : decode b_Rulers_narrow 2 = .ok (.iconst 1, 1) := by decide +kernel
theorem d_Rulers_narrow_3 : decode b_Rulers_narrow 3 = .ok (.istore_n 2, 1) := by decide +kernel
theorem d_Rulers_narrow_4 : decode b_Rulers_narrow 4 = .ok (.iload_n 2, 1) := by decide +kernel
theorem d_Rulers_narrow_5 : decode b_Rulers_narrow 5 = .ok (.aload_n 0, 1) := by decide +kernel
theorem d_Rulers_narrow_6 : decode b_Rulers_narrow 6 = .ok (.getfield 9, 3) := by decide +kernel
theorem d_Rulers_narrow_9 : decode b_Rulers_narrow 9 = .ok (.getfield 49, 3) := by decide +kernel
theorem d_Rulers_narrow_12 : decode b_Rulers_narrow 12 = .ok (.if_icmp .ge 60, 3) := by decide +kernel
theorem d_Rulers_narrow_15 : decode b_Rulers_narrow 15 = .ok (.aload_n 0, 1) := by decide +kernel
theorem d_Rulers_narrow_16 : decode b_Rulers_narrow 16 = .ok (.getfield 9, 3) := by decide +kernel
theorem d_Rulers_narrow_19 : decode b_Rulers_narrow 19 = .ok (.iload_n 2, 1) := by decide +kernel
theorem d_Rulers_narrow_20 : decode b_Rulers_narrow 20 = .ok (.invokevirtual 53, 3) := by decide +kernel
theorem d_Rulers_narrow_23 : decode b_Rulers_narrow 23 = .ok (.istore_n 3, 1) := by decide +kernel
theorem d_Rulers_narrow_24 : decode b_Rulers_narrow 24 = .ok (.aload_n 0, 1) := by decide +kernel
theorem d_Rulers_narrow_25 : decode b_Rulers_narrow 25 = .ok (.aload_n 0, 1) := by decide +kernel
theorem d_Rulers_narrow_26 : decode b_Rulers_narrow 26 = .ok (.getfield 9, 3) := by decide +kernel
theorem d_Rulers_narrow_29 : decode b_Rulers_narrow 29 = .ok (.getfield 46, 3) := by decide +kernel
theorem d_Rulers_narrow_32 : decode b_Rulers_narrow 32 = .ok (.iload_n 3, 1) := by decide +kernel
theorem d_Rulers_narrow_33 : decode b_Rulers_narrow 33 = .ok (.laload, 1) := by decide +kernel
theorem d_Rulers_narrow_34 : decode b_Rulers_narrow 34 = .ok (.invokevirtual 57, 3) := by decide +kernel
theorem d_Rulers_narrow_37 : decode b_Rulers_narrow 37 = .ok (.iload_n 3, 1) := by decide +kernel
theorem d_Rulers_narrow_38 : decode b_Rulers_narrow 38 = .ok (.invokestatic 29, 3) := by decide +kernel
theorem d_Rulers_narrow_41 : decode b_Rulers_narrow 41 = .ok (.lor, 1) := by decide +kernel
theorem d_Rulers_narrow_42 : decode b_Rulers_narrow 42 = .ok (.lstore 4, 2) := by decide +kernel
theorem d_Rulers_narrow_44 : decode b_Rulers_narrow 44 = .ok (.lload 4, 2) := by decide +kernel
theorem d_Rulers_narrow_46 : decode b_Rulers_narrow 46 = .ok (.aload_n 0, 1) := by decide +kernel
theorem d_Rulers_narrow_47 : decode b_Rulers_narrow 47 = .ok (.getfield 15, 3) := by decide +kernel
theorem d_Rulers_narrow_50 : decode b_Rulers_narrow 50 = .ok (.iload_n 3, 1) := by decide +kernel
theorem d_Rulers_narrow_51 : decode b_Rulers_narrow 51 = .ok (.laload, 1) := by decide +kernel
theorem d_Rulers_narrow_52 : decode b_Rulers_narrow 52 = .ok (.lcmp, 1) := by decide +kernel
theorem d_Rulers_narrow_53 : decode b_Rulers_narrow 53 = .ok (.ifCond .eq 13, 3) := by decide +kernel
theorem d_Rulers_narrow_56 : decode b_Rulers_narrow 56 = .ok (.aload_n 0, 1) := by decide +kernel
theorem d_Rulers_narrow_57 : decode b_Rulers_narrow 57 = .ok (.getfield 15, 3) := by decide +kernel
theorem d_Rulers_narrow_60 : decode b_Rulers_narrow 60 = .ok (.iload_n 3, 1) := by decide +kernel
theorem d_Rulers_narrow_61 : decode b_Rulers_narrow 61 = .ok (.lload 4, 2) := by decide +kernel
theorem d_Rulers_narrow_63 : decode b_Rulers_narrow 63 = .ok (.lastore, 1) := by decide +kernel
theorem d_Rulers_narrow_64 : decode b_Rulers_narrow 64 = .ok (.iconst 1, 1) := by decide +kernel
theorem d_Rulers_narrow_65 : decode b_Rulers_narrow 65 = .ok (.istore_n 1, 1) := by decide +kernel
theorem d_Rulers_narrow_66 : decode b_Rulers_narrow 66 = .ok (.iinc 2 1, 3) := by decide +kernel
theorem d_Rulers_narrow_69 : decode b_Rulers_narrow 69 = .ok (.goto (-65), 3) := by decide +kernel
theorem d_Rulers_narrow_72 : decode b_Rulers_narrow 72 = .ok (.iload_n 1, 1) := by decide +kernel
theorem d_Rulers_narrow_73 : decode b_Rulers_narrow 73 = .ok (.ireturn, 1) := by decide +kernel
theorem d_Rulers_make_0 : decode b_Rulers_make 0 = .ok (.iconst 0, 1) := by decide +kernel
theorem d_Rulers_make_1 : decode b_Rulers_make 1 = .ok (.istore_n 1, 1) := by decide +kernel
theorem d_Rulers_make_2 : decode b_Rulers_make 2 = .ok (.iload_n 1, 1) := by decide +kernel
theorem d_Rulers_make_3 : decode b_Rulers_make 3 = .ok (.bipush 64, 2) := by decide +kernel
theorem d_Rulers_make_5 : decode b_Rulers_make 5 = .ok (.if_icmp .ge 40, 3) := by decide +kernel
theorem d_Rulers_make_8 : decode b_Rulers_make 8 = .ok (.aload_n 0, 1) := by decide +kernel
theorem d_Rulers_make_9 : decode b_Rulers_make 9 = .ok (.getfield 15, 3) := by decide +kernel
theorem d_Rulers_make_12 : decode b_Rulers_make 12 = .ok (.iload_n 1, 1) := by decide +kernel
theorem d_Rulers_make_13 : decode b_Rulers_make 13 = .ok (.aload_n 0, 1) := by decide +kernel
theorem d_Rulers_make_14 : decode b_Rulers_make 14 = .ok (.getfield 9, 3) := by decide +kernel
theorem d_Rulers_make_17 : decode b_Rulers_make 17 = .ok (.getfield 19, 3) := by decide +kernel
theorem d_Rulers_make_20 : decode b_Rulers_make 20 = .ok (.iload_n 1, 1) := by decide +kernel
theorem d_Rulers_make_21 : decode b_Rulers_make 21 = .ok (.invokestatic 25, 3) := by decide +kernel
theorem d_Rulers_make_24 : decode b_Rulers_make 24 = .ok (.ifCond .eq 13, 3) := by decide +kernel
theorem d_Rulers_make_27 : decode b_Rulers_make 27 = .ok (.aload_n 0, 1) := by decide +kernel
theorem d_Rulers_make_28 : decode b_Rulers_make 28 = .ok (.getfield 9, 3) := by decide +kernel
theorem d_Rulers_make_31 : decode b_Rulers_make 31 = .ok (.getfield 19, 3) := by decide +kernel
theorem d_Rulers_make_34 : decode b_Rulers_make 34 = .ok (.goto 4, 3) := by decide +kernel
theorem d_Rulers_make_37 : decode b_Rulers_make 37 = .ok (.lconst 0, 1) := by decide +kernel
theorem d_Rulers_make_38 : decode b_Rulers_make 38 = .ok (.lastore, 1) := by decide +kernel
theorem d_Rulers_make_39 : decode b_Rulers_make 39 = .ok (.iinc 1 1, 3) := by decide +kernel
theorem d_Rulers_make_42 : decode b_Rulers_make 42 = .ok (.goto (-40), 3) := by decide +kernel
theorem d_Rulers_make_45 : decode b_Rulers_make 45 = .ok (.aload_n 0, 1) := by decide +kernel
theorem d_Rulers_make_46 : decode b_Rulers_make 46 = .ok (.getfield 15, 3) := by decide +kernel
theorem d_Rulers_make_49 : decode b_Rulers_make 49 = .ok (.iconst 0, 1) := by decide +kernel
theorem d_Rulers_make_50 : decode b_Rulers_make 50 = .ok (.iconst 0, 1) := by decide +kernel
theorem d_Rulers_make_51 : decode b_Rulers_make 51 = .ok (.invokestatic 29, 3) := by decide +kernel
theorem d_Rulers_make_54 : decode b_Rulers_make 54 = .ok (.lastore, 1) := by decide +kernel
theorem d_Rulers_make_55 : decode b_Rulers_make 55 = .ok (.iconst 1, 1) := by decide +kernel
theorem d_Rulers_make_56 : decode b_Rulers_make 56 = .ok (.istore_n 1, 1) := by decide +kernel
theorem d_Rulers_make_57 : decode b_Rulers_make 57 = .ok (.iconst 0, 1) := by decide +kernel
theorem d_Rulers_make_58 : decode b_Rulers_make 58 = .ok (.istore_n 2, 1) := by decide +kernel
theorem d_Rulers_make_59 : decode b_Rulers_make 59 = .ok (.iload_n 2, 1) := by decide +kernel
theorem d_Rulers_make_60 : decode b_Rulers_make 60 = .ok (.sipush 4097, 3) := by decide +kernel
theorem d_Rulers_make_63 : decode b_Rulers_make 63 = .ok (.if_icmp .ge 18, 3) := by decide +kernel
theorem d_Rulers_make_66 : decode b_Rulers_make 66 = .ok (.iload_n 1, 1) := by decide +kernel
theorem d_Rulers_make_67 : decode b_Rulers_make 67 = .ok (.ifCond .eq 14, 3) := by decide +kernel
theorem d_Rulers_make_70 : decode b_Rulers_make 70 = .ok (.aload_n 0, 1) := by decide +kernel
theorem d_Rulers_make_71 : decode b_Rulers_make 71 = .ok (.invokevirtual 33, 3) := by decide +kernel
theorem d_Rulers_make_74 : decode b_Rulers_make 74 = .ok (.istore_n 1, 1) := by decide +kernel
theorem d_Rulers_make_75 : decode b_Rulers_make 75 = .ok (.iinc 2 1, 3) := by decide +kernel
theorem d_Rulers_make_78 : decode b_Rulers_make 78 = .ok (.goto (-19), 3) := by decide +kernel
theorem d_Rulers_make_81 : decode b_Rulers_make 81 = .ok (.return_, 1) := by decide +kernel
theorem d_Loops_kindOf_0 : decode b_Loops_kindOf 0 = .ok (.aload_n 0, 1) := by decide +kernel
theorem d_Loops_kindOf_1 : decode b_Loops_kindOf 1 = .ok (.getfield 9, 3) := by decide +kernel
theorem d_Loops_kindOf_4 : decode b_Loops_kindOf 4 = .ok (.iload_n 1, 1) := by decide +kernel
theorem d_Loops_kindOf_5 : decode b_Loops_kindOf 5 = .ok (.iload_n 2, 1) := by decide +kernel
theorem d_Loops_kindOf_6 : decode b_Loops_kindOf 6 = .ok (.invokevirtual 57, 3) := by decide +kernel
theorem d_Loops_kindOf_9 : decode b_Loops_kindOf 9 = .ok (.istore_n 3, 1) := by decide +kernel
theorem d_Loops_kindOf_10 : decode b_Loops_kindOf 10 = .ok (.aload_n 0, 1) := by decide +kernel
theorem d_Loops_kindOf_11 : decode b_Loops_kindOf 11 = .ok (.getfield 15, 3) := by decide +kernel
theorem d_Loops_kindOf_14 : decode b_Loops_kindOf 14 = .ok (.getfield 63, 3) := by decide +kernel
theorem d_Loops_kindOf_17 : decode b_Loops_kindOf 17 = .ok (.iload_n 3, 1) := by decide +kernel
theorem d_Loops_kindOf_18 : decode b_Loops_kindOf 18 = .ok (.iaload, 1) := by decide +kernel
theorem d_Loops_kindOf_19 : decode b_Loops_kindOf 19 = .ok (.aload_n 0, 1) := by decide +kernel
theorem d_Loops_kindOf_20 : decode b_Loops_kindOf 20 = .ok (.getfield 15, 3) := by decide +kernel
theorem d_Loops_kindOf_23 : decode b_Loops_kindOf 23 = .ok (.getfield 63, 3) := by decide +kernel
theorem d_Loops_kindOf_26 : decode b_Loops_kindOf 26 = .ok (.iload_n 1, 1) := by decide +kernel
theorem d_Loops_kindOf_27 : decode b_Loops_kindOf 27 = .ok (.iaload, 1) := by decide +kernel
theorem d_Loops_kindOf_28 : decode b_Loops_kindOf 28 = .ok (.if_icmp .le 5, 3) := by decide +kernel
theorem d_Loops_kindOf_31 : decode b_Loops_kindOf 31 = .ok (.iconst 0, 1) := by decide +kernel
theorem d_Loops_kindOf_32 : decode b_Loops_kindOf 32 = .ok (.ireturn, 1) := by decide +kernel
theorem d_Loops_kindOf_33 : decode b_Loops_kindOf 33 = .ok (.aload_n 0, 1) := by decide +kernel
theorem d_Loops_kindOf_34 : decode b_Loops_kindOf 34 = .ok (.getfield 19, 3) := by decide +kernel
theorem d_Loops_kindOf_37 : decode b_Loops_kindOf 37 = .ok (.iload_n 3, 1) := by decide +kernel
theorem d_Loops_kindOf_38 : decode b_Loops_kindOf 38 = .ok (.iload_n 1, 1) := by decide +kernel
theorem d_Loops_kindOf_39 : decode b_Loops_kindOf 39 = .ok (.invokevirtual 67, 3) := by decide +kernel
theorem d_Loops_kindOf_42 : decode b_Loops_kindOf 42 = .ok (.ifCond .eq 7, 3) := by decide +kernel
theorem d_Loops_kindOf_45 : decode b_Loops_kindOf 45 = .ok (.iconst 1, 1) := by decide +kernel
theorem d_Loops_kindOf_46 : decode b_Loops_kindOf 46 = .ok (.goto 4, 3) := by decide +kernel
theorem d_Loops_kindOf_49 : decode b_Loops_kindOf 49 = .ok (.iconst 2, 1) := by decide +kernel
theorem d_Loops_kindOf_50 : decode b_Loops_kindOf 50 = .ok (.ireturn, 1) := by decide +kernel
theorem d_Loops_depthOf_0 : decode b_Loops_depthOf 0 = .ok (.iconst 0, 1) := by decide +kernel
theorem d_Loops_depthOf_1 : decode b_Loops_depthOf 1 = .ok (.istore_n 2, 1) := by decide +kernel
theorem d_Loops_depthOf_2 : decode b_Loops_depthOf 2 = .ok (.iconst 0, 1) := by decide +kernel
theorem d_Loops_depthOf_3 : decode b_Loops_depthOf 3 = .ok (.istore_n 3, 1) := by decide +kernel
theorem d_Loops_depthOf_4 : decode b_Loops_depthOf 4 = .ok (.iload_n 3, 1) := by decide +kernel
theorem d_Loops_depthOf_5 : decode b_Loops_depthOf 5 = .ok (.bipush 64, 2) := by decide +kernel
theorem d_Loops_depthOf_7 : decode b_Loops_depthOf 7 = .ok (.if_icmp .ge 25, 3) := by decide +kernel
theorem d_Loops_depthOf_10 : decode b_Loops_depthOf 10 = .ok (.aload_n 0, 1) := by decide +kernel
theorem d_Loops_depthOf_11 : decode b_Loops_depthOf 11 = .ok (.getfield 23, 3) := by decide +kernel
theorem d_Loops_depthOf_14 : decode b_Loops_depthOf 14 = .ok (.iload_n 3, 1) := by decide +kernel
theorem d_Loops_depthOf_15 : decode b_Loops_depthOf 15 = .ok (.laload, 1) := by decide +kernel
theorem d_Loops_depthOf_16 : decode b_Loops_depthOf 16 = .ok (.iload_n 1, 1) := by decide +kernel
theorem d_Loops_depthOf_17 : decode b_Loops_depthOf 17 = .ok (.invokestatic 73, 3) := by decide +kernel
theorem d_Loops_depthOf_20 : decode b_Loops_depthOf 20 = .ok (.ifCond .eq 6, 3) := by decide +kernel
theorem d_Loops_depthOf_23 : decode b_Loops_depthOf 23 = .ok (.iinc 2 1, 3) := by decide +kernel
theorem d_Loops_depthOf_26 : decode b_Loops_depthOf 26 = .ok (.iinc 3 1, 3) := by decide +kernel
theorem d_Loops_depthOf_29 : decode b_Loops_depthOf 29 = .ok (.goto (-25), 3) := by decide +kernel
theorem d_Loops_depthOf_32 : decode b_Loops_depthOf 32 = .ok (.iload_n 2, 1) := by decide +kernel
theorem d_Loops_depthOf_33 : decode b_Loops_depthOf 33 = .ok (.ireturn, 1) := by decide +kernel
theorem d_Loops_greatestDepth_0 : decode b_Loops_greatestDepth 0 = .ok (.iconst 0, 1) := by decide +kernel
theorem d_Loops_greatestDepth_1 : decode b_Loops_greatestDepth 1 = .ok (.istore_n 1, 1) := by decide +kernel
theorem d_Loops_greatestDepth_2 : decode b_Loops_greatestDepth 2 = .ok (.iconst 0, 1) := by decide +kernel
theorem d_Loops_greatestDepth_3 : decode b_Loops_greatestDepth 3 = .ok (.istore_n 2, 1) := by decide +kernel
theorem d_Loops_greatestDepth_4 : decode b_Loops_greatestDepth 4 = .ok (.iload_n 2, 1) := by decide +kernel
theorem d_Loops_greatestDepth_5 : decode b_Loops_greatestDepth 5 = .ok (.bipush 64, 2) := by decide +kernel
theorem d_Loops_greatestDepth_7 : decode b_Loops_greatestDepth 7 = .ok (.if_icmp .ge 19, 3) := by decide +kernel
theorem d_Loops_greatestDepth_10 : decode b_Loops_greatestDepth 10 = .ok (.iload_n 1, 1) := by decide +kernel
theorem d_Loops_greatestDepth_11 : decode b_Loops_greatestDepth 11 = .ok (.aload_n 0, 1) := by decide +kernel
theorem d_Loops_greatestDepth_12 : decode b_Loops_greatestDepth 12 = .ok (.iload_n 2, 1) := by decide +kernel
theorem d_Loops_greatestDepth_13 : decode b_Loops_greatestDepth 13 = .ok (.invokevirtual 77, 3) := by decide +kernel
theorem d_Loops_greatestDepth_16 : decode b_Loops_greatestDepth 16 = .ok (.invokestatic 80, 3) := by decide +kernel
theorem d_Loops_greatestDepth_19 : decode b_Loops_greatestDepth 19 = .ok (.istore_n 1, 1) := by decide +kernel
theorem d_Loops_greatestDepth_20 : decode b_Loops_greatestDepth 20 = .ok (.iinc 2 1, 3) := by decide +kernel
theorem d_Loops_greatestDepth_23 : decode b_Loops_greatestDepth 23 = .ok (.goto (-19), 3) := by decide +kernel
theorem d_Loops_greatestDepth_26 : decode b_Loops_greatestDepth 26 = .ok (.iload_n 1, 1) := by decide +kernel
theorem d_Loops_greatestDepth_27 : decode b_Loops_greatestDepth 27 = .ok (.ireturn, 1) := by decide +kernel
theorem d_Loops_innermostOf_0 : decode b_Loops_innermostOf 0 = .ok (.iconst (-1), 1) := by decide +kernel
theorem d_Loops_innermostOf_1 : decode b_Loops_innermostOf 1 = .ok (.istore_n 2, 1) := by decide +kernel
theorem d_Loops_innermostOf_2 : decode b_Loops_innermostOf 2 = .ok (.bipush 65, 2) := by decide +kernel
theorem d_Loops_innermostOf_4 : decode b_Loops_innermostOf 4 = .ok (.istore_n 3, 1) := by decide +kernel
theorem d_Loops_innermostOf_5 : decode b_Loops_innermostOf 5 = .ok (.aload_n 0, 1) := by decide +kernel
theorem d_Loops_innermostOf_6 : decode b_Loops_innermostOf 6 = .ok (.getfield 15, 3) := by decide +kernel
theorem d_Loops_innermostOf_9 : decode b_Loops_innermostOf 9 = .ok (.getfield 40, 3) := by decide +kernel
theorem d_Loops_innermostOf_12 : decode b_Loops_innermostOf 12 = .ok (.iconst 1, 1) := by decide +kernel
theorem d_Loops_innermostOf_13 : decode b_Loops_innermostOf 13 = .ok (.isub, 1) := by decide +kernel
theorem d_Loops_innermostOf_14 : decode b_Loops_innermostOf 14 = .ok (.istore 4, 2) := by decide +kernel
theorem d_Loops_innermostOf_16 : decode b_Loops_innermostOf 16 = .ok (.iload 4, 2) := by decide +kernel
theorem d_Loops_innermostOf_18 : decode b_Loops_innermostOf 18 = .ok (.ifCond .lt 58, 3) := by decide +kernel
theorem d_Loops_innermostOf_21 : decode b_Loops_innermostOf 21 = .ok (.aload_n 0, 1) := by decide +kernel
theorem d_Loops_innermostOf_22 : decode b_Loops_innermostOf 22 = .ok (.getfield 15, 3) := by decide +kernel
theorem d_Loops_innermostOf_25 : decode b_Loops_innermostOf 25 = .ok (.iload 4, 2) := by decide +kernel
theorem d_Loops_innermostOf_27 : decode b_Loops_innermostOf 27 = .ok (.invokevirtual 45, 3) := by decide +kernel
theorem d_Loops_innermostOf_30 : decode b_Loops_innermostOf 30 = .ok (.istore 5, 2) := by decide +kernel
theorem d_Loops_innermostOf_32 : decode b_Loops_innermostOf 32 = .ok (.aload_n 0, 1) := by decide +kernel
theorem d_Loops_innermostOf_33 : decode b_Loops_innermostOf 33 = .ok (.getfield 23, 3) := by decide +kernel
theorem d_Loops_innermostOf_36 : decode b_Loops_innermostOf 36 = .ok (.iload 5, 2) := by decide +kernel
theorem d_Loops_innermostOf_38 : decode b_Loops_innermostOf 38 = .ok (.laload, 1) := by decide +kernel
theorem d_Loops_innermostOf_39 : decode b_Loops_innermostOf 39 = .ok (.invokestatic 85, 3) := by decide +kernel
theorem d_Loops_innermostOf_42 : decode b_Loops_innermostOf 42 = .ok (.istore 6, 2) := by decide +kernel
theorem d_Loops_innermostOf_44 : decode b_Loops_innermostOf 44 = .ok (.aload_n 0, 1) := by decide +kernel
theorem d_Loops_innermostOf_45 : decode b_Loops_innermostOf 45 = .ok (.getfield 23, 3) := by decide +kernel
theorem d_Loops_innermostOf_48 : decode b_Loops_innermostOf 48 = .ok (.iload 5, 2) := by decide +kernel
theorem d_Loops_innermostOf_50 : decode b_Loops_innermostOf 50 = .ok (.laload, 1) := by decide +kernel
theorem d_Loops_innermostOf_51 : decode b_Loops_innermostOf 51 = .ok (.iload_n 1, 1) := by decide +kernel
theorem d_Loops_innermostOf_52 : decode b_Loops_innermostOf 52 = .ok (.invokestatic 73, 3) := by decide +kernel
theorem d_Loops_innermostOf_55 : decode b_Loops_innermostOf 55 = .ok (.ifCond .eq 15, 3) := by decide +kernel
theorem d_Loops_innermostOf_58 : decode b_Loops_innermostOf 58 = .ok (.iload 6, 2) := by decide +kernel
theorem d_Loops_innermostOf_60 : decode b_Loops_innermostOf 60 = .ok (.iload_n 3, 1) := by decide +kernel
theorem d_Loops_innermostOf_61 : decode b_Loops_innermostOf 61 = .ok (.if_icmp .ge 9, 3) := by decide +kernel
theorem d_Loops_innermostOf_64 : decode b_Loops_innermostOf 64 = .ok (.iload 5, 2) := by decide +kernel
theorem d_Loops_innermostOf_66 : decode b_Loops_innermostOf 66 = .ok (.istore_n 2, 1) := by decide +kernel
theorem d_Loops_innermostOf_67 : decode b_Loops_innermostOf 67 = .ok (.iload 6, 2) := by decide +kernel
theorem d_Loops_innermostOf_69 : decode b_Loops_innermostOf 69 = .ok (.istore_n 3, 1) := by decide +kernel
theorem d_Loops_innermostOf_70 : decode b_Loops_innermostOf 70 = .ok (.iinc 4 (-1), 3) := by decide +kernel
theorem d_Loops_innermostOf_73 : decode b_Loops_innermostOf 73 = .ok (.goto (-57), 3) := by decide +kernel
theorem d_Loops_innermostOf_76 : decode b_Loops_innermostOf 76 = .ok (.iload_n 2, 1) := by decide +kernel
theorem d_Loops_innermostOf_77 : decode b_Loops_innermostOf 77 = .ok (.ireturn, 1) := by decide +kernel
theorem d_Loops_clear_0 : decode b_Loops_clear 0 = .ok (.aload_n 0, 1) := by decide +kernel
theorem d_Loops_clear_1 : decode b_Loops_clear 1 = .ok (.iconst 0, 1) := by decide +kernel
theorem d_Loops_clear_2 : decode b_Loops_clear 2 = .ok (.putfield 27, 3) := by decide +kernel
theorem d_Loops_clear_5 : decode b_Loops_clear 5 = .ok (.aload_n 0, 1) := by decide +kernel
theorem d_Loops_clear_6 : decode b_Loops_clear 6 = .ok (.iconst 0, 1) := by decide +kernel
theorem d_Loops_clear_7 : decode b_Loops_clear 7 = .ok (.putfield 31, 3) := by decide +kernel
theorem d_Loops_clear_10 : decode b_Loops_clear 10 = .ok (.aload_n 0, 1) := by decide +kernel
theorem d_Loops_clear_11 : decode b_Loops_clear 11 = .ok (.iconst 0, 1) := by decide +kernel
theorem d_Loops_clear_12 : decode b_Loops_clear 12 = .ok (.putfield 34, 3) := by decide +kernel
theorem d_Loops_clear_15 : decode b_Loops_clear 15 = .ok (.iconst 0, 1) := by decide +kernel
theorem d_Loops_clear_16 : decode b_Loops_clear 16 = .ok (.istore_n 1, 1) := by decide +kernel
theorem d_Loops_clear_17 : decode b_Loops_clear 17 = .ok (.iload_n 1, 1) := by decide +kernel
theorem d_Loops_clear_18 : decode b_Loops_clear 18 = .ok (.bipush 64, 2) := by decide +kernel
theorem d_Loops_clear_20 : decode b_Loops_clear 20 = .ok (.if_icmp .ge 16, 3) := by decide +kernel
theorem d_Loops_clear_23 : decode b_Loops_clear 23 = .ok (.aload_n 0, 1) := by decide +kernel
theorem d_Loops_clear_24 : decode b_Loops_clear 24 = .ok (.getfield 23, 3) := by decide +kernel
theorem d_Loops_clear_27 : decode b_Loops_clear 27 = .ok (.iload_n 1, 1) := by decide +kernel
theorem d_Loops_clear_28 : decode b_Loops_clear 28 = .ok (.lconst 0, 1) := by decide +kernel
theorem d_Loops_clear_29 : decode b_Loops_clear 29 = .ok (.lastore, 1) := by decide +kernel
theorem d_Loops_clear_30 : decode b_Loops_clear 30 = .ok (.iinc 1 1, 3) := by decide +kernel
theorem d_Loops_clear_33 : decode b_Loops_clear 33 = .ok (.goto (-16), 3) := by decide +kernel
theorem d_Loops_clear_36 : decode b_Loops_clear 36 = .ok (.return_, 1) := by decide +kernel
theorem d_Loops_markWaysOf_0 : decode b_Loops_markWaysOf 0 = .ok (.iconst 0, 1) := by decide +kernel
theorem d_Loops_markWaysOf_1 : decode b_Loops_markWaysOf 1 = .ok (.istore_n 2, 1) := by decide +kernel
theorem d_Loops_markWaysOf_2 : decode b_Loops_markWaysOf 2 = .ok (.iload_n 2, 1) := by decide +kernel
theorem d_Loops_markWaysOf_3 : decode b_Loops_markWaysOf 3 = .ok (.aload_n 0, 1) := by decide +kernel
theorem d_Loops_markWaysOf_4 : decode b_Loops_markWaysOf 4 = .ok (.getfield 9, 3) := by decide +kernel
theorem d_Loops_markWaysOf_7 : decode b_Loops_markWaysOf 7 = .ok (.getfield 91, 3) := by decide +kernel
theorem d_Loops_markWaysOf_10 : decode b_Loops_markWaysOf 10 = .ok (.iload_n 1, 1) := by decide +kernel
theorem d_Loops_markWaysOf_11 : decode b_Loops_markWaysOf 11 = .ok (.iaload, 1) := by decide +kernel
theorem d_Loops_markWaysOf_12 : decode b_Loops_markWaysOf 12 = .ok (.if_icmp .ge 71, 3) := by decide +kernel
theorem d_Loops_markWaysOf_15 : decode b_Loops_markWaysOf 15 = .ok (.aload_n 0, 1) := by decide +kernel
theorem d_Loops_markWaysOf_16 : decode b_Loops_markWaysOf 16 = .ok (.iload_n 1, 1) := by decide +kernel
theorem d_Loops_markWaysOf_17 : decode b_Loops_markWaysOf 17 = .ok (.iload_n 2, 1) := by decide +kernel
theorem d_Loops_markWaysOf_18 : decode b_Loops_markWaysOf 18 = .ok (.invokevirtual 94, 3) := by decide +kernel
theorem d_Loops_markWaysOf_21 : decode b_Loops_markWaysOf 21 = .ok (.istore_n 3, 1) := by decide +kernel
theorem d_Loops_markWaysOf_22 : decode b_Loops_markWaysOf 22 = .ok (.iload_n 3, 1) := by decide +kernel
theorem d_Loops_markWaysOf_23 : decode b_Loops_markWaysOf 23 = .ok (.ifCond .eq 13, 3) := by decide +kernel
theorem d_Loops_markWaysOf_26 : decode b_Loops_markWaysOf 26 = .ok (.aload_n 0, 1) := by decide +kernel
theorem d_Loops_markWaysOf_27 : decode b_Loops_markWaysOf 27 = .ok (.dup, 1) := by decide +kernel
theorem d_Loops_markWaysOf_28 : decode b_Loops_markWaysOf 28 = .ok (.getfield 31, 3) := by decide +kernel
theorem d_Loops_markWaysOf_31 : decode b_Loops_markWaysOf 31 = .ok (.iconst 1, 1) := by decide +kernel
theorem d_Loops_markWaysOf_32 : decode b_Loops_markWaysOf 32 = .ok (.iadd, 1) := by decide +kernel
theorem d_Loops_markWaysOf_33 : decode b_Loops_markWaysOf 33 = .ok (.putfield 31, 3) := by decide +kernel
theorem d_Loops_markWaysOf_36 : decode b_Loops_markWaysOf 36 = .ok (.iload_n 3, 1) := by decide +kernel
theorem d_Loops_markWaysOf_37 : decode b_Loops_markWaysOf 37 = .ok (.iconst 2, 1) := by decide +kernel
theorem d_Loops_markWaysOf_38 : decode b_Loops_markWaysOf 38 = .ok (.if_icmp .ne 13, 3) := by decide +kernel
theorem d_Loops_markWaysOf_41 : decode b_Loops_markWaysOf 41 = .ok (.aload_n 0, 1) := by decide +kernel
theorem d_Loops_markWaysOf_42 : decode b_Loops_markWaysOf 42 = .ok (.dup, 1) := by decide +kernel
theorem d_Loops_markWaysOf_43 : decode b_Loops_markWaysOf 43 = .ok (.getfield 34, 3) := by decide +kernel
theorem d_Loops_markWaysOf_46 : decode b_Loops_markWaysOf 46 = .ok (.iconst 1, 1) := by decide +kernel
theorem d_Loops_markWaysOf_47 : decode b_Loops_markWaysOf 47 = .ok (.iadd, 1) := by decide +kernel
theorem d_Loops_markWaysOf_48 : decode b_Loops_markWaysOf 48 = .ok (.putfield 34, 3) := by decide +kernel
theorem d_Loops_markWaysOf_51 : decode b_Loops_markWaysOf 51 = .ok (.iload_n 3, 1) := by decide +kernel
theorem d_Loops_markWaysOf_52 : decode b_Loops_markWaysOf 52 = .ok (.iconst 1, 1) := by decide +kernel
theorem d_Loops_markWaysOf_53 : decode b_Loops_markWaysOf 53 = .ok (.if_icmp .ne 24, 3) := by decide +kernel
theorem d_Loops_markWaysOf_56 : decode b_Loops_markWaysOf 56 = .ok (.aload_n 0, 1) := by decide +kernel
theorem d_Loops_markWaysOf_57 : decode b_Loops_markWaysOf 57 = .ok (.getfield 23, 3) := by decide +kernel
theorem d_Loops_markWaysOf_60 : decode b_Loops_markWaysOf 60 = .ok (.aload_n 0, 1) := by decide +kernel
theorem d_Loops_markWaysOf_61 : decode b_Loops_markWaysOf 61 = .ok (.getfield 9, 3) := by decide +kernel
theorem d_Loops_markWaysOf_64 : decode b_Loops_markWaysOf 64 = .ok (.iload_n 1, 1) := by decide +kernel
theorem d_Loops_markWaysOf_65 : decode b_Loops_markWaysOf 65 = .ok (.iload_n 2, 1) := by decide +kernel
theorem d_Loops_markWaysOf_66 : decode b_Loops_markWaysOf 66 = .ok (.invokevirtual 57, 3) := by decide +kernel
theorem d_Loops_markWaysOf_69 : decode b_Loops_markWaysOf 69 = .ok (.dup2, 1) := by decide +kernel
theorem d_Loops_markWaysOf_70 : decode b_Loops_markWaysOf 70 = .ok (.laload, 1) := by decide +kernel
theorem d_Loops_markWaysOf_71 : decode b_Loops_markWaysOf 71 = .ok (.iload_n 1, 1) := by decide +kernel
theorem d_Loops_markWaysOf_72 : decode b_Loops_markWaysOf 72 = .ok (.invokestatic 97, 3) := by decide +kernel
theorem d_Loops_markWaysOf_75 : decode b_Loops_markWaysOf 75 = .ok (.lor, 1) := by decide +kernel
theorem d_Loops_markWaysOf_76 : decode b_Loops_markWaysOf 76 = .ok (.lastore, 1) := by decide +kernel
theorem d_Loops_markWaysOf_77 : decode b_Loops_markWaysOf 77 = .ok (.iinc 2 1, 3) := by decide +kernel
theorem d_Loops_markWaysOf_80 : decode b_Loops_markWaysOf 80 = .ok (.goto (-78), 3) := by decide +kernel
theorem d_Loops_markWaysOf_83 : decode b_Loops_markWaysOf 83 = .ok (.return_, 1) := by decide +kernel
theorem d_Loops_grown_0 : decode b_Loops_grown 0 = .ok (.lload_n 2, 1) := by decide +kernel
theorem d_Loops_grown_1 : decode b_Loops_grown 1 = .ok (.iload_n 1, 1) := by decide +kernel
theorem d_Loops_grown_2 : decode b_Loops_grown 2 = .ok (.invokestatic 97, 3) := by decide +kernel
theorem d_Loops_grown_5 : decode b_Loops_grown 5 = .ok (.lor, 1) := by decide +kernel
theorem d_Loops_grown_6 : decode b_Loops_grown 6 = .ok (.lstore 4, 2) := by decide +kernel
theorem d_Loops_grown_8 : decode b_Loops_grown 8 = .ok (.lload_n 2, 1) := by decide +kernel
theorem d_Loops_grown_9 : decode b_Loops_grown 9 = .ok (.iload_n 1, 1) := by decide +kernel
theorem d_Loops_grown_10 : decode b_Loops_grown 10 = .ok (.invokestatic 97, 3) := by decide +kernel
theorem d_Loops_grown_13 : decode b_Loops_grown 13 = .ok (.ldc2_w 101, 3) := by decide +kernel
theorem d_Loops_grown_16 : decode b_Loops_grown 16 = .ok (.lxor, 1) := by decide +kernel
theorem d_Loops_grown_17 : decode b_Loops_grown 17 = .ok (.land, 1) := by decide +kernel
theorem d_Loops_grown_18 : decode b_Loops_grown 18 = .ok (.lstore 6, 2) := by decide +kernel
theorem d_Loops_grown_20 : decode b_Loops_grown 20 = .ok (.iconst 0, 1) := by decide +kernel
theorem d_Loops_grown_21 : decode b_Loops_grown 21 = .ok (.istore 8, 2) := by decide +kernel
theorem d_Loops_grown_23 : decode b_Loops_grown 23 = .ok (.iload 8, 2) := by decide +kernel
theorem d_Loops_grown_25 : decode b_Loops_grown 25 = .ok (.bipush 64, 2) := by decide +kernel
theorem d_Loops_grown_27 : decode b_Loops_grown 27 = .ok (.if_icmp .ge 55, 3) := by decide +kernel
theorem d_Loops_grown_30 : decode b_Loops_grown 30 = .ok (.lload 6, 2) := by decide +kernel
theorem d_Loops_grown_32 : decode b_Loops_grown 32 = .ok (.lconst 0, 1) := by decide +kernel
theorem d_Loops_grown_33 : decode b_Loops_grown 33 = .ok (.lcmp, 1) := by decide +kernel
theorem d_Loops_grown_34 : decode b_Loops_grown 34 = .ok (.ifCond .eq 48, 3) := by decide +kernel
theorem d_Loops_grown_37 : decode b_Loops_grown 37 = .ok (.aload_n 0, 1) := by decide +kernel
theorem d_Loops_grown_38 : decode b_Loops_grown 38 = .ok (.getfield 15, 3) := by decide +kernel
theorem d_Loops_grown_41 : decode b_Loops_grown 41 = .ok (.getfield 103, 3) := by decide +kernel
theorem d_Loops_grown_44 : decode b_Loops_grown 44 = .ok (.lload 6, 2) := by decide +kernel
theorem d_Loops_grown_46 : decode b_Loops_grown 46 = .ok (.invokestatic 106, 3) := by decide +kernel
theorem d_Loops_grown_49 : decode b_Loops_grown 49 = .ok (.laload, 1) := by decide +kernel
theorem d_Loops_grown_50 : decode b_Loops_grown 50 = .ok (.lload 4, 2) := by decide +kernel
theorem d_Loops_grown_52 : decode b_Loops_grown 52 = .ok (.ldc2_w 101, 3) := by decide +kernel
theorem d_Loops_grown_55 : decode b_Loops_grown 55 = .ok (.lxor, 1) := by decide +kernel
theorem d_Loops_grown_56 : decode b_Loops_grown 56 = .ok (.land, 1) := by decide +kernel
theorem d_Loops_grown_57 : decode b_Loops_grown 57 = .ok (.lstore 9, 2) := by decide +kernel
theorem d_Loops_grown_59 : decode b_Loops_grown 59 = .ok (.lload 4, 2) := by decide +kernel
theorem d_Loops_grown_61 : decode b_Loops_grown 61 = .ok (.lload 9, 2) := by decide +kernel
theorem d_Loops_grown_63 : decode b_Loops_grown 63 = .ok (.lor, 1) := by decide +kernel
theorem d_Loops_grown_64 : decode b_Loops_grown 64 = .ok (.lstore 4, 2) := by decide +kernel
theorem d_Loops_grown_66 : decode b_Loops_grown 66 = .ok (.lload 6, 2) := by decide +kernel
theorem d_Loops_grown_68 : decode b_Loops_grown 68 = .ok (.invokestatic 109, 3) := by decide +kernel
theorem d_Loops_grown_71 : decode b_Loops_grown 71 = .ok (.lload 9, 2) := by decide +kernel
theorem d_Loops_grown_73 : decode b_Loops_grown 73 = .ok (.lor, 1) := by decide +kernel
theorem d_Loops_grown_74 : decode b_Loops_grown 74 = .ok (.lstore 6, 2) := by decide +kernel
theorem d_Loops_grown_76 : decode b_Loops_grown 76 = .ok (.iinc 8 1, 3) := by decide +kernel
theorem d_Loops_grown_79 : decode b_Loops_grown 79 = .ok (.goto (-56), 3) := by decide +kernel
theorem d_Loops_grown_82 : decode b_Loops_grown 82 = .ok (.lload 4, 2) := by decide +kernel
theorem d_Loops_grown_84 : decode b_Loops_grown 84 = .ok (.lreturn, 1) := by decide +kernel
theorem d_Loops_make_0 : decode b_Loops_make 0 = .ok (.aload_n 0, 1) := by decide +kernel
theorem d_Loops_make_1 : decode b_Loops_make 1 = .ok (.invokevirtual 37, 3) := by decide +kernel
theorem d_Loops_make_4 : decode b_Loops_make 4 = .ok (.iconst 0, 1) := by decide +kernel
theorem d_Loops_make_5 : decode b_Loops_make 5 = .ok (.istore_n 1, 1) := by decide +kernel
theorem d_Loops_make_6 : decode b_Loops_make 6 = .ok (.iload_n 1, 1) := by decide +kernel
theorem d_Loops_make_7 : decode b_Loops_make 7 = .ok (.aload_n 0, 1) := by decide +kernel
theorem d_Loops_make_8 : decode b_Loops_make 8 = .ok (.getfield 15, 3) := by decide +kernel
theorem d_Loops_make_11 : decode b_Loops_make 11 = .ok (.getfield 40, 3) := by decide +kernel
theorem d_Loops_make_14 : decode b_Loops_make 14 = .ok (.if_icmp .ge 21, 3) := by decide +kernel
theorem d_Loops_make_17 : decode b_Loops_make 17 = .ok (.aload_n 0, 1) := by decide +kernel
theorem d_Loops_make_18 : decode b_Loops_make 18 = .ok (.aload_n 0, 1) := by decide +kernel
theorem d_Loops_make_19 : decode b_Loops_make 19 = .ok (.getfield 15, 3) := by decide +kernel
theorem d_Loops_make_22 : decode b_Loops_make 22 = .ok (.iload_n 1, 1) := by decide +kernel
theorem d_Loops_make_23 : decode b_Loops_make 23 = .ok (.invokevirtual 45, 3) := by decide +kernel
theorem d_Loops_make_26 : decode b_Loops_make 26 = .ok (.invokevirtual 49, 3) := by decide +kernel
theorem d_Loops_make_29 : decode b_Loops_make 29 = .ok (.iinc 1 1, 3) := by decide +kernel
theorem d_Loops_make_32 : decode b_Loops_make 32 = .ok (.goto (-26), 3) := by decide +kernel
theorem d_Loops_make_35 : decode b_Loops_make 35 = .ok (.iconst 0, 1) := by decide +kernel
theorem d_Loops_make_36 : decode b_Loops_make 36 = .ok (.istore_n 1, 1) := by decide +kernel
theorem d_Loops_make_37 : decode b_Loops_make 37 = .ok (.iload_n 1, 1) := by decide +kernel
theorem d_Loops_make_38 : decode b_Loops_make 38 = .ok (.bipush 64, 2) := by decide +kernel
theorem d_Loops_make_40 : decode b_Loops_make 40 = .ok (.if_icmp .ge 47, 3) := by decide +kernel
theorem d_Loops_make_43 : decode b_Loops_make 43 = .ok (.aload_n 0, 1) := by decide +kernel
theorem d_Loops_make_44 : decode b_Loops_make 44 = .ok (.getfield 23, 3) := by decide +kernel
theorem d_Loops_make_47 : decode b_Loops_make 47 = .ok (.iload_n 1, 1) := by decide +kernel
theorem d_Loops_make_48 : decode b_Loops_make 48 = .ok (.laload, 1) := by decide +kernel
theorem d_Loops_make_49 : decode b_Loops_make 49 = .ok (.lconst 0, 1) := by decide +kernel
theorem d_Loops_make_50 : decode b_Loops_make 50 = .ok (.lcmp, 1) := by decide +kernel
theorem d_Loops_make_51 : decode b_Loops_make 51 = .ok (.ifCond .eq 30, 3) := by decide +kernel
theorem d_Loops_make_54 : decode b_Loops_make 54 = .ok (.aload_n 0, 1) := by decide +kernel
theorem d_Loops_make_55 : decode b_Loops_make 55 = .ok (.dup, 1) := by decide +kernel
theorem d_Loops_make_56 : decode b_Loops_make 56 = .ok (.getfield 27, 3) := by decide +kernel
theorem d_Loops_make_59 : decode b_Loops_make 59 = .ok (.iconst 1, 1) := by decide +kernel
theorem d_Loops_make_60 : decode b_Loops_make 60 = .ok (.iadd, 1) := by decide +kernel
theorem d_Loops_make_61 : decode b_Loops_make 61 = .ok (.putfield 27, 3) := by decide +kernel
theorem d_Loops_make_64 : decode b_Loops_make 64 = .ok (.aload_n 0, 1) := by decide +kernel
theorem d_Loops_make_65 : decode b_Loops_make 65 = .ok (.getfield 23, 3) := by decide +kernel
theorem d_Loops_make_68 : decode b_Loops_make 68 = .ok (.iload_n 1, 1) := by decide +kernel
theorem d_Loops_make_69 : decode b_Loops_make 69 = .ok (.aload_n 0, 1) := by decide +kernel
theorem d_Loops_make_70 : decode b_Loops_make 70 = .ok (.iload_n 1, 1) := by decide +kernel
theorem d_Loops_make_71 : decode b_Loops_make 71 = .ok (.aload_n 0, 1) := by decide +kernel
theorem d_Loops_make_72 : decode b_Loops_make 72 = .ok (.getfield 23, 3) := by decide +kernel
theorem d_Loops_make_75 : decode b_Loops_make 75 = .ok (.iload_n 1, 1) := by decide +kernel
theorem d_Loops_make_76 : decode b_Loops_make 76 = .ok (.laload, 1) := by decide +kernel
theorem d_Loops_make_77 : decode b_Loops_make 77 = .ok (.invokevirtual 53, 3) := by decide +kernel
theorem d_Loops_make_80 : decode b_Loops_make 80 = .ok (.lastore, 1) := by decide +kernel
theorem d_Loops_make_81 : decode b_Loops_make 81 = .ok (.iinc 1 1, 3) := by decide +kernel
theorem d_Loops_make_84 : decode b_Loops_make 84 = .ok (.goto (-47), 3) := by decide +kernel
theorem d_Loops_make_87 : decode b_Loops_make 87 = .ok (.return_, 1) := by decide +kernel
theorem d_BlockRuler_refresh_0 : decode b_BlockRuler_refresh 0 = .ok (.aload_n 0, 1) := by decide +kernel
theorem d_BlockRuler_refresh_1 : decode b_BlockRuler_refresh 1 = .ok (.getfield 43, 3) := by decide +kernel
theorem d_BlockRuler_refresh_4 : decode b_BlockRuler_refresh 4 = .ok (.ifCond .eq 29, 3) := by decide +kernel
theorem d_BlockRuler_refresh_7 : decode b_BlockRuler_refresh 7 = .ok (.aload_n 0, 1) := by decide +kernel
theorem d_BlockRuler_refresh_8 : decode b_BlockRuler_refresh 8 = .ok (.getfield 21, 3) := by decide +kernel
theorem d_BlockRuler_refresh_11 : decode b_BlockRuler_refresh 11 = .ok (.invokevirtual 182, 3) := by decide +kernel
theorem d_BlockRuler_refresh_14 : decode b_BlockRuler_refresh 14 = .ok (.aload_n 0, 1) := by decide +kernel
theorem d_BlockRuler_refresh_15 : decode b_BlockRuler_refresh 15 = .ok (.getfield 30, 3) := by decide +kernel
theorem d_BlockRuler_refresh_18 : decode b_BlockRuler_refresh 18 = .ok (.invokevirtual 185, 3) := by decide +kernel
theorem d_BlockRuler_refresh_21 : decode b_BlockRuler_refresh 21 = .ok (.aload_n 0, 1) := by decide +kernel
theorem d_BlockRuler_refresh_22 : decode b_BlockRuler_refresh 22 = .ok (.getfield 39, 3) := by decide +kernel
theorem d_BlockRuler_refresh_25 : decode b_BlockRuler_refresh 25 = .ok (.invokevirtual 186, 3) := by decide +kernel
theorem d_BlockRuler_refresh_28 : decode b_BlockRuler_refresh 28 = .ok (.aload_n 0, 1) := by decide +kernel
theorem d_BlockRuler_refresh_29 : decode b_BlockRuler_refresh 29 = .ok (.iconst 0, 1) := by decide +kernel
theorem d_BlockRuler_refresh_30 : decode b_BlockRuler_refresh 30 = .ok (.putfield 43, 3) := by decide +kernel
theorem d_BlockRuler_refresh_33 : decode b_BlockRuler_refresh 33 = .ok (.return_, 1) := by decide +kernel
theorem d_BlockRuler_isReached_0 : decode b_BlockRuler_isReached 0 = .ok (.aload_n 0, 1) := by decide +kernel
theorem d_BlockRuler_isReached_1 : decode b_BlockRuler_isReached 1 = .ok (.getfield 12, 3) := by decide +kernel
theorem d_BlockRuler_isReached_4 : decode b_BlockRuler_isReached 4 = .ok (.iload_n 1, 1) := by decide +kernel
theorem d_BlockRuler_isReached_5 : decode b_BlockRuler_isReached 5 = .ok (.invokevirtual 62, 3) := by decide +kernel
theorem d_BlockRuler_isReached_8 : decode b_BlockRuler_isReached 8 = .ok (.ifCond .eq 20, 3) := by decide +kernel
theorem d_BlockRuler_isReached_11 : decode b_BlockRuler_isReached 11 = .ok (.aload_n 0, 1) := by decide +kernel
theorem d_BlockRuler_isReached_12 : decode b_BlockRuler_isReached 12 = .ok (.getfield 21, 3) := by decide +kernel
theorem d_BlockRuler_isReached_15 : decode b_BlockRuler_isReached 15 = .ok (.getfield 103, 3) := by decide +kernel
theorem d_BlockRuler_isReached_18 : decode b_BlockRuler_isReached 18 = .ok (.iload_n 1, 1) := by decide +kernel
theorem d_BlockRuler_isReached_19 : decode b_BlockRuler_isReached 19 = .ok (.iaload, 1) := by decide +kernel
theorem d_BlockRuler_isReached_20 : decode b_BlockRuler_isReached 20 = .ok (.iconst (-1), 1) := by decide +kernel
theorem d_BlockRuler_isReached_21 : decode b_BlockRuler_isReached 21 = .ok (.if_icmp .eq 7, 3) := by decide +kernel
theorem d_BlockRuler_isReached_24 : decode b_BlockRuler_isReached 24 = .ok (.iconst 1, 1) := by decide +kernel
theorem d_BlockRuler_isReached_25 : decode b_BlockRuler_isReached 25 = .ok (.goto 4, 3) := by decide +kernel
theorem d_BlockRuler_isReached_28 : decode b_BlockRuler_isReached 28 = .ok (.iconst 0, 1) := by decide +kernel
theorem d_BlockRuler_isReached_29 : decode b_BlockRuler_isReached 29 = .ok (.ireturn, 1) := by decide +kernel
theorem d_BlockRuler_block_0 : decode b_BlockRuler_block 0 = .ok (.aload_n 0, 1) := by decide +kernel
theorem d_BlockRuler_block_1 : decode b_BlockRuler_block 1 = .ok (.getfield 12, 3) := by decide +kernel
theorem d_BlockRuler_block_4 : decode b_BlockRuler_block 4 = .ok (.getfield 47, 3) := by decide +kernel
theorem d_BlockRuler_block_7 : decode b_BlockRuler_block 7 = .ok (.bipush 64, 2) := by decide +kernel
theorem d_BlockRuler_block_9 : decode b_BlockRuler_block 9 = .ok (.if_icmp .lt 13, 3) := by decide +kernel
theorem d_BlockRuler_block_12 : decode b_BlockRuler_block 12 = .ok (.new 51, 3) := by decide +kernel
theorem d_BlockRuler_block_15 : decode b_BlockRuler_block 15 = .ok (.dup, 1) := by decide +kernel
theorem d_BlockRuler_block_16 : decode b_BlockRuler_block 16 = .ok (.ldc 53, 2) := by decide +kernel
theorem d_BlockRuler_block_18 : decode b_BlockRuler_block 18 = .ok (.invokespecial 55, 3) := by decide +kernel
theorem d_BlockRuler_block_21 : decode b_BlockRuler_block 21 = .ok (.athrow, 1) := by decide +kernel
theorem d_BlockRuler_block_22 : decode b_BlockRuler_block 22 = .ok (.aload_n 0, 1) := by decide +kernel
theorem d_BlockRuler_block_23 : decode b_BlockRuler_block 23 = .ok (.iconst 1, 1) := by decide +kernel
theorem d_BlockRuler_block_24 : decode b_BlockRuler_block 24 = .ok (.putfield 43, 3) := by decide +kernel
theorem d_BlockRuler_block_27 : decode b_BlockRuler_block 27 = .ok (.aload_n 0, 1) := by decide +kernel
theorem d_BlockRuler_block_28 : decode b_BlockRuler_block 28 = .ok (.getfield 12, 3) := by decide +kernel
theorem d_BlockRuler_block_31 : decode b_BlockRuler_block 31 = .ok (.invokevirtual 58, 3) := by decide +kernel
theorem d_BlockRuler_block_34 : decode b_BlockRuler_block 34 = .ok (.ireturn, 1) := by decide +kernel
theorem d_BlockRuler_way_0 : decode b_BlockRuler_way 0 = .ok (.aload_n 0, 1) := by decide +kernel
theorem d_BlockRuler_way_1 : decode b_BlockRuler_way 1 = .ok (.getfield 12, 3) := by decide +kernel
theorem d_BlockRuler_way_4 : decode b_BlockRuler_way 4 = .ok (.iload_n 1, 1) := by decide +kernel
theorem d_BlockRuler_way_5 : decode b_BlockRuler_way 5 = .ok (.invokevirtual 62, 3) := by decide +kernel
theorem d_BlockRuler_way_8 : decode b_BlockRuler_way 8 = .ok (.ifCond .eq 14, 3) := by decide +kernel
theorem d_BlockRuler_way_11 : decode b_BlockRuler_way 11 = .ok (.aload_n 0, 1) := by decide +kernel
theorem d_BlockRuler_way_12 : decode b_BlockRuler_way 12 = .ok (.getfield 12, 3) := by decide +kernel
theorem d_BlockRuler_way_15 : decode b_BlockRuler_way 15 = .ok (.iload_n 2, 1) := by decide +kernel
theorem d_BlockRuler_way_16 : decode b_BlockRuler_way 16 = .ok (.invokevirtual 62, 3) := by decide +kernel
theorem d_BlockRuler_way_19 : decode b_BlockRuler_way 19 = .ok (.ifCond .ne 13, 3) := by decide +kernel
theorem d_BlockRuler_way_22 : decode b_BlockRuler_way 22 = .ok (.new 66, 3) := by decide +kernel
theorem d_BlockRuler_way_25 : decode b_BlockRuler_way 25 = .ok (.dup, 1) := by decide +kernel
theorem d_BlockRuler_way_26 : decode b_BlockRuler_way 26 = .ok (.ldc 68, 2) := by decide +kernel
theorem d_BlockRuler_way_28 : decode b_BlockRuler_way 28 = .ok (.invokespecial 70, 3) := by decide +kernel
theorem d_BlockRuler_way_31 : decode b_BlockRuler_way 31 = .ok (.athrow, 1) := by decide +kernel
theorem d_BlockRuler_way_32 : decode b_BlockRuler_way 32 = .ok (.aload_n 0, 1) := by decide +kernel
theorem d_BlockRuler_way_33 : decode b_BlockRuler_way 33 = .ok (.getfield 12, 3) := by decide +kernel
theorem d_BlockRuler_way_36 : decode b_BlockRuler_way 36 = .ok (.getfield 71, 3) := by decide +kernel
theorem d_BlockRuler_way_39 : decode b_BlockRuler_way 39 = .ok (.iload_n 1, 1) := by decide +kernel
theorem d_BlockRuler_way_40 : decode b_BlockRuler_way 40 = .ok (.iaload, 1) := by decide +kernel
theorem d_BlockRuler_way_41 : decode b_BlockRuler_way 41 = .ok (.bipush 8, 2) := by decide +kernel
theorem d_BlockRuler_way_43 : decode b_BlockRuler_way 43 = .ok (.if_icmp .lt 13, 3) := by decide +kernel
theorem d_BlockRuler_way_46 : decode b_BlockRuler_way 46 = .ok (.new 51, 3) := by decide +kernel
theorem d_BlockRuler_way_49 : decode b_BlockRuler_way 49 = .ok (.dup, 1) := by decide +kernel
theorem d_BlockRuler_way_50 : decode b_BlockRuler_way 50 = .ok (.ldc 75, 2) := by decide +kernel
theorem d_BlockRuler_way_52 : decode b_BlockRuler_way 52 = .ok (.invokespecial 55, 3) := by decide +kernel
theorem d_BlockRuler_way_55 : decode b_BlockRuler_way 55 = .ok (.athrow, 1) := by decide +kernel
theorem d_BlockRuler_way_56 : decode b_BlockRuler_way 56 = .ok (.aload_n 0, 1) := by decide +kernel
theorem d_BlockRuler_way_57 : decode b_BlockRuler_way 57 = .ok (.iconst 1, 1) := by decide +kernel
theorem d_BlockRuler_way_58 : decode b_BlockRuler_way 58 = .ok (.putfield 43, 3) := by decide +kernel
theorem d_BlockRuler_way_61 : decode b_BlockRuler_way 61 = .ok (.aload_n 0, 1) := by decide +kernel
theorem d_BlockRuler_way_62 : decode b_BlockRuler_way 62 = .ok (.getfield 12, 3) := by decide +kernel
theorem d_BlockRuler_way_65 : decode b_BlockRuler_way 65 = .ok (.iload_n 1, 1) := by decide +kernel
theorem d_BlockRuler_way_66 : decode b_BlockRuler_way 66 = .ok (.iload_n 2, 1) := by decide +kernel
theorem d_BlockRuler_way_67 : decode b_BlockRuler_way 67 = .ok (.invokevirtual 77, 3) := by decide +kernel
theorem d_BlockRuler_way_70 : decode b_BlockRuler_way 70 = .ok (.ireturn, 1) := by decide +kernel
theorem d_BlockRuler_cut_0 : decode b_BlockRuler_cut 0 = .ok (.aload_n 0, 1) := by decide +kernel
theorem d_BlockRuler_cut_1 : decode b_BlockRuler_cut 1 = .ok (.getfield 12, 3) := by decide +kernel
theorem d_BlockRuler_cut_4 : decode b_BlockRuler_cut 4 = .ok (.iload_n 1, 1) := by decide +kernel
theorem d_BlockRuler_cut_5 : decode b_BlockRuler_cut 5 = .ok (.iload_n 2, 1) := by decide +kernel
theorem d_BlockRuler_cut_6 : decode b_BlockRuler_cut 6 = .ok (.invokevirtual 81, 3) := by decide +kernel
theorem d_BlockRuler_cut_9 : decode b_BlockRuler_cut 9 = .ok (.ifCond .ne 13, 3) := by decide +kernel
theorem d_BlockRuler_cut_12 : decode b_BlockRuler_cut 12 = .ok (.new 85, 3) := by decide +kernel
theorem d_BlockRuler_cut_15 : decode b_BlockRuler_cut 15 = .ok (.dup, 1) := by decide +kernel
theorem d_BlockRuler_cut_16 : decode b_BlockRuler_cut 16 = .ok (.ldc 87, 2) := by decide +kernel
theorem d_BlockRuler_cut_18 : decode b_BlockRuler_cut 18 = .ok (.invokespecial 89, 3) := by decide +kernel
theorem d_BlockRuler_cut_21 : decode b_BlockRuler_cut 21 = .ok (.athrow, 1) := by decide +kernel
theorem d_BlockRuler_cut_22 : decode b_BlockRuler_cut 22 = .ok (.aload_n 0, 1) := by decide +kernel
theorem d_BlockRuler_cut_23 : decode b_BlockRuler_cut 23 = .ok (.iconst 1, 1) := by decide +kernel
theorem d_BlockRuler_cut_24 : decode b_BlockRuler_cut 24 = .ok (.putfield 43, 3) := by decide +kernel
theorem d_BlockRuler_cut_27 : decode b_BlockRuler_cut 27 = .ok (.aload_n 0, 1) := by decide +kernel
theorem d_BlockRuler_cut_28 : decode b_BlockRuler_cut 28 = .ok (.getfield 12, 3) := by decide +kernel
theorem d_BlockRuler_cut_31 : decode b_BlockRuler_cut 31 = .ok (.iload_n 1, 1) := by decide +kernel
theorem d_BlockRuler_cut_32 : decode b_BlockRuler_cut 32 = .ok (.iload_n 2, 1) := by decide +kernel
theorem d_BlockRuler_cut_33 : decode b_BlockRuler_cut 33 = .ok (.invokevirtual 90, 3) := by decide +kernel
theorem d_BlockRuler_cut_36 : decode b_BlockRuler_cut 36 = .ok (.ireturn, 1) := by decide +kernel
theorem d_BlockRuler_turn_0 : decode b_BlockRuler_turn 0 = .ok (.aload_n 0, 1) := by decide +kernel
theorem d_BlockRuler_turn_1 : decode b_BlockRuler_turn 1 = .ok (.getfield 12, 3) := by decide +kernel
theorem d_BlockRuler_turn_4 : decode b_BlockRuler_turn 4 = .ok (.iload_n 1, 1) := by decide +kernel
theorem d_BlockRuler_turn_5 : decode b_BlockRuler_turn 5 = .ok (.iload_n 2, 1) := by decide +kernel
theorem d_BlockRuler_turn_6 : decode b_BlockRuler_turn 6 = .ok (.invokevirtual 81, 3) := by decide +kernel
theorem d_BlockRuler_turn_9 : decode b_BlockRuler_turn 9 = .ok (.ifCond .ne 13, 3) := by decide +kernel
theorem d_BlockRuler_turn_12 : decode b_BlockRuler_turn 12 = .ok (.new 85, 3) := by decide +kernel
theorem d_BlockRuler_turn_15 : decode b_BlockRuler_turn 15 = .ok (.dup, 1) := by decide +kernel
theorem d_BlockRuler_turn_16 : decode b_BlockRuler_turn 16 = .ok (.ldc 87, 2) := by decide +kernel
theorem d_BlockRuler_turn_18 : decode b_BlockRuler_turn 18 = .ok (.invokespecial 89, 3) := by decide +kernel
theorem d_BlockRuler_turn_21 : decode b_BlockRuler_turn 21 = .ok (.athrow, 1) := by decide +kernel
theorem d_BlockRuler_turn_22 : decode b_BlockRuler_turn 22 = .ok (.aload_n 0, 1) := by decide +kernel
theorem d_BlockRuler_turn_23 : decode b_BlockRuler_turn 23 = .ok (.getfield 12, 3) := by decide +kernel
theorem d_BlockRuler_turn_26 : decode b_BlockRuler_turn 26 = .ok (.iload_n 3, 1) := by decide +kernel
theorem d_BlockRuler_turn_27 : decode b_BlockRuler_turn 27 = .ok (.invokevirtual 62, 3) := by decide +kernel
theorem d_BlockRuler_turn_30 : decode b_BlockRuler_turn 30 = .ok (.ifCond .ne 13, 3) := by decide +kernel
theorem d_BlockRuler_turn_33 : decode b_BlockRuler_turn 33 = .ok (.new 66, 3) := by decide +kernel
theorem d_BlockRuler_turn_36 : decode b_BlockRuler_turn 36 = .ok (.dup, 1) := by decide +kernel
theorem d_BlockRuler_turn_37 : decode b_BlockRuler_turn 37 = .ok (.ldc 68, 2) := by decide +kernel
theorem d_BlockRuler_turn_39 : decode b_BlockRuler_turn 39 = .ok (.invokespecial 70, 3) := by decide +kernel
theorem d_BlockRuler_turn_42 : decode b_BlockRuler_turn 42 = .ok (.athrow, 1) := by decide +kernel
theorem d_BlockRuler_turn_43 : decode b_BlockRuler_turn 43 = .ok (.aload_n 0, 1) := by decide +kernel
theorem d_BlockRuler_turn_44 : decode b_BlockRuler_turn 44 = .ok (.iconst 1, 1) := by decide +kernel
theorem d_BlockRuler_turn_45 : decode b_BlockRuler_turn 45 = .ok (.putfield 43, 3) := by decide +kernel
theorem d_BlockRuler_turn_48 : decode b_BlockRuler_turn 48 = .ok (.aload_n 0, 1) := by decide +kernel
theorem d_BlockRuler_turn_49 : decode b_BlockRuler_turn 49 = .ok (.getfield 12, 3) := by decide +kernel
theorem d_BlockRuler_turn_52 : decode b_BlockRuler_turn 52 = .ok (.iload_n 1, 1) := by decide +kernel
theorem d_BlockRuler_turn_53 : decode b_BlockRuler_turn 53 = .ok (.iload_n 2, 1) := by decide +kernel
theorem d_BlockRuler_turn_54 : decode b_BlockRuler_turn 54 = .ok (.iload_n 3, 1) := by decide +kernel
theorem d_BlockRuler_turn_55 : decode b_BlockRuler_turn 55 = .ok (.invokevirtual 93, 3) := by decide +kernel
theorem d_BlockRuler_turn_58 : decode b_BlockRuler_turn 58 = .ok (.ireturn, 1) := by decide +kernel
theorem d_BlockRuler_common_0 : decode b_BlockRuler_common 0 = .ok (.aload_n 0, 1) := by decide +kernel
theorem d_BlockRuler_common_1 : decode b_BlockRuler_common 1 = .ok (.invokevirtual 100, 3) := by decide +kernel
theorem d_BlockRuler_common_4 : decode b_BlockRuler_common 4 = .ok (.aload_n 0, 1) := by decide +kernel
theorem d_BlockRuler_common_5 : decode b_BlockRuler_common 5 = .ok (.iload_n 1, 1) := by decide +kernel
theorem d_BlockRuler_common_6 : decode b_BlockRuler_common 6 = .ok (.invokevirtual 130, 3) := by decide +kernel
theorem d_BlockRuler_common_9 : decode b_BlockRuler_common 9 = .ok (.ifCond .eq 11, 3) := by decide +kernel
theorem d_BlockRuler_common_12 : decode b_BlockRuler_common 12 = .ok (.aload_n 0, 1) := by decide +kernel
theorem d_BlockRuler_common_13 : decode b_BlockRuler_common 13 = .ok (.iload_n 2, 1) := by decide +kernel
theorem d_BlockRuler_common_14 : decode b_BlockRuler_common 14 = .ok (.invokevirtual 130, 3) := by decide +kernel
theorem d_BlockRuler_common_17 : decode b_BlockRuler_common 17 = .ok (.ifCond .ne 13, 3) := by decide +kernel
theorem d_BlockRuler_common_20 : decode b_BlockRuler_common 20 = .ok (.new 66, 3) := by decide +kernel
theorem d_BlockRuler_common_23 : decode b_BlockRuler_common 23 = .ok (.dup, 1) := by decide +kernel
theorem d_BlockRuler_common_24 : decode b_BlockRuler_common 24 = .ok (.ldc 133, 2) := by decide +kernel
theorem d_BlockRuler_common_26 : decode b_BlockRuler_common 26 = .ok (.invokespecial 70, 3) := by decide +kernel
theorem d_BlockRuler_common_29 : decode b_BlockRuler_common 29 = .ok (.athrow, 1) := by decide +kernel
theorem d_BlockRuler_common_30 : decode b_BlockRuler_common 30 = .ok (.aload_n 0, 1) := by decide +kernel
theorem d_BlockRuler_common_31 : decode b_BlockRuler_common 31 = .ok (.getfield 21, 3) := by decide +kernel
theorem d_BlockRuler_common_34 : decode b_BlockRuler_common 34 = .ok (.aload_n 0, 1) := by decide +kernel
theorem d_BlockRuler_common_35 : decode b_BlockRuler_common 35 = .ok (.getfield 30, 3) := by decide +kernel
theorem d_BlockRuler_common_38 : decode b_BlockRuler_common 38 = .ok (.getfield 113, 3) := by decide +kernel
theorem d_BlockRuler_common_41 : decode b_BlockRuler_common 41 = .ok (.iload_n 1, 1) := by decide +kernel
theorem d_BlockRuler_common_42 : decode b_BlockRuler_common 42 = .ok (.laload, 1) := by decide +kernel
theorem d_BlockRuler_common_43 : decode b_BlockRuler_common 43 = .ok (.aload_n 0, 1) := by decide +kernel
theorem d_BlockRuler_common_44 : decode b_BlockRuler_common 44 = .ok (.getfield 30, 3) := by decide +kernel
theorem d_BlockRuler_common_47 : decode b_BlockRuler_common 47 = .ok (.getfield 113, 3) := by decide +kernel
theorem d_BlockRuler_common_50 : decode b_BlockRuler_common 50 = .ok (.iload_n 2, 1) := by decide +kernel
theorem d_BlockRuler_common_51 : decode b_BlockRuler_common 51 = .ok (.laload, 1) := by decide +kernel
theorem d_BlockRuler_common_52 : decode b_BlockRuler_common 52 = .ok (.land, 1) := by decide +kernel
theorem d_BlockRuler_common_53 : decode b_BlockRuler_common 53 = .ok (.invokevirtual 123, 3) := by decide +kernel
theorem d_BlockRuler_common_56 : decode b_BlockRuler_common 56 = .ok (.ireturn, 1) := by decide +kernel
theorem d_BlockRuler_end_0 : decode b_BlockRuler_end 0 = .ok (.aload_n 0, 1) := by decide +kernel
theorem d_BlockRuler_end_1 : decode b_BlockRuler_end 1 = .ok (.getfield 12, 3) := by decide +kernel
theorem d_BlockRuler_end_4 : decode b_BlockRuler_end 4 = .ok (.iload_n 1, 1) := by decide +kernel
theorem d_BlockRuler_end_5 : decode b_BlockRuler_end 5 = .ok (.iload_n 2, 1) := by decide +kernel
theorem d_BlockRuler_end_6 : decode b_BlockRuler_end 6 = .ok (.invokevirtual 81, 3) := by decide +kernel
theorem d_BlockRuler_end_9 : decode b_BlockRuler_end 9 = .ok (.ifCond .eq 15, 3) := by decide +kernel
theorem d_BlockRuler_end_12 : decode b_BlockRuler_end 12 = .ok (.aload_n 0, 1) := by decide +kernel
theorem d_BlockRuler_end_13 : decode b_BlockRuler_end 13 = .ok (.getfield 12, 3) := by decide +kernel
theorem d_BlockRuler_end_16 : decode b_BlockRuler_end 16 = .ok (.iload_n 1, 1) := by decide +kernel
theorem d_BlockRuler_end_17 : decode b_BlockRuler_end 17 = .ok (.iload_n 2, 1) := by decide +kernel
theorem d_BlockRuler_end_18 : decode b_BlockRuler_end 18 = .ok (.invokevirtual 97, 3) := by decide +kernel
theorem d_BlockRuler_end_21 : decode b_BlockRuler_end 21 = .ok (.goto 4, 3) := by decide +kernel
theorem d_BlockRuler_end_24 : decode b_BlockRuler_end 24 = .ok (.iconst (-1), 1) := by decide +kernel
theorem d_BlockRuler_end_25 : decode b_BlockRuler_end 25 = .ok (.ireturn, 1) := by decide +kernel
theorem d_BlockRuler_order_0 : decode b_BlockRuler_order 0 = .ok (.aload_n 0, 1) := by decide +kernel
theorem d_BlockRuler_order_1 : decode b_BlockRuler_order 1 = .ok (.invokevirtual 100, 3) := by decide +kernel
theorem d_BlockRuler_order_4 : decode b_BlockRuler_order 4 = .ok (.aload_n 0, 1) := by decide +kernel
theorem d_BlockRuler_order_5 : decode b_BlockRuler_order 5 = .ok (.getfield 12, 3) := by decide +kernel
theorem d_BlockRuler_order_8 : decode b_BlockRuler_order 8 = .ok (.iload_n 1, 1) := by decide +kernel
theorem d_BlockRuler_order_9 : decode b_BlockRuler_order 9 = .ok (.invokevirtual 62, 3) := by decide +kernel
theorem d_BlockRuler_order_12 : decode b_BlockRuler_order 12 = .ok (.ifCond .eq 15, 3) := by decide +kernel
theorem d_BlockRuler_order_15 : decode b_BlockRuler_order 15 = .ok (.aload_n 0, 1) := by decide +kernel
theorem d_BlockRuler_order_16 : decode b_BlockRuler_order 16 = .ok (.getfield 21, 3) := by decide +kernel
theorem d_BlockRuler_order_19 : decode b_BlockRuler_order 19 = .ok (.getfield 103, 3) := by decide +kernel
theorem d_BlockRuler_order_22 : decode b_BlockRuler_order 22 = .ok (.iload_n 1, 1) := by decide +kernel
theorem d_BlockRuler_order_23 : decode b_BlockRuler_order 23 = .ok (.iaload, 1) := by decide +kernel
theorem d_BlockRuler_order_24 : decode b_BlockRuler_order 24 = .ok (.goto 4, 3) := by decide +kernel
theorem d_BlockRuler_order_27 : decode b_BlockRuler_order 27 = .ok (.iconst (-1), 1) := by decide +kernel
theorem d_BlockRuler_order_28 : decode b_BlockRuler_order 28 = .ok (.ireturn, 1) := by decide +kernel
theorem d_BlockRuler_at_0 : decode b_BlockRuler_at 0 = .ok (.aload_n 0, 1) := by decide +kernel
theorem d_BlockRuler_at_1 : decode b_BlockRuler_at 1 = .ok (.invokevirtual 100, 3) := by decide +kernel
theorem d_BlockRuler_at_4 : decode b_BlockRuler_at 4 = .ok (.iload_n 1, 1) := by decide +kernel
theorem d_BlockRuler_at_5 : decode b_BlockRuler_at 5 = .ok (.ifCond .lt 25, 3) := by decide +kernel
theorem d_BlockRuler_at_8 : decode b_BlockRuler_at 8 = .ok (.iload_n 1, 1) := by decide +kernel
theorem d_BlockRuler_at_9 : decode b_BlockRuler_at 9 = .ok (.aload_n 0, 1) := by decide +kernel
theorem d_BlockRuler_at_10 : decode b_BlockRuler_at 10 = .ok (.getfield 21, 3) := by decide +kernel
theorem d_BlockRuler_at_13 : decode b_BlockRuler_at 13 = .ok (.getfield 106, 3) := by decide +kernel
theorem d_BlockRuler_at_16 : decode b_BlockRuler_at 16 = .ok (.if_icmp .ge 14, 3) := by decide +kernel
theorem d_BlockRuler_at_19 : decode b_BlockRuler_at 19 = .ok (.aload_n 0, 1) := by decide +kernel
theorem d_BlockRuler_at_20 : decode b_BlockRuler_at 20 = .ok (.getfield 21, 3) := by decide +kernel
theorem d_BlockRuler_at_23 : decode b_BlockRuler_at 23 = .ok (.iload_n 1, 1) := by decide +kernel
theorem d_BlockRuler_at_24 : decode b_BlockRuler_at 24 = .ok (.invokevirtual 109, 3) := by decide +kernel
theorem d_BlockRuler_at_27 : decode b_BlockRuler_at 27 = .ok (.goto 4, 3) := by decide +kernel
theorem d_BlockRuler_at_30 : decode b_BlockRuler_at 30 = .ok (.iconst (-1), 1) := by decide +kernel
theorem d_BlockRuler_at_31 : decode b_BlockRuler_at 31 = .ok (.ireturn, 1) := by decide +kernel
theorem d_BlockRuler_parent_0 : decode b_BlockRuler_parent 0 = .ok (.aload_n 0, 1) := by decide +kernel
theorem d_BlockRuler_parent_1 : decode b_BlockRuler_parent 1 = .ok (.invokevirtual 100, 3) := by decide +kernel
theorem d_BlockRuler_parent_4 : decode b_BlockRuler_parent 4 = .ok (.aload_n 0, 1) := by decide +kernel
theorem d_BlockRuler_parent_5 : decode b_BlockRuler_parent 5 = .ok (.getfield 12, 3) := by decide +kernel
theorem d_BlockRuler_parent_8 : decode b_BlockRuler_parent 8 = .ok (.iload_n 1, 1) := by decide +kernel
theorem d_BlockRuler_parent_9 : decode b_BlockRuler_parent 9 = .ok (.invokevirtual 62, 3) := by decide +kernel
theorem d_BlockRuler_parent_12 : decode b_BlockRuler_parent 12 = .ok (.ifCond .eq 31, 3) := by decide +kernel
theorem d_BlockRuler_parent_15 : decode b_BlockRuler_parent 15 = .ok (.aload_n 0, 1) := by decide +kernel
theorem d_BlockRuler_parent_16 : decode b_BlockRuler_parent 16 = .ok (.getfield 21, 3) := by decide +kernel
theorem d_BlockRuler_parent_19 : decode b_BlockRuler_parent 19 = .ok (.aload_n 0, 1) := by decide +kernel
theorem d_BlockRuler_parent_20 : decode b_BlockRuler_parent 20 = .ok (.getfield 30, 3) := by decide +kernel
theorem d_BlockRuler_parent_23 : decode b_BlockRuler_parent 23 = .ok (.getfield 113, 3) := by decide +kernel
theorem d_BlockRuler_parent_26 : decode b_BlockRuler_parent 26 = .ok (.iload_n 1, 1) := by decide +kernel
theorem d_BlockRuler_parent_27 : decode b_BlockRuler_parent 27 = .ok (.laload, 1) := by decide +kernel
theorem d_BlockRuler_parent_28 : decode b_BlockRuler_parent 28 = .ok (.iload_n 1, 1) := by decide +kernel
theorem d_BlockRuler_parent_29 : decode b_BlockRuler_parent 29 = .ok (.invokestatic 117, 3) := by decide +kernel
theorem d_BlockRuler_parent_32 : decode b_BlockRuler_parent 32 = .ok (.ldc2_w 121, 3) := by decide +kernel
theorem d_BlockRuler_parent_35 : decode b_BlockRuler_parent 35 = .ok (.lxor, 1) := by decide +kernel
theorem d_BlockRuler_parent_36 : decode b_BlockRuler_parent 36 = .ok (.land, 1) := by decide +kernel
theorem d_BlockRuler_parent_37 : decode b_BlockRuler_parent 37 = .ok (.invokevirtual 123, 3) := by decide +kernel
theorem d_BlockRuler_parent_40 : decode b_BlockRuler_parent 40 = .ok (.goto 4, 3) := by decide +kernel
theorem d_BlockRuler_parent_43 : decode b_BlockRuler_parent 43 = .ok (.iconst (-1), 1) := by decide +kernel
theorem d_BlockRuler_parent_44 : decode b_BlockRuler_parent 44 = .ok (.ireturn, 1) := by decide +kernel
theorem d_BlockRuler_rules_0 : decode b_BlockRuler_rules 0 = .ok (.aload_n 0, 1) := by decide +kernel
theorem d_BlockRuler_rules_1 : decode b_BlockRuler_rules 1 = .ok (.invokevirtual 100, 3) := by decide +kernel
theorem d_BlockRuler_rules_4 : decode b_BlockRuler_rules 4 = .ok (.aload_n 0, 1) := by decide +kernel
theorem d_BlockRuler_rules_5 : decode b_BlockRuler_rules 5 = .ok (.getfield 12, 3) := by decide +kernel
theorem d_BlockRuler_rules_8 : decode b_BlockRuler_rules 8 = .ok (.iload_n 1, 1) := by decide +kernel
theorem d_BlockRuler_rules_9 : decode b_BlockRuler_rules 9 = .ok (.invokevirtual 62, 3) := by decide +kernel
theorem d_BlockRuler_rules_12 : decode b_BlockRuler_rules 12 = .ok (.ifCond .eq 30, 3) := by decide +kernel
theorem d_BlockRuler_rules_15 : decode b_BlockRuler_rules 15 = .ok (.aload_n 0, 1) := by decide +kernel
theorem d_BlockRuler_rules_16 : decode b_BlockRuler_rules 16 = .ok (.getfield 12, 3) := by decide +kernel
theorem d_BlockRuler_rules_19 : decode b_BlockRuler_rules 19 = .ok (.iload_n 2, 1) := by decide +kernel
theorem d_BlockRuler_rules_20 : decode b_BlockRuler_rules 20 = .ok (.invokevirtual 62, 3) := by decide +kernel
theorem d_BlockRuler_rules_23 : decode b_BlockRuler_rules 23 = .ok (.ifCond .eq 19, 3) := by decide +kernel
theorem d_BlockRuler_rules_26 : decode b_BlockRuler_rules 26 = .ok (.aload_n 0, 1) := by decide +kernel
theorem d_BlockRuler_rules_27 : decode b_BlockRuler_rules 27 = .ok (.getfield 30, 3) := by decide +kernel
theorem d_BlockRuler_rules_30 : decode b_BlockRuler_rules 30 = .ok (.iload_n 1, 1) := by decide +kernel
theorem d_BlockRuler_rules_31 : decode b_BlockRuler_rules 31 = .ok (.iload_n 2, 1) := by decide +kernel
theorem d_BlockRuler_rules_32 : decode b_BlockRuler_rules 32 = .ok (.invokevirtual 127, 3) := by decide +kernel
theorem d_BlockRuler_rules_35 : decode b_BlockRuler_rules 35 = .ok (.ifCond .eq 7, 3) := by decide +kernel
theorem d_BlockRuler_rules_38 : decode b_BlockRuler_rules 38 = .ok (.iconst 1, 1) := by decide +kernel
theorem d_BlockRuler_rules_39 : decode b_BlockRuler_rules 39 = .ok (.goto 4, 3) := by decide +kernel
theorem d_BlockRuler_rules_42 : decode b_BlockRuler_rules 42 = .ok (.iconst 0, 1) := by decide +kernel
theorem d_BlockRuler_rules_43 : decode b_BlockRuler_rules 43 = .ok (.ireturn, 1) := by decide +kernel
theorem d_BlockRuler_sort_0 : decode b_BlockRuler_sort 0 = .ok (.aload_n 0, 1) := by decide +kernel
theorem d_BlockRuler_sort_1 : decode b_BlockRuler_sort 1 = .ok (.invokevirtual 100, 3) := by decide +kernel
theorem d_BlockRuler_sort_4 : decode b_BlockRuler_sort 4 = .ok (.aload_n 0, 1) := by decide +kernel
theorem d_BlockRuler_sort_5 : decode b_BlockRuler_sort 5 = .ok (.iload_n 1, 1) := by decide +kernel
theorem d_BlockRuler_sort_6 : decode b_BlockRuler_sort 6 = .ok (.invokevirtual 130, 3) := by decide +kernel
theorem d_BlockRuler_sort_9 : decode b_BlockRuler_sort 9 = .ok (.ifCond .eq 27, 3) := by decide +kernel
theorem d_BlockRuler_sort_12 : decode b_BlockRuler_sort 12 = .ok (.aload_n 0, 1) := by decide +kernel
theorem d_BlockRuler_sort_13 : decode b_BlockRuler_sort 13 = .ok (.getfield 12, 3) := by decide +kernel
theorem d_BlockRuler_sort_16 : decode b_BlockRuler_sort 16 = .ok (.iload_n 1, 1) := by decide +kernel
theorem d_BlockRuler_sort_17 : decode b_BlockRuler_sort 17 = .ok (.iload_n 2, 1) := by decide +kernel
theorem d_BlockRuler_sort_18 : decode b_BlockRuler_sort 18 = .ok (.invokevirtual 81, 3) := by decide +kernel
theorem d_BlockRuler_sort_21 : decode b_BlockRuler_sort 21 = .ok (.ifCond .eq 15, 3) := by decide +kernel
theorem d_BlockRuler_sort_24 : decode b_BlockRuler_sort 24 = .ok (.aload_n 0, 1) := by decide +kernel
theorem d_BlockRuler_sort_25 : decode b_BlockRuler_sort 25 = .ok (.getfield 39, 3) := by decide +kernel
theorem d_BlockRuler_sort_28 : decode b_BlockRuler_sort 28 = .ok (.iload_n 1, 1) := by decide +kernel
theorem d_BlockRuler_sort_29 : decode b_BlockRuler_sort 29 = .ok (.iload_n 2, 1) := by decide +kernel
theorem d_BlockRuler_sort_30 : decode b_BlockRuler_sort 30 = .ok (.invokevirtual 135, 3) := by decide +kernel
theorem d_BlockRuler_sort_33 : decode b_BlockRuler_sort 33 = .ok (.goto 4, 3) := by decide +kernel
theorem d_BlockRuler_sort_36 : decode b_BlockRuler_sort 36 = .ok (.iconst (-1), 1) := by decide +kernel
theorem d_BlockRuler_sort_37 : decode b_BlockRuler_sort 37 = .ok (.ireturn, 1) := by decide +kernel
theorem d_BlockRuler_inLoop_0 : decode b_BlockRuler_inLoop 0 = .ok (.aload_n 0, 1) := by decide +kernel
theorem d_BlockRuler_inLoop_1 : decode b_BlockRuler_inLoop 1 = .ok (.invokevirtual 100, 3) := by decide +kernel
theorem d_BlockRuler_inLoop_4 : decode b_BlockRuler_inLoop 4 = .ok (.aload_n 0, 1) := by decide +kernel
theorem d_BlockRuler_inLoop_5 : decode b_BlockRuler_inLoop 5 = .ok (.getfield 12, 3) := by decide +kernel
theorem d_BlockRuler_inLoop_8 : decode b_BlockRuler_inLoop 8 = .ok (.iload_n 1, 1) := by decide +kernel
theorem d_BlockRuler_inLoop_9 : decode b_BlockRuler_inLoop 9 = .ok (.invokevirtual 62, 3) := by decide +kernel
theorem d_BlockRuler_inLoop_12 : decode b_BlockRuler_inLoop 12 = .ok (.ifCond .eq 34, 3) := by decide +kernel
theorem d_BlockRuler_inLoop_15 : decode b_BlockRuler_inLoop 15 = .ok (.aload_n 0, 1) := by decide +kernel
theorem d_BlockRuler_inLoop_16 : decode b_BlockRuler_inLoop 16 = .ok (.getfield 12, 3) := by decide +kernel
theorem d_BlockRuler_inLoop_19 : decode b_BlockRuler_inLoop 19 = .ok (.iload_n 2, 1) := by decide +kernel
theorem d_BlockRuler_inLoop_20 : decode b_BlockRuler_inLoop 20 = .ok (.invokevirtual 62, 3) := by decide +kernel
theorem d_BlockRuler_inLoop_23 : decode b_BlockRuler_inLoop 23 = .ok (.ifCond .eq 23, 3) := by decide +kernel
theorem d_BlockRuler_inLoop_26 : decode b_BlockRuler_inLoop 26 = .ok (.aload_n 0, 1) := by decide +kernel
theorem d_BlockRuler_inLoop_27 : decode b_BlockRuler_inLoop 27 = .ok (.getfield 39, 3) := by decide +kernel
theorem d_BlockRuler_inLoop_30 : decode b_BlockRuler_inLoop 30 = .ok (.getfield 138, 3) := by decide +kernel
theorem d_BlockRuler_inLoop_33 : decode b_BlockRuler_inLoop 33 = .ok (.iload_n 1, 1) := by decide +kernel
theorem d_BlockRuler_inLoop_34 : decode b_BlockRuler_inLoop 34 = .ok (.laload, 1) := by decide +kernel
theorem d_BlockRuler_inLoop_35 : decode b_BlockRuler_inLoop 35 = .ok (.iload_n 2, 1) := by decide +kernel
theorem d_BlockRuler_inLoop_36 : decode b_BlockRuler_inLoop 36 = .ok (.invokestatic 139, 3) := by decide +kernel
theorem d_BlockRuler_inLoop_39 : decode b_BlockRuler_inLoop 39 = .ok (.ifCond .eq 7, 3) := by decide +kernel
theorem d_BlockRuler_inLoop_42 : decode b_BlockRuler_inLoop 42 = .ok (.iconst 1, 1) := by decide +kernel
theorem d_BlockRuler_inLoop_43 : decode b_BlockRuler_inLoop 43 = .ok (.goto 4, 3) := by decide +kernel
theorem d_BlockRuler_inLoop_46 : decode b_BlockRuler_inLoop 46 = .ok (.iconst 0, 1) := by decide +kernel
theorem d_BlockRuler_inLoop_47 : decode b_BlockRuler_inLoop 47 = .ok (.ireturn, 1) := by decide +kernel
theorem d_BlockRuler_look_0 : decode b_BlockRuler_look 0 = .ok (.aload_n 0, 1) := by decide +kernel
theorem d_BlockRuler_look_1 : decode b_BlockRuler_look 1 = .ok (.invokevirtual 100, 3) := by decide +kernel
theorem d_BlockRuler_look_4 : decode b_BlockRuler_look 4 = .ok (.aload_n 0, 1) := by decide +kernel
theorem d_BlockRuler_look_5 : decode b_BlockRuler_look 5 = .ok (.getfield 12, 3) := by decide +kernel
theorem d_BlockRuler_look_8 : decode b_BlockRuler_look 8 = .ok (.iload_n 1, 1) := by decide +kernel
theorem d_BlockRuler_look_9 : decode b_BlockRuler_look 9 = .ok (.invokevirtual 62, 3) := by decide +kernel
theorem d_BlockRuler_look_12 : decode b_BlockRuler_look 12 = .ok (.ifCond .ne 5, 3) := by decide +kernel
theorem d_BlockRuler_look_15 : decode b_BlockRuler_look 15 = .ok (.iconst (-1), 1) := by decide +kernel
theorem d_BlockRuler_look_16 : decode b_BlockRuler_look 16 = .ok (.ireturn, 1) := by decide +kernel
theorem d_BlockRuler_look_17 : decode b_BlockRuler_look 17 = .ok (.iload_n 2, 1) := by decide +kernel
theorem d_BlockRuler_look_18 : decode b_BlockRuler_look 18 = .ok (.tableswitch 125 0 6 #[42, 52, 72, 85, 94, 103, 115], 42) := by decide +kernel
theorem d_BlockRuler_look_60 : decode b_BlockRuler_look 60 = .ok (.aload_n 0, 1) := by decide +kernel
theorem d_BlockRuler_look_61 : decode b_BlockRuler_look 61 = .ok (.getfield 12, 3) := by decide +kernel
theorem d_BlockRuler_look_64 : decode b_BlockRuler_look 64 = .ok (.getfield 71, 3) := by decide +kernel
theorem d_BlockRuler_look_67 : decode b_BlockRuler_look 67 = .ok (.iload_n 1, 1) := by decide +kernel
theorem d_BlockRuler_look_68 : decode b_BlockRuler_look 68 = .ok (.iaload, 1) := by decide +kernel
theorem d_BlockRuler_look_69 : decode b_BlockRuler_look 69 = .ok (.ireturn, 1) := by decide +kernel
theorem d_BlockRuler_look_70 : decode b_BlockRuler_look 70 = .ok (.aload_n 0, 1) := by decide +kernel
theorem d_BlockRuler_look_71 : decode b_BlockRuler_look 71 = .ok (.getfield 39, 3) := by decide +kernel
theorem d_BlockRuler_look_74 : decode b_BlockRuler_look 74 = .ok (.getfield 138, 3) := by decide +kernel
theorem d_BlockRuler_look_77 : decode b_BlockRuler_look 77 = .ok (.iload_n 1, 1) := by decide +kernel
theorem d_BlockRuler_look_78 : decode b_BlockRuler_look 78 = .ok (.laload, 1) := by decide +kernel
theorem d_BlockRuler_look_79 : decode b_BlockRuler_look 79 = .ok (.lconst 0, 1) := by decide +kernel
theorem d_BlockRuler_look_80 : decode b_BlockRuler_look 80 = .ok (.lcmp, 1) := by decide +kernel
theorem d_BlockRuler_look_81 : decode b_BlockRuler_look 81 = .ok (.ifCond .eq 7, 3) := by decide +kernel
theorem d_BlockRuler_look_84 : decode b_BlockRuler_look 84 = .ok (.iconst 1, 1) := by decide +kernel
theorem d_BlockRuler_look_85 : decode b_BlockRuler_look 85 = .ok (.goto 4, 3) := by decide +kernel
theorem d_BlockRuler_look_88 : decode b_BlockRuler_look 88 = .ok (.iconst 0, 1) := by decide +kernel
theorem d_BlockRuler_look_89 : decode b_BlockRuler_look 89 = .ok (.ireturn, 1) := by decide +kernel
theorem d_BlockRuler_look_90 : decode b_BlockRuler_look 90 = .ok (.aload_n 0, 1) := by decide +kernel
theorem d_BlockRuler_look_91 : decode b_BlockRuler_look 91 = .ok (.getfield 39, 3) := by decide +kernel
theorem d_BlockRuler_look_94 : decode b_BlockRuler_look 94 = .ok (.getfield 138, 3) := by decide +kernel
theorem d_BlockRuler_look_97 : decode b_BlockRuler_look 97 = .ok (.iload_n 1, 1) := by decide +kernel
theorem d_BlockRuler_look_98 : decode b_BlockRuler_look 98 = .ok (.laload, 1) := by decide +kernel
theorem d_BlockRuler_look_99 : decode b_BlockRuler_look 99 = .ok (.invokestatic 143, 3) := by decide +kernel
theorem d_BlockRuler_look_102 : decode b_BlockRuler_look 102 = .ok (.ireturn, 1) := by decide +kernel
theorem d_BlockRuler_look_103 : decode b_BlockRuler_look 103 = .ok (.aload_n 0, 1) := by decide +kernel
theorem d_BlockRuler_look_104 : decode b_BlockRuler_look 104 = .ok (.getfield 39, 3) := by decide +kernel
theorem d_BlockRuler_look_107 : decode b_BlockRuler_look 107 = .ok (.iload_n 1, 1) := by decide +kernel
theorem d_BlockRuler_look_108 : decode b_BlockRuler_look 108 = .ok (.invokevirtual 148, 3) := by decide +kernel
theorem d_BlockRuler_look_111 : decode b_BlockRuler_look 111 = .ok (.ireturn, 1) := by decide +kernel
theorem d_BlockRuler_look_112 : decode b_BlockRuler_look 112 = .ok (.aload_n 0, 1) := by decide +kernel
theorem d_BlockRuler_look_113 : decode b_BlockRuler_look 113 = .ok (.getfield 39, 3) := by decide +kernel
theorem d_BlockRuler_look_116 : decode b_BlockRuler_look 116 = .ok (.iload_n 1, 1) := by decide +kernel
theorem d_BlockRuler_look_117 : decode b_BlockRuler_look 117 = .ok (.invokevirtual 151, 3) := by decide +kernel
theorem d_BlockRuler_look_120 : decode b_BlockRuler_look 120 = .ok (.ireturn, 1) := by decide +kernel
theorem d_BlockRuler_look_121 : decode b_BlockRuler_look 121 = .ok (.aload_n 0, 1) := by decide +kernel
theorem d_BlockRuler_look_122 : decode b_BlockRuler_look 122 = .ok (.getfield 30, 3) := by decide +kernel
theorem d_BlockRuler_look_125 : decode b_BlockRuler_look 125 = .ok (.iload_n 1, 1) := by decide +kernel
theorem d_BlockRuler_look_126 : decode b_BlockRuler_look 126 = .ok (.invokevirtual 154, 3) := by decide +kernel
theorem d_BlockRuler_look_129 : decode b_BlockRuler_look 129 = .ok (.invokestatic 143, 3) := by decide +kernel
theorem d_BlockRuler_look_132 : decode b_BlockRuler_look 132 = .ok (.ireturn, 1) := by decide +kernel
theorem d_BlockRuler_look_133 : decode b_BlockRuler_look 133 = .ok (.aload_n 0, 1) := by decide +kernel
theorem d_BlockRuler_look_134 : decode b_BlockRuler_look 134 = .ok (.getfield 21, 3) := by decide +kernel
theorem d_BlockRuler_look_137 : decode b_BlockRuler_look 137 = .ok (.getfield 157, 3) := by decide +kernel
theorem d_BlockRuler_look_140 : decode b_BlockRuler_look 140 = .ok (.iload_n 1, 1) := by decide +kernel
theorem d_BlockRuler_look_141 : decode b_BlockRuler_look 141 = .ok (.iaload, 1) := by decide +kernel
theorem d_BlockRuler_look_142 : decode b_BlockRuler_look 142 = .ok (.ireturn, 1) := by decide +kernel
theorem d_BlockRuler_look_143 : decode b_BlockRuler_look 143 = .ok (.iconst (-1), 1) := by decide +kernel
theorem d_BlockRuler_look_144 : decode b_BlockRuler_look 144 = .ok (.ireturn, 1) := by decide +kernel
theorem d_BlockRuler_edge_0 : decode b_BlockRuler_edge 0 = .ok (.aload_n 0, 1) := by decide +kernel
theorem d_BlockRuler_edge_1 : decode b_BlockRuler_edge 1 = .ok (.invokevirtual 100, 3) := by decide +kernel
theorem d_BlockRuler_edge_4 : decode b_BlockRuler_edge 4 = .ok (.aload_n 0, 1) := by decide +kernel
theorem d_BlockRuler_edge_5 : decode b_BlockRuler_edge 5 = .ok (.getfield 12, 3) := by decide +kernel
theorem d_BlockRuler_edge_8 : decode b_BlockRuler_edge 8 = .ok (.iload_n 1, 1) := by decide +kernel
theorem d_BlockRuler_edge_9 : decode b_BlockRuler_edge 9 = .ok (.invokevirtual 62, 3) := by decide +kernel
theorem d_BlockRuler_edge_12 : decode b_BlockRuler_edge 12 = .ok (.ifCond .eq 18, 3) := by decide +kernel
theorem d_BlockRuler_edge_15 : decode b_BlockRuler_edge 15 = .ok (.aload_n 0, 1) := by decide +kernel
theorem d_BlockRuler_edge_16 : decode b_BlockRuler_edge 16 = .ok (.getfield 30, 3) := by decide +kernel
theorem d_BlockRuler_edge_19 : decode b_BlockRuler_edge 19 = .ok (.iload_n 1, 1) := by decide +kernel
theorem d_BlockRuler_edge_20 : decode b_BlockRuler_edge 20 = .ok (.invokevirtual 160, 3) := by decide +kernel
theorem d_BlockRuler_edge_23 : decode b_BlockRuler_edge 23 = .ok (.iload_n 2, 1) := by decide +kernel
theorem d_BlockRuler_edge_24 : decode b_BlockRuler_edge 24 = .ok (.invokestatic 163, 3) := by decide +kernel
theorem d_BlockRuler_edge_27 : decode b_BlockRuler_edge 27 = .ok (.goto 4, 3) := by decide +kernel
theorem d_BlockRuler_edge_30 : decode b_BlockRuler_edge 30 = .ok (.iconst (-1), 1) := by decide +kernel
theorem d_BlockRuler_edge_31 : decode b_BlockRuler_edge 31 = .ok (.ireturn, 1) := by decide +kernel
theorem d_BlockRuler_count_0 : decode b_BlockRuler_count 0 = .ok (.aload_n 0, 1) := by decide +kernel
theorem d_BlockRuler_count_1 : decode b_BlockRuler_count 1 = .ok (.invokevirtual 100, 3) := by decide +kernel
theorem d_BlockRuler_count_4 : decode b_BlockRuler_count 4 = .ok (.iload_n 1, 1) := by decide +kernel
theorem d_BlockRuler_count_5 : decode b_BlockRuler_count 5 = .ok (.tableswitch 99 0 6 #[43, 51, 59, 67, 75, 83, 91], 43) := by decide +kernel
theorem d_BlockRuler_count_48 : decode b_BlockRuler_count 48 = .ok (.aload_n 0, 1) := by decide +kernel
theorem d_BlockRuler_count_49 : decode b_BlockRuler_count 49 = .ok (.getfield 12, 3) := by decide +kernel
theorem d_BlockRuler_count_52 : decode b_BlockRuler_count 52 = .ok (.getfield 47, 3) := by decide +kernel
theorem d_BlockRuler_count_55 : decode b_BlockRuler_count 55 = .ok (.ireturn, 1) := by decide +kernel
theorem d_BlockRuler_count_56 : decode b_BlockRuler_count 56 = .ok (.aload_n 0, 1) := by decide +kernel
theorem d_BlockRuler_count_57 : decode b_BlockRuler_count 57 = .ok (.getfield 12, 3) := by decide +kernel
theorem d_BlockRuler_count_60 : decode b_BlockRuler_count 60 = .ok (.getfield 167, 3) := by decide +kernel
theorem d_BlockRuler_count_63 : decode b_BlockRuler_count 63 = .ok (.ireturn, 1) := by decide +kernel
theorem d_BlockRuler_count_64 : decode b_BlockRuler_count 64 = .ok (.aload_n 0, 1) := by decide +kernel
theorem d_BlockRuler_count_65 : decode b_BlockRuler_count 65 = .ok (.getfield 21, 3) := by decide +kernel
theorem d_BlockRuler_count_68 : decode b_BlockRuler_count 68 = .ok (.getfield 106, 3) := by decide +kernel
theorem d_BlockRuler_count_71 : decode b_BlockRuler_count 71 = .ok (.ireturn, 1) := by decide +kernel
theorem d_BlockRuler_count_72 : decode b_BlockRuler_count 72 = .ok (.aload_n 0, 1) := by decide +kernel
theorem d_BlockRuler_count_73 : decode b_BlockRuler_count 73 = .ok (.getfield 39, 3) := by decide +kernel
theorem d_BlockRuler_count_76 : decode b_BlockRuler_count 76 = .ok (.getfield 170, 3) := by decide +kernel
theorem d_BlockRuler_count_79 : decode b_BlockRuler_count 79 = .ok (.ireturn, 1) := by decide +kernel
theorem d_BlockRuler_count_80 : decode b_BlockRuler_count 80 = .ok (.aload_n 0, 1) := by decide +kernel
theorem d_BlockRuler_count_81 : decode b_BlockRuler_count 81 = .ok (.getfield 39, 3) := by decide +kernel
theorem d_BlockRuler_count_84 : decode b_BlockRuler_count 84 = .ok (.getfield 173, 3) := by decide +kernel
theorem d_BlockRuler_count_87 : decode b_BlockRuler_count 87 = .ok (.ireturn, 1) := by decide +kernel
theorem d_BlockRuler_count_88 : decode b_BlockRuler_count 88 = .ok (.aload_n 0, 1) := by decide +kernel
theorem d_BlockRuler_count_89 : decode b_BlockRuler_count 89 = .ok (.getfield 39, 3) := by decide +kernel
theorem d_BlockRuler_count_92 : decode b_BlockRuler_count 92 = .ok (.getfield 176, 3) := by decide +kernel
theorem d_BlockRuler_count_95 : decode b_BlockRuler_count 95 = .ok (.ireturn, 1) := by decide +kernel
theorem d_BlockRuler_count_96 : decode b_BlockRuler_count 96 = .ok (.aload_n 0, 1) := by decide +kernel
theorem d_BlockRuler_count_97 : decode b_BlockRuler_count 97 = .ok (.getfield 39, 3) := by decide +kernel
theorem d_BlockRuler_count_100 : decode b_BlockRuler_count 100 = .ok (.invokevirtual 179, 3) := by decide +kernel
theorem d_BlockRuler_count_103 : decode b_BlockRuler_count 103 = .ok (.ireturn, 1) := by decide +kernel
theorem d_BlockRuler_count_104 : decode b_BlockRuler_count 104 = .ok (.iconst (-1), 1) := by decide +kernel
theorem d_BlockRuler_count_105 : decode b_BlockRuler_count 105 = .ok (.ireturn, 1) := by decide +kernel
