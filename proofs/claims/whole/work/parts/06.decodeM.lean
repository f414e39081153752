-- written by wip/gen (blockruler.py)
theorem d_Model_thrown_0 : decode b_Model_thrown 0 = .ok (.aload_n 0, 1) := by decide +kernel
theorem d_Model_thrown_1 : decode b_Model_thrown 1 = .ok (.getfield 51, 3) := by decide +kernel
theorem d_Model_thrown_4 : decode b_Model_thrown 4 = .ok (.ireturn, 1) := by decide +kernel
theorem d_Model_isBlock_0 : decode b_Model_isBlock 0 = .ok (.iload_n 1, 1) := by decide +kernel
theorem d_Model_isBlock_1 : decode b_Model_isBlock 1 = .ok (.ifCond .lt 15, 3) := by decide +kernel
theorem d_Model_isBlock_4 : decode b_Model_isBlock 4 = .ok (.iload_n 1, 1) := by decide +kernel
theorem d_Model_isBlock_5 : decode b_Model_isBlock 5 = .ok (.aload_n 0, 1) := by decide +kernel
theorem d_Model_isBlock_6 : decode b_Model_isBlock 6 = .ok (.getfield 7, 3) := by decide +kernel
theorem d_Model_isBlock_9 : decode b_Model_isBlock 9 = .ok (.if_icmp .ge 7, 3) := by decide +kernel
theorem d_Model_isBlock_12 : decode b_Model_isBlock 12 = .ok (.iconst 1, 1) := by decide +kernel
theorem d_Model_isBlock_13 : decode b_Model_isBlock 13 = .ok (.goto 4, 3) := by decide +kernel
theorem d_Model_isBlock_16 : decode b_Model_isBlock 16 = .ok (.iconst 0, 1) := by decide +kernel
theorem d_Model_isBlock_17 : decode b_Model_isBlock 17 = .ok (.ireturn, 1) := by decide +kernel
theorem d_Model_isWay_0 : decode b_Model_isWay 0 = .ok (.aload_n 0, 1) := by decide +kernel
theorem d_Model_isWay_1 : decode b_Model_isWay 1 = .ok (.iload_n 1, 1) := by decide +kernel
theorem d_Model_isWay_2 : decode b_Model_isWay 2 = .ok (.invokevirtual 54, 3) := by decide +kernel
theorem d_Model_isWay_5 : decode b_Model_isWay 5 = .ok (.ifCond .eq 21, 3) := by decide +kernel
theorem d_Model_isWay_8 : decode b_Model_isWay 8 = .ok (.iload_n 2, 1) := by decide +kernel
theorem d_Model_isWay_9 : decode b_Model_isWay 9 = .ok (.ifCond .lt 17, 3) := by decide +kernel
theorem d_Model_isWay_12 : decode b_Model_isWay 12 = .ok (.iload_n 2, 1) := by decide +kernel
theorem d_Model_isWay_13 : decode b_Model_isWay 13 = .ok (.aload_n 0, 1) := by decide +kernel
theorem d_Model_isWay_14 : decode b_Model_isWay 14 = .ok (.getfield 13, 3) := by decide +kernel
theorem d_Model_isWay_17 : decode b_Model_isWay 17 = .ok (.iload_n 1, 1) := by decide +kernel
theorem d_Model_isWay_18 : decode b_Model_isWay 18 = .ok (.iaload, 1) := by decide +kernel
theorem d_Model_isWay_19 : decode b_Model_isWay 19 = .ok (.if_icmp .ge 7, 3) := by decide +kernel
theorem d_Model_isWay_22 : decode b_Model_isWay 22 = .ok (.iconst 1, 1) := by decide +kernel
theorem d_Model_isWay_23 : decode b_Model_isWay 23 = .ok (.goto 4, 3) := by decide +kernel
theorem d_Model_isWay_26 : decode b_Model_isWay 26 = .ok (.iconst 0, 1) := by decide +kernel
theorem d_Model_isWay_27 : decode b_Model_isWay 27 = .ok (.ireturn, 1) := by decide +kernel
theorem d_Model_block_0 : decode b_Model_block 0 = .ok (.aload_n 0, 1) := by decide +kernel
theorem d_Model_block_1 : decode b_Model_block 1 = .ok (.aload_n 0, 1) := by decide +kernel
theorem d_Model_block_2 : decode b_Model_block 2 = .ok (.getfield 7, 3) := by decide +kernel
theorem d_Model_block_5 : decode b_Model_block 5 = .ok (.bipush 64, 2) := by decide +kernel
theorem d_Model_block_7 : decode b_Model_block 7 = .ok (.if_icmp .ne 7, 3) := by decide +kernel
theorem d_Model_block_10 : decode b_Model_block 10 = .ok (.iconst 1, 1) := by decide +kernel
theorem d_Model_block_11 : decode b_Model_block 11 = .ok (.goto 4, 3) := by decide +kernel
theorem d_Model_block_14 : decode b_Model_block 14 = .ok (.iconst 0, 1) := by decide +kernel
theorem d_Model_block_15 : decode b_Model_block 15 = .ok (.putfield 51, 3) := by decide +kernel
theorem d_Model_block_18 : decode b_Model_block 18 = .ok (.aload_n 0, 1) := by decide +kernel
theorem d_Model_block_19 : decode b_Model_block 19 = .ok (.getfield 51, 3) := by decide +kernel
theorem d_Model_block_22 : decode b_Model_block 22 = .ok (.ifCond .le 5, 3) := by decide +kernel
theorem d_Model_block_25 : decode b_Model_block 25 = .ok (.iconst 0, 1) := by decide +kernel
theorem d_Model_block_26 : decode b_Model_block 26 = .ok (.ireturn, 1) := by decide +kernel
theorem d_Model_block_27 : decode b_Model_block 27 = .ok (.aload_n 0, 1) := by decide +kernel
theorem d_Model_block_28 : decode b_Model_block 28 = .ok (.iconst 0, 1) := by decide +kernel
theorem d_Model_block_29 : decode b_Model_block 29 = .ok (.putfield 58, 3) := by decide +kernel
theorem d_Model_block_32 : decode b_Model_block 32 = .ok (.aload_n 0, 1) := by decide +kernel
theorem d_Model_block_33 : decode b_Model_block 33 = .ok (.getfield 13, 3) := by decide +kernel
theorem d_Model_block_36 : decode b_Model_block 36 = .ok (.aload_n 0, 1) := by decide +kernel
theorem d_Model_block_37 : decode b_Model_block 37 = .ok (.getfield 7, 3) := by decide +kernel
theorem d_Model_block_40 : decode b_Model_block 40 = .ok (.iconst 0, 1) := by decide +kernel
theorem d_Model_block_41 : decode b_Model_block 41 = .ok (.iastore, 1) := by decide +kernel
theorem d_Model_block_42 : decode b_Model_block 42 = .ok (.aload_n 0, 1) := by decide +kernel
theorem d_Model_block_43 : decode b_Model_block 43 = .ok (.dup, 1) := by decide +kernel
theorem d_Model_block_44 : decode b_Model_block 44 = .ok (.getfield 7, 3) := by decide +kernel
theorem d_Model_block_47 : decode b_Model_block 47 = .ok (.iconst 1, 1) := by decide +kernel
theorem d_Model_block_48 : decode b_Model_block 48 = .ok (.iadd, 1) := by decide +kernel
theorem d_Model_block_49 : decode b_Model_block 49 = .ok (.putfield 7, 3) := by decide +kernel
theorem d_Model_block_52 : decode b_Model_block 52 = .ok (.aload_n 0, 1) := by decide +kernel
theorem d_Model_block_53 : decode b_Model_block 53 = .ok (.getfield 7, 3) := by decide +kernel
theorem d_Model_block_56 : decode b_Model_block 56 = .ok (.iconst 1, 1) := by decide +kernel
theorem d_Model_block_57 : decode b_Model_block 57 = .ok (.isub, 1) := by decide +kernel
theorem d_Model_block_58 : decode b_Model_block 58 = .ok (.ireturn, 1) := by decide +kernel
theorem d_Model_way_0 : decode b_Model_way 0 = .ok (.aload_n 0, 1) := by decide +kernel
theorem d_Model_way_1 : decode b_Model_way 1 = .ok (.aload_n 0, 1) := by decide +kernel
theorem d_Model_way_2 : decode b_Model_way 2 = .ok (.iload_n 1, 1) := by decide +kernel
theorem d_Model_way_3 : decode b_Model_way 3 = .ok (.invokevirtual 54, 3) := by decide +kernel
theorem d_Model_way_6 : decode b_Model_way 6 = .ok (.ifCond .eq 11, 3) := by decide +kernel
theorem d_Model_way_9 : decode b_Model_way 9 = .ok (.aload_n 0, 1) := by decide +kernel
theorem d_Model_way_10 : decode b_Model_way 10 = .ok (.iload_n 2, 1) := by decide +kernel
theorem d_Model_way_11 : decode b_Model_way 11 = .ok (.invokevirtual 54, 3) := by decide +kernel
theorem d_Model_way_14 : decode b_Model_way 14 = .ok (.ifCond .ne 7, 3) := by decide +kernel
theorem d_Model_way_17 : decode b_Model_way 17 = .ok (.iconst 1, 1) := by decide +kernel
theorem d_Model_way_18 : decode b_Model_way 18 = .ok (.goto 19, 3) := by decide +kernel
theorem d_Model_way_21 : decode b_Model_way 21 = .ok (.aload_n 0, 1) := by decide +kernel
theorem d_Model_way_22 : decode b_Model_way 22 = .ok (.getfield 13, 3) := by decide +kernel
theorem d_Model_way_25 : decode b_Model_way 25 = .ok (.iload_n 1, 1) := by decide +kernel
theorem d_Model_way_26 : decode b_Model_way 26 = .ok (.iaload, 1) := by decide +kernel
theorem d_Model_way_27 : decode b_Model_way 27 = .ok (.bipush 8, 2) := by decide +kernel
theorem d_Model_way_29 : decode b_Model_way 29 = .ok (.if_icmp .ne 7, 3) := by decide +kernel
theorem d_Model_way_32 : decode b_Model_way 32 = .ok (.iconst 2, 1) := by decide +kernel
theorem d_Model_way_33 : decode b_Model_way 33 = .ok (.goto 4, 3) := by decide +kernel
theorem d_Model_way_36 : decode b_Model_way 36 = .ok (.iconst 0, 1) := by decide +kernel
theorem d_Model_way_37 : decode b_Model_way 37 = .ok (.putfield 51, 3) := by decide +kernel
theorem d_Model_way_40 : decode b_Model_way 40 = .ok (.aload_n 0, 1) := by decide +kernel
theorem d_Model_way_41 : decode b_Model_way 41 = .ok (.getfield 51, 3) := by decide +kernel
theorem d_Model_way_44 : decode b_Model_way 44 = .ok (.ifCond .le 5, 3) := by decide +kernel
theorem d_Model_way_47 : decode b_Model_way 47 = .ok (.iconst 0, 1) := by decide +kernel
theorem d_Model_way_48 : decode b_Model_way 48 = .ok (.ireturn, 1) := by decide +kernel
theorem d_Model_way_49 : decode b_Model_way 49 = .ok (.aload_n 0, 1) := by decide +kernel
theorem d_Model_way_50 : decode b_Model_way 50 = .ok (.iconst 0, 1) := by decide +kernel
theorem d_Model_way_51 : decode b_Model_way 51 = .ok (.putfield 58, 3) := by decide +kernel
theorem d_Model_way_54 : decode b_Model_way 54 = .ok (.aload_n 0, 1) := by decide +kernel
theorem d_Model_way_55 : decode b_Model_way 55 = .ok (.getfield 17, 3) := by decide +kernel
theorem d_Model_way_58 : decode b_Model_way 58 = .ok (.bipush 8, 2) := by decide +kernel
theorem d_Model_way_60 : decode b_Model_way 60 = .ok (.iload_n 1, 1) := by decide +kernel
theorem d_Model_way_61 : decode b_Model_way 61 = .ok (.imul, 1) := by decide +kernel
theorem d_Model_way_62 : decode b_Model_way 62 = .ok (.aload_n 0, 1) := by decide +kernel
theorem d_Model_way_63 : decode b_Model_way 63 = .ok (.getfield 13, 3) := by decide +kernel
theorem d_Model_way_66 : decode b_Model_way 66 = .ok (.iload_n 1, 1) := by decide +kernel
theorem d_Model_way_67 : decode b_Model_way 67 = .ok (.iaload, 1) := by decide +kernel
theorem d_Model_way_68 : decode b_Model_way 68 = .ok (.iadd, 1) := by decide +kernel
theorem d_Model_way_69 : decode b_Model_way 69 = .ok (.iload_n 2, 1) := by decide +kernel
theorem d_Model_way_70 : decode b_Model_way 70 = .ok (.iastore, 1) := by decide +kernel
theorem d_Model_way_71 : decode b_Model_way 71 = .ok (.aload_n 0, 1) := by decide +kernel
theorem d_Model_way_72 : decode b_Model_way 72 = .ok (.getfield 13, 3) := by decide +kernel
theorem d_Model_way_75 : decode b_Model_way 75 = .ok (.iload_n 1, 1) := by decide +kernel
theorem d_Model_way_76 : decode b_Model_way 76 = .ok (.dup2, 1) := by decide +kernel
theorem d_Model_way_77 : decode b_Model_way 77 = .ok (.iaload, 1) := by decide +kernel
theorem d_Model_way_78 : decode b_Model_way 78 = .ok (.iconst 1, 1) := by decide +kernel
theorem d_Model_way_79 : decode b_Model_way 79 = .ok (.iadd, 1) := by decide +kernel
theorem d_Model_way_80 : decode b_Model_way 80 = .ok (.iastore, 1) := by decide +kernel
theorem d_Model_way_81 : decode b_Model_way 81 = .ok (.aload_n 0, 1) := by decide +kernel
theorem d_Model_way_82 : decode b_Model_way 82 = .ok (.getfield 13, 3) := by decide +kernel
theorem d_Model_way_85 : decode b_Model_way 85 = .ok (.iload_n 1, 1) := by decide +kernel
theorem d_Model_way_86 : decode b_Model_way 86 = .ok (.iaload, 1) := by decide +kernel
theorem d_Model_way_87 : decode b_Model_way 87 = .ok (.iconst 1, 1) := by decide +kernel
theorem d_Model_way_88 : decode b_Model_way 88 = .ok (.isub, 1) := by decide +kernel
theorem d_Model_way_89 : decode b_Model_way 89 = .ok (.ireturn, 1) := by decide +kernel
theorem d_Model_cut_0 : decode b_Model_cut 0 = .ok (.aload_n 0, 1) := by decide +kernel
theorem d_Model_cut_1 : decode b_Model_cut 1 = .ok (.aload_n 0, 1) := by decide +kernel
theorem d_Model_cut_2 : decode b_Model_cut 2 = .ok (.iload_n 1, 1) := by decide +kernel
theorem d_Model_cut_3 : decode b_Model_cut 3 = .ok (.iload_n 2, 1) := by decide +kernel
theorem d_Model_cut_4 : decode b_Model_cut 4 = .ok (.invokevirtual 62, 3) := by decide +kernel
theorem d_Model_cut_7 : decode b_Model_cut 7 = .ok (.ifCond .eq 7, 3) := by decide +kernel
theorem d_Model_cut_10 : decode b_Model_cut 10 = .ok (.iconst 0, 1) := by decide +kernel
theorem d_Model_cut_11 : decode b_Model_cut 11 = .ok (.goto 4, 3) := by decide +kernel
theorem d_Model_cut_14 : decode b_Model_cut 14 = .ok (.iconst 1, 1) := by decide +kernel
theorem d_Model_cut_15 : decode b_Model_cut 15 = .ok (.putfield 51, 3) := by decide +kernel
theorem d_Model_cut_18 : decode b_Model_cut 18 = .ok (.aload_n 0, 1) := by decide +kernel
theorem d_Model_cut_19 : decode b_Model_cut 19 = .ok (.getfield 51, 3) := by decide +kernel
theorem d_Model_cut_22 : decode b_Model_cut 22 = .ok (.ifCond .le 5, 3) := by decide +kernel
theorem d_Model_cut_25 : decode b_Model_cut 25 = .ok (.iconst 0, 1) := by decide +kernel
theorem d_Model_cut_26 : decode b_Model_cut 26 = .ok (.ireturn, 1) := by decide +kernel
theorem d_Model_cut_27 : decode b_Model_cut 27 = .ok (.aload_n 0, 1) := by decide +kernel
theorem d_Model_cut_28 : decode b_Model_cut 28 = .ok (.iconst 0, 1) := by decide +kernel
theorem d_Model_cut_29 : decode b_Model_cut 29 = .ok (.putfield 58, 3) := by decide +kernel
theorem d_Model_cut_32 : decode b_Model_cut 32 = .ok (.aload_n 0, 1) := by decide +kernel
theorem d_Model_cut_33 : decode b_Model_cut 33 = .ok (.getfield 17, 3) := by decide +kernel
theorem d_Model_cut_36 : decode b_Model_cut 36 = .ok (.bipush 8, 2) := by decide +kernel
theorem d_Model_cut_38 : decode b_Model_cut 38 = .ok (.iload_n 1, 1) := by decide +kernel
theorem d_Model_cut_39 : decode b_Model_cut 39 = .ok (.imul, 1) := by decide +kernel
theorem d_Model_cut_40 : decode b_Model_cut 40 = .ok (.iload_n 2, 1) := by decide +kernel
theorem d_Model_cut_41 : decode b_Model_cut 41 = .ok (.iadd, 1) := by decide +kernel
theorem d_Model_cut_42 : decode b_Model_cut 42 = .ok (.iaload, 1) := by decide +kernel
theorem d_Model_cut_43 : decode b_Model_cut 43 = .ok (.istore_n 3, 1) := by decide +kernel
theorem d_Model_cut_44 : decode b_Model_cut 44 = .ok (.aload_n 0, 1) := by decide +kernel
theorem d_Model_cut_45 : decode b_Model_cut 45 = .ok (.getfield 13, 3) := by decide +kernel
theorem d_Model_cut_48 : decode b_Model_cut 48 = .ok (.iload_n 1, 1) := by decide +kernel
theorem d_Model_cut_49 : decode b_Model_cut 49 = .ok (.dup2, 1) := by decide +kernel
theorem d_Model_cut_50 : decode b_Model_cut 50 = .ok (.iaload, 1) := by decide +kernel
theorem d_Model_cut_51 : decode b_Model_cut 51 = .ok (.iconst 1, 1) := by decide +kernel
theorem d_Model_cut_52 : decode b_Model_cut 52 = .ok (.isub, 1) := by decide +kernel
theorem d_Model_cut_53 : decode b_Model_cut 53 = .ok (.iastore, 1) := by decide +kernel
theorem d_Model_cut_54 : decode b_Model_cut 54 = .ok (.iload_n 2, 1) := by decide +kernel
theorem d_Model_cut_55 : decode b_Model_cut 55 = .ok (.istore 4, 2) := by decide +kernel
theorem d_Model_cut_57 : decode b_Model_cut 57 = .ok (.iload 4, 2) := by decide +kernel
theorem d_Model_cut_59 : decode b_Model_cut 59 = .ok (.aload_n 0, 1) := by decide +kernel
theorem d_Model_cut_60 : decode b_Model_cut 60 = .ok (.getfield 13, 3) := by decide +kernel
theorem d_Model_cut_63 : decode b_Model_cut 63 = .ok (.iload_n 1, 1) := by decide +kernel
theorem d_Model_cut_64 : decode b_Model_cut 64 = .ok (.iaload, 1) := by decide +kernel
theorem d_Model_cut_65 : decode b_Model_cut 65 = .ok (.if_icmp .ge 35, 3) := by decide +kernel
theorem d_Model_cut_68 : decode b_Model_cut 68 = .ok (.aload_n 0, 1) := by decide +kernel
theorem d_Model_cut_69 : decode b_Model_cut 69 = .ok (.getfield 17, 3) := by decide +kernel
theorem d_Model_cut_72 : decode b_Model_cut 72 = .ok (.bipush 8, 2) := by decide +kernel
theorem d_Model_cut_74 : decode b_Model_cut 74 = .ok (.iload_n 1, 1) := by decide +kernel
theorem d_Model_cut_75 : decode b_Model_cut 75 = .ok (.imul, 1) := by decide +kernel
theorem d_Model_cut_76 : decode b_Model_cut 76 = .ok (.iload 4, 2) := by decide +kernel
theorem d_Model_cut_78 : decode b_Model_cut 78 = .ok (.iadd, 1) := by decide +kernel
theorem d_Model_cut_79 : decode b_Model_cut 79 = .ok (.aload_n 0, 1) := by decide +kernel
theorem d_Model_cut_80 : decode b_Model_cut 80 = .ok (.getfield 17, 3) := by decide +kernel
theorem d_Model_cut_83 : decode b_Model_cut 83 = .ok (.bipush 8, 2) := by decide +kernel
theorem d_Model_cut_85 : decode b_Model_cut 85 = .ok (.iload_n 1, 1) := by decide +kernel
theorem d_Model_cut_86 : decode b_Model_cut 86 = .ok (.imul, 1) := by decide +kernel
theorem d_Model_cut_87 : decode b_Model_cut 87 = .ok (.iload 4, 2) := by decide +kernel
theorem d_Model_cut_89 : decode b_Model_cut 89 = .ok (.iadd, 1) := by decide +kernel
theorem d_Model_cut_90 : decode b_Model_cut 90 = .ok (.iconst 1, 1) := by decide +kernel
theorem d_Model_cut_91 : decode b_Model_cut 91 = .ok (.iadd, 1) := by decide +kernel
theorem d_Model_cut_92 : decode b_Model_cut 92 = .ok (.iaload, 1) := by decide +kernel
theorem d_Model_cut_93 : decode b_Model_cut 93 = .ok (.iastore, 1) := by decide +kernel
theorem d_Model_cut_94 : decode b_Model_cut 94 = .ok (.iinc 4 1, 3) := by decide +kernel
theorem d_Model_cut_97 : decode b_Model_cut 97 = .ok (.goto (-40), 3) := by decide +kernel
theorem d_Model_cut_100 : decode b_Model_cut 100 = .ok (.iload_n 3, 1) := by decide +kernel
theorem d_Model_cut_101 : decode b_Model_cut 101 = .ok (.ireturn, 1) := by decide +kernel
theorem d_Model_turn_0 : decode b_Model_turn 0 = .ok (.aload_n 0, 1) := by decide +kernel
theorem d_Model_turn_1 : decode b_Model_turn 1 = .ok (.aload_n 0, 1) := by decide +kernel
theorem d_Model_turn_2 : decode b_Model_turn 2 = .ok (.iload_n 1, 1) := by decide +kernel
theorem d_Model_turn_3 : decode b_Model_turn 3 = .ok (.iload_n 2, 1) := by decide +kernel
theorem d_Model_turn_4 : decode b_Model_turn 4 = .ok (.invokevirtual 62, 3) := by decide +kernel
theorem d_Model_turn_7 : decode b_Model_turn 7 = .ok (.ifCond .ne 7, 3) := by decide +kernel
theorem d_Model_turn_10 : decode b_Model_turn 10 = .ok (.iconst 1, 1) := by decide +kernel
theorem d_Model_turn_11 : decode b_Model_turn 11 = .ok (.goto 16, 3) := by decide +kernel
theorem d_Model_turn_14 : decode b_Model_turn 14 = .ok (.aload_n 0, 1) := by decide +kernel
theorem d_Model_turn_15 : decode b_Model_turn 15 = .ok (.iload_n 3, 1) := by decide +kernel
theorem d_Model_turn_16 : decode b_Model_turn 16 = .ok (.invokevirtual 54, 3) := by decide +kernel
theorem d_Model_turn_19 : decode b_Model_turn 19 = .ok (.ifCond .ne 7, 3) := by decide +kernel
theorem d_Model_turn_22 : decode b_Model_turn 22 = .ok (.iconst 2, 1) := by decide +kernel
theorem d_Model_turn_23 : decode b_Model_turn 23 = .ok (.goto 4, 3) := by decide +kernel
theorem d_Model_turn_26 : decode b_Model_turn 26 = .ok (.iconst 0, 1) := by decide +kernel
theorem d_Model_turn_27 : decode b_Model_turn 27 = .ok (.putfield 51, 3) := by decide +kernel
theorem d_Model_turn_30 : decode b_Model_turn 30 = .ok (.aload_n 0, 1) := by decide +kernel
theorem d_Model_turn_31 : decode b_Model_turn 31 = .ok (.getfield 51, 3) := by decide +kernel
theorem d_Model_turn_34 : decode b_Model_turn 34 = .ok (.ifCond .le 5, 3) := by decide +kernel
theorem d_Model_turn_37 : decode b_Model_turn 37 = .ok (.iconst 0, 1) := by decide +kernel
theorem d_Model_turn_38 : decode b_Model_turn 38 = .ok (.ireturn, 1) := by decide +kernel
theorem d_Model_turn_39 : decode b_Model_turn 39 = .ok (.aload_n 0, 1) := by decide +kernel
theorem d_Model_turn_40 : decode b_Model_turn 40 = .ok (.iconst 0, 1) := by decide +kernel
theorem d_Model_turn_41 : decode b_Model_turn 41 = .ok (.putfield 58, 3) := by decide +kernel
theorem d_Model_turn_44 : decode b_Model_turn 44 = .ok (.aload_n 0, 1) := by decide +kernel
theorem d_Model_turn_45 : decode b_Model_turn 45 = .ok (.getfield 17, 3) := by decide +kernel
theorem d_Model_turn_48 : decode b_Model_turn 48 = .ok (.bipush 8, 2) := by decide +kernel
theorem d_Model_turn_50 : decode b_Model_turn 50 = .ok (.iload_n 1, 1) := by decide +kernel
theorem d_Model_turn_51 : decode b_Model_turn 51 = .ok (.imul, 1) := by decide +kernel
theorem d_Model_turn_52 : decode b_Model_turn 52 = .ok (.iload_n 2, 1) := by decide +kernel
theorem d_Model_turn_53 : decode b_Model_turn 53 = .ok (.iadd, 1) := by decide +kernel
theorem d_Model_turn_54 : decode b_Model_turn 54 = .ok (.iaload, 1) := by decide +kernel
theorem d_Model_turn_55 : decode b_Model_turn 55 = .ok (.istore 4, 2) := by decide +kernel
theorem d_Model_turn_57 : decode b_Model_turn 57 = .ok (.aload_n 0, 1) := by decide +kernel
theorem d_Model_turn_58 : decode b_Model_turn 58 = .ok (.getfield 17, 3) := by decide +kernel
theorem d_Model_turn_61 : decode b_Model_turn 61 = .ok (.bipush 8, 2) := by decide +kernel
theorem d_Model_turn_63 : decode b_Model_turn 63 = .ok (.iload_n 1, 1) := by decide +kernel
theorem d_Model_turn_64 : decode b_Model_turn 64 = .ok (.imul, 1) := by decide +kernel
theorem d_Model_turn_65 : decode b_Model_turn 65 = .ok (.iload_n 2, 1) := by decide +kernel
theorem d_Model_turn_66 : decode b_Model_turn 66 = .ok (.iadd, 1) := by decide +kernel
theorem d_Model_turn_67 : decode b_Model_turn 67 = .ok (.iload_n 3, 1) := by decide +kernel
theorem d_Model_turn_68 : decode b_Model_turn 68 = .ok (.iastore, 1) := by decide +kernel
theorem d_Model_turn_69 : decode b_Model_turn 69 = .ok (.iload 4, 2) := by decide +kernel
theorem d_Model_turn_71 : decode b_Model_turn 71 = .ok (.ireturn, 1) := by decide +kernel
theorem d_Model_sortOf_0 : decode b_Model_sortOf 0 = .ok (.aload_n 0, 1) := by decide +kernel
theorem d_Model_sortOf_1 : decode b_Model_sortOf 1 = .ok (.getfield 17, 3) := by decide +kernel
theorem d_Model_sortOf_4 : decode b_Model_sortOf 4 = .ok (.bipush 8, 2) := by decide +kernel
theorem d_Model_sortOf_6 : decode b_Model_sortOf 6 = .ok (.iload_n 1, 1) := by decide +kernel
theorem d_Model_sortOf_7 : decode b_Model_sortOf 7 = .ok (.imul, 1) := by decide +kernel
theorem d_Model_sortOf_8 : decode b_Model_sortOf 8 = .ok (.iload_n 2, 1) := by decide +kernel
theorem d_Model_sortOf_9 : decode b_Model_sortOf 9 = .ok (.iadd, 1) := by decide +kernel
theorem d_Model_sortOf_10 : decode b_Model_sortOf 10 = .ok (.iaload, 1) := by decide +kernel
theorem d_Model_sortOf_11 : decode b_Model_sortOf 11 = .ok (.istore_n 3, 1) := by decide +kernel
theorem d_Model_sortOf_12 : decode b_Model_sortOf 12 = .ok (.aload_n 0, 1) := by decide +kernel
theorem d_Model_sortOf_13 : decode b_Model_sortOf 13 = .ok (.getfield 20, 3) := by decide +kernel
theorem d_Model_sortOf_16 : decode b_Model_sortOf 16 = .ok (.iload_n 1, 1) := by decide +kernel
theorem d_Model_sortOf_17 : decode b_Model_sortOf 17 = .ok (.iaload, 1) := by decide +kernel
theorem d_Model_sortOf_18 : decode b_Model_sortOf 18 = .ok (.ifCond .ge 5, 3) := by decide +kernel
theorem d_Model_sortOf_21 : decode b_Model_sortOf 21 = .ok (.iconst (-1), 1) := by decide +kernel
theorem d_Model_sortOf_22 : decode b_Model_sortOf 22 = .ok (.ireturn, 1) := by decide +kernel
theorem d_Model_sortOf_23 : decode b_Model_sortOf 23 = .ok (.aload_n 0, 1) := by decide +kernel
theorem d_Model_sortOf_24 : decode b_Model_sortOf 24 = .ok (.getfield 20, 3) := by decide +kernel
theorem d_Model_sortOf_27 : decode b_Model_sortOf 27 = .ok (.iload_n 3, 1) := by decide +kernel
theorem d_Model_sortOf_28 : decode b_Model_sortOf 28 = .ok (.iaload, 1) := by decide +kernel
theorem d_Model_sortOf_29 : decode b_Model_sortOf 29 = .ok (.aload_n 0, 1) := by decide +kernel
theorem d_Model_sortOf_30 : decode b_Model_sortOf 30 = .ok (.getfield 20, 3) := by decide +kernel
theorem d_Model_sortOf_33 : decode b_Model_sortOf 33 = .ok (.iload_n 1, 1) := by decide +kernel
theorem d_Model_sortOf_34 : decode b_Model_sortOf 34 = .ok (.iaload, 1) := by decide +kernel
theorem d_Model_sortOf_35 : decode b_Model_sortOf 35 = .ok (.if_icmp .le 7, 3) := by decide +kernel
theorem d_Model_sortOf_38 : decode b_Model_sortOf 38 = .ok (.iconst 0, 1) := by decide +kernel
theorem d_Model_sortOf_39 : decode b_Model_sortOf 39 = .ok (.goto 22, 3) := by decide +kernel
theorem d_Model_sortOf_42 : decode b_Model_sortOf 42 = .ok (.aload_n 0, 1) := by decide +kernel
theorem d_Model_sortOf_43 : decode b_Model_sortOf 43 = .ok (.getfield 26, 3) := by decide +kernel
theorem d_Model_sortOf_46 : decode b_Model_sortOf 46 = .ok (.bipush 64, 2) := by decide +kernel
theorem d_Model_sortOf_48 : decode b_Model_sortOf 48 = .ok (.iload_n 3, 1) := by decide +kernel
theorem d_Model_sortOf_49 : decode b_Model_sortOf 49 = .ok (.imul, 1) := by decide +kernel
theorem d_Model_sortOf_50 : decode b_Model_sortOf 50 = .ok (.iload_n 1, 1) := by decide +kernel
theorem d_Model_sortOf_51 : decode b_Model_sortOf 51 = .ok (.iadd, 1) := by decide +kernel
theorem d_Model_sortOf_52 : decode b_Model_sortOf 52 = .ok (.baload, 1) := by decide +kernel
theorem d_Model_sortOf_53 : decode b_Model_sortOf 53 = .ok (.ifCond .eq 7, 3) := by decide +kernel
theorem d_Model_sortOf_56 : decode b_Model_sortOf 56 = .ok (.iconst 1, 1) := by decide +kernel
theorem d_Model_sortOf_57 : decode b_Model_sortOf 57 = .ok (.goto 4, 3) := by decide +kernel
theorem d_Model_sortOf_60 : decode b_Model_sortOf 60 = .ok (.iconst 2, 1) := by decide +kernel
theorem d_Model_sortOf_61 : decode b_Model_sortOf 61 = .ok (.ireturn, 1) := by decide +kernel
theorem d_Model_orders_0 : decode b_Model_orders 0 = .ok (.iconst 0, 1) := by decide +kernel
theorem d_Model_orders_1 : decode b_Model_orders 1 = .ok (.istore_n 1, 1) := by decide +kernel
theorem d_Model_orders_2 : decode b_Model_orders 2 = .ok (.iload_n 1, 1) := by decide +kernel
theorem d_Model_orders_3 : decode b_Model_orders 3 = .ok (.aload_n 0, 1) := by decide +kernel
theorem d_Model_orders_4 : decode b_Model_orders 4 = .ok (.getfield 7, 3) := by decide +kernel
theorem d_Model_orders_7 : decode b_Model_orders 7 = .ok (.if_icmp .ge 23, 3) := by decide +kernel
theorem d_Model_orders_10 : decode b_Model_orders 10 = .ok (.aload_n 0, 1) := by decide +kernel
theorem d_Model_orders_11 : decode b_Model_orders 11 = .ok (.getfield 20, 3) := by decide +kernel
theorem d_Model_orders_14 : decode b_Model_orders 14 = .ok (.iload_n 1, 1) := by decide +kernel
theorem d_Model_orders_15 : decode b_Model_orders 15 = .ok (.iconst (-1), 1) := by decide +kernel
theorem d_Model_orders_16 : decode b_Model_orders 16 = .ok (.iastore, 1) := by decide +kernel
theorem d_Model_orders_17 : decode b_Model_orders 17 = .ok (.aload_n 0, 1) := by decide +kernel
theorem d_Model_orders_18 : decode b_Model_orders 18 = .ok (.getfield 42, 3) := by decide +kernel
theorem d_Model_orders_21 : decode b_Model_orders 21 = .ok (.iload_n 1, 1) := by decide +kernel
theorem d_Model_orders_22 : decode b_Model_orders 22 = .ok (.iconst 0, 1) := by decide +kernel
theorem d_Model_orders_23 : decode b_Model_orders 23 = .ok (.bastore, 1) := by decide +kernel
theorem d_Model_orders_24 : decode b_Model_orders 24 = .ok (.iinc 1 1, 3) := by decide +kernel
theorem d_Model_orders_27 : decode b_Model_orders 27 = .ok (.goto (-25), 3) := by decide +kernel
theorem d_Model_orders_30 : decode b_Model_orders 30 = .ok (.iconst 1, 1) := by decide +kernel
theorem d_Model_orders_31 : decode b_Model_orders 31 = .ok (.istore_n 1, 1) := by decide +kernel
theorem d_Model_orders_32 : decode b_Model_orders 32 = .ok (.aload_n 0, 1) := by decide +kernel
theorem d_Model_orders_33 : decode b_Model_orders 33 = .ok (.getfield 45, 3) := by decide +kernel
theorem d_Model_orders_36 : decode b_Model_orders 36 = .ok (.iconst 0, 1) := by decide +kernel
theorem d_Model_orders_37 : decode b_Model_orders 37 = .ok (.iconst 0, 1) := by decide +kernel
theorem d_Model_orders_38 : decode b_Model_orders 38 = .ok (.iastore, 1) := by decide +kernel
theorem d_Model_orders_39 : decode b_Model_orders 39 = .ok (.aload_n 0, 1) := by decide +kernel
theorem d_Model_orders_40 : decode b_Model_orders 40 = .ok (.getfield 48, 3) := by decide +kernel
theorem d_Model_orders_43 : decode b_Model_orders 43 = .ok (.iconst 0, 1) := by decide +kernel
theorem d_Model_orders_44 : decode b_Model_orders 44 = .ok (.iconst 0, 1) := by decide +kernel
theorem d_Model_orders_45 : decode b_Model_orders 45 = .ok (.iastore, 1) := by decide +kernel
theorem d_Model_orders_46 : decode b_Model_orders 46 = .ok (.aload_n 0, 1) := by decide +kernel
theorem d_Model_orders_47 : decode b_Model_orders 47 = .ok (.getfield 42, 3) := by decide +kernel
theorem d_Model_orders_50 : decode b_Model_orders 50 = .ok (.iconst 0, 1) := by decide +kernel
theorem d_Model_orders_51 : decode b_Model_orders 51 = .ok (.iconst 1, 1) := by decide +kernel
theorem d_Model_orders_52 : decode b_Model_orders 52 = .ok (.bastore, 1) := by decide +kernel
theorem d_Model_orders_53 : decode b_Model_orders 53 = .ok (.iconst 0, 1) := by decide +kernel
theorem d_Model_orders_54 : decode b_Model_orders 54 = .ok (.istore_n 2, 1) := by decide +kernel
theorem d_Model_orders_55 : decode b_Model_orders 55 = .ok (.iload_n 1, 1) := by decide +kernel
theorem d_Model_orders_56 : decode b_Model_orders 56 = .ok (.ifCond .le 116, 3) := by decide +kernel
theorem d_Model_orders_59 : decode b_Model_orders 59 = .ok (.aload_n 0, 1) := by decide +kernel
theorem d_Model_orders_60 : decode b_Model_orders 60 = .ok (.getfield 45, 3) := by decide +kernel
theorem d_Model_orders_63 : decode b_Model_orders 63 = .ok (.iload_n 1, 1) := by decide +kernel
theorem d_Model_orders_64 : decode b_Model_orders 64 = .ok (.iconst 1, 1) := by decide +kernel
theorem d_Model_orders_65 : decode b_Model_orders 65 = .ok (.isub, 1) := by decide +kernel
theorem d_Model_orders_66 : decode b_Model_orders 66 = .ok (.iaload, 1) := by decide +kernel
theorem d_Model_orders_67 : decode b_Model_orders 67 = .ok (.istore_n 3, 1) := by decide +kernel
theorem d_Model_orders_68 : decode b_Model_orders 68 = .ok (.aload_n 0, 1) := by decide +kernel
theorem d_Model_orders_69 : decode b_Model_orders 69 = .ok (.getfield 48, 3) := by decide +kernel
theorem d_Model_orders_72 : decode b_Model_orders 72 = .ok (.iload_n 1, 1) := by decide +kernel
theorem d_Model_orders_73 : decode b_Model_orders 73 = .ok (.iconst 1, 1) := by decide +kernel
theorem d_Model_orders_74 : decode b_Model_orders 74 = .ok (.isub, 1) := by decide +kernel
theorem d_Model_orders_75 : decode b_Model_orders 75 = .ok (.iaload, 1) := by decide +kernel
theorem d_Model_orders_76 : decode b_Model_orders 76 = .ok (.aload_n 0, 1) := by decide +kernel
theorem d_Model_orders_77 : decode b_Model_orders 77 = .ok (.getfield 13, 3) := by decide +kernel
theorem d_Model_orders_80 : decode b_Model_orders 80 = .ok (.iload_n 3, 1) := by decide +kernel
theorem d_Model_orders_81 : decode b_Model_orders 81 = .ok (.iaload, 1) := by decide +kernel
theorem d_Model_orders_82 : decode b_Model_orders 82 = .ok (.if_icmp .ne 19, 3) := by decide +kernel
theorem d_Model_orders_85 : decode b_Model_orders 85 = .ok (.iinc 1 (-1), 3) := by decide +kernel
theorem d_Model_orders_88 : decode b_Model_orders 88 = .ok (.aload_n 0, 1) := by decide +kernel
theorem d_Model_orders_89 : decode b_Model_orders 89 = .ok (.getfield 23, 3) := by decide +kernel
theorem d_Model_orders_92 : decode b_Model_orders 92 = .ok (.iload_n 2, 1) := by decide +kernel
theorem d_Model_orders_93 : decode b_Model_orders 93 = .ok (.iload_n 3, 1) := by decide +kernel
theorem d_Model_orders_94 : decode b_Model_orders 94 = .ok (.iastore, 1) := by decide +kernel
theorem d_Model_orders_95 : decode b_Model_orders 95 = .ok (.iinc 2 1, 3) := by decide +kernel
theorem d_Model_orders_98 : decode b_Model_orders 98 = .ok (.goto 71, 3) := by decide +kernel
theorem d_Model_orders_101 : decode b_Model_orders 101 = .ok (.aload_n 0, 1) := by decide +kernel
theorem d_Model_orders_102 : decode b_Model_orders 102 = .ok (.getfield 17, 3) := by decide +kernel
theorem d_Model_orders_105 : decode b_Model_orders 105 = .ok (.bipush 8, 2) := by decide +kernel
theorem d_Model_orders_107 : decode b_Model_orders 107 = .ok (.iload_n 3, 1) := by decide +kernel
theorem d_Model_orders_108 : decode b_Model_orders 108 = .ok (.imul, 1) := by decide +kernel
theorem d_Model_orders_109 : decode b_Model_orders 109 = .ok (.aload_n 0, 1) := by decide +kernel
theorem d_Model_orders_110 : decode b_Model_orders 110 = .ok (.getfield 48, 3) := by decide +kernel
theorem d_Model_orders_113 : decode b_Model_orders 113 = .ok (.iload_n 1, 1) := by decide +kernel
theorem d_Model_orders_114 : decode b_Model_orders 114 = .ok (.iconst 1, 1) := by decide +kernel
theorem d_Model_orders_115 : decode b_Model_orders 115 = .ok (.isub, 1) := by decide +kernel
theorem d_Model_orders_116 : decode b_Model_orders 116 = .ok (.iaload, 1) := by decide +kernel
theorem d_Model_orders_117 : decode b_Model_orders 117 = .ok (.iadd, 1) := by decide +kernel
theorem d_Model_orders_118 : decode b_Model_orders 118 = .ok (.iaload, 1) := by decide +kernel
theorem d_Model_orders_119 : decode b_Model_orders 119 = .ok (.istore 4, 2) := by decide +kernel
theorem d_Model_orders_121 : decode b_Model_orders 121 = .ok (.aload_n 0, 1) := by decide +kernel
theorem d_Model_orders_122 : decode b_Model_orders 122 = .ok (.getfield 48, 3) := by decide +kernel
theorem d_Model_orders_125 : decode b_Model_orders 125 = .ok (.iload_n 1, 1) := by decide +kernel
theorem d_Model_orders_126 : decode b_Model_orders 126 = .ok (.iconst 1, 1) := by decide +kernel
theorem d_Model_orders_127 : decode b_Model_orders 127 = .ok (.isub, 1) := by decide +kernel
theorem d_Model_orders_128 : decode b_Model_orders 128 = .ok (.dup2, 1) := by decide +kernel
theorem d_Model_orders_129 : decode b_Model_orders 129 = .ok (.iaload, 1) := by decide +kernel
theorem d_Model_orders_130 : decode b_Model_orders 130 = .ok (.iconst 1, 1) := by decide +kernel
theorem d_Model_orders_131 : decode b_Model_orders 131 = .ok (.iadd, 1) := by decide +kernel
theorem d_Model_orders_132 : decode b_Model_orders 132 = .ok (.iastore, 1) := by decide +kernel
theorem d_Model_orders_133 : decode b_Model_orders 133 = .ok (.aload_n 0, 1) := by decide +kernel
theorem d_Model_orders_134 : decode b_Model_orders 134 = .ok (.getfield 42, 3) := by decide +kernel
theorem d_Model_orders_137 : decode b_Model_orders 137 = .ok (.iload 4, 2) := by decide +kernel
theorem d_Model_orders_139 : decode b_Model_orders 139 = .ok (.baload, 1) := by decide +kernel
theorem d_Model_orders_140 : decode b_Model_orders 140 = .ok (.ifCond .ne 29, 3) := by decide +kernel
theorem d_Model_orders_143 : decode b_Model_orders 143 = .ok (.aload_n 0, 1) := by decide +kernel
theorem d_Model_orders_144 : decode b_Model_orders 144 = .ok (.getfield 42, 3) := by decide +kernel
theorem d_Model_orders_147 : decode b_Model_orders 147 = .ok (.iload 4, 2) := by decide +kernel
theorem d_Model_orders_149 : decode b_Model_orders 149 = .ok (.iconst 1, 1) := by decide +kernel
theorem d_Model_orders_150 : decode b_Model_orders 150 = .ok (.bastore, 1) := by decide +kernel
theorem d_Model_orders_151 : decode b_Model_orders 151 = .ok (.aload_n 0, 1) := by decide +kernel
theorem d_Model_orders_152 : decode b_Model_orders 152 = .ok (.getfield 45, 3) := by decide +kernel
theorem d_Model_orders_155 : decode b_Model_orders 155 = .ok (.iload_n 1, 1) := by decide +kernel
theorem d_Model_orders_156 : decode b_Model_orders 156 = .ok (.iload 4, 2) := by decide +kernel
theorem d_Model_orders_158 : decode b_Model_orders 158 = .ok (.iastore, 1) := by decide +kernel
theorem d_Model_orders_159 : decode b_Model_orders 159 = .ok (.aload_n 0, 1) := by decide +kernel
theorem d_Model_orders_160 : decode b_Model_orders 160 = .ok (.getfield 48, 3) := by decide +kernel
theorem d_Model_orders_163 : decode b_Model_orders 163 = .ok (.iload_n 1, 1) := by decide +kernel
theorem d_Model_orders_164 : decode b_Model_orders 164 = .ok (.iconst 0, 1) := by decide +kernel
theorem d_Model_orders_165 : decode b_Model_orders 165 = .ok (.iastore, 1) := by decide +kernel
theorem d_Model_orders_166 : decode b_Model_orders 166 = .ok (.iinc 1 1, 3) := by decide +kernel
theorem d_Model_orders_169 : decode b_Model_orders 169 = .ok (.goto (-114), 3) := by decide +kernel
theorem d_Model_orders_172 : decode b_Model_orders 172 = .ok (.aload_n 0, 1) := by decide +kernel
theorem d_Model_orders_173 : decode b_Model_orders 173 = .ok (.iload_n 2, 1) := by decide +kernel
theorem d_Model_orders_174 : decode b_Model_orders 174 = .ok (.putfield 73, 3) := by decide +kernel
theorem d_Model_orders_177 : decode b_Model_orders 177 = .ok (.iconst 0, 1) := by decide +kernel
theorem d_Model_orders_178 : decode b_Model_orders 178 = .ok (.istore_n 3, 1) := by decide +kernel
theorem d_Model_orders_179 : decode b_Model_orders 179 = .ok (.iload_n 3, 1) := by decide +kernel
theorem d_Model_orders_180 : decode b_Model_orders 180 = .ok (.iload_n 2, 1) := by decide +kernel
theorem d_Model_orders_181 : decode b_Model_orders 181 = .ok (.iconst 2, 1) := by decide +kernel
theorem d_Model_orders_182 : decode b_Model_orders 182 = .ok (.idiv, 1) := by decide +kernel
theorem d_Model_orders_183 : decode b_Model_orders 183 = .ok (.if_icmp .ge 45, 3) := by decide +kernel
theorem d_Model_orders_186 : decode b_Model_orders 186 = .ok (.aload_n 0, 1) := by decide +kernel
theorem d_Model_orders_187 : decode b_Model_orders 187 = .ok (.getfield 23, 3) := by decide +kernel
theorem d_Model_orders_190 : decode b_Model_orders 190 = .ok (.iload_n 3, 1) := by decide +kernel
theorem d_Model_orders_191 : decode b_Model_orders 191 = .ok (.iaload, 1) := by decide +kernel
theorem d_Model_orders_192 : decode b_Model_orders 192 = .ok (.istore 4, 2) := by decide +kernel
theorem d_Model_orders_194 : decode b_Model_orders 194 = .ok (.aload_n 0, 1) := by decide +kernel
theorem d_Model_orders_195 : decode b_Model_orders 195 = .ok (.getfield 23, 3) := by decide +kernel
theorem d_Model_orders_198 : decode b_Model_orders 198 = .ok (.iload_n 3, 1) := by decide +kernel
theorem d_Model_orders_199 : decode b_Model_orders 199 = .ok (.aload_n 0, 1) := by decide +kernel
theorem d_Model_orders_200 : decode b_Model_orders 200 = .ok (.getfield 23, 3) := by decide +kernel
theorem d_Model_orders_203 : decode b_Model_orders 203 = .ok (.iload_n 2, 1) := by decide +kernel
theorem d_Model_orders_204 : decode b_Model_orders 204 = .ok (.iconst 1, 1) := by decide +kernel
theorem d_Model_orders_205 : decode b_Model_orders 205 = .ok (.isub, 1) := by decide +kernel
theorem d_Model_orders_206 : decode b_Model_orders 206 = .ok (.iload_n 3, 1) := by decide +kernel
theorem d_Model_orders_207 : decode b_Model_orders 207 = .ok (.isub, 1) := by decide +kernel
theorem d_Model_orders_208 : decode b_Model_orders 208 = .ok (.iaload, 1) := by decide +kernel
theorem d_Model_orders_209 : decode b_Model_orders 209 = .ok (.iastore, 1) := by decide +kernel
theorem d_Model_orders_210 : decode b_Model_orders 210 = .ok (.aload_n 0, 1) := by decide +kernel
theorem d_Model_orders_211 : decode b_Model_orders 211 = .ok (.getfield 23, 3) := by decide +kernel
theorem d_Model_orders_214 : decode b_Model_orders 214 = .ok (.iload_n 2, 1) := by decide +kernel
theorem d_Model_orders_215 : decode b_Model_orders 215 = .ok (.iconst 1, 1) := by decide +kernel
theorem d_Model_orders_216 : decode b_Model_orders 216 = .ok (.isub, 1) := by decide +kernel
theorem d_Model_orders_217 : decode b_Model_orders 217 = .ok (.iload_n 3, 1) := by decide +kernel
theorem d_Model_orders_218 : decode b_Model_orders 218 = .ok (.isub, 1) := by decide +kernel
theorem d_Model_orders_219 : decode b_Model_orders 219 = .ok (.iload 4, 2) := by decide +kernel
theorem d_Model_orders_221 : decode b_Model_orders 221 = .ok (.iastore, 1) := by decide +kernel
theorem d_Model_orders_222 : decode b_Model_orders 222 = .ok (.iinc 3 1, 3) := by decide +kernel
theorem d_Model_orders_225 : decode b_Model_orders 225 = .ok (.goto (-46), 3) := by decide +kernel
theorem d_Model_orders_228 : decode b_Model_orders 228 = .ok (.iconst 0, 1) := by decide +kernel
theorem d_Model_orders_229 : decode b_Model_orders 229 = .ok (.istore_n 3, 1) := by decide +kernel
theorem d_Model_orders_230 : decode b_Model_orders 230 = .ok (.iload_n 3, 1) := by decide +kernel
theorem d_Model_orders_231 : decode b_Model_orders 231 = .ok (.iload_n 2, 1) := by decide +kernel
theorem d_Model_orders_232 : decode b_Model_orders 232 = .ok (.if_icmp .ge 21, 3) := by decide +kernel
theorem d_Model_orders_235 : decode b_Model_orders 235 = .ok (.aload_n 0, 1) := by decide +kernel
theorem d_Model_orders_236 : decode b_Model_orders 236 = .ok (.getfield 20, 3) := by decide +kernel
theorem d_Model_orders_239 : decode b_Model_orders 239 = .ok (.aload_n 0, 1) := by decide +kernel
theorem d_Model_orders_240 : decode b_Model_orders 240 = .ok (.getfield 23, 3) := by decide +kernel
theorem d_Model_orders_243 : decode b_Model_orders 243 = .ok (.iload_n 3, 1) := by decide +kernel
theorem d_Model_orders_244 : decode b_Model_orders 244 = .ok (.iaload, 1) := by decide +kernel
theorem d_Model_orders_245 : decode b_Model_orders 245 = .ok (.iload_n 3, 1) := by decide +kernel
theorem d_Model_orders_246 : decode b_Model_orders 246 = .ok (.iastore, 1) := by decide +kernel
theorem d_Model_orders_247 : decode b_Model_orders 247 = .ok (.iinc 3 1, 3) := by decide +kernel
theorem d_Model_orders_250 : decode b_Model_orders 250 = .ok (.goto (-20), 3) := by decide +kernel
theorem d_Model_orders_253 : decode b_Model_orders 253 = .ok (.return_, 1) := by decide +kernel
theorem d_Model_leaveOut_0 : decode b_Model_leaveOut 0 = .ok (.iconst 0, 1) := by decide +kernel
theorem d_Model_leaveOut_1 : decode b_Model_leaveOut 1 = .ok (.istore_n 2, 1) := by decide +kernel
theorem d_Model_leaveOut_2 : decode b_Model_leaveOut 2 = .ok (.iload_n 2, 1) := by decide +kernel
theorem d_Model_leaveOut_3 : decode b_Model_leaveOut 3 = .ok (.aload_n 0, 1) := by decide +kernel
theorem d_Model_leaveOut_4 : decode b_Model_leaveOut 4 = .ok (.getfield 7, 3) := by decide +kernel
theorem d_Model_leaveOut_7 : decode b_Model_leaveOut 7 = .ok (.if_icmp .ge 28, 3) := by decide +kernel
theorem d_Model_leaveOut_10 : decode b_Model_leaveOut 10 = .ok (.aload_n 0, 1) := by decide +kernel
theorem d_Model_leaveOut_11 : decode b_Model_leaveOut 11 = .ok (.getfield 42, 3) := by decide +kernel
theorem d_Model_leaveOut_14 : decode b_Model_leaveOut 14 = .ok (.iload_n 2, 1) := by decide +kernel
theorem d_Model_leaveOut_15 : decode b_Model_leaveOut 15 = .ok (.iload_n 2, 1) := by decide +kernel
theorem d_Model_leaveOut_16 : decode b_Model_leaveOut 16 = .ok (.ifCond .ne 11, 3) := by decide +kernel
theorem d_Model_leaveOut_19 : decode b_Model_leaveOut 19 = .ok (.iload_n 1, 1) := by decide +kernel
theorem d_Model_leaveOut_20 : decode b_Model_leaveOut 20 = .ok (.ifCond .eq 7, 3) := by decide +kernel
theorem d_Model_leaveOut_23 : decode b_Model_leaveOut 23 = .ok (.iconst 1, 1) := by decide +kernel
theorem d_Model_leaveOut_24 : decode b_Model_leaveOut 24 = .ok (.goto 4, 3) := by decide +kernel
theorem d_Model_leaveOut_27 : decode b_Model_leaveOut 27 = .ok (.iconst 0, 1) := by decide +kernel
theorem d_Model_leaveOut_28 : decode b_Model_leaveOut 28 = .ok (.bastore, 1) := by decide +kernel
theorem d_Model_leaveOut_29 : decode b_Model_leaveOut 29 = .ok (.iinc 2 1, 3) := by decide +kernel
theorem d_Model_leaveOut_32 : decode b_Model_leaveOut 32 = .ok (.goto (-30), 3) := by decide +kernel
theorem d_Model_leaveOut_35 : decode b_Model_leaveOut 35 = .ok (.iconst 1, 1) := by decide +kernel
theorem d_Model_leaveOut_36 : decode b_Model_leaveOut 36 = .ok (.istore_n 2, 1) := by decide +kernel
theorem d_Model_leaveOut_37 : decode b_Model_leaveOut 37 = .ok (.iload_n 2, 1) := by decide +kernel
theorem d_Model_leaveOut_38 : decode b_Model_leaveOut 38 = .ok (.ifCond .eq 96, 3) := by decide +kernel
theorem d_Model_leaveOut_41 : decode b_Model_leaveOut 41 = .ok (.iconst 0, 1) := by decide +kernel
theorem d_Model_leaveOut_42 : decode b_Model_leaveOut 42 = .ok (.istore_n 2, 1) := by decide +kernel
theorem d_Model_leaveOut_43 : decode b_Model_leaveOut 43 = .ok (.iconst 0, 1) := by decide +kernel
theorem d_Model_leaveOut_44 : decode b_Model_leaveOut 44 = .ok (.istore_n 3, 1) := by decide +kernel
theorem d_Model_leaveOut_45 : decode b_Model_leaveOut 45 = .ok (.iload_n 3, 1) := by decide +kernel
theorem d_Model_leaveOut_46 : decode b_Model_leaveOut 46 = .ok (.aload_n 0, 1) := by decide +kernel
theorem d_Model_leaveOut_47 : decode b_Model_leaveOut 47 = .ok (.getfield 7, 3) := by decide +kernel
theorem d_Model_leaveOut_50 : decode b_Model_leaveOut 50 = .ok (.if_icmp .ge 81, 3) := by decide +kernel
theorem d_Model_leaveOut_53 : decode b_Model_leaveOut 53 = .ok (.iconst 0, 1) := by decide +kernel
theorem d_Model_leaveOut_54 : decode b_Model_leaveOut 54 = .ok (.istore 4, 2) := by decide +kernel
theorem d_Model_leaveOut_56 : decode b_Model_leaveOut 56 = .ok (.iload 4, 2) := by decide +kernel
theorem d_Model_leaveOut_58 : decode b_Model_leaveOut 58 = .ok (.aload_n 0, 1) := by decide +kernel
theorem d_Model_leaveOut_59 : decode b_Model_leaveOut 59 = .ok (.getfield 13, 3) := by decide +kernel
theorem d_Model_leaveOut_62 : decode b_Model_leaveOut 62 = .ok (.iload_n 3, 1) := by decide +kernel
theorem d_Model_leaveOut_63 : decode b_Model_leaveOut 63 = .ok (.iaload, 1) := by decide +kernel
theorem d_Model_leaveOut_64 : decode b_Model_leaveOut 64 = .ok (.if_icmp .ge 61, 3) := by decide +kernel
theorem d_Model_leaveOut_67 : decode b_Model_leaveOut 67 = .ok (.aload_n 0, 1) := by decide +kernel
theorem d_Model_leaveOut_68 : decode b_Model_leaveOut 68 = .ok (.getfield 42, 3) := by decide +kernel
theorem d_Model_leaveOut_71 : decode b_Model_leaveOut 71 = .ok (.iload_n 3, 1) := by decide +kernel
theorem d_Model_leaveOut_72 : decode b_Model_leaveOut 72 = .ok (.baload, 1) := by decide +kernel
theorem d_Model_leaveOut_73 : decode b_Model_leaveOut 73 = .ok (.ifCond .eq 52, 3) := by decide +kernel
theorem d_Model_leaveOut_76 : decode b_Model_leaveOut 76 = .ok (.aload_n 0, 1) := by decide +kernel
theorem d_Model_leaveOut_77 : decode b_Model_leaveOut 77 = .ok (.getfield 17, 3) := by decide +kernel
theorem d_Model_leaveOut_80 : decode b_Model_leaveOut 80 = .ok (.bipush 8, 2) := by decide +kernel
theorem d_Model_leaveOut_82 : decode b_Model_leaveOut 82 = .ok (.iload_n 3, 1) := by decide +kernel
theorem d_Model_leaveOut_83 : decode b_Model_leaveOut 83 = .ok (.imul, 1) := by decide +kernel
theorem d_Model_leaveOut_84 : decode b_Model_leaveOut 84 = .ok (.iload 4, 2) := by decide +kernel
theorem d_Model_leaveOut_86 : decode b_Model_leaveOut 86 = .ok (.iadd, 1) := by decide +kernel
theorem d_Model_leaveOut_87 : decode b_Model_leaveOut 87 = .ok (.iaload, 1) := by decide +kernel
theorem d_Model_leaveOut_88 : decode b_Model_leaveOut 88 = .ok (.istore 5, 2) := by decide +kernel
theorem d_Model_leaveOut_90 : decode b_Model_leaveOut 90 = .ok (.iload 5, 2) := by decide +kernel
theorem d_Model_leaveOut_92 : decode b_Model_leaveOut 92 = .ok (.iload_n 1, 1) := by decide +kernel
theorem d_Model_leaveOut_93 : decode b_Model_leaveOut 93 = .ok (.if_icmp .eq 26, 3) := by decide +kernel
theorem d_Model_leaveOut_96 : decode b_Model_leaveOut 96 = .ok (.aload_n 0, 1) := by decide +kernel
theorem d_Model_leaveOut_97 : decode b_Model_leaveOut 97 = .ok (.getfield 42, 3) := by decide +kernel
theorem d_Model_leaveOut_100 : decode b_Model_leaveOut 100 = .ok (.iload 5, 2) := by decide +kernel
theorem d_Model_leaveOut_102 : decode b_Model_leaveOut 102 = .ok (.baload, 1) := by decide +kernel
theorem d_Model_leaveOut_103 : decode b_Model_leaveOut 103 = .ok (.ifCond .eq 6, 3) := by decide +kernel
theorem d_Model_leaveOut_106 : decode b_Model_leaveOut 106 = .ok (.goto 13, 3) := by decide +kernel
theorem d_Model_leaveOut_109 : decode b_Model_leaveOut 109 = .ok (.aload_n 0, 1) := by decide +kernel
theorem d_Model_leaveOut_110 : decode b_Model_leaveOut 110 = .ok (.getfield 42, 3) := by decide +kernel
theorem d_Model_leaveOut_113 : decode b_Model_leaveOut 113 = .ok (.iload 5, 2) := by decide +kernel
theorem d_Model_leaveOut_115 : decode b_Model_leaveOut 115 = .ok (.iconst 1, 1) := by decide +kernel
theorem d_Model_leaveOut_116 : decode b_Model_leaveOut 116 = .ok (.bastore, 1) := by decide +kernel
theorem d_Model_leaveOut_117 : decode b_Model_leaveOut 117 = .ok (.iconst 1, 1) := by decide +kernel
theorem d_Model_leaveOut_118 : decode b_Model_leaveOut 118 = .ok (.istore_n 2, 1) := by decide +kernel
theorem d_Model_leaveOut_119 : decode b_Model_leaveOut 119 = .ok (.iinc 4 1, 3) := by decide +kernel
theorem d_Model_leaveOut_122 : decode b_Model_leaveOut 122 = .ok (.goto (-66), 3) := by decide +kernel
theorem d_Model_leaveOut_125 : decode b_Model_leaveOut 125 = .ok (.iinc 3 1, 3) := by decide +kernel
theorem d_Model_leaveOut_128 : decode b_Model_leaveOut 128 = .ok (.goto (-83), 3) := by decide +kernel
theorem d_Model_leaveOut_131 : decode b_Model_leaveOut 131 = .ok (.goto (-94), 3) := by decide +kernel
theorem d_Model_leaveOut_134 : decode b_Model_leaveOut 134 = .ok (.iconst 0, 1) := by decide +kernel
theorem d_Model_leaveOut_135 : decode b_Model_leaveOut 135 = .ok (.istore_n 3, 1) := by decide +kernel
theorem d_Model_leaveOut_136 : decode b_Model_leaveOut 136 = .ok (.iload_n 3, 1) := by decide +kernel
theorem d_Model_leaveOut_137 : decode b_Model_leaveOut 137 = .ok (.aload_n 0, 1) := by decide +kernel
theorem d_Model_leaveOut_138 : decode b_Model_leaveOut 138 = .ok (.getfield 7, 3) := by decide +kernel
theorem d_Model_leaveOut_141 : decode b_Model_leaveOut 141 = .ok (.if_icmp .ge 52, 3) := by decide +kernel
theorem d_Model_leaveOut_144 : decode b_Model_leaveOut 144 = .ok (.aload_n 0, 1) := by decide +kernel
theorem d_Model_leaveOut_145 : decode b_Model_leaveOut 145 = .ok (.getfield 26, 3) := by decide +kernel
theorem d_Model_leaveOut_148 : decode b_Model_leaveOut 148 = .ok (.bipush 64, 2) := by decide +kernel
theorem d_Model_leaveOut_150 : decode b_Model_leaveOut 150 = .ok (.iload_n 1, 1) := by decide +kernel
theorem d_Model_leaveOut_151 : decode b_Model_leaveOut 151 = .ok (.imul, 1) := by decide +kernel
theorem d_Model_leaveOut_152 : decode b_Model_leaveOut 152 = .ok (.iload_n 3, 1) := by decide +kernel
theorem d_Model_leaveOut_153 : decode b_Model_leaveOut 153 = .ok (.iadd, 1) := by decide +kernel
theorem d_Model_leaveOut_154 : decode b_Model_leaveOut 154 = .ok (.aload_n 0, 1) := by decide +kernel
theorem d_Model_leaveOut_155 : decode b_Model_leaveOut 155 = .ok (.getfield 20, 3) := by decide +kernel
theorem d_Model_leaveOut_158 : decode b_Model_leaveOut 158 = .ok (.iload_n 1, 1) := by decide +kernel
theorem d_Model_leaveOut_159 : decode b_Model_leaveOut 159 = .ok (.iaload, 1) := by decide +kernel
theorem d_Model_leaveOut_160 : decode b_Model_leaveOut 160 = .ok (.ifCond .lt 25, 3) := by decide +kernel
theorem d_Model_leaveOut_163 : decode b_Model_leaveOut 163 = .ok (.aload_n 0, 1) := by decide +kernel
theorem d_Model_leaveOut_164 : decode b_Model_leaveOut 164 = .ok (.getfield 20, 3) := by decide +kernel
theorem d_Model_leaveOut_167 : decode b_Model_leaveOut 167 = .ok (.iload_n 3, 1) := by decide +kernel
theorem d_Model_leaveOut_168 : decode b_Model_leaveOut 168 = .ok (.iaload, 1) := by decide +kernel
theorem d_Model_leaveOut_169 : decode b_Model_leaveOut 169 = .ok (.ifCond .lt 16, 3) := by decide +kernel
theorem d_Model_leaveOut_172 : decode b_Model_leaveOut 172 = .ok (.aload_n 0, 1) := by decide +kernel
theorem d_Model_leaveOut_173 : decode b_Model_leaveOut 173 = .ok (.getfield 42, 3) := by decide +kernel
theorem d_Model_leaveOut_176 : decode b_Model_leaveOut 176 = .ok (.iload_n 3, 1) := by decide +kernel
theorem d_Model_leaveOut_177 : decode b_Model_leaveOut 177 = .ok (.baload, 1) := by decide +kernel
theorem d_Model_leaveOut_178 : decode b_Model_leaveOut 178 = .ok (.ifCond .ne 7, 3) := by decide +kernel
theorem d_Model_leaveOut_181 : decode b_Model_leaveOut 181 = .ok (.iconst 1, 1) := by decide +kernel
theorem d_Model_leaveOut_182 : decode b_Model_leaveOut 182 = .ok (.goto 4, 3) := by decide +kernel
theorem d_Model_leaveOut_185 : decode b_Model_leaveOut 185 = .ok (.iconst 0, 1) := by decide +kernel
theorem d_Model_leaveOut_186 : decode b_Model_leaveOut 186 = .ok (.bastore, 1) := by decide +kernel
theorem d_Model_leaveOut_187 : decode b_Model_leaveOut 187 = .ok (.iinc 3 1, 3) := by decide +kernel
theorem d_Model_leaveOut_190 : decode b_Model_leaveOut 190 = .ok (.goto (-54), 3) := by decide +kernel
theorem d_Model_leaveOut_193 : decode b_Model_leaveOut 193 = .ok (.return_, 1) := by decide +kernel
theorem d_Model_loops_0 : decode b_Model_loops 0 = .ok (.aload_n 0, 1) := by decide +kernel
theorem d_Model_loops_1 : decode b_Model_loops 1 = .ok (.getfield 39, 3) := by decide +kernel
theorem d_Model_loops_4 : decode b_Model_loops 4 = .ok (.iload_n 1, 1) := by decide +kernel
theorem d_Model_loops_5 : decode b_Model_loops 5 = .ok (.iconst 0, 1) := by decide +kernel
theorem d_Model_loops_6 : decode b_Model_loops 6 = .ok (.iastore, 1) := by decide +kernel
theorem d_Model_loops_7 : decode b_Model_loops 7 = .ok (.iconst 0, 1) := by decide +kernel
theorem d_Model_loops_8 : decode b_Model_loops 8 = .ok (.istore_n 2, 1) := by decide +kernel
theorem d_Model_loops_9 : decode b_Model_loops 9 = .ok (.iload_n 2, 1) := by decide +kernel
theorem d_Model_loops_10 : decode b_Model_loops 10 = .ok (.aload_n 0, 1) := by decide +kernel
theorem d_Model_loops_11 : decode b_Model_loops 11 = .ok (.getfield 7, 3) := by decide +kernel
theorem d_Model_loops_14 : decode b_Model_loops 14 = .ok (.if_icmp .ge 102, 3) := by decide +kernel
theorem d_Model_loops_17 : decode b_Model_loops 17 = .ok (.iconst 0, 1) := by decide +kernel
theorem d_Model_loops_18 : decode b_Model_loops 18 = .ok (.istore_n 3, 1) := by decide +kernel
theorem d_Model_loops_19 : decode b_Model_loops 19 = .ok (.iconst 0, 1) := by decide +kernel
theorem d_Model_loops_20 : decode b_Model_loops 20 = .ok (.istore 4, 2) := by decide +kernel
theorem d_Model_loops_22 : decode b_Model_loops 22 = .ok (.iload 4, 2) := by decide +kernel
theorem d_Model_loops_24 : decode b_Model_loops 24 = .ok (.aload_n 0, 1) := by decide +kernel
theorem d_Model_loops_25 : decode b_Model_loops 25 = .ok (.getfield 13, 3) := by decide +kernel
theorem d_Model_loops_28 : decode b_Model_loops 28 = .ok (.iload_n 2, 1) := by decide +kernel
theorem d_Model_loops_29 : decode b_Model_loops 29 = .ok (.iaload, 1) := by decide +kernel
theorem d_Model_loops_30 : decode b_Model_loops 30 = .ok (.if_icmp .ge 46, 3) := by decide +kernel
theorem d_Model_loops_33 : decode b_Model_loops 33 = .ok (.iload_n 3, 1) := by decide +kernel
theorem d_Model_loops_34 : decode b_Model_loops 34 = .ok (.ifCond .ne 30, 3) := by decide +kernel
theorem d_Model_loops_37 : decode b_Model_loops 37 = .ok (.aload_n 0, 1) := by decide +kernel
theorem d_Model_loops_38 : decode b_Model_loops 38 = .ok (.getfield 17, 3) := by decide +kernel
theorem d_Model_loops_41 : decode b_Model_loops 41 = .ok (.bipush 8, 2) := by decide +kernel
theorem d_Model_loops_43 : decode b_Model_loops 43 = .ok (.iload_n 2, 1) := by decide +kernel
theorem d_Model_loops_44 : decode b_Model_loops 44 = .ok (.imul, 1) := by decide +kernel
theorem d_Model_loops_45 : decode b_Model_loops 45 = .ok (.iload 4, 2) := by decide +kernel
theorem d_Model_loops_47 : decode b_Model_loops 47 = .ok (.iadd, 1) := by decide +kernel
theorem d_Model_loops_48 : decode b_Model_loops 48 = .ok (.iaload, 1) := by decide +kernel
theorem d_Model_loops_49 : decode b_Model_loops 49 = .ok (.iload_n 1, 1) := by decide +kernel
theorem d_Model_loops_50 : decode b_Model_loops 50 = .ok (.if_icmp .ne 18, 3) := by decide +kernel
theorem d_Model_loops_53 : decode b_Model_loops 53 = .ok (.aload_n 0, 1) := by decide +kernel
theorem d_Model_loops_54 : decode b_Model_loops 54 = .ok (.iload_n 2, 1) := by decide +kernel
theorem d_Model_loops_55 : decode b_Model_loops 55 = .ok (.iload 4, 2) := by decide +kernel
theorem d_Model_loops_57 : decode b_Model_loops 57 = .ok (.invokevirtual 76, 3) := by decide +kernel
theorem d_Model_loops_60 : decode b_Model_loops 60 = .ok (.iconst 1, 1) := by decide +kernel
theorem d_Model_loops_61 : decode b_Model_loops 61 = .ok (.if_icmp .ne 7, 3) := by decide +kernel
theorem d_Model_loops_64 : decode b_Model_loops 64 = .ok (.iconst 1, 1) := by decide +kernel
theorem d_Model_loops_65 : decode b_Model_loops 65 = .ok (.goto 4, 3) := by decide +kernel
theorem d_Model_loops_68 : decode b_Model_loops 68 = .ok (.iconst 0, 1) := by decide +kernel
theorem d_Model_loops_69 : decode b_Model_loops 69 = .ok (.istore_n 3, 1) := by decide +kernel
theorem d_Model_loops_70 : decode b_Model_loops 70 = .ok (.iinc 4 1, 3) := by decide +kernel
theorem d_Model_loops_73 : decode b_Model_loops 73 = .ok (.goto (-51), 3) := by decide +kernel
theorem d_Model_loops_76 : decode b_Model_loops 76 = .ok (.aload_n 0, 1) := by decide +kernel
theorem d_Model_loops_77 : decode b_Model_loops 77 = .ok (.getfield 36, 3) := by decide +kernel
theorem d_Model_loops_80 : decode b_Model_loops 80 = .ok (.bipush 64, 2) := by decide +kernel
theorem d_Model_loops_82 : decode b_Model_loops 82 = .ok (.iload_n 1, 1) := by decide +kernel
theorem d_Model_loops_83 : decode b_Model_loops 83 = .ok (.imul, 1) := by decide +kernel
theorem d_Model_loops_84 : decode b_Model_loops 84 = .ok (.iload_n 2, 1) := by decide +kernel
theorem d_Model_loops_85 : decode b_Model_loops 85 = .ok (.iadd, 1) := by decide +kernel
theorem d_Model_loops_86 : decode b_Model_loops 86 = .ok (.iload_n 3, 1) := by decide +kernel
theorem d_Model_loops_87 : decode b_Model_loops 87 = .ok (.ifCond .ne 17, 3) := by decide +kernel
theorem d_Model_loops_90 : decode b_Model_loops 90 = .ok (.aload_n 0, 1) := by decide +kernel
theorem d_Model_loops_91 : decode b_Model_loops 91 = .ok (.getfield 33, 3) := by decide +kernel
theorem d_Model_loops_94 : decode b_Model_loops 94 = .ok (.iload_n 1, 1) := by decide +kernel
theorem d_Model_loops_95 : decode b_Model_loops 95 = .ok (.baload, 1) := by decide +kernel
theorem d_Model_loops_96 : decode b_Model_loops 96 = .ok (.ifCond .eq 12, 3) := by decide +kernel
theorem d_Model_loops_99 : decode b_Model_loops 99 = .ok (.iload_n 2, 1) := by decide +kernel
theorem d_Model_loops_100 : decode b_Model_loops 100 = .ok (.iload_n 1, 1) := by decide +kernel
theorem d_Model_loops_101 : decode b_Model_loops 101 = .ok (.if_icmp .ne 7, 3) := by decide +kernel
theorem d_Model_loops_104 : decode b_Model_loops 104 = .ok (.iconst 1, 1) := by decide +kernel
theorem d_Model_loops_105 : decode b_Model_loops 105 = .ok (.goto 4, 3) := by decide +kernel
theorem d_Model_loops_108 : decode b_Model_loops 108 = .ok (.iconst 0, 1) := by decide +kernel
theorem d_Model_loops_109 : decode b_Model_loops 109 = .ok (.bastore, 1) := by decide +kernel
theorem d_Model_loops_110 : decode b_Model_loops 110 = .ok (.iinc 2 1, 3) := by decide +kernel
theorem d_Model_loops_113 : decode b_Model_loops 113 = .ok (.goto (-104), 3) := by decide +kernel
theorem d_Model_loops_116 : decode b_Model_loops 116 = .ok (.aload_n 0, 1) := by decide +kernel
theorem d_Model_loops_117 : decode b_Model_loops 117 = .ok (.getfield 33, 3) := by decide +kernel
theorem d_Model_loops_120 : decode b_Model_loops 120 = .ok (.iload_n 1, 1) := by decide +kernel
theorem d_Model_loops_121 : decode b_Model_loops 121 = .ok (.baload, 1) := by decide +kernel
theorem d_Model_loops_122 : decode b_Model_loops 122 = .ok (.istore_n 2, 1) := by decide +kernel
theorem d_Model_loops_123 : decode b_Model_loops 123 = .ok (.iload_n 2, 1) := by decide +kernel
theorem d_Model_loops_124 : decode b_Model_loops 124 = .ok (.ifCond .eq 154, 3) := by decide +kernel
theorem d_Model_loops_127 : decode b_Model_loops 127 = .ok (.iconst 0, 1) := by decide +kernel
theorem d_Model_loops_128 : decode b_Model_loops 128 = .ok (.istore_n 2, 1) := by decide +kernel
theorem d_Model_loops_129 : decode b_Model_loops 129 = .ok (.iconst 0, 1) := by decide +kernel
theorem d_Model_loops_130 : decode b_Model_loops 130 = .ok (.istore_n 3, 1) := by decide +kernel
theorem d_Model_loops_131 : decode b_Model_loops 131 = .ok (.iload_n 3, 1) := by decide +kernel
theorem d_Model_loops_132 : decode b_Model_loops 132 = .ok (.aload_n 0, 1) := by decide +kernel
theorem d_Model_loops_133 : decode b_Model_loops 133 = .ok (.getfield 7, 3) := by decide +kernel
theorem d_Model_loops_136 : decode b_Model_loops 136 = .ok (.if_icmp .ge 139, 3) := by decide +kernel
theorem d_Model_loops_139 : decode b_Model_loops 139 = .ok (.aload_n 0, 1) := by decide +kernel
theorem d_Model_loops_140 : decode b_Model_loops 140 = .ok (.getfield 36, 3) := by decide +kernel
theorem d_Model_loops_143 : decode b_Model_loops 143 = .ok (.bipush 64, 2) := by decide +kernel
theorem d_Model_loops_145 : decode b_Model_loops 145 = .ok (.iload_n 1, 1) := by decide +kernel
theorem d_Model_loops_146 : decode b_Model_loops 146 = .ok (.imul, 1) := by decide +kernel
theorem d_Model_loops_147 : decode b_Model_loops 147 = .ok (.iload_n 3, 1) := by decide +kernel
theorem d_Model_loops_148 : decode b_Model_loops 148 = .ok (.iadd, 1) := by decide +kernel
theorem d_Model_loops_149 : decode b_Model_loops 149 = .ok (.baload, 1) := by decide +kernel
theorem d_Model_loops_150 : decode b_Model_loops 150 = .ok (.ifCond .ne 119, 3) := by decide +kernel
theorem d_Model_loops_153 : decode b_Model_loops 153 = .ok (.aload_n 0, 1) := by decide +kernel
theorem d_Model_loops_154 : decode b_Model_loops 154 = .ok (.getfield 20, 3) := by decide +kernel
theorem d_Model_loops_157 : decode b_Model_loops 157 = .ok (.iload_n 3, 1) := by decide +kernel
theorem d_Model_loops_158 : decode b_Model_loops 158 = .ok (.iaload, 1) := by decide +kernel
theorem d_Model_loops_159 : decode b_Model_loops 159 = .ok (.ifCond .ge 6, 3) := by decide +kernel
theorem d_Model_loops_162 : decode b_Model_loops 162 = .ok (.goto 107, 3) := by decide +kernel
theorem d_Model_loops_165 : decode b_Model_loops 165 = .ok (.iconst 0, 1) := by decide +kernel
theorem d_Model_loops_166 : decode b_Model_loops 166 = .ok (.istore 4, 2) := by decide +kernel
theorem d_Model_loops_168 : decode b_Model_loops 168 = .ok (.iconst 0, 1) := by decide +kernel
theorem d_Model_loops_169 : decode b_Model_loops 169 = .ok (.istore 5, 2) := by decide +kernel
theorem d_Model_loops_171 : decode b_Model_loops 171 = .ok (.iload 5, 2) := by decide +kernel
theorem d_Model_loops_173 : decode b_Model_loops 173 = .ok (.aload_n 0, 1) := by decide +kernel
theorem d_Model_loops_174 : decode b_Model_loops 174 = .ok (.getfield 13, 3) := by decide +kernel
theorem d_Model_loops_177 : decode b_Model_loops 177 = .ok (.iload_n 3, 1) := by decide +kernel
theorem d_Model_loops_178 : decode b_Model_loops 178 = .ok (.iaload, 1) := by decide +kernel
theorem d_Model_loops_179 : decode b_Model_loops 179 = .ok (.if_icmp .ge 62, 3) := by decide +kernel
theorem d_Model_loops_182 : decode b_Model_loops 182 = .ok (.iload 4, 2) := by decide +kernel
theorem d_Model_loops_184 : decode b_Model_loops 184 = .ok (.ifCond .ne 44, 3) := by decide +kernel
theorem d_Model_loops_187 : decode b_Model_loops 187 = .ok (.aload_n 0, 1) := by decide +kernel
theorem d_Model_loops_188 : decode b_Model_loops 188 = .ok (.getfield 17, 3) := by decide +kernel
theorem d_Model_loops_191 : decode b_Model_loops 191 = .ok (.bipush 8, 2) := by decide +kernel
theorem d_Model_loops_193 : decode b_Model_loops 193 = .ok (.iload_n 3, 1) := by decide +kernel
theorem d_Model_loops_194 : decode b_Model_loops 194 = .ok (.imul, 1) := by decide +kernel
theorem d_Model_loops_195 : decode b_Model_loops 195 = .ok (.iload 5, 2) := by decide +kernel
theorem d_Model_loops_197 : decode b_Model_loops 197 = .ok (.iadd, 1) := by decide +kernel
theorem d_Model_loops_198 : decode b_Model_loops 198 = .ok (.iaload, 1) := by decide +kernel
theorem d_Model_loops_199 : decode b_Model_loops 199 = .ok (.iload_n 1, 1) := by decide +kernel
theorem d_Model_loops_200 : decode b_Model_loops 200 = .ok (.if_icmp .eq 32, 3) := by decide +kernel
theorem d_Model_loops_203 : decode b_Model_loops 203 = .ok (.aload_n 0, 1) := by decide +kernel
theorem d_Model_loops_204 : decode b_Model_loops 204 = .ok (.getfield 36, 3) := by decide +kernel
theorem d_Model_loops_207 : decode b_Model_loops 207 = .ok (.bipush 64, 2) := by decide +kernel
theorem d_Model_loops_209 : decode b_Model_loops 209 = .ok (.iload_n 1, 1) := by decide +kernel
theorem d_Model_loops_210 : decode b_Model_loops 210 = .ok (.imul, 1) := by decide +kernel
theorem d_Model_loops_211 : decode b_Model_loops 211 = .ok (.aload_n 0, 1) := by decide +kernel
theorem d_Model_loops_212 : decode b_Model_loops 212 = .ok (.getfield 17, 3) := by decide +kernel
theorem d_Model_loops_215 : decode b_Model_loops 215 = .ok (.bipush 8, 2) := by decide +kernel
theorem d_Model_loops_217 : decode b_Model_loops 217 = .ok (.iload_n 3, 1) := by decide +kernel
theorem d_Model_loops_218 : decode b_Model_loops 218 = .ok (.imul, 1) := by decide +kernel
theorem d_Model_loops_219 : decode b_Model_loops 219 = .ok (.iload 5, 2) := by decide +kernel
theorem d_Model_loops_221 : decode b_Model_loops 221 = .ok (.iadd, 1) := by decide +kernel
theorem d_Model_loops_222 : decode b_Model_loops 222 = .ok (.iaload, 1) := by decide +kernel
theorem d_Model_loops_223 : decode b_Model_loops 223 = .ok (.iadd, 1) := by decide +kernel
theorem d_Model_loops_224 : decode b_Model_loops 224 = .ok (.baload, 1) := by decide +kernel
theorem d_Model_loops_225 : decode b_Model_loops 225 = .ok (.ifCond .eq 7, 3) := by decide +kernel
theorem d_Model_loops_228 : decode b_Model_loops 228 = .ok (.iconst 1, 1) := by decide +kernel
theorem d_Model_loops_229 : decode b_Model_loops 229 = .ok (.goto 4, 3) := by decide +kernel
theorem d_Model_loops_232 : decode b_Model_loops 232 = .ok (.iconst 0, 1) := by decide +kernel
theorem d_Model_loops_233 : decode b_Model_loops 233 = .ok (.istore 4, 2) := by decide +kernel
theorem d_Model_loops_235 : decode b_Model_loops 235 = .ok (.iinc 5 1, 3) := by decide +kernel
theorem d_Model_loops_238 : decode b_Model_loops 238 = .ok (.goto (-67), 3) := by decide +kernel
theorem d_Model_loops_241 : decode b_Model_loops 241 = .ok (.aload_n 0, 1) := by decide +kernel
theorem d_Model_loops_242 : decode b_Model_loops 242 = .ok (.getfield 36, 3) := by decide +kernel
theorem d_Model_loops_245 : decode b_Model_loops 245 = .ok (.bipush 64, 2) := by decide +kernel
theorem d_Model_loops_247 : decode b_Model_loops 247 = .ok (.iload_n 1, 1) := by decide +kernel
theorem d_Model_loops_248 : decode b_Model_loops 248 = .ok (.imul, 1) := by decide +kernel
theorem d_Model_loops_249 : decode b_Model_loops 249 = .ok (.iload_n 3, 1) := by decide +kernel
theorem d_Model_loops_250 : decode b_Model_loops 250 = .ok (.iadd, 1) := by decide +kernel
theorem d_Model_loops_251 : decode b_Model_loops 251 = .ok (.iload 4, 2) := by decide +kernel
theorem d_Model_loops_253 : decode b_Model_loops 253 = .ok (.bastore, 1) := by decide +kernel
theorem d_Model_loops_254 : decode b_Model_loops 254 = .ok (.iload_n 2, 1) := by decide +kernel
theorem d_Model_loops_255 : decode b_Model_loops 255 = .ok (.ifCond .ne 8, 3) := by decide +kernel
theorem d_Model_loops_258 : decode b_Model_loops 258 = .ok (.iload 4, 2) := by decide +kernel
theorem d_Model_loops_260 : decode b_Model_loops 260 = .ok (.ifCond .eq 7, 3) := by decide +kernel
theorem d_Model_loops_263 : decode b_Model_loops 263 = .ok (.iconst 1, 1) := by decide +kernel
theorem d_Model_loops_264 : decode b_Model_loops 264 = .ok (.goto 4, 3) := by decide +kernel
theorem d_Model_loops_267 : decode b_Model_loops 267 = .ok (.iconst 0, 1) := by decide +kernel
theorem d_Model_loops_268 : decode b_Model_loops 268 = .ok (.istore_n 2, 1) := by decide +kernel
theorem d_Model_loops_269 : decode b_Model_loops 269 = .ok (.iinc 3 1, 3) := by decide +kernel
theorem d_Model_loops_272 : decode b_Model_loops 272 = .ok (.goto (-141), 3) := by decide +kernel
theorem d_Model_loops_275 : decode b_Model_loops 275 = .ok (.goto (-152), 3) := by decide +kernel
theorem d_Model_loops_278 : decode b_Model_loops 278 = .ok (.iconst 0, 1) := by decide +kernel
theorem d_Model_loops_279 : decode b_Model_loops 279 = .ok (.istore_n 3, 1) := by decide +kernel
theorem d_Model_loops_280 : decode b_Model_loops 280 = .ok (.iload_n 3, 1) := by decide +kernel
theorem d_Model_loops_281 : decode b_Model_loops 281 = .ok (.aload_n 0, 1) := by decide +kernel
theorem d_Model_loops_282 : decode b_Model_loops 282 = .ok (.getfield 7, 3) := by decide +kernel
theorem d_Model_loops_285 : decode b_Model_loops 285 = .ok (.if_icmp .ge 37, 3) := by decide +kernel
theorem d_Model_loops_288 : decode b_Model_loops 288 = .ok (.aload_n 0, 1) := by decide +kernel
theorem d_Model_loops_289 : decode b_Model_loops 289 = .ok (.getfield 39, 3) := by decide +kernel
theorem d_Model_loops_292 : decode b_Model_loops 292 = .ok (.iload_n 1, 1) := by decide +kernel
theorem d_Model_loops_293 : decode b_Model_loops 293 = .ok (.dup2, 1) := by decide +kernel
theorem d_Model_loops_294 : decode b_Model_loops 294 = .ok (.iaload, 1) := by decide +kernel
theorem d_Model_loops_295 : decode b_Model_loops 295 = .ok (.aload_n 0, 1) := by decide +kernel
theorem d_Model_loops_296 : decode b_Model_loops 296 = .ok (.getfield 36, 3) := by decide +kernel
theorem d_Model_loops_299 : decode b_Model_loops 299 = .ok (.bipush 64, 2) := by decide +kernel
theorem d_Model_loops_301 : decode b_Model_loops 301 = .ok (.iload_n 1, 1) := by decide +kernel
theorem d_Model_loops_302 : decode b_Model_loops 302 = .ok (.imul, 1) := by decide +kernel
theorem d_Model_loops_303 : decode b_Model_loops 303 = .ok (.iload_n 3, 1) := by decide +kernel
theorem d_Model_loops_304 : decode b_Model_loops 304 = .ok (.iadd, 1) := by decide +kernel
theorem d_Model_loops_305 : decode b_Model_loops 305 = .ok (.baload, 1) := by decide +kernel
theorem d_Model_loops_306 : decode b_Model_loops 306 = .ok (.ifCond .eq 7, 3) := by decide +kernel
theorem d_Model_loops_309 : decode b_Model_loops 309 = .ok (.iconst 1, 1) := by decide +kernel
theorem d_Model_loops_310 : decode b_Model_loops 310 = .ok (.goto 4, 3) := by decide +kernel
theorem d_Model_loops_313 : decode b_Model_loops 313 = .ok (.iconst 0, 1) := by decide +kernel
theorem d_Model_loops_314 : decode b_Model_loops 314 = .ok (.iadd, 1) := by decide +kernel
theorem d_Model_loops_315 : decode b_Model_loops 315 = .ok (.iastore, 1) := by decide +kernel
theorem d_Model_loops_316 : decode b_Model_loops 316 = .ok (.iinc 3 1, 3) := by decide +kernel
theorem d_Model_loops_319 : decode b_Model_loops 319 = .ok (.goto (-39), 3) := by decide +kernel
theorem d_Model_loops_322 : decode b_Model_loops 322 = .ok (.return_, 1) := by decide +kernel
theorem d_Model_reckon_0 : decode b_Model_reckon 0 = .ok (.aload_n 0, 1) := by decide +kernel
theorem d_Model_reckon_1 : decode b_Model_reckon 1 = .ok (.getfield 58, 3) := by decide +kernel
theorem d_Model_reckon_4 : decode b_Model_reckon 4 = .ok (.ifCond .eq 4, 3) := by decide +kernel
theorem d_Model_reckon_7 : decode b_Model_reckon 7 = .ok (.return_, 1) := by decide +kernel
theorem d_Model_reckon_8 : decode b_Model_reckon 8 = .ok (.aload_n 0, 1) := by decide +kernel
theorem d_Model_reckon_9 : decode b_Model_reckon 9 = .ok (.iconst 1, 1) := by decide +kernel
theorem d_Model_reckon_10 : decode b_Model_reckon 10 = .ok (.putfield 58, 3) := by decide +kernel
theorem d_Model_reckon_13 : decode b_Model_reckon 13 = .ok (.aload_n 0, 1) := by decide +kernel
theorem d_Model_reckon_14 : decode b_Model_reckon 14 = .ok (.invokevirtual 66, 3) := by decide +kernel
theorem d_Model_reckon_17 : decode b_Model_reckon 17 = .ok (.iconst 0, 1) := by decide +kernel
theorem d_Model_reckon_18 : decode b_Model_reckon 18 = .ok (.istore_n 1, 1) := by decide +kernel
theorem d_Model_reckon_19 : decode b_Model_reckon 19 = .ok (.iload_n 1, 1) := by decide +kernel
theorem d_Model_reckon_20 : decode b_Model_reckon 20 = .ok (.aload_n 0, 1) := by decide +kernel
theorem d_Model_reckon_21 : decode b_Model_reckon 21 = .ok (.getfield 7, 3) := by decide +kernel
theorem d_Model_reckon_24 : decode b_Model_reckon 24 = .ok (.if_icmp .ge 14, 3) := by decide +kernel
theorem d_Model_reckon_27 : decode b_Model_reckon 27 = .ok (.aload_n 0, 1) := by decide +kernel
theorem d_Model_reckon_28 : decode b_Model_reckon 28 = .ok (.iload_n 1, 1) := by decide +kernel
theorem d_Model_reckon_29 : decode b_Model_reckon 29 = .ok (.invokevirtual 69, 3) := by decide +kernel
theorem d_Model_reckon_32 : decode b_Model_reckon 32 = .ok (.iinc 1 1, 3) := by decide +kernel
theorem d_Model_reckon_35 : decode b_Model_reckon 35 = .ok (.goto (-16), 3) := by decide +kernel
theorem d_Model_reckon_38 : decode b_Model_reckon 38 = .ok (.iconst 0, 1) := by decide +kernel
theorem d_Model_reckon_39 : decode b_Model_reckon 39 = .ok (.istore_n 1, 1) := by decide +kernel
theorem d_Model_reckon_40 : decode b_Model_reckon 40 = .ok (.iload_n 1, 1) := by decide +kernel
theorem d_Model_reckon_41 : decode b_Model_reckon 41 = .ok (.aload_n 0, 1) := by decide +kernel
theorem d_Model_reckon_42 : decode b_Model_reckon 42 = .ok (.getfield 7, 3) := by decide +kernel
theorem d_Model_reckon_45 : decode b_Model_reckon 45 = .ok (.if_icmp .ge 73, 3) := by decide +kernel
theorem d_Model_reckon_48 : decode b_Model_reckon 48 = .ok (.aload_n 0, 1) := by decide +kernel
theorem d_Model_reckon_49 : decode b_Model_reckon 49 = .ok (.getfield 30, 3) := by decide +kernel
theorem d_Model_reckon_52 : decode b_Model_reckon 52 = .ok (.iload_n 1, 1) := by decide +kernel
theorem d_Model_reckon_53 : decode b_Model_reckon 53 = .ok (.iconst (-1), 1) := by decide +kernel
theorem d_Model_reckon_54 : decode b_Model_reckon 54 = .ok (.iastore, 1) := by decide +kernel
theorem d_Model_reckon_55 : decode b_Model_reckon 55 = .ok (.iconst 0, 1) := by decide +kernel
theorem d_Model_reckon_56 : decode b_Model_reckon 56 = .ok (.istore_n 2, 1) := by decide +kernel
theorem d_Model_reckon_57 : decode b_Model_reckon 57 = .ok (.iload_n 2, 1) := by decide +kernel
theorem d_Model_reckon_58 : decode b_Model_reckon 58 = .ok (.aload_n 0, 1) := by decide +kernel
theorem d_Model_reckon_59 : decode b_Model_reckon 59 = .ok (.getfield 73, 3) := by decide +kernel
theorem d_Model_reckon_62 : decode b_Model_reckon 62 = .ok (.if_icmp .ge 50, 3) := by decide +kernel
theorem d_Model_reckon_65 : decode b_Model_reckon 65 = .ok (.aload_n 0, 1) := by decide +kernel
theorem d_Model_reckon_66 : decode b_Model_reckon 66 = .ok (.getfield 23, 3) := by decide +kernel
theorem d_Model_reckon_69 : decode b_Model_reckon 69 = .ok (.iload_n 2, 1) := by decide +kernel
theorem d_Model_reckon_70 : decode b_Model_reckon 70 = .ok (.iaload, 1) := by decide +kernel
theorem d_Model_reckon_71 : decode b_Model_reckon 71 = .ok (.iload_n 1, 1) := by decide +kernel
theorem d_Model_reckon_72 : decode b_Model_reckon 72 = .ok (.if_icmp .eq 34, 3) := by decide +kernel
theorem d_Model_reckon_75 : decode b_Model_reckon 75 = .ok (.aload_n 0, 1) := by decide +kernel
theorem d_Model_reckon_76 : decode b_Model_reckon 76 = .ok (.getfield 26, 3) := by decide +kernel
theorem d_Model_reckon_79 : decode b_Model_reckon 79 = .ok (.bipush 64, 2) := by decide +kernel
theorem d_Model_reckon_81 : decode b_Model_reckon 81 = .ok (.aload_n 0, 1) := by decide +kernel
theorem d_Model_reckon_82 : decode b_Model_reckon 82 = .ok (.getfield 23, 3) := by decide +kernel
theorem d_Model_reckon_85 : decode b_Model_reckon 85 = .ok (.iload_n 2, 1) := by decide +kernel
theorem d_Model_reckon_86 : decode b_Model_reckon 86 = .ok (.iaload, 1) := by decide +kernel
theorem d_Model_reckon_87 : decode b_Model_reckon 87 = .ok (.imul, 1) := by decide +kernel
theorem d_Model_reckon_88 : decode b_Model_reckon 88 = .ok (.iload_n 1, 1) := by decide +kernel
theorem d_Model_reckon_89 : decode b_Model_reckon 89 = .ok (.iadd, 1) := by decide +kernel
theorem d_Model_reckon_90 : decode b_Model_reckon 90 = .ok (.baload, 1) := by decide +kernel
theorem d_Model_reckon_91 : decode b_Model_reckon 91 = .ok (.ifCond .eq 15, 3) := by decide +kernel
theorem d_Model_reckon_94 : decode b_Model_reckon 94 = .ok (.aload_n 0, 1) := by decide +kernel
theorem d_Model_reckon_95 : decode b_Model_reckon 95 = .ok (.getfield 30, 3) := by decide +kernel
theorem d_Model_reckon_98 : decode b_Model_reckon 98 = .ok (.iload_n 1, 1) := by decide +kernel
theorem d_Model_reckon_99 : decode b_Model_reckon 99 = .ok (.aload_n 0, 1) := by decide +kernel
theorem d_Model_reckon_100 : decode b_Model_reckon 100 = .ok (.getfield 23, 3) := by decide +kernel
theorem d_Model_reckon_103 : decode b_Model_reckon 103 = .ok (.iload_n 2, 1) := by decide +kernel
theorem d_Model_reckon_104 : decode b_Model_reckon 104 = .ok (.iaload, 1) := by decide +kernel
theorem d_Model_reckon_105 : decode b_Model_reckon 105 = .ok (.iastore, 1) := by decide +kernel
theorem d_Model_reckon_106 : decode b_Model_reckon 106 = .ok (.iinc 2 1, 3) := by decide +kernel
theorem d_Model_reckon_109 : decode b_Model_reckon 109 = .ok (.goto (-52), 3) := by decide +kernel
theorem d_Model_reckon_112 : decode b_Model_reckon 112 = .ok (.iinc 1 1, 3) := by decide +kernel
theorem d_Model_reckon_115 : decode b_Model_reckon 115 = .ok (.goto (-75), 3) := by decide +kernel
theorem d_Model_reckon_118 : decode b_Model_reckon 118 = .ok (.iconst 0, 1) := by decide +kernel
theorem d_Model_reckon_119 : decode b_Model_reckon 119 = .ok (.istore_n 1, 1) := by decide +kernel
theorem d_Model_reckon_120 : decode b_Model_reckon 120 = .ok (.iload_n 1, 1) := by decide +kernel
theorem d_Model_reckon_121 : decode b_Model_reckon 121 = .ok (.aload_n 0, 1) := by decide +kernel
theorem d_Model_reckon_122 : decode b_Model_reckon 122 = .ok (.getfield 7, 3) := by decide +kernel
theorem d_Model_reckon_125 : decode b_Model_reckon 125 = .ok (.if_icmp .ge 16, 3) := by decide +kernel
theorem d_Model_reckon_128 : decode b_Model_reckon 128 = .ok (.aload_n 0, 1) := by decide +kernel
theorem d_Model_reckon_129 : decode b_Model_reckon 129 = .ok (.getfield 33, 3) := by decide +kernel
theorem d_Model_reckon_132 : decode b_Model_reckon 132 = .ok (.iload_n 1, 1) := by decide +kernel
theorem d_Model_reckon_133 : decode b_Model_reckon 133 = .ok (.iconst 0, 1) := by decide +kernel
theorem d_Model_reckon_134 : decode b_Model_reckon 134 = .ok (.bastore, 1) := by decide +kernel
theorem d_Model_reckon_135 : decode b_Model_reckon 135 = .ok (.iinc 1 1, 3) := by decide +kernel
theorem d_Model_reckon_138 : decode b_Model_reckon 138 = .ok (.goto (-18), 3) := by decide +kernel
theorem d_Model_reckon_141 : decode b_Model_reckon 141 = .ok (.iconst 0, 1) := by decide +kernel
theorem d_Model_reckon_142 : decode b_Model_reckon 142 = .ok (.istore_n 1, 1) := by decide +kernel
theorem d_Model_reckon_143 : decode b_Model_reckon 143 = .ok (.iload_n 1, 1) := by decide +kernel
theorem d_Model_reckon_144 : decode b_Model_reckon 144 = .ok (.aload_n 0, 1) := by decide +kernel
theorem d_Model_reckon_145 : decode b_Model_reckon 145 = .ok (.getfield 7, 3) := by decide +kernel
theorem d_Model_reckon_148 : decode b_Model_reckon 148 = .ok (.if_icmp .ge 54, 3) := by decide +kernel
theorem d_Model_reckon_151 : decode b_Model_reckon 151 = .ok (.iconst 0, 1) := by decide +kernel
theorem d_Model_reckon_152 : decode b_Model_reckon 152 = .ok (.istore_n 2, 1) := by decide +kernel
theorem d_Model_reckon_153 : decode b_Model_reckon 153 = .ok (.iload_n 2, 1) := by decide +kernel
theorem d_Model_reckon_154 : decode b_Model_reckon 154 = .ok (.aload_n 0, 1) := by decide +kernel
theorem d_Model_reckon_155 : decode b_Model_reckon 155 = .ok (.getfield 13, 3) := by decide +kernel
theorem d_Model_reckon_158 : decode b_Model_reckon 158 = .ok (.iload_n 1, 1) := by decide +kernel
theorem d_Model_reckon_159 : decode b_Model_reckon 159 = .ok (.iaload, 1) := by decide +kernel
theorem d_Model_reckon_160 : decode b_Model_reckon 160 = .ok (.if_icmp .ge 36, 3) := by decide +kernel
theorem d_Model_reckon_163 : decode b_Model_reckon 163 = .ok (.aload_n 0, 1) := by decide +kernel
theorem d_Model_reckon_164 : decode b_Model_reckon 164 = .ok (.iload_n 1, 1) := by decide +kernel
theorem d_Model_reckon_165 : decode b_Model_reckon 165 = .ok (.iload_n 2, 1) := by decide +kernel
theorem d_Model_reckon_166 : decode b_Model_reckon 166 = .ok (.invokevirtual 76, 3) := by decide +kernel
theorem d_Model_reckon_169 : decode b_Model_reckon 169 = .ok (.iconst 1, 1) := by decide +kernel
theorem d_Model_reckon_170 : decode b_Model_reckon 170 = .ok (.if_icmp .ne 20, 3) := by decide +kernel
theorem d_Model_reckon_173 : decode b_Model_reckon 173 = .ok (.aload_n 0, 1) := by decide +kernel
theorem d_Model_reckon_174 : decode b_Model_reckon 174 = .ok (.getfield 33, 3) := by decide +kernel
theorem d_Model_reckon_177 : decode b_Model_reckon 177 = .ok (.aload_n 0, 1) := by decide +kernel
theorem d_Model_reckon_178 : decode b_Model_reckon 178 = .ok (.getfield 17, 3) := by decide +kernel
theorem d_Model_reckon_181 : decode b_Model_reckon 181 = .ok (.bipush 8, 2) := by decide +kernel
theorem d_Model_reckon_183 : decode b_Model_reckon 183 = .ok (.iload_n 1, 1) := by decide +kernel
theorem d_Model_reckon_184 : decode b_Model_reckon 184 = .ok (.imul, 1) := by decide +kernel
theorem d_Model_reckon_185 : decode b_Model_reckon 185 = .ok (.iload_n 2, 1) := by decide +kernel
theorem d_Model_reckon_186 : decode b_Model_reckon 186 = .ok (.iadd, 1) := by decide +kernel
theorem d_Model_reckon_187 : decode b_Model_reckon 187 = .ok (.iaload, 1) := by decide +kernel
theorem d_Model_reckon_188 : decode b_Model_reckon 188 = .ok (.iconst 1, 1) := by decide +kernel
theorem d_Model_reckon_189 : decode b_Model_reckon 189 = .ok (.bastore, 1) := by decide +kernel
theorem d_Model_reckon_190 : decode b_Model_reckon 190 = .ok (.iinc 2 1, 3) := by decide +kernel
theorem d_Model_reckon_193 : decode b_Model_reckon 193 = .ok (.goto (-40), 3) := by decide +kernel
theorem d_Model_reckon_196 : decode b_Model_reckon 196 = .ok (.iinc 1 1, 3) := by decide +kernel
theorem d_Model_reckon_199 : decode b_Model_reckon 199 = .ok (.goto (-56), 3) := by decide +kernel
theorem d_Model_reckon_202 : decode b_Model_reckon 202 = .ok (.iconst 0, 1) := by decide +kernel
theorem d_Model_reckon_203 : decode b_Model_reckon 203 = .ok (.istore_n 1, 1) := by decide +kernel
theorem d_Model_reckon_204 : decode b_Model_reckon 204 = .ok (.iload_n 1, 1) := by decide +kernel
theorem d_Model_reckon_205 : decode b_Model_reckon 205 = .ok (.aload_n 0, 1) := by decide +kernel
theorem d_Model_reckon_206 : decode b_Model_reckon 206 = .ok (.getfield 7, 3) := by decide +kernel
theorem d_Model_reckon_209 : decode b_Model_reckon 209 = .ok (.if_icmp .ge 14, 3) := by decide +kernel
theorem d_Model_reckon_212 : decode b_Model_reckon 212 = .ok (.aload_n 0, 1) := by decide +kernel
theorem d_Model_reckon_213 : decode b_Model_reckon 213 = .ok (.iload_n 1, 1) := by decide +kernel
theorem d_Model_reckon_214 : decode b_Model_reckon 214 = .ok (.invokevirtual 80, 3) := by decide +kernel
theorem d_Model_reckon_217 : decode b_Model_reckon 217 = .ok (.iinc 1 1, 3) := by decide +kernel
theorem d_Model_reckon_220 : decode b_Model_reckon 220 = .ok (.goto (-16), 3) := by decide +kernel
theorem d_Model_reckon_223 : decode b_Model_reckon 223 = .ok (.return_, 1) := by decide +kernel
theorem d_Model_end_0 : decode b_Model_end 0 = .ok (.aload_n 0, 1) := by decide +kernel
theorem d_Model_end_1 : decode b_Model_end 1 = .ok (.iconst 0, 1) := by decide +kernel
theorem d_Model_end_2 : decode b_Model_end 2 = .ok (.putfield 51, 3) := by decide +kernel
theorem d_Model_end_5 : decode b_Model_end 5 = .ok (.aload_n 0, 1) := by decide +kernel
theorem d_Model_end_6 : decode b_Model_end 6 = .ok (.iload_n 1, 1) := by decide +kernel
theorem d_Model_end_7 : decode b_Model_end 7 = .ok (.iload_n 2, 1) := by decide +kernel
theorem d_Model_end_8 : decode b_Model_end 8 = .ok (.invokevirtual 62, 3) := by decide +kernel
theorem d_Model_end_11 : decode b_Model_end 11 = .ok (.ifCond .eq 17, 3) := by decide +kernel
theorem d_Model_end_14 : decode b_Model_end 14 = .ok (.aload_n 0, 1) := by decide +kernel
theorem d_Model_end_15 : decode b_Model_end 15 = .ok (.getfield 17, 3) := by decide +kernel
theorem d_Model_end_18 : decode b_Model_end 18 = .ok (.bipush 8, 2) := by decide +kernel
theorem d_Model_end_20 : decode b_Model_end 20 = .ok (.iload_n 1, 1) := by decide +kernel
theorem d_Model_end_21 : decode b_Model_end 21 = .ok (.imul, 1) := by decide +kernel
theorem d_Model_end_22 : decode b_Model_end 22 = .ok (.iload_n 2, 1) := by decide +kernel
theorem d_Model_end_23 : decode b_Model_end 23 = .ok (.iadd, 1) := by decide +kernel
theorem d_Model_end_24 : decode b_Model_end 24 = .ok (.iaload, 1) := by decide +kernel
theorem d_Model_end_25 : decode b_Model_end 25 = .ok (.goto 4, 3) := by decide +kernel
theorem d_Model_end_28 : decode b_Model_end 28 = .ok (.iconst (-1), 1) := by decide +kernel
theorem d_Model_end_29 : decode b_Model_end 29 = .ok (.ireturn, 1) := by decide +kernel
theorem d_Model_order_0 : decode b_Model_order 0 = .ok (.aload_n 0, 1) := by decide +kernel
theorem d_Model_order_1 : decode b_Model_order 1 = .ok (.iconst 0, 1) := by decide +kernel
theorem d_Model_order_2 : decode b_Model_order 2 = .ok (.putfield 51, 3) := by decide +kernel
theorem d_Model_order_5 : decode b_Model_order 5 = .ok (.aload_n 0, 1) := by decide +kernel
theorem d_Model_order_6 : decode b_Model_order 6 = .ok (.invokevirtual 83, 3) := by decide +kernel
theorem d_Model_order_9 : decode b_Model_order 9 = .ok (.aload_n 0, 1) := by decide +kernel
theorem d_Model_order_10 : decode b_Model_order 10 = .ok (.iload_n 1, 1) := by decide +kernel
theorem d_Model_order_11 : decode b_Model_order 11 = .ok (.invokevirtual 54, 3) := by decide +kernel
theorem d_Model_order_14 : decode b_Model_order 14 = .ok (.ifCond .eq 12, 3) := by decide +kernel
theorem d_Model_order_17 : decode b_Model_order 17 = .ok (.aload_n 0, 1) := by decide +kernel
theorem d_Model_order_18 : decode b_Model_order 18 = .ok (.getfield 20, 3) := by decide +kernel
theorem d_Model_order_21 : decode b_Model_order 21 = .ok (.iload_n 1, 1) := by decide +kernel
theorem d_Model_order_22 : decode b_Model_order 22 = .ok (.iaload, 1) := by decide +kernel
theorem d_Model_order_23 : decode b_Model_order 23 = .ok (.goto 4, 3) := by decide +kernel
theorem d_Model_order_26 : decode b_Model_order 26 = .ok (.iconst (-1), 1) := by decide +kernel
theorem d_Model_order_27 : decode b_Model_order 27 = .ok (.ireturn, 1) := by decide +kernel
theorem d_Model_at_0 : decode b_Model_at 0 = .ok (.aload_n 0, 1) := by decide +kernel
theorem d_Model_at_1 : decode b_Model_at 1 = .ok (.iconst 0, 1) := by decide +kernel
theorem d_Model_at_2 : decode b_Model_at 2 = .ok (.putfield 51, 3) := by decide +kernel
theorem d_Model_at_5 : decode b_Model_at 5 = .ok (.aload_n 0, 1) := by decide +kernel
theorem d_Model_at_6 : decode b_Model_at 6 = .ok (.invokevirtual 83, 3) := by decide +kernel
theorem d_Model_at_9 : decode b_Model_at 9 = .ok (.iload_n 1, 1) := by decide +kernel
theorem d_Model_at_10 : decode b_Model_at 10 = .ok (.ifCond .lt 20, 3) := by decide +kernel
theorem d_Model_at_13 : decode b_Model_at 13 = .ok (.iload_n 1, 1) := by decide +kernel
theorem d_Model_at_14 : decode b_Model_at 14 = .ok (.aload_n 0, 1) := by decide +kernel
theorem d_Model_at_15 : decode b_Model_at 15 = .ok (.getfield 73, 3) := by decide +kernel
theorem d_Model_at_18 : decode b_Model_at 18 = .ok (.if_icmp .ge 12, 3) := by decide +kernel
theorem d_Model_at_21 : decode b_Model_at 21 = .ok (.aload_n 0, 1) := by decide +kernel
theorem d_Model_at_22 : decode b_Model_at 22 = .ok (.getfield 23, 3) := by decide +kernel
theorem d_Model_at_25 : decode b_Model_at 25 = .ok (.iload_n 1, 1) := by decide +kernel
theorem d_Model_at_26 : decode b_Model_at 26 = .ok (.iaload, 1) := by decide +kernel
theorem d_Model_at_27 : decode b_Model_at 27 = .ok (.goto 4, 3) := by decide +kernel
theorem d_Model_at_30 : decode b_Model_at 30 = .ok (.iconst (-1), 1) := by decide +kernel
theorem d_Model_at_31 : decode b_Model_at 31 = .ok (.ireturn, 1) := by decide +kernel
theorem d_Model_parent_0 : decode b_Model_parent 0 = .ok (.aload_n 0, 1) := by decide +kernel
theorem d_Model_parent_1 : decode b_Model_parent 1 = .ok (.iconst 0, 1) := by decide +kernel
theorem d_Model_parent_2 : decode b_Model_parent 2 = .ok (.putfield 51, 3) := by decide +kernel
theorem d_Model_parent_5 : decode b_Model_parent 5 = .ok (.aload_n 0, 1) := by decide +kernel
theorem d_Model_parent_6 : decode b_Model_parent 6 = .ok (.invokevirtual 83, 3) := by decide +kernel
theorem d_Model_parent_9 : decode b_Model_parent 9 = .ok (.aload_n 0, 1) := by decide +kernel
theorem d_Model_parent_10 : decode b_Model_parent 10 = .ok (.iload_n 1, 1) := by decide +kernel
theorem d_Model_parent_11 : decode b_Model_parent 11 = .ok (.invokevirtual 54, 3) := by decide +kernel
theorem d_Model_parent_14 : decode b_Model_parent 14 = .ok (.ifCond .eq 12, 3) := by decide +kernel
theorem d_Model_parent_17 : decode b_Model_parent 17 = .ok (.aload_n 0, 1) := by decide +kernel
theorem d_Model_parent_18 : decode b_Model_parent 18 = .ok (.getfield 30, 3) := by decide +kernel
theorem d_Model_parent_21 : decode b_Model_parent 21 = .ok (.iload_n 1, 1) := by decide +kernel
theorem d_Model_parent_22 : decode b_Model_parent 22 = .ok (.iaload, 1) := by decide +kernel
theorem d_Model_parent_23 : decode b_Model_parent 23 = .ok (.goto 4, 3) := by decide +kernel
theorem d_Model_parent_26 : decode b_Model_parent 26 = .ok (.iconst (-1), 1) := by decide +kernel
theorem d_Model_parent_27 : decode b_Model_parent 27 = .ok (.ireturn, 1) := by decide +kernel
theorem d_Model_rules_0 : decode b_Model_rules 0 = .ok (.aload_n 0, 1) := by decide +kernel
theorem d_Model_rules_1 : decode b_Model_rules 1 = .ok (.iconst 0, 1) := by decide +kernel
theorem d_Model_rules_2 : decode b_Model_rules 2 = .ok (.putfield 51, 3) := by decide +kernel
theorem d_Model_rules_5 : decode b_Model_rules 5 = .ok (.aload_n 0, 1) := by decide +kernel
theorem d_Model_rules_6 : decode b_Model_rules 6 = .ok (.invokevirtual 83, 3) := by decide +kernel
theorem d_Model_rules_9 : decode b_Model_rules 9 = .ok (.aload_n 0, 1) := by decide +kernel
theorem d_Model_rules_10 : decode b_Model_rules 10 = .ok (.iload_n 1, 1) := by decide +kernel
theorem d_Model_rules_11 : decode b_Model_rules 11 = .ok (.invokevirtual 54, 3) := by decide +kernel
theorem d_Model_rules_14 : decode b_Model_rules 14 = .ok (.ifCond .eq 29, 3) := by decide +kernel
theorem d_Model_rules_17 : decode b_Model_rules 17 = .ok (.aload_n 0, 1) := by decide +kernel
theorem d_Model_rules_18 : decode b_Model_rules 18 = .ok (.iload_n 2, 1) := by decide +kernel
theorem d_Model_rules_19 : decode b_Model_rules 19 = .ok (.invokevirtual 54, 3) := by decide +kernel
theorem d_Model_rules_22 : decode b_Model_rules 22 = .ok (.ifCond .eq 21, 3) := by decide +kernel
theorem d_Model_rules_25 : decode b_Model_rules 25 = .ok (.aload_n 0, 1) := by decide +kernel
theorem d_Model_rules_26 : decode b_Model_rules 26 = .ok (.getfield 26, 3) := by decide +kernel
theorem d_Model_rules_29 : decode b_Model_rules 29 = .ok (.bipush 64, 2) := by decide +kernel
theorem d_Model_rules_31 : decode b_Model_rules 31 = .ok (.iload_n 1, 1) := by decide +kernel
theorem d_Model_rules_32 : decode b_Model_rules 32 = .ok (.imul, 1) := by decide +kernel
theorem d_Model_rules_33 : decode b_Model_rules 33 = .ok (.iload_n 2, 1) := by decide +kernel
theorem d_Model_rules_34 : decode b_Model_rules 34 = .ok (.iadd, 1) := by decide +kernel
theorem d_Model_rules_35 : decode b_Model_rules 35 = .ok (.baload, 1) := by decide +kernel
theorem d_Model_rules_36 : decode b_Model_rules 36 = .ok (.ifCond .eq 7, 3) := by decide +kernel
theorem d_Model_rules_39 : decode b_Model_rules 39 = .ok (.iconst 1, 1) := by decide +kernel
theorem d_Model_rules_40 : decode b_Model_rules 40 = .ok (.goto 4, 3) := by decide +kernel
theorem d_Model_rules_43 : decode b_Model_rules 43 = .ok (.iconst 0, 1) := by decide +kernel
theorem d_Model_rules_44 : decode b_Model_rules 44 = .ok (.ireturn, 1) := by decide +kernel
theorem d_Model_isReached_0 : decode b_Model_isReached 0 = .ok (.aload_n 0, 1) := by decide +kernel
theorem d_Model_isReached_1 : decode b_Model_isReached 1 = .ok (.iload_n 1, 1) := by decide +kernel
theorem d_Model_isReached_2 : decode b_Model_isReached 2 = .ok (.invokevirtual 54, 3) := by decide +kernel
theorem d_Model_isReached_5 : decode b_Model_isReached 5 = .ok (.ifCond .eq 16, 3) := by decide +kernel
theorem d_Model_isReached_8 : decode b_Model_isReached 8 = .ok (.aload_n 0, 1) := by decide +kernel
theorem d_Model_isReached_9 : decode b_Model_isReached 9 = .ok (.getfield 20, 3) := by decide +kernel
theorem d_Model_isReached_12 : decode b_Model_isReached 12 = .ok (.iload_n 1, 1) := by decide +kernel
theorem d_Model_isReached_13 : decode b_Model_isReached 13 = .ok (.iaload, 1) := by decide +kernel
theorem d_Model_isReached_14 : decode b_Model_isReached 14 = .ok (.ifCond .lt 7, 3) := by decide +kernel
theorem d_Model_isReached_17 : decode b_Model_isReached 17 = .ok (.iconst 1, 1) := by decide +kernel
theorem d_Model_isReached_18 : decode b_Model_isReached 18 = .ok (.goto 4, 3) := by decide +kernel
theorem d_Model_isReached_21 : decode b_Model_isReached 21 = .ok (.iconst 0, 1) := by decide +kernel
theorem d_Model_isReached_22 : decode b_Model_isReached 22 = .ok (.ireturn, 1) := by decide +kernel
theorem d_Model_common_0 : decode b_Model_common 0 = .ok (.aload_n 0, 1) := by decide +kernel
theorem d_Model_common_1 : decode b_Model_common 1 = .ok (.invokevirtual 83, 3) := by decide +kernel
theorem d_Model_common_4 : decode b_Model_common 4 = .ok (.aload_n 0, 1) := by decide +kernel
theorem d_Model_common_5 : decode b_Model_common 5 = .ok (.aload_n 0, 1) := by decide +kernel
theorem d_Model_common_6 : decode b_Model_common 6 = .ok (.iload_n 1, 1) := by decide +kernel
theorem d_Model_common_7 : decode b_Model_common 7 = .ok (.invokevirtual 86, 3) := by decide +kernel
theorem d_Model_common_10 : decode b_Model_common 10 = .ok (.ifCond .eq 15, 3) := by decide +kernel
theorem d_Model_common_13 : decode b_Model_common 13 = .ok (.aload_n 0, 1) := by decide +kernel
theorem d_Model_common_14 : decode b_Model_common 14 = .ok (.iload_n 2, 1) := by decide +kernel
theorem d_Model_common_15 : decode b_Model_common 15 = .ok (.invokevirtual 86, 3) := by decide +kernel
theorem d_Model_common_18 : decode b_Model_common 18 = .ok (.ifCond .eq 7, 3) := by decide +kernel
theorem d_Model_common_21 : decode b_Model_common 21 = .ok (.iconst 0, 1) := by decide +kernel
theorem d_Model_common_22 : decode b_Model_common 22 = .ok (.goto 4, 3) := by decide +kernel
theorem d_Model_common_25 : decode b_Model_common 25 = .ok (.iconst 1, 1) := by decide +kernel
theorem d_Model_common_26 : decode b_Model_common 26 = .ok (.putfield 51, 3) := by decide +kernel
theorem d_Model_common_29 : decode b_Model_common 29 = .ok (.iconst 0, 1) := by decide +kernel
theorem d_Model_common_30 : decode b_Model_common 30 = .ok (.istore_n 3, 1) := by decide +kernel
theorem d_Model_common_31 : decode b_Model_common 31 = .ok (.iconst 0, 1) := by decide +kernel
theorem d_Model_common_32 : decode b_Model_common 32 = .ok (.istore 4, 2) := by decide +kernel
theorem d_Model_common_34 : decode b_Model_common 34 = .ok (.iload 4, 2) := by decide +kernel
theorem d_Model_common_36 : decode b_Model_common 36 = .ok (.aload_n 0, 1) := by decide +kernel
theorem d_Model_common_37 : decode b_Model_common 37 = .ok (.getfield 73, 3) := by decide +kernel
theorem d_Model_common_40 : decode b_Model_common 40 = .ok (.if_icmp .ge 62, 3) := by decide +kernel
theorem d_Model_common_43 : decode b_Model_common 43 = .ok (.aload_n 0, 1) := by decide +kernel
theorem d_Model_common_44 : decode b_Model_common 44 = .ok (.getfield 51, 3) := by decide +kernel
theorem d_Model_common_47 : decode b_Model_common 47 = .ok (.ifCond .ne 55, 3) := by decide +kernel
theorem d_Model_common_50 : decode b_Model_common 50 = .ok (.aload_n 0, 1) := by decide +kernel
theorem d_Model_common_51 : decode b_Model_common 51 = .ok (.getfield 23, 3) := by decide +kernel
theorem d_Model_common_54 : decode b_Model_common 54 = .ok (.iload 4, 2) := by decide +kernel
theorem d_Model_common_56 : decode b_Model_common 56 = .ok (.iaload, 1) := by decide +kernel
theorem d_Model_common_57 : decode b_Model_common 57 = .ok (.istore 5, 2) := by decide +kernel
theorem d_Model_common_59 : decode b_Model_common 59 = .ok (.aload_n 0, 1) := by decide +kernel
theorem d_Model_common_60 : decode b_Model_common 60 = .ok (.getfield 26, 3) := by decide +kernel
theorem d_Model_common_63 : decode b_Model_common 63 = .ok (.bipush 64, 2) := by decide +kernel
theorem d_Model_common_65 : decode b_Model_common 65 = .ok (.iload 5, 2) := by decide +kernel
theorem d_Model_common_67 : decode b_Model_common 67 = .ok (.imul, 1) := by decide +kernel
theorem d_Model_common_68 : decode b_Model_common 68 = .ok (.iload_n 1, 1) := by decide +kernel
theorem d_Model_common_69 : decode b_Model_common 69 = .ok (.iadd, 1) := by decide +kernel
theorem d_Model_common_70 : decode b_Model_common 70 = .ok (.baload, 1) := by decide +kernel
theorem d_Model_common_71 : decode b_Model_common 71 = .ok (.ifCond .eq 23, 3) := by decide +kernel
theorem d_Model_common_74 : decode b_Model_common 74 = .ok (.aload_n 0, 1) := by decide +kernel
theorem d_Model_common_75 : decode b_Model_common 75 = .ok (.getfield 26, 3) := by decide +kernel
theorem d_Model_common_78 : decode b_Model_common 78 = .ok (.bipush 64, 2) := by decide +kernel
theorem d_Model_common_80 : decode b_Model_common 80 = .ok (.iload 5, 2) := by decide +kernel
theorem d_Model_common_82 : decode b_Model_common 82 = .ok (.imul, 1) := by decide +kernel
theorem d_Model_common_83 : decode b_Model_common 83 = .ok (.iload_n 2, 1) := by decide +kernel
theorem d_Model_common_84 : decode b_Model_common 84 = .ok (.iadd, 1) := by decide +kernel
theorem d_Model_common_85 : decode b_Model_common 85 = .ok (.baload, 1) := by decide +kernel
theorem d_Model_common_86 : decode b_Model_common 86 = .ok (.ifCond .eq 8, 3) := by decide +kernel
theorem d_Model_common_89 : decode b_Model_common 89 = .ok (.iload 5, 2) := by decide +kernel
theorem d_Model_common_91 : decode b_Model_common 91 = .ok (.goto 4, 3) := by decide +kernel
theorem d_Model_common_94 : decode b_Model_common 94 = .ok (.iload_n 3, 1) := by decide +kernel
theorem d_Model_common_95 : decode b_Model_common 95 = .ok (.istore_n 3, 1) := by decide +kernel
theorem d_Model_common_96 : decode b_Model_common 96 = .ok (.iinc 4 1, 3) := by decide +kernel
theorem d_Model_common_99 : decode b_Model_common 99 = .ok (.goto (-65), 3) := by decide +kernel
theorem d_Model_common_102 : decode b_Model_common 102 = .ok (.iload_n 3, 1) := by decide +kernel
theorem d_Model_common_103 : decode b_Model_common 103 = .ok (.ireturn, 1) := by decide +kernel
theorem d_Model_sort_0 : decode b_Model_sort 0 = .ok (.aload_n 0, 1) := by decide +kernel
theorem d_Model_sort_1 : decode b_Model_sort 1 = .ok (.iconst 0, 1) := by decide +kernel
theorem d_Model_sort_2 : decode b_Model_sort 2 = .ok (.putfield 51, 3) := by decide +kernel
theorem d_Model_sort_5 : decode b_Model_sort 5 = .ok (.aload_n 0, 1) := by decide +kernel
theorem d_Model_sort_6 : decode b_Model_sort 6 = .ok (.invokevirtual 83, 3) := by decide +kernel
theorem d_Model_sort_9 : decode b_Model_sort 9 = .ok (.aload_n 0, 1) := by decide +kernel
theorem d_Model_sort_10 : decode b_Model_sort 10 = .ok (.iload_n 1, 1) := by decide +kernel
theorem d_Model_sort_11 : decode b_Model_sort 11 = .ok (.iload_n 2, 1) := by decide +kernel
theorem d_Model_sort_12 : decode b_Model_sort 12 = .ok (.invokevirtual 62, 3) := by decide +kernel
theorem d_Model_sort_15 : decode b_Model_sort 15 = .ok (.ifCond .eq 12, 3) := by decide +kernel
theorem d_Model_sort_18 : decode b_Model_sort 18 = .ok (.aload_n 0, 1) := by decide +kernel
theorem d_Model_sort_19 : decode b_Model_sort 19 = .ok (.iload_n 1, 1) := by decide +kernel
theorem d_Model_sort_20 : decode b_Model_sort 20 = .ok (.iload_n 2, 1) := by decide +kernel
theorem d_Model_sort_21 : decode b_Model_sort 21 = .ok (.invokevirtual 76, 3) := by decide +kernel
theorem d_Model_sort_24 : decode b_Model_sort 24 = .ok (.goto 4, 3) := by decide +kernel
theorem d_Model_sort_27 : decode b_Model_sort 27 = .ok (.iconst (-1), 1) := by decide +kernel
theorem d_Model_sort_28 : decode b_Model_sort 28 = .ok (.ireturn, 1) := by decide +kernel
theorem d_Model_inLoop_0 : decode b_Model_inLoop 0 = .ok (.aload_n 0, 1) := by decide +kernel
theorem d_Model_inLoop_1 : decode b_Model_inLoop 1 = .ok (.iconst 0, 1) := by decide +kernel
theorem d_Model_inLoop_2 : decode b_Model_inLoop 2 = .ok (.putfield 51, 3) := by decide +kernel
theorem d_Model_inLoop_5 : decode b_Model_inLoop 5 = .ok (.aload_n 0, 1) := by decide +kernel
theorem d_Model_inLoop_6 : decode b_Model_inLoop 6 = .ok (.invokevirtual 83, 3) := by decide +kernel
theorem d_Model_inLoop_9 : decode b_Model_inLoop 9 = .ok (.aload_n 0, 1) := by decide +kernel
theorem d_Model_inLoop_10 : decode b_Model_inLoop 10 = .ok (.iload_n 1, 1) := by decide +kernel
theorem d_Model_inLoop_11 : decode b_Model_inLoop 11 = .ok (.invokevirtual 54, 3) := by decide +kernel
theorem d_Model_inLoop_14 : decode b_Model_inLoop 14 = .ok (.ifCond .eq 38, 3) := by decide +kernel
theorem d_Model_inLoop_17 : decode b_Model_inLoop 17 = .ok (.aload_n 0, 1) := by decide +kernel
theorem d_Model_inLoop_18 : decode b_Model_inLoop 18 = .ok (.iload_n 2, 1) := by decide +kernel
theorem d_Model_inLoop_19 : decode b_Model_inLoop 19 = .ok (.invokevirtual 54, 3) := by decide +kernel
theorem d_Model_inLoop_22 : decode b_Model_inLoop 22 = .ok (.ifCond .eq 30, 3) := by decide +kernel
theorem d_Model_inLoop_25 : decode b_Model_inLoop 25 = .ok (.aload_n 0, 1) := by decide +kernel
theorem d_Model_inLoop_26 : decode b_Model_inLoop 26 = .ok (.getfield 33, 3) := by decide +kernel
theorem d_Model_inLoop_29 : decode b_Model_inLoop 29 = .ok (.iload_n 1, 1) := by decide +kernel
theorem d_Model_inLoop_30 : decode b_Model_inLoop 30 = .ok (.baload, 1) := by decide +kernel
theorem d_Model_inLoop_31 : decode b_Model_inLoop 31 = .ok (.ifCond .eq 21, 3) := by decide +kernel
theorem d_Model_inLoop_34 : decode b_Model_inLoop 34 = .ok (.aload_n 0, 1) := by decide +kernel
theorem d_Model_inLoop_35 : decode b_Model_inLoop 35 = .ok (.getfield 36, 3) := by decide +kernel
theorem d_Model_inLoop_38 : decode b_Model_inLoop 38 = .ok (.bipush 64, 2) := by decide +kernel
theorem d_Model_inLoop_40 : decode b_Model_inLoop 40 = .ok (.iload_n 1, 1) := by decide +kernel
theorem d_Model_inLoop_41 : decode b_Model_inLoop 41 = .ok (.imul, 1) := by decide +kernel
theorem d_Model_inLoop_42 : decode b_Model_inLoop 42 = .ok (.iload_n 2, 1) := by decide +kernel
theorem d_Model_inLoop_43 : decode b_Model_inLoop 43 = .ok (.iadd, 1) := by decide +kernel
theorem d_Model_inLoop_44 : decode b_Model_inLoop 44 = .ok (.baload, 1) := by decide +kernel
theorem d_Model_inLoop_45 : decode b_Model_inLoop 45 = .ok (.ifCond .eq 7, 3) := by decide +kernel
theorem d_Model_inLoop_48 : decode b_Model_inLoop 48 = .ok (.iconst 1, 1) := by decide +kernel
theorem d_Model_inLoop_49 : decode b_Model_inLoop 49 = .ok (.goto 4, 3) := by decide +kernel
theorem d_Model_inLoop_52 : decode b_Model_inLoop 52 = .ok (.iconst 0, 1) := by decide +kernel
theorem d_Model_inLoop_53 : decode b_Model_inLoop 53 = .ok (.ireturn, 1) := by decide +kernel
theorem d_Model_depthOf_0 : decode b_Model_depthOf 0 = .ok (.iconst 0, 1) := by decide +kernel
theorem d_Model_depthOf_1 : decode b_Model_depthOf 1 = .ok (.istore_n 2, 1) := by decide +kernel
theorem d_Model_depthOf_2 : decode b_Model_depthOf 2 = .ok (.iconst 0, 1) := by decide +kernel
theorem d_Model_depthOf_3 : decode b_Model_depthOf 3 = .ok (.istore_n 3, 1) := by decide +kernel
theorem d_Model_depthOf_4 : decode b_Model_depthOf 4 = .ok (.iload_n 3, 1) := by decide +kernel
theorem d_Model_depthOf_5 : decode b_Model_depthOf 5 = .ok (.aload_n 0, 1) := by decide +kernel
theorem d_Model_depthOf_6 : decode b_Model_depthOf 6 = .ok (.getfield 7, 3) := by decide +kernel
theorem d_Model_depthOf_9 : decode b_Model_depthOf 9 = .ok (.if_icmp .ge 40, 3) := by decide +kernel
theorem d_Model_depthOf_12 : decode b_Model_depthOf 12 = .ok (.iload_n 2, 1) := by decide +kernel
theorem d_Model_depthOf_13 : decode b_Model_depthOf 13 = .ok (.aload_n 0, 1) := by decide +kernel
theorem d_Model_depthOf_14 : decode b_Model_depthOf 14 = .ok (.getfield 33, 3) := by decide +kernel
theorem d_Model_depthOf_17 : decode b_Model_depthOf 17 = .ok (.iload_n 3, 1) := by decide +kernel
theorem d_Model_depthOf_18 : decode b_Model_depthOf 18 = .ok (.baload, 1) := by decide +kernel
theorem d_Model_depthOf_19 : decode b_Model_depthOf 19 = .ok (.ifCond .eq 21, 3) := by decide +kernel
theorem d_Model_depthOf_22 : decode b_Model_depthOf 22 = .ok (.aload_n 0, 1) := by decide +kernel
theorem d_Model_depthOf_23 : decode b_Model_depthOf 23 = .ok (.getfield 36, 3) := by decide +kernel
theorem d_Model_depthOf_26 : decode b_Model_depthOf 26 = .ok (.bipush 64, 2) := by decide +kernel
theorem d_Model_depthOf_28 : decode b_Model_depthOf 28 = .ok (.iload_n 3, 1) := by decide +kernel
theorem d_Model_depthOf_29 : decode b_Model_depthOf 29 = .ok (.imul, 1) := by decide +kernel
theorem d_Model_depthOf_30 : decode b_Model_depthOf 30 = .ok (.iload_n 1, 1) := by decide +kernel
theorem d_Model_depthOf_31 : decode b_Model_depthOf 31 = .ok (.iadd, 1) := by decide +kernel
theorem d_Model_depthOf_32 : decode b_Model_depthOf 32 = .ok (.baload, 1) := by decide +kernel
theorem d_Model_depthOf_33 : decode b_Model_depthOf 33 = .ok (.ifCond .eq 7, 3) := by decide +kernel
theorem d_Model_depthOf_36 : decode b_Model_depthOf 36 = .ok (.iconst 1, 1) := by decide +kernel
theorem d_Model_depthOf_37 : decode b_Model_depthOf 37 = .ok (.goto 4, 3) := by decide +kernel
theorem d_Model_depthOf_40 : decode b_Model_depthOf 40 = .ok (.iconst 0, 1) := by decide +kernel
theorem d_Model_depthOf_41 : decode b_Model_depthOf 41 = .ok (.iadd, 1) := by decide +kernel
theorem d_Model_depthOf_42 : decode b_Model_depthOf 42 = .ok (.istore_n 2, 1) := by decide +kernel
theorem d_Model_depthOf_43 : decode b_Model_depthOf 43 = .ok (.iinc 3 1, 3) := by decide +kernel
theorem d_Model_depthOf_46 : decode b_Model_depthOf 46 = .ok (.goto (-42), 3) := by decide +kernel
theorem d_Model_depthOf_49 : decode b_Model_depthOf 49 = .ok (.iload_n 2, 1) := by decide +kernel
theorem d_Model_depthOf_50 : decode b_Model_depthOf 50 = .ok (.ireturn, 1) := by decide +kernel
theorem d_Model_innermost_0 : decode b_Model_innermost 0 = .ok (.iconst (-1), 1) := by decide +kernel
theorem d_Model_innermost_1 : decode b_Model_innermost 1 = .ok (.istore_n 2, 1) := by decide +kernel
theorem d_Model_innermost_2 : decode b_Model_innermost 2 = .ok (.iconst 0, 1) := by decide +kernel
theorem d_Model_innermost_3 : decode b_Model_innermost 3 = .ok (.istore_n 3, 1) := by decide +kernel
theorem d_Model_innermost_4 : decode b_Model_innermost 4 = .ok (.iload_n 3, 1) := by decide +kernel
theorem d_Model_innermost_5 : decode b_Model_innermost 5 = .ok (.aload_n 0, 1) := by decide +kernel
theorem d_Model_innermost_6 : decode b_Model_innermost 6 = .ok (.getfield 73, 3) := by decide +kernel
theorem d_Model_innermost_9 : decode b_Model_innermost 9 = .ok (.if_icmp .ge 65, 3) := by decide +kernel
theorem d_Model_innermost_12 : decode b_Model_innermost 12 = .ok (.aload_n 0, 1) := by decide +kernel
theorem d_Model_innermost_13 : decode b_Model_innermost 13 = .ok (.getfield 23, 3) := by decide +kernel
theorem d_Model_innermost_16 : decode b_Model_innermost 16 = .ok (.iload_n 3, 1) := by decide +kernel
theorem d_Model_innermost_17 : decode b_Model_innermost 17 = .ok (.iaload, 1) := by decide +kernel
theorem d_Model_innermost_18 : decode b_Model_innermost 18 = .ok (.istore 4, 2) := by decide +kernel
theorem d_Model_innermost_20 : decode b_Model_innermost 20 = .ok (.aload_n 0, 1) := by decide +kernel
theorem d_Model_innermost_21 : decode b_Model_innermost 21 = .ok (.getfield 33, 3) := by decide +kernel
theorem d_Model_innermost_24 : decode b_Model_innermost 24 = .ok (.iload 4, 2) := by decide +kernel
theorem d_Model_innermost_26 : decode b_Model_innermost 26 = .ok (.baload, 1) := by decide +kernel
theorem d_Model_innermost_27 : decode b_Model_innermost 27 = .ok (.ifCond .eq 41, 3) := by decide +kernel
theorem d_Model_innermost_30 : decode b_Model_innermost 30 = .ok (.aload_n 0, 1) := by decide +kernel
theorem d_Model_innermost_31 : decode b_Model_innermost 31 = .ok (.getfield 36, 3) := by decide +kernel
theorem d_Model_innermost_34 : decode b_Model_innermost 34 = .ok (.bipush 64, 2) := by decide +kernel
theorem d_Model_innermost_36 : decode b_Model_innermost 36 = .ok (.iload 4, 2) := by decide +kernel
theorem d_Model_innermost_38 : decode b_Model_innermost 38 = .ok (.imul, 1) := by decide +kernel
theorem d_Model_innermost_39 : decode b_Model_innermost 39 = .ok (.iload_n 1, 1) := by decide +kernel
theorem d_Model_innermost_40 : decode b_Model_innermost 40 = .ok (.iadd, 1) := by decide +kernel
theorem d_Model_innermost_41 : decode b_Model_innermost 41 = .ok (.baload, 1) := by decide +kernel
theorem d_Model_innermost_42 : decode b_Model_innermost 42 = .ok (.ifCond .eq 26, 3) := by decide +kernel
theorem d_Model_innermost_45 : decode b_Model_innermost 45 = .ok (.iload_n 2, 1) := by decide +kernel
theorem d_Model_innermost_46 : decode b_Model_innermost 46 = .ok (.ifCond .lt 19, 3) := by decide +kernel
theorem d_Model_innermost_49 : decode b_Model_innermost 49 = .ok (.aload_n 0, 1) := by decide +kernel
theorem d_Model_innermost_50 : decode b_Model_innermost 50 = .ok (.getfield 39, 3) := by decide +kernel
theorem d_Model_innermost_53 : decode b_Model_innermost 53 = .ok (.iload 4, 2) := by decide +kernel
theorem d_Model_innermost_55 : decode b_Model_innermost 55 = .ok (.iaload, 1) := by decide +kernel
theorem d_Model_innermost_56 : decode b_Model_innermost 56 = .ok (.aload_n 0, 1) := by decide +kernel
theorem d_Model_innermost_57 : decode b_Model_innermost 57 = .ok (.getfield 39, 3) := by decide +kernel
theorem d_Model_innermost_60 : decode b_Model_innermost 60 = .ok (.iload_n 2, 1) := by decide +kernel
theorem d_Model_innermost_61 : decode b_Model_innermost 61 = .ok (.iaload, 1) := by decide +kernel
theorem d_Model_innermost_62 : decode b_Model_innermost 62 = .ok (.if_icmp .gt 6, 3) := by decide +kernel
theorem d_Model_innermost_65 : decode b_Model_innermost 65 = .ok (.iload 4, 2) := by decide +kernel
theorem d_Model_innermost_67 : decode b_Model_innermost 67 = .ok (.istore_n 2, 1) := by decide +kernel
theorem d_Model_innermost_68 : decode b_Model_innermost 68 = .ok (.iinc 3 1, 3) := by decide +kernel
theorem d_Model_innermost_71 : decode b_Model_innermost 71 = .ok (.goto (-67), 3) := by decide +kernel
theorem d_Model_innermost_74 : decode b_Model_innermost 74 = .ok (.iload_n 2, 1) := by decide +kernel
theorem d_Model_innermost_75 : decode b_Model_innermost 75 = .ok (.ireturn, 1) := by decide +kernel
theorem d_Model_look_0 : decode b_Model_look 0 = .ok (.aload_n 0, 1) := by decide +kernel
theorem d_Model_look_1 : decode b_Model_look 1 = .ok (.iconst 0, 1) := by decide +kernel
theorem d_Model_look_2 : decode b_Model_look 2 = .ok (.putfield 51, 3) := by decide +kernel
theorem d_Model_look_5 : decode b_Model_look 5 = .ok (.aload_n 0, 1) := by decide +kernel
theorem d_Model_look_6 : decode b_Model_look 6 = .ok (.invokevirtual 83, 3) := by decide +kernel
theorem d_Model_look_9 : decode b_Model_look 9 = .ok (.aload_n 0, 1) := by decide +kernel
theorem d_Model_look_10 : decode b_Model_look 10 = .ok (.iload_n 1, 1) := by decide +kernel
theorem d_Model_look_11 : decode b_Model_look 11 = .ok (.invokevirtual 54, 3) := by decide +kernel
theorem d_Model_look_14 : decode b_Model_look 14 = .ok (.ifCond .ne 5, 3) := by decide +kernel
theorem d_Model_look_17 : decode b_Model_look 17 = .ok (.iconst (-1), 1) := by decide +kernel
theorem d_Model_look_18 : decode b_Model_look 18 = .ok (.ireturn, 1) := by decide +kernel
theorem d_Model_look_19 : decode b_Model_look 19 = .ok (.iconst 0, 1) := by decide +kernel
theorem d_Model_look_20 : decode b_Model_look 20 = .ok (.istore_n 3, 1) := by decide +kernel
theorem d_Model_look_21 : decode b_Model_look 21 = .ok (.iload_n 2, 1) := by decide +kernel
theorem d_Model_look_22 : decode b_Model_look 22 = .ok (.tableswitch 215 0 6 #[42, 49, 64, 84, 90, 96, 139], 42) := by decide +kernel
theorem d_Model_look_64 : decode b_Model_look 64 = .ok (.aload_n 0, 1) := by decide +kernel
theorem d_Model_look_65 : decode b_Model_look 65 = .ok (.getfield 13, 3) := by decide +kernel
theorem d_Model_look_68 : decode b_Model_look 68 = .ok (.iload_n 1, 1) := by decide +kernel
theorem d_Model_look_69 : decode b_Model_look 69 = .ok (.iaload, 1) := by decide +kernel
theorem d_Model_look_70 : decode b_Model_look 70 = .ok (.ireturn, 1) := by decide +kernel
theorem d_Model_look_71 : decode b_Model_look 71 = .ok (.aload_n 0, 1) := by decide +kernel
theorem d_Model_look_72 : decode b_Model_look 72 = .ok (.getfield 33, 3) := by decide +kernel
theorem d_Model_look_75 : decode b_Model_look 75 = .ok (.iload_n 1, 1) := by decide +kernel
theorem d_Model_look_76 : decode b_Model_look 76 = .ok (.baload, 1) := by decide +kernel
theorem d_Model_look_77 : decode b_Model_look 77 = .ok (.ifCond .eq 7, 3) := by decide +kernel
theorem d_Model_look_80 : decode b_Model_look 80 = .ok (.iconst 1, 1) := by decide +kernel
theorem d_Model_look_81 : decode b_Model_look 81 = .ok (.goto 4, 3) := by decide +kernel
theorem d_Model_look_84 : decode b_Model_look 84 = .ok (.iconst 0, 1) := by decide +kernel
theorem d_Model_look_85 : decode b_Model_look 85 = .ok (.ireturn, 1) := by decide +kernel
theorem d_Model_look_86 : decode b_Model_look 86 = .ok (.aload_n 0, 1) := by decide +kernel
theorem d_Model_look_87 : decode b_Model_look 87 = .ok (.getfield 33, 3) := by decide +kernel
theorem d_Model_look_90 : decode b_Model_look 90 = .ok (.iload_n 1, 1) := by decide +kernel
theorem d_Model_look_91 : decode b_Model_look 91 = .ok (.baload, 1) := by decide +kernel
theorem d_Model_look_92 : decode b_Model_look 92 = .ok (.ifCond .eq 12, 3) := by decide +kernel
theorem d_Model_look_95 : decode b_Model_look 95 = .ok (.aload_n 0, 1) := by decide +kernel
theorem d_Model_look_96 : decode b_Model_look 96 = .ok (.getfield 39, 3) := by decide +kernel
theorem d_Model_look_99 : decode b_Model_look 99 = .ok (.iload_n 1, 1) := by decide +kernel
theorem d_Model_look_100 : decode b_Model_look 100 = .ok (.iaload, 1) := by decide +kernel
theorem d_Model_look_101 : decode b_Model_look 101 = .ok (.goto 4, 3) := by decide +kernel
theorem d_Model_look_104 : decode b_Model_look 104 = .ok (.iconst 0, 1) := by decide +kernel
theorem d_Model_look_105 : decode b_Model_look 105 = .ok (.ireturn, 1) := by decide +kernel
theorem d_Model_look_106 : decode b_Model_look 106 = .ok (.aload_n 0, 1) := by decide +kernel
theorem d_Model_look_107 : decode b_Model_look 107 = .ok (.iload_n 1, 1) := by decide +kernel
theorem d_Model_look_108 : decode b_Model_look 108 = .ok (.invokevirtual 89, 3) := by decide +kernel
theorem d_Model_look_111 : decode b_Model_look 111 = .ok (.ireturn, 1) := by decide +kernel
theorem d_Model_look_112 : decode b_Model_look 112 = .ok (.aload_n 0, 1) := by decide +kernel
theorem d_Model_look_113 : decode b_Model_look 113 = .ok (.iload_n 1, 1) := by decide +kernel
theorem d_Model_look_114 : decode b_Model_look 114 = .ok (.invokevirtual 93, 3) := by decide +kernel
theorem d_Model_look_117 : decode b_Model_look 117 = .ok (.ireturn, 1) := by decide +kernel
theorem d_Model_look_118 : decode b_Model_look 118 = .ok (.iconst 0, 1) := by decide +kernel
theorem d_Model_look_119 : decode b_Model_look 119 = .ok (.istore 4, 2) := by decide +kernel
theorem d_Model_look_121 : decode b_Model_look 121 = .ok (.iload 4, 2) := by decide +kernel
theorem d_Model_look_123 : decode b_Model_look 123 = .ok (.aload_n 0, 1) := by decide +kernel
theorem d_Model_look_124 : decode b_Model_look 124 = .ok (.getfield 7, 3) := by decide +kernel
theorem d_Model_look_127 : decode b_Model_look 127 = .ok (.if_icmp .ge 32, 3) := by decide +kernel
theorem d_Model_look_130 : decode b_Model_look 130 = .ok (.iload_n 3, 1) := by decide +kernel
theorem d_Model_look_131 : decode b_Model_look 131 = .ok (.aload_n 0, 1) := by decide +kernel
theorem d_Model_look_132 : decode b_Model_look 132 = .ok (.getfield 26, 3) := by decide +kernel
theorem d_Model_look_135 : decode b_Model_look 135 = .ok (.bipush 64, 2) := by decide +kernel
theorem d_Model_look_137 : decode b_Model_look 137 = .ok (.iload_n 1, 1) := by decide +kernel
theorem d_Model_look_138 : decode b_Model_look 138 = .ok (.imul, 1) := by decide +kernel
theorem d_Model_look_139 : decode b_Model_look 139 = .ok (.iload 4, 2) := by decide +kernel
theorem d_Model_look_141 : decode b_Model_look 141 = .ok (.iadd, 1) := by decide +kernel
theorem d_Model_look_142 : decode b_Model_look 142 = .ok (.baload, 1) := by decide +kernel
theorem d_Model_look_143 : decode b_Model_look 143 = .ok (.ifCond .eq 7, 3) := by decide +kernel
theorem d_Model_look_146 : decode b_Model_look 146 = .ok (.iconst 1, 1) := by decide +kernel
theorem d_Model_look_147 : decode b_Model_look 147 = .ok (.goto 4, 3) := by decide +kernel
theorem d_Model_look_150 : decode b_Model_look 150 = .ok (.iconst 0, 1) := by decide +kernel
theorem d_Model_look_151 : decode b_Model_look 151 = .ok (.iadd, 1) := by decide +kernel
theorem d_Model_look_152 : decode b_Model_look 152 = .ok (.istore_n 3, 1) := by decide +kernel
theorem d_Model_look_153 : decode b_Model_look 153 = .ok (.iinc 4 1, 3) := by decide +kernel
theorem d_Model_look_156 : decode b_Model_look 156 = .ok (.goto (-35), 3) := by decide +kernel
theorem d_Model_look_159 : decode b_Model_look 159 = .ok (.iload_n 3, 1) := by decide +kernel
theorem d_Model_look_160 : decode b_Model_look 160 = .ok (.ireturn, 1) := by decide +kernel
theorem d_Model_look_161 : decode b_Model_look 161 = .ok (.iconst 0, 1) := by decide +kernel
theorem d_Model_look_162 : decode b_Model_look 162 = .ok (.istore 4, 2) := by decide +kernel
theorem d_Model_look_164 : decode b_Model_look 164 = .ok (.iload 4, 2) := by decide +kernel
theorem d_Model_look_166 : decode b_Model_look 166 = .ok (.aload_n 0, 1) := by decide +kernel
theorem d_Model_look_167 : decode b_Model_look 167 = .ok (.getfield 7, 3) := by decide +kernel
theorem d_Model_look_170 : decode b_Model_look 170 = .ok (.if_icmp .ge 65, 3) := by decide +kernel
theorem d_Model_look_173 : decode b_Model_look 173 = .ok (.iconst 0, 1) := by decide +kernel
theorem d_Model_look_174 : decode b_Model_look 174 = .ok (.istore 5, 2) := by decide +kernel
theorem d_Model_look_176 : decode b_Model_look 176 = .ok (.iload 5, 2) := by decide +kernel
theorem d_Model_look_178 : decode b_Model_look 178 = .ok (.aload_n 0, 1) := by decide +kernel
theorem d_Model_look_179 : decode b_Model_look 179 = .ok (.getfield 13, 3) := by decide +kernel
theorem d_Model_look_182 : decode b_Model_look 182 = .ok (.iload 4, 2) := by decide +kernel
theorem d_Model_look_184 : decode b_Model_look 184 = .ok (.iaload, 1) := by decide +kernel
theorem d_Model_look_185 : decode b_Model_look 185 = .ok (.if_icmp .ge 44, 3) := by decide +kernel
theorem d_Model_look_188 : decode b_Model_look 188 = .ok (.iload_n 3, 1) := by decide +kernel
theorem d_Model_look_189 : decode b_Model_look 189 = .ok (.aload_n 0, 1) := by decide +kernel
theorem d_Model_look_190 : decode b_Model_look 190 = .ok (.getfield 20, 3) := by decide +kernel
theorem d_Model_look_193 : decode b_Model_look 193 = .ok (.iload 4, 2) := by decide +kernel
theorem d_Model_look_195 : decode b_Model_look 195 = .ok (.iaload, 1) := by decide +kernel
theorem d_Model_look_196 : decode b_Model_look 196 = .ok (.ifCond .lt 24, 3) := by decide +kernel
theorem d_Model_look_199 : decode b_Model_look 199 = .ok (.aload_n 0, 1) := by decide +kernel
theorem d_Model_look_200 : decode b_Model_look 200 = .ok (.getfield 17, 3) := by decide +kernel
theorem d_Model_look_203 : decode b_Model_look 203 = .ok (.bipush 8, 2) := by decide +kernel
theorem d_Model_look_205 : decode b_Model_look 205 = .ok (.iload 4, 2) := by decide +kernel
theorem d_Model_look_207 : decode b_Model_look 207 = .ok (.imul, 1) := by decide +kernel
theorem d_Model_look_208 : decode b_Model_look 208 = .ok (.iload 5, 2) := by decide +kernel
theorem d_Model_look_210 : decode b_Model_look 210 = .ok (.iadd, 1) := by decide +kernel
theorem d_Model_look_211 : decode b_Model_look 211 = .ok (.iaload, 1) := by decide +kernel
theorem d_Model_look_212 : decode b_Model_look 212 = .ok (.iload_n 1, 1) := by decide +kernel
theorem d_Model_look_213 : decode b_Model_look 213 = .ok (.if_icmp .ne 7, 3) := by decide +kernel
theorem d_Model_look_216 : decode b_Model_look 216 = .ok (.iconst 1, 1) := by decide +kernel
theorem d_Model_look_217 : decode b_Model_look 217 = .ok (.goto 4, 3) := by decide +kernel
theorem d_Model_look_220 : decode b_Model_look 220 = .ok (.iconst 0, 1) := by decide +kernel
theorem d_Model_look_221 : decode b_Model_look 221 = .ok (.iadd, 1) := by decide +kernel
theorem d_Model_look_222 : decode b_Model_look 222 = .ok (.istore_n 3, 1) := by decide +kernel
theorem d_Model_look_223 : decode b_Model_look 223 = .ok (.iinc 5 1, 3) := by decide +kernel
theorem d_Model_look_226 : decode b_Model_look 226 = .ok (.goto (-50), 3) := by decide +kernel
theorem d_Model_look_229 : decode b_Model_look 229 = .ok (.iinc 4 1, 3) := by decide +kernel
theorem d_Model_look_232 : decode b_Model_look 232 = .ok (.goto (-68), 3) := by decide +kernel
theorem d_Model_look_235 : decode b_Model_look 235 = .ok (.iload_n 3, 1) := by decide +kernel
theorem d_Model_look_236 : decode b_Model_look 236 = .ok (.ireturn, 1) := by decide +kernel
theorem d_Model_look_237 : decode b_Model_look 237 = .ok (.iconst (-1), 1) := by decide +kernel
theorem d_Model_look_238 : decode b_Model_look 238 = .ok (.ireturn, 1) := by decide +kernel
theorem d_Model_isEdge_0 : decode b_Model_isEdge 0 = .ok (.aload_n 0, 1) := by decide +kernel
theorem d_Model_isEdge_1 : decode b_Model_isEdge 1 = .ok (.getfield 20, 3) := by decide +kernel
theorem d_Model_isEdge_4 : decode b_Model_isEdge 4 = .ok (.iload_n 2, 1) := by decide +kernel
theorem d_Model_isEdge_5 : decode b_Model_isEdge 5 = .ok (.iaload, 1) := by decide +kernel
theorem d_Model_isEdge_6 : decode b_Model_isEdge 6 = .ok (.ifCond .lt 22, 3) := by decide +kernel
theorem d_Model_isEdge_9 : decode b_Model_isEdge 9 = .ok (.iload_n 2, 1) := by decide +kernel
theorem d_Model_isEdge_10 : decode b_Model_isEdge 10 = .ok (.iload_n 1, 1) := by decide +kernel
theorem d_Model_isEdge_11 : decode b_Model_isEdge 11 = .ok (.if_icmp .eq 19, 3) := by decide +kernel
theorem d_Model_isEdge_14 : decode b_Model_isEdge 14 = .ok (.aload_n 0, 1) := by decide +kernel
theorem d_Model_isEdge_15 : decode b_Model_isEdge 15 = .ok (.getfield 26, 3) := by decide +kernel
theorem d_Model_isEdge_18 : decode b_Model_isEdge 18 = .ok (.bipush 64, 2) := by decide +kernel
theorem d_Model_isEdge_20 : decode b_Model_isEdge 20 = .ok (.iload_n 1, 1) := by decide +kernel
theorem d_Model_isEdge_21 : decode b_Model_isEdge 21 = .ok (.imul, 1) := by decide +kernel
theorem d_Model_isEdge_22 : decode b_Model_isEdge 22 = .ok (.iload_n 2, 1) := by decide +kernel
theorem d_Model_isEdge_23 : decode b_Model_isEdge 23 = .ok (.iadd, 1) := by decide +kernel
theorem d_Model_isEdge_24 : decode b_Model_isEdge 24 = .ok (.baload, 1) := by decide +kernel
theorem d_Model_isEdge_25 : decode b_Model_isEdge 25 = .ok (.ifCond .eq 5, 3) := by decide +kernel
theorem d_Model_isEdge_28 : decode b_Model_isEdge 28 = .ok (.iconst 0, 1) := by decide +kernel
theorem d_Model_isEdge_29 : decode b_Model_isEdge 29 = .ok (.ireturn, 1) := by decide +kernel
theorem d_Model_isEdge_30 : decode b_Model_isEdge 30 = .ok (.iconst 0, 1) := by decide +kernel
theorem d_Model_isEdge_31 : decode b_Model_isEdge 31 = .ok (.istore_n 3, 1) := by decide +kernel
theorem d_Model_isEdge_32 : decode b_Model_isEdge 32 = .ok (.iconst 0, 1) := by decide +kernel
theorem d_Model_isEdge_33 : decode b_Model_isEdge 33 = .ok (.istore 4, 2) := by decide +kernel
theorem d_Model_isEdge_35 : decode b_Model_isEdge 35 = .ok (.iload 4, 2) := by decide +kernel
theorem d_Model_isEdge_37 : decode b_Model_isEdge 37 = .ok (.aload_n 0, 1) := by decide +kernel
theorem d_Model_isEdge_38 : decode b_Model_isEdge 38 = .ok (.getfield 7, 3) := by decide +kernel
theorem d_Model_isEdge_41 : decode b_Model_isEdge 41 = .ok (.if_icmp .ge 72, 3) := by decide +kernel
theorem d_Model_isEdge_44 : decode b_Model_isEdge 44 = .ok (.iconst 0, 1) := by decide +kernel
theorem d_Model_isEdge_45 : decode b_Model_isEdge 45 = .ok (.istore 5, 2) := by decide +kernel
theorem d_Model_isEdge_47 : decode b_Model_isEdge 47 = .ok (.iload 5, 2) := by decide +kernel
theorem d_Model_isEdge_49 : decode b_Model_isEdge 49 = .ok (.aload_n 0, 1) := by decide +kernel
theorem d_Model_isEdge_50 : decode b_Model_isEdge 50 = .ok (.getfield 13, 3) := by decide +kernel
theorem d_Model_isEdge_53 : decode b_Model_isEdge 53 = .ok (.iload 4, 2) := by decide +kernel
theorem d_Model_isEdge_55 : decode b_Model_isEdge 55 = .ok (.iaload, 1) := by decide +kernel
theorem d_Model_isEdge_56 : decode b_Model_isEdge 56 = .ok (.if_icmp .ge 51, 3) := by decide +kernel
theorem d_Model_isEdge_59 : decode b_Model_isEdge 59 = .ok (.iload_n 3, 1) := by decide +kernel
theorem d_Model_isEdge_60 : decode b_Model_isEdge 60 = .ok (.ifCond .ne 35, 3) := by decide +kernel
theorem d_Model_isEdge_63 : decode b_Model_isEdge 63 = .ok (.aload_n 0, 1) := by decide +kernel
theorem d_Model_isEdge_64 : decode b_Model_isEdge 64 = .ok (.getfield 26, 3) := by decide +kernel
theorem d_Model_isEdge_67 : decode b_Model_isEdge 67 = .ok (.bipush 64, 2) := by decide +kernel
theorem d_Model_isEdge_69 : decode b_Model_isEdge 69 = .ok (.iload_n 1, 1) := by decide +kernel
theorem d_Model_isEdge_70 : decode b_Model_isEdge 70 = .ok (.imul, 1) := by decide +kernel
theorem d_Model_isEdge_71 : decode b_Model_isEdge 71 = .ok (.iload 4, 2) := by decide +kernel
theorem d_Model_isEdge_73 : decode b_Model_isEdge 73 = .ok (.iadd, 1) := by decide +kernel
theorem d_Model_isEdge_74 : decode b_Model_isEdge 74 = .ok (.baload, 1) := by decide +kernel
theorem d_Model_isEdge_75 : decode b_Model_isEdge 75 = .ok (.ifCond .eq 24, 3) := by decide +kernel
theorem d_Model_isEdge_78 : decode b_Model_isEdge 78 = .ok (.aload_n 0, 1) := by decide +kernel
theorem d_Model_isEdge_79 : decode b_Model_isEdge 79 = .ok (.getfield 17, 3) := by decide +kernel
theorem d_Model_isEdge_82 : decode b_Model_isEdge 82 = .ok (.bipush 8, 2) := by decide +kernel
theorem d_Model_isEdge_84 : decode b_Model_isEdge 84 = .ok (.iload 4, 2) := by decide +kernel
theorem d_Model_isEdge_86 : decode b_Model_isEdge 86 = .ok (.imul, 1) := by decide +kernel
theorem d_Model_isEdge_87 : decode b_Model_isEdge 87 = .ok (.iload 5, 2) := by decide +kernel
theorem d_Model_isEdge_89 : decode b_Model_isEdge 89 = .ok (.iadd, 1) := by decide +kernel
theorem d_Model_isEdge_90 : decode b_Model_isEdge 90 = .ok (.iaload, 1) := by decide +kernel
theorem d_Model_isEdge_91 : decode b_Model_isEdge 91 = .ok (.iload_n 2, 1) := by decide +kernel
theorem d_Model_isEdge_92 : decode b_Model_isEdge 92 = .ok (.if_icmp .ne 7, 3) := by decide +kernel
theorem d_Model_isEdge_95 : decode b_Model_isEdge 95 = .ok (.iconst 1, 1) := by decide +kernel
theorem d_Model_isEdge_96 : decode b_Model_isEdge 96 = .ok (.goto 4, 3) := by decide +kernel
theorem d_Model_isEdge_99 : decode b_Model_isEdge 99 = .ok (.iconst 0, 1) := by decide +kernel
theorem d_Model_isEdge_100 : decode b_Model_isEdge 100 = .ok (.istore_n 3, 1) := by decide +kernel
theorem d_Model_isEdge_101 : decode b_Model_isEdge 101 = .ok (.iinc 5 1, 3) := by decide +kernel
theorem d_Model_isEdge_104 : decode b_Model_isEdge 104 = .ok (.goto (-57), 3) := by decide +kernel
theorem d_Model_isEdge_107 : decode b_Model_isEdge 107 = .ok (.iinc 4 1, 3) := by decide +kernel
theorem d_Model_isEdge_110 : decode b_Model_isEdge 110 = .ok (.goto (-75), 3) := by decide +kernel
theorem d_Model_isEdge_113 : decode b_Model_isEdge 113 = .ok (.iload_n 3, 1) := by decide +kernel
theorem d_Model_isEdge_114 : decode b_Model_isEdge 114 = .ok (.ireturn, 1) := by decide +kernel
theorem d_Model_edge_0 : decode b_Model_edge 0 = .ok (.aload_n 0, 1) := by decide +kernel
theorem d_Model_edge_1 : decode b_Model_edge 1 = .ok (.iconst 0, 1) := by decide +kernel
theorem d_Model_edge_2 : decode b_Model_edge 2 = .ok (.putfield 51, 3) := by decide +kernel
theorem d_Model_edge_5 : decode b_Model_edge 5 = .ok (.aload_n 0, 1) := by decide +kernel
theorem d_Model_edge_6 : decode b_Model_edge 6 = .ok (.invokevirtual 83, 3) := by decide +kernel
theorem d_Model_edge_9 : decode b_Model_edge 9 = .ok (.aload_n 0, 1) := by decide +kernel
theorem d_Model_edge_10 : decode b_Model_edge 10 = .ok (.iload_n 1, 1) := by decide +kernel
theorem d_Model_edge_11 : decode b_Model_edge 11 = .ok (.invokevirtual 54, 3) := by decide +kernel
theorem d_Model_edge_14 : decode b_Model_edge 14 = .ok (.ifCond .eq 7, 3) := by decide +kernel
theorem d_Model_edge_17 : decode b_Model_edge 17 = .ok (.iload_n 2, 1) := by decide +kernel
theorem d_Model_edge_18 : decode b_Model_edge 18 = .ok (.ifCond .ge 5, 3) := by decide +kernel
theorem d_Model_edge_21 : decode b_Model_edge 21 = .ok (.iconst (-1), 1) := by decide +kernel
theorem d_Model_edge_22 : decode b_Model_edge 22 = .ok (.ireturn, 1) := by decide +kernel
theorem d_Model_edge_23 : decode b_Model_edge 23 = .ok (.iload_n 2, 1) := by decide +kernel
theorem d_Model_edge_24 : decode b_Model_edge 24 = .ok (.istore_n 3, 1) := by decide +kernel
theorem d_Model_edge_25 : decode b_Model_edge 25 = .ok (.iconst 0, 1) := by decide +kernel
theorem d_Model_edge_26 : decode b_Model_edge 26 = .ok (.istore 4, 2) := by decide +kernel
theorem d_Model_edge_28 : decode b_Model_edge 28 = .ok (.iload 4, 2) := by decide +kernel
theorem d_Model_edge_30 : decode b_Model_edge 30 = .ok (.aload_n 0, 1) := by decide +kernel
theorem d_Model_edge_31 : decode b_Model_edge 31 = .ok (.getfield 7, 3) := by decide +kernel
theorem d_Model_edge_34 : decode b_Model_edge 34 = .ok (.if_icmp .ge 32, 3) := by decide +kernel
theorem d_Model_edge_37 : decode b_Model_edge 37 = .ok (.aload_n 0, 1) := by decide +kernel
theorem d_Model_edge_38 : decode b_Model_edge 38 = .ok (.iload_n 1, 1) := by decide +kernel
theorem d_Model_edge_39 : decode b_Model_edge 39 = .ok (.iload 4, 2) := by decide +kernel
theorem d_Model_edge_41 : decode b_Model_edge 41 = .ok (.invokevirtual 96, 3) := by decide +kernel
theorem d_Model_edge_44 : decode b_Model_edge 44 = .ok (.ifCond .ne 6, 3) := by decide +kernel
theorem d_Model_edge_47 : decode b_Model_edge 47 = .ok (.goto 13, 3) := by decide +kernel
theorem d_Model_edge_50 : decode b_Model_edge 50 = .ok (.iload_n 3, 1) := by decide +kernel
theorem d_Model_edge_51 : decode b_Model_edge 51 = .ok (.ifCond .ne 6, 3) := by decide +kernel
theorem d_Model_edge_54 : decode b_Model_edge 54 = .ok (.iload 4, 2) := by decide +kernel
theorem d_Model_edge_56 : decode b_Model_edge 56 = .ok (.ireturn, 1) := by decide +kernel
theorem d_Model_edge_57 : decode b_Model_edge 57 = .ok (.iinc 3 (-1), 3) := by decide +kernel
theorem d_Model_edge_60 : decode b_Model_edge 60 = .ok (.iinc 4 1, 3) := by decide +kernel
theorem d_Model_edge_63 : decode b_Model_edge 63 = .ok (.goto (-35), 3) := by decide +kernel
theorem d_Model_edge_66 : decode b_Model_edge 66 = .ok (.iconst (-1), 1) := by decide +kernel
theorem d_Model_edge_67 : decode b_Model_edge 67 = .ok (.ireturn, 1) := by decide +kernel
theorem d_Model_count_0 : decode b_Model_count 0 = .ok (.aload_n 0, 1) := by decide +kernel
theorem d_Model_count_1 : decode b_Model_count 1 = .ok (.iconst 0, 1) := by decide +kernel
theorem d_Model_count_2 : decode b_Model_count 2 = .ok (.putfield 51, 3) := by decide +kernel
theorem d_Model_count_5 : decode b_Model_count 5 = .ok (.aload_n 0, 1) := by decide +kernel
theorem d_Model_count_6 : decode b_Model_count 6 = .ok (.invokevirtual 83, 3) := by decide +kernel
theorem d_Model_count_9 : decode b_Model_count 9 = .ok (.iconst 0, 1) := by decide +kernel
theorem d_Model_count_10 : decode b_Model_count 10 = .ok (.istore_n 2, 1) := by decide +kernel
theorem d_Model_count_11 : decode b_Model_count 11 = .ok (.iconst 0, 1) := by decide +kernel
theorem d_Model_count_12 : decode b_Model_count 12 = .ok (.istore_n 3, 1) := by decide +kernel
theorem d_Model_count_13 : decode b_Model_count 13 = .ok (.iconst 0, 1) := by decide +kernel
theorem d_Model_count_14 : decode b_Model_count 14 = .ok (.istore 4, 2) := by decide +kernel
theorem d_Model_count_16 : decode b_Model_count 16 = .ok (.iconst 0, 1) := by decide +kernel
theorem d_Model_count_17 : decode b_Model_count 17 = .ok (.istore 5, 2) := by decide +kernel
theorem d_Model_count_19 : decode b_Model_count 19 = .ok (.iconst 0, 1) := by decide +kernel
theorem d_Model_count_20 : decode b_Model_count 20 = .ok (.istore 6, 2) := by decide +kernel
theorem d_Model_count_22 : decode b_Model_count 22 = .ok (.iconst 0, 1) := by decide +kernel
theorem d_Model_count_23 : decode b_Model_count 23 = .ok (.istore 7, 2) := by decide +kernel
theorem d_Model_count_25 : decode b_Model_count 25 = .ok (.iload 7, 2) := by decide +kernel
theorem d_Model_count_27 : decode b_Model_count 27 = .ok (.aload_n 0, 1) := by decide +kernel
theorem d_Model_count_28 : decode b_Model_count 28 = .ok (.getfield 7, 3) := by decide +kernel
theorem d_Model_count_31 : decode b_Model_count 31 = .ok (.if_icmp .ge 125, 3) := by decide +kernel
theorem d_Model_count_34 : decode b_Model_count 34 = .ok (.iload_n 2, 1) := by decide +kernel
theorem d_Model_count_35 : decode b_Model_count 35 = .ok (.aload_n 0, 1) := by decide +kernel
theorem d_Model_count_36 : decode b_Model_count 36 = .ok (.getfield 13, 3) := by decide +kernel
theorem d_Model_count_39 : decode b_Model_count 39 = .ok (.iload 7, 2) := by decide +kernel
theorem d_Model_count_41 : decode b_Model_count 41 = .ok (.iaload, 1) := by decide +kernel
theorem d_Model_count_42 : decode b_Model_count 42 = .ok (.iadd, 1) := by decide +kernel
theorem d_Model_count_43 : decode b_Model_count 43 = .ok (.istore_n 2, 1) := by decide +kernel
theorem d_Model_count_44 : decode b_Model_count 44 = .ok (.iload_n 3, 1) := by decide +kernel
theorem d_Model_count_45 : decode b_Model_count 45 = .ok (.aload_n 0, 1) := by decide +kernel
theorem d_Model_count_46 : decode b_Model_count 46 = .ok (.getfield 33, 3) := by decide +kernel
theorem d_Model_count_49 : decode b_Model_count 49 = .ok (.iload 7, 2) := by decide +kernel
theorem d_Model_count_51 : decode b_Model_count 51 = .ok (.baload, 1) := by decide +kernel
theorem d_Model_count_52 : decode b_Model_count 52 = .ok (.ifCond .eq 7, 3) := by decide +kernel
theorem d_Model_count_55 : decode b_Model_count 55 = .ok (.iconst 1, 1) := by decide +kernel
theorem d_Model_count_56 : decode b_Model_count 56 = .ok (.goto 4, 3) := by decide +kernel
theorem d_Model_count_59 : decode b_Model_count 59 = .ok (.iconst 0, 1) := by decide +kernel
theorem d_Model_count_60 : decode b_Model_count 60 = .ok (.iadd, 1) := by decide +kernel
theorem d_Model_count_61 : decode b_Model_count 61 = .ok (.istore_n 3, 1) := by decide +kernel
theorem d_Model_count_62 : decode b_Model_count 62 = .ok (.aload_n 0, 1) := by decide +kernel
theorem d_Model_count_63 : decode b_Model_count 63 = .ok (.iload 7, 2) := by decide +kernel
theorem d_Model_count_65 : decode b_Model_count 65 = .ok (.invokevirtual 89, 3) := by decide +kernel
theorem d_Model_count_68 : decode b_Model_count 68 = .ok (.iload 6, 2) := by decide +kernel
theorem d_Model_count_70 : decode b_Model_count 70 = .ok (.if_icmp .le 12, 3) := by decide +kernel
theorem d_Model_count_73 : decode b_Model_count 73 = .ok (.aload_n 0, 1) := by decide +kernel
theorem d_Model_count_74 : decode b_Model_count 74 = .ok (.iload 7, 2) := by decide +kernel
theorem d_Model_count_76 : decode b_Model_count 76 = .ok (.invokevirtual 89, 3) := by decide +kernel
theorem d_Model_count_79 : decode b_Model_count 79 = .ok (.goto 5, 3) := by decide +kernel
theorem d_Model_count_82 : decode b_Model_count 82 = .ok (.iload 6, 2) := by decide +kernel
theorem d_Model_count_84 : decode b_Model_count 84 = .ok (.istore 6, 2) := by decide +kernel
theorem d_Model_count_86 : decode b_Model_count 86 = .ok (.iconst 0, 1) := by decide +kernel
theorem d_Model_count_87 : decode b_Model_count 87 = .ok (.istore 8, 2) := by decide +kernel
theorem d_Model_count_89 : decode b_Model_count 89 = .ok (.iload 8, 2) := by decide +kernel
theorem d_Model_count_91 : decode b_Model_count 91 = .ok (.aload_n 0, 1) := by decide +kernel
theorem d_Model_count_92 : decode b_Model_count 92 = .ok (.getfield 13, 3) := by decide +kernel
theorem d_Model_count_95 : decode b_Model_count 95 = .ok (.iload 7, 2) := by decide +kernel
theorem d_Model_count_97 : decode b_Model_count 97 = .ok (.iaload, 1) := by decide +kernel
theorem d_Model_count_98 : decode b_Model_count 98 = .ok (.if_icmp .ge 52, 3) := by decide +kernel
theorem d_Model_count_101 : decode b_Model_count 101 = .ok (.iload 4, 2) := by decide +kernel
theorem d_Model_count_103 : decode b_Model_count 103 = .ok (.aload_n 0, 1) := by decide +kernel
theorem d_Model_count_104 : decode b_Model_count 104 = .ok (.iload 7, 2) := by decide +kernel
theorem d_Model_count_106 : decode b_Model_count 106 = .ok (.iload 8, 2) := by decide +kernel
theorem d_Model_count_108 : decode b_Model_count 108 = .ok (.invokevirtual 76, 3) := by decide +kernel
theorem d_Model_count_111 : decode b_Model_count 111 = .ok (.ifCond .le 7, 3) := by decide +kernel
theorem d_Model_count_114 : decode b_Model_count 114 = .ok (.iconst 1, 1) := by decide +kernel
theorem d_Model_count_115 : decode b_Model_count 115 = .ok (.goto 4, 3) := by decide +kernel
theorem d_Model_count_118 : decode b_Model_count 118 = .ok (.iconst 0, 1) := by decide +kernel
theorem d_Model_count_119 : decode b_Model_count 119 = .ok (.iadd, 1) := by decide +kernel
theorem d_Model_count_120 : decode b_Model_count 120 = .ok (.istore 4, 2) := by decide +kernel
theorem d_Model_count_122 : decode b_Model_count 122 = .ok (.iload 5, 2) := by decide +kernel
theorem d_Model_count_124 : decode b_Model_count 124 = .ok (.aload_n 0, 1) := by decide +kernel
theorem d_Model_count_125 : decode b_Model_count 125 = .ok (.iload 7, 2) := by decide +kernel
theorem d_Model_count_127 : decode b_Model_count 127 = .ok (.iload 8, 2) := by decide +kernel
theorem d_Model_count_129 : decode b_Model_count 129 = .ok (.invokevirtual 76, 3) := by decide +kernel
theorem d_Model_count_132 : decode b_Model_count 132 = .ok (.iconst 2, 1) := by decide +kernel
theorem d_Model_count_133 : decode b_Model_count 133 = .ok (.if_icmp .ne 7, 3) := by decide +kernel
theorem d_Model_count_136 : decode b_Model_count 136 = .ok (.iconst 1, 1) := by decide +kernel
theorem d_Model_count_137 : decode b_Model_count 137 = .ok (.goto 4, 3) := by decide +kernel
theorem d_Model_count_140 : decode b_Model_count 140 = .ok (.iconst 0, 1) := by decide +kernel
theorem d_Model_count_141 : decode b_Model_count 141 = .ok (.iadd, 1) := by decide +kernel
theorem d_Model_count_142 : decode b_Model_count 142 = .ok (.istore 5, 2) := by decide +kernel
theorem d_Model_count_144 : decode b_Model_count 144 = .ok (.iinc 8 1, 3) := by decide +kernel
theorem d_Model_count_147 : decode b_Model_count 147 = .ok (.goto (-58), 3) := by decide +kernel
theorem d_Model_count_150 : decode b_Model_count 150 = .ok (.iinc 7 1, 3) := by decide +kernel
theorem d_Model_count_153 : decode b_Model_count 153 = .ok (.goto (-128), 3) := by decide +kernel
theorem d_Model_count_156 : decode b_Model_count 156 = .ok (.iload_n 1, 1) := by decide +kernel
theorem d_Model_count_157 : decode b_Model_count 157 = .ok (.ifCond .ne 10, 3) := by decide +kernel
theorem d_Model_count_160 : decode b_Model_count 160 = .ok (.aload_n 0, 1) := by decide +kernel
theorem d_Model_count_161 : decode b_Model_count 161 = .ok (.getfield 7, 3) := by decide +kernel
theorem d_Model_count_164 : decode b_Model_count 164 = .ok (.goto 65, 3) := by decide +kernel
theorem d_Model_count_167 : decode b_Model_count 167 = .ok (.iload_n 1, 1) := by decide +kernel
theorem d_Model_count_168 : decode b_Model_count 168 = .ok (.iconst 1, 1) := by decide +kernel
theorem d_Model_count_169 : decode b_Model_count 169 = .ok (.if_icmp .ne 7, 3) := by decide +kernel
theorem d_Model_count_172 : decode b_Model_count 172 = .ok (.iload_n 2, 1) := by decide +kernel
theorem d_Model_count_173 : decode b_Model_count 173 = .ok (.goto 56, 3) := by decide +kernel
theorem d_Model_count_176 : decode b_Model_count 176 = .ok (.iload_n 1, 1) := by decide +kernel
theorem d_Model_count_177 : decode b_Model_count 177 = .ok (.iconst 2, 1) := by decide +kernel
theorem d_Model_count_178 : decode b_Model_count 178 = .ok (.if_icmp .ne 10, 3) := by decide +kernel
theorem d_Model_count_181 : decode b_Model_count 181 = .ok (.aload_n 0, 1) := by decide +kernel
theorem d_Model_count_182 : decode b_Model_count 182 = .ok (.getfield 73, 3) := by decide +kernel
theorem d_Model_count_185 : decode b_Model_count 185 = .ok (.goto 44, 3) := by decide +kernel
theorem d_Model_count_188 : decode b_Model_count 188 = .ok (.iload_n 1, 1) := by decide +kernel
theorem d_Model_count_189 : decode b_Model_count 189 = .ok (.iconst 3, 1) := by decide +kernel
theorem d_Model_count_190 : decode b_Model_count 190 = .ok (.if_icmp .ne 7, 3) := by decide +kernel
theorem d_Model_count_193 : decode b_Model_count 193 = .ok (.iload_n 3, 1) := by decide +kernel
theorem d_Model_count_194 : decode b_Model_count 194 = .ok (.goto 35, 3) := by decide +kernel
theorem d_Model_count_197 : decode b_Model_count 197 = .ok (.iload_n 1, 1) := by decide +kernel
theorem d_Model_count_198 : decode b_Model_count 198 = .ok (.iconst 4, 1) := by decide +kernel
theorem d_Model_count_199 : decode b_Model_count 199 = .ok (.if_icmp .ne 8, 3) := by decide +kernel
theorem d_Model_count_202 : decode b_Model_count 202 = .ok (.iload 4, 2) := by decide +kernel
theorem d_Model_count_204 : decode b_Model_count 204 = .ok (.goto 25, 3) := by decide +kernel
theorem d_Model_count_207 : decode b_Model_count 207 = .ok (.iload_n 1, 1) := by decide +kernel
theorem d_Model_count_208 : decode b_Model_count 208 = .ok (.iconst 5, 1) := by decide +kernel
theorem d_Model_count_209 : decode b_Model_count 209 = .ok (.if_icmp .ne 8, 3) := by decide +kernel
theorem d_Model_count_212 : decode b_Model_count 212 = .ok (.iload 5, 2) := by decide +kernel
theorem d_Model_count_214 : decode b_Model_count 214 = .ok (.goto 15, 3) := by decide +kernel
theorem d_Model_count_217 : decode b_Model_count 217 = .ok (.iload_n 1, 1) := by decide +kernel
theorem d_Model_count_218 : decode b_Model_count 218 = .ok (.bipush 6, 2) := by decide +kernel
theorem d_Model_count_220 : decode b_Model_count 220 = .ok (.if_icmp .ne 8, 3) := by decide +kernel
theorem d_Model_count_223 : decode b_Model_count 223 = .ok (.iload 6, 2) := by decide +kernel
theorem d_Model_count_225 : decode b_Model_count 225 = .ok (.goto 4, 3) := by decide +kernel
theorem d_Model_count_228 : decode b_Model_count 228 = .ok (.iconst (-1), 1) := by decide +kernel
theorem d_Model_count_229 : decode b_Model_count 229 = .ok (.ireturn, 1) := by decide +kernel
