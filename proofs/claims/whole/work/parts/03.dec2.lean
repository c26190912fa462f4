theorem dX7_init_0 : decode cX7_init 0 = .ok (.aload_n 0, 1) := by decide +kernel
theorem dX7_init_1 : decode cX7_init 1 = .ok (.invokespecial 1, 3) := by decide +kernel
theorem dX7_init_4 : decode cX7_init 4 = .ok (.aload_n 0, 1) := by decide +kernel
theorem dX7_init_5 : decode cX7_init 5 = .ok (.bipush 83, 2) := by decide +kernel
theorem dX7_init_7 : decode cX7_init 7 = .ok (.newarray .int, 2) := by decide +kernel
theorem dX7_init_9 : decode cX7_init 9 = .ok (.putfield 7, 3) := by decide +kernel
theorem dX7_init_12 : decode cX7_init 12 = .ok (.aload_n 0, 1) := by decide +kernel
theorem dX7_init_13 : decode cX7_init 13 = .ok (.bipush 83, 2) := by decide +kernel
theorem dX7_init_15 : decode cX7_init 15 = .ok (.newarray .int, 2) := by decide +kernel
theorem dX7_init_17 : decode cX7_init 17 = .ok (.putfield 13, 3) := by decide +kernel
theorem dX7_init_20 : decode cX7_init 20 = .ok (.aload_n 0, 1) := by decide +kernel
theorem dX7_init_21 : decode cX7_init 21 = .ok (.sipush 415, 3) := by decide +kernel
theorem dX7_init_24 : decode cX7_init 24 = .ok (.newarray .int, 2) := by decide +kernel
theorem dX7_init_26 : decode cX7_init 26 = .ok (.putfield 16, 3) := by decide +kernel
theorem dX7_init_29 : decode cX7_init 29 = .ok (.aload_n 0, 1) := by decide +kernel
theorem dX7_init_30 : decode cX7_init 30 = .ok (.iconst 3, 1) := by decide +kernel
theorem dX7_init_31 : decode cX7_init 31 = .ok (.newarray .int, 2) := by decide +kernel
theorem dX7_init_33 : decode cX7_init 33 = .ok (.putfield 19, 3) := by decide +kernel
theorem dX7_init_36 : decode cX7_init 36 = .ok (.aload_n 0, 1) := by decide +kernel
theorem dX7_init_37 : decode cX7_init 37 = .ok (.bipush 120, 2) := by decide +kernel
theorem dX7_init_39 : decode cX7_init 39 = .ok (.newarray .int, 2) := by decide +kernel
theorem dX7_init_41 : decode cX7_init 41 = .ok (.putfield 22, 3) := by decide +kernel
theorem dX7_init_44 : decode cX7_init 44 = .ok (.aload_n 0, 1) := by decide +kernel
theorem dX7_init_45 : decode cX7_init 45 = .ok (.iconst 4, 1) := by decide +kernel
theorem dX7_init_46 : decode cX7_init 46 = .ok (.newarray .int, 2) := by decide +kernel
theorem dX7_init_48 : decode cX7_init 48 = .ok (.putfield 25, 3) := by decide +kernel
theorem dX7_init_51 : decode cX7_init 51 = .ok (.aload_n 0, 1) := by decide +kernel
theorem dX7_init_52 : decode cX7_init 52 = .ok (.bipush 8, 2) := by decide +kernel
theorem dX7_init_54 : decode cX7_init 54 = .ok (.newarray .int, 2) := by decide +kernel
theorem dX7_init_56 : decode cX7_init 56 = .ok (.putfield 28, 3) := by decide +kernel
theorem dX7_init_59 : decode cX7_init 59 = .ok (.aload_n 0, 1) := by decide +kernel
theorem dX7_init_60 : decode cX7_init 60 = .ok (.bipush 24, 2) := by decide +kernel
theorem dX7_init_62 : decode cX7_init 62 = .ok (.newarray .int, 2) := by decide +kernel
theorem dX7_init_64 : decode cX7_init 64 = .ok (.putfield 31, 3) := by decide +kernel
theorem dX7_init_67 : decode cX7_init 67 = .ok (.aload_n 0, 1) := by decide +kernel
theorem dX7_init_68 : decode cX7_init 68 = .ok (.bipush 24, 2) := by decide +kernel
theorem dX7_init_70 : decode cX7_init 70 = .ok (.newarray .int, 2) := by decide +kernel
theorem dX7_init_72 : decode cX7_init 72 = .ok (.putfield 34, 3) := by decide +kernel
theorem dX7_init_75 : decode cX7_init 75 = .ok (.aload_n 0, 1) := by decide +kernel
theorem dX7_init_76 : decode cX7_init 76 = .ok (.bipush 61, 2) := by decide +kernel
theorem dX7_init_78 : decode cX7_init 78 = .ok (.newarray .int, 2) := by decide +kernel
theorem dX7_init_80 : decode cX7_init 80 = .ok (.putfield 37, 3) := by decide +kernel
theorem dX7_init_83 : decode cX7_init 83 = .ok (.aload_n 0, 1) := by decide +kernel
theorem dX7_init_84 : decode cX7_init 84 = .ok (.sipush 183, 3) := by decide +kernel
theorem dX7_init_87 : decode cX7_init 87 = .ok (.newarray .int, 2) := by decide +kernel
theorem dX7_init_89 : decode cX7_init 89 = .ok (.putfield 40, 3) := by decide +kernel
theorem dX7_init_92 : decode cX7_init 92 = .ok (.return_, 1) := by decide +kernel
theorem dX7_bad_0 : decode cX7_bad 0 = .ok (.aload_n 0, 1) := by decide +kernel
theorem dX7_bad_1 : decode cX7_bad 1 = .ok (.getfield 19, 3) := by decide +kernel
theorem dX7_bad_4 : decode cX7_bad 4 = .ok (.iconst 0, 1) := by decide +kernel
theorem dX7_bad_5 : decode cX7_bad 5 = .ok (.dup2, 1) := by decide +kernel
theorem dX7_bad_6 : decode cX7_bad 6 = .ok (.iaload, 1) := by decide +kernel
theorem dX7_bad_7 : decode cX7_bad 7 = .ok (.iconst 1, 1) := by decide +kernel
theorem dX7_bad_8 : decode cX7_bad 8 = .ok (.iadd, 1) := by decide +kernel
theorem dX7_bad_9 : decode cX7_bad 9 = .ok (.iastore, 1) := by decide +kernel
theorem dX7_bad_10 : decode cX7_bad 10 = .ok (.bipush (-2), 2) := by decide +kernel
theorem dX7_bad_12 : decode cX7_bad 12 = .ok (.ireturn, 1) := by decide +kernel
theorem dX7_no_0 : decode cX7_no 0 = .ok (.aload_n 0, 1) := by decide +kernel
theorem dX7_no_1 : decode cX7_no 1 = .ok (.getfield 19, 3) := by decide +kernel
theorem dX7_no_4 : decode cX7_no 4 = .ok (.iconst 1, 1) := by decide +kernel
theorem dX7_no_5 : decode cX7_no 5 = .ok (.dup2, 1) := by decide +kernel
theorem dX7_no_6 : decode cX7_no 6 = .ok (.iaload, 1) := by decide +kernel
theorem dX7_no_7 : decode cX7_no 7 = .ok (.iconst 1, 1) := by decide +kernel
theorem dX7_no_8 : decode cX7_no 8 = .ok (.iadd, 1) := by decide +kernel
theorem dX7_no_9 : decode cX7_no 9 = .ok (.iastore, 1) := by decide +kernel
theorem dX7_no_10 : decode cX7_no 10 = .ok (.bipush (-3), 2) := by decide +kernel
theorem dX7_no_12 : decode cX7_no 12 = .ok (.ireturn, 1) := by decide +kernel
theorem dX7_full_0 : decode cX7_full 0 = .ok (.aload_n 0, 1) := by decide +kernel
theorem dX7_full_1 : decode cX7_full 1 = .ok (.getfield 19, 3) := by decide +kernel
theorem dX7_full_4 : decode cX7_full 4 = .ok (.iconst 2, 1) := by decide +kernel
theorem dX7_full_5 : decode cX7_full 5 = .ok (.dup2, 1) := by decide +kernel
theorem dX7_full_6 : decode cX7_full 6 = .ok (.iaload, 1) := by decide +kernel
theorem dX7_full_7 : decode cX7_full 7 = .ok (.iconst 1, 1) := by decide +kernel
theorem dX7_full_8 : decode cX7_full 8 = .ok (.iadd, 1) := by decide +kernel
theorem dX7_full_9 : decode cX7_full 9 = .ok (.iastore, 1) := by decide +kernel
theorem dX7_full_10 : decode cX7_full 10 = .ok (.bipush (-4), 2) := by decide +kernel
theorem dX7_full_12 : decode cX7_full 12 = .ok (.ireturn, 1) := by decide +kernel
theorem dX7_within_0 : decode cX7_within 0 = .ok (.iload_n 0, 1) := by decide +kernel
theorem dX7_within_1 : decode cX7_within 1 = .ok (.iload_n 1, 1) := by decide +kernel
theorem dX7_within_2 : decode cX7_within 2 = .ok (.if_icmp .lt 12, 3) := by decide +kernel
theorem dX7_within_5 : decode cX7_within 5 = .ok (.iload_n 0, 1) := by decide +kernel
theorem dX7_within_6 : decode cX7_within 6 = .ok (.iload_n 2, 1) := by decide +kernel
theorem dX7_within_7 : decode cX7_within 7 = .ok (.if_icmp .gt 7, 3) := by decide +kernel
theorem dX7_within_10 : decode cX7_within 10 = .ok (.iconst 1, 1) := by decide +kernel
theorem dX7_within_11 : decode cX7_within 11 = .ok (.goto 4, 3) := by decide +kernel
theorem dX7_within_14 : decode cX7_within 14 = .ok (.iconst 0, 1) := by decide +kernel
theorem dX7_within_15 : decode cX7_within 15 = .ok (.ireturn, 1) := by decide +kernel
theorem dX7_isBit_0 : decode cX7_isBit 0 = .ok (.iload_n 0, 1) := by decide +kernel
theorem dX7_isBit_1 : decode cX7_isBit 1 = .ok (.ifCond .eq 8, 3) := by decide +kernel
theorem dX7_isBit_4 : decode cX7_isBit 4 = .ok (.iload_n 0, 1) := by decide +kernel
theorem dX7_isBit_5 : decode cX7_isBit 5 = .ok (.iconst 1, 1) := by decide +kernel
theorem dX7_isBit_6 : decode cX7_isBit 6 = .ok (.if_icmp .ne 7, 3) := by decide +kernel
theorem dX7_isBit_9 : decode cX7_isBit 9 = .ok (.iconst 1, 1) := by decide +kernel
theorem dX7_isBit_10 : decode cX7_isBit 10 = .ok (.goto 4, 3) := by decide +kernel
theorem dX7_isBit_13 : decode cX7_isBit 13 = .ok (.iconst 0, 1) := by decide +kernel
theorem dX7_isBit_14 : decode cX7_isBit 14 = .ok (.ireturn, 1) := by decide +kernel
theorem dX7_has_0 : decode cX7_has 0 = .ok (.iload_n 0, 1) := by decide +kernel
theorem dX7_has_1 : decode cX7_has 1 = .ok (.iload_n 1, 1) := by decide +kernel
theorem dX7_has_2 : decode cX7_has 2 = .ok (.ishr, 1) := by decide +kernel
theorem dX7_has_3 : decode cX7_has 3 = .ok (.iconst 1, 1) := by decide +kernel
theorem dX7_has_4 : decode cX7_has 4 = .ok (.iand, 1) := by decide +kernel
theorem dX7_has_5 : decode cX7_has 5 = .ok (.iconst 1, 1) := by decide +kernel
theorem dX7_has_6 : decode cX7_has 6 = .ok (.if_icmp .ne 7, 3) := by decide +kernel
theorem dX7_has_9 : decode cX7_has 9 = .ok (.iconst 1, 1) := by decide +kernel
theorem dX7_has_10 : decode cX7_has 10 = .ok (.goto 4, 3) := by decide +kernel
theorem dX7_has_13 : decode cX7_has 13 = .ok (.iconst 0, 1) := by decide +kernel
theorem dX7_has_14 : decode cX7_has 14 = .ok (.ireturn, 1) := by decide +kernel
theorem dX7_chips_0 : decode cX7_chips 0 = .ok (.aload_n 0, 1) := by decide +kernel
theorem dX7_chips_1 : decode cX7_chips 1 = .ok (.getfield 7, 3) := by decide +kernel
theorem dX7_chips_4 : decode cX7_chips 4 = .ok (.iconst 0, 1) := by decide +kernel
theorem dX7_chips_5 : decode cX7_chips 5 = .ok (.iaload, 1) := by decide +kernel
theorem dX7_chips_6 : decode cX7_chips 6 = .ok (.ireturn, 1) := by decide +kernel
theorem dX7_isChip_0 : decode cX7_isChip 0 = .ok (.iload_n 1, 1) := by decide +kernel
theorem dX7_isChip_1 : decode cX7_isChip 1 = .ok (.iconst 0, 1) := by decide +kernel
theorem dX7_isChip_2 : decode cX7_isChip 2 = .ok (.aload_n 0, 1) := by decide +kernel
theorem dX7_isChip_3 : decode cX7_isChip 3 = .ok (.getfield 7, 3) := by decide +kernel
theorem dX7_isChip_6 : decode cX7_isChip 6 = .ok (.iconst 0, 1) := by decide +kernel
theorem dX7_isChip_7 : decode cX7_isChip 7 = .ok (.iaload, 1) := by decide +kernel
theorem dX7_isChip_8 : decode cX7_isChip 8 = .ok (.iconst 1, 1) := by decide +kernel
theorem dX7_isChip_9 : decode cX7_isChip 9 = .ok (.isub, 1) := by decide +kernel
theorem dX7_isChip_10 : decode cX7_isChip 10 = .ok (.invokestatic 43, 3) := by decide +kernel
theorem dX7_isChip_13 : decode cX7_isChip 13 = .ok (.ireturn, 1) := by decide +kernel
theorem dX7_at_0 : decode cX7_at 0 = .ok (.bipush 7, 2) := by decide +kernel
theorem dX7_at_2 : decode cX7_at 2 = .ok (.bipush 19, 2) := by decide +kernel
theorem dX7_at_4 : decode cX7_at 4 = .ok (.iload_n 0, 1) := by decide +kernel
theorem dX7_at_5 : decode cX7_at 5 = .ok (.imul, 1) := by decide +kernel
theorem dX7_at_6 : decode cX7_at 6 = .ok (.iadd, 1) := by decide +kernel
theorem dX7_at_7 : decode cX7_at 7 = .ok (.iload_n 1, 1) := by decide +kernel
theorem dX7_at_8 : decode cX7_at 8 = .ok (.iadd, 1) := by decide +kernel
theorem dX7_at_9 : decode cX7_at 9 = .ok (.ireturn, 1) := by decide +kernel
theorem dX7_get_0 : decode cX7_get 0 = .ok (.aload_n 0, 1) := by decide +kernel
theorem dX7_get_1 : decode cX7_get 1 = .ok (.getfield 7, 3) := by decide +kernel
theorem dX7_get_4 : decode cX7_get 4 = .ok (.iload_n 1, 1) := by decide +kernel
theorem dX7_get_5 : decode cX7_get 5 = .ok (.iload_n 2, 1) := by decide +kernel
theorem dX7_get_6 : decode cX7_get 6 = .ok (.invokestatic 47, 3) := by decide +kernel
theorem dX7_get_9 : decode cX7_get 9 = .ok (.iaload, 1) := by decide +kernel
theorem dX7_get_10 : decode cX7_get 10 = .ok (.ireturn, 1) := by decide +kernel
theorem dX7_isCell_0 : decode cX7_isCell 0 = .ok (.aload_n 0, 1) := by decide +kernel
theorem dX7_isCell_1 : decode cX7_isCell 1 = .ok (.iload_n 1, 1) := by decide +kernel
theorem dX7_isCell_2 : decode cX7_isCell 2 = .ok (.invokevirtual 51, 3) := by decide +kernel
theorem dX7_isCell_5 : decode cX7_isCell 5 = .ok (.ifCond .eq 23, 3) := by decide +kernel
theorem dX7_isCell_8 : decode cX7_isCell 8 = .ok (.iload_n 2, 1) := by decide +kernel
theorem dX7_isCell_9 : decode cX7_isCell 9 = .ok (.iconst 0, 1) := by decide +kernel
theorem dX7_isCell_10 : decode cX7_isCell 10 = .ok (.aload_n 0, 1) := by decide +kernel
theorem dX7_isCell_11 : decode cX7_isCell 11 = .ok (.iload_n 1, 1) := by decide +kernel
theorem dX7_isCell_12 : decode cX7_isCell 12 = .ok (.iconst 2, 1) := by decide +kernel
theorem dX7_isCell_13 : decode cX7_isCell 13 = .ok (.invokevirtual 55, 3) := by decide +kernel
theorem dX7_isCell_16 : decode cX7_isCell 16 = .ok (.iconst 1, 1) := by decide +kernel
theorem dX7_isCell_17 : decode cX7_isCell 17 = .ok (.isub, 1) := by decide +kernel
theorem dX7_isCell_18 : decode cX7_isCell 18 = .ok (.invokestatic 43, 3) := by decide +kernel
theorem dX7_isCell_21 : decode cX7_isCell 21 = .ok (.ifCond .eq 7, 3) := by decide +kernel
theorem dX7_isCell_24 : decode cX7_isCell 24 = .ok (.iconst 1, 1) := by decide +kernel
theorem dX7_isCell_25 : decode cX7_isCell 25 = .ok (.goto 4, 3) := by decide +kernel
theorem dX7_isCell_28 : decode cX7_isCell 28 = .ok (.iconst 0, 1) := by decide +kernel
theorem dX7_isCell_29 : decode cX7_isCell 29 = .ok (.ireturn, 1) := by decide +kernel
theorem dX7_isOut_0 : decode cX7_isOut 0 = .ok (.aload_n 0, 1) := by decide +kernel
theorem dX7_isOut_1 : decode cX7_isOut 1 = .ok (.iload_n 1, 1) := by decide +kernel
theorem dX7_isOut_2 : decode cX7_isOut 2 = .ok (.bipush 7, 2) := by decide +kernel
theorem dX7_isOut_4 : decode cX7_isOut 4 = .ok (.iconst 2, 1) := by decide +kernel
theorem dX7_isOut_5 : decode cX7_isOut 5 = .ok (.iload_n 2, 1) := by decide +kernel
theorem dX7_isOut_6 : decode cX7_isOut 6 = .ok (.imul, 1) := by decide +kernel
theorem dX7_isOut_7 : decode cX7_isOut 7 = .ok (.iadd, 1) := by decide +kernel
theorem dX7_isOut_8 : decode cX7_isOut 8 = .ok (.invokevirtual 55, 3) := by decide +kernel
theorem dX7_isOut_11 : decode cX7_isOut 11 = .ok (.iconst 1, 1) := by decide +kernel
theorem dX7_isOut_12 : decode cX7_isOut 12 = .ok (.if_icmp .ne 7, 3) := by decide +kernel
theorem dX7_isOut_15 : decode cX7_isOut 15 = .ok (.iconst 1, 1) := by decide +kernel
theorem dX7_isOut_16 : decode cX7_isOut 16 = .ok (.goto 4, 3) := by decide +kernel
theorem dX7_isOut_19 : decode cX7_isOut 19 = .ok (.iconst 0, 1) := by decide +kernel
theorem dX7_isOut_20 : decode cX7_isOut 20 = .ok (.ireturn, 1) := by decide +kernel
theorem dX7_netOf_0 : decode cX7_netOf 0 = .ok (.aload_n 0, 1) := by decide +kernel
theorem dX7_netOf_1 : decode cX7_netOf 1 = .ok (.iload_n 1, 1) := by decide +kernel
theorem dX7_netOf_2 : decode cX7_netOf 2 = .ok (.bipush 7, 2) := by decide +kernel
theorem dX7_netOf_4 : decode cX7_netOf 4 = .ok (.iconst 2, 1) := by decide +kernel
theorem dX7_netOf_5 : decode cX7_netOf 5 = .ok (.iload_n 2, 1) := by decide +kernel
theorem dX7_netOf_6 : decode cX7_netOf 6 = .ok (.imul, 1) := by decide +kernel
theorem dX7_netOf_7 : decode cX7_netOf 7 = .ok (.iadd, 1) := by decide +kernel
theorem dX7_netOf_8 : decode cX7_netOf 8 = .ok (.iconst 1, 1) := by decide +kernel
theorem dX7_netOf_9 : decode cX7_netOf 9 = .ok (.iadd, 1) := by decide +kernel
theorem dX7_netOf_10 : decode cX7_netOf 10 = .ok (.invokevirtual 55, 3) := by decide +kernel
theorem dX7_netOf_13 : decode cX7_netOf 13 = .ok (.ireturn, 1) := by decide +kernel
theorem dX7_isNet_0 : decode cX7_isNet 0 = .ok (.iload_n 0, 1) := by decide +kernel
theorem dX7_isNet_1 : decode cX7_isNet 1 = .ok (.iconst 0, 1) := by decide +kernel
theorem dX7_isNet_2 : decode cX7_isNet 2 = .ok (.bipush 7, 2) := by decide +kernel
theorem dX7_isNet_4 : decode cX7_isNet 4 = .ok (.invokestatic 43, 3) := by decide +kernel
theorem dX7_isNet_7 : decode cX7_isNet 7 = .ok (.ireturn, 1) := by decide +kernel
theorem dX7_laysAside_0 : decode cX7_laysAside 0 = .ok (.iconst 0, 1) := by decide +kernel
theorem dX7_laysAside_1 : decode cX7_laysAside 1 = .ok (.istore_n 1, 1) := by decide +kernel
theorem dX7_laysAside_2 : decode cX7_laysAside 2 = .ok (.iload_n 1, 1) := by decide +kernel
theorem dX7_laysAside_3 : decode cX7_laysAside 3 = .ok (.bipush 83, 2) := by decide +kernel
theorem dX7_laysAside_5 : decode cX7_laysAside 5 = .ok (.if_icmp .ge 21, 3) := by decide +kernel
theorem dX7_laysAside_8 : decode cX7_laysAside 8 = .ok (.aload_n 0, 1) := by decide +kernel
theorem dX7_laysAside_9 : decode cX7_laysAside 9 = .ok (.getfield 13, 3) := by decide +kernel
theorem dX7_laysAside_12 : decode cX7_laysAside 12 = .ok (.iload_n 1, 1) := by decide +kernel
theorem dX7_laysAside_13 : decode cX7_laysAside 13 = .ok (.aload_n 0, 1) := by decide +kernel
theorem dX7_laysAside_14 : decode cX7_laysAside 14 = .ok (.getfield 7, 3) := by decide +kernel
theorem dX7_laysAside_17 : decode cX7_laysAside 17 = .ok (.iload_n 1, 1) := by decide +kernel
theorem dX7_laysAside_18 : decode cX7_laysAside 18 = .ok (.iaload, 1) := by decide +kernel
theorem dX7_laysAside_19 : decode cX7_laysAside 19 = .ok (.iastore, 1) := by decide +kernel
theorem dX7_laysAside_20 : decode cX7_laysAside 20 = .ok (.iinc 1 1, 3) := by decide +kernel
theorem dX7_laysAside_23 : decode cX7_laysAside 23 = .ok (.goto (-21), 3) := by decide +kernel
theorem dX7_laysAside_26 : decode cX7_laysAside 26 = .ok (.return_, 1) := by decide +kernel
theorem dX7_leaves_0 : decode cX7_leaves 0 = .ok (.aload_n 0, 1) := by decide +kernel
theorem dX7_leaves_1 : decode cX7_leaves 1 = .ok (.getfield 58, 3) := by decide +kernel
theorem dX7_leaves_4 : decode cX7_leaves 4 = .ok (.iconst 5, 1) := by decide +kernel
theorem dX7_leaves_5 : decode cX7_leaves 5 = .ok (.if_icmp .ne 43, 3) := by decide +kernel
theorem dX7_leaves_8 : decode cX7_leaves 8 = .ok (.iconst 0, 1) := by decide +kernel
theorem dX7_leaves_9 : decode cX7_leaves 9 = .ok (.istore_n 1, 1) := by decide +kernel
theorem dX7_leaves_10 : decode cX7_leaves 10 = .ok (.iload_n 1, 1) := by decide +kernel
theorem dX7_leaves_11 : decode cX7_leaves 11 = .ok (.sipush 332, 3) := by decide +kernel
theorem dX7_leaves_14 : decode cX7_leaves 14 = .ok (.if_icmp .ge 24, 3) := by decide +kernel
theorem dX7_leaves_17 : decode cX7_leaves 17 = .ok (.aload_n 0, 1) := by decide +kernel
theorem dX7_leaves_18 : decode cX7_leaves 18 = .ok (.getfield 16, 3) := by decide +kernel
theorem dX7_leaves_21 : decode cX7_leaves 21 = .ok (.iload_n 1, 1) := by decide +kernel
theorem dX7_leaves_22 : decode cX7_leaves 22 = .ok (.aload_n 0, 1) := by decide +kernel
theorem dX7_leaves_23 : decode cX7_leaves 23 = .ok (.getfield 16, 3) := by decide +kernel
theorem dX7_leaves_26 : decode cX7_leaves 26 = .ok (.iload_n 1, 1) := by decide +kernel
theorem dX7_leaves_27 : decode cX7_leaves 27 = .ok (.bipush 83, 2) := by decide +kernel
theorem dX7_leaves_29 : decode cX7_leaves 29 = .ok (.iadd, 1) := by decide +kernel
theorem dX7_leaves_30 : decode cX7_leaves 30 = .ok (.iaload, 1) := by decide +kernel
theorem dX7_leaves_31 : decode cX7_leaves 31 = .ok (.iastore, 1) := by decide +kernel
theorem dX7_leaves_32 : decode cX7_leaves 32 = .ok (.iinc 1 1, 3) := by decide +kernel
theorem dX7_leaves_35 : decode cX7_leaves 35 = .ok (.goto (-25), 3) := by decide +kernel
theorem dX7_leaves_38 : decode cX7_leaves 38 = .ok (.aload_n 0, 1) := by decide +kernel
theorem dX7_leaves_39 : decode cX7_leaves 39 = .ok (.dup, 1) := by decide +kernel
theorem dX7_leaves_40 : decode cX7_leaves 40 = .ok (.getfield 58, 3) := by decide +kernel
theorem dX7_leaves_43 : decode cX7_leaves 43 = .ok (.iconst 1, 1) := by decide +kernel
theorem dX7_leaves_44 : decode cX7_leaves 44 = .ok (.isub, 1) := by decide +kernel
theorem dX7_leaves_45 : decode cX7_leaves 45 = .ok (.putfield 58, 3) := by decide +kernel
theorem dX7_leaves_48 : decode cX7_leaves 48 = .ok (.iconst 0, 1) := by decide +kernel
theorem dX7_leaves_49 : decode cX7_leaves 49 = .ok (.istore_n 1, 1) := by decide +kernel
theorem dX7_leaves_50 : decode cX7_leaves 50 = .ok (.iload_n 1, 1) := by decide +kernel
theorem dX7_leaves_51 : decode cX7_leaves 51 = .ok (.bipush 83, 2) := by decide +kernel
theorem dX7_leaves_53 : decode cX7_leaves 53 = .ok (.if_icmp .ge 29, 3) := by decide +kernel
theorem dX7_leaves_56 : decode cX7_leaves 56 = .ok (.aload_n 0, 1) := by decide +kernel
theorem dX7_leaves_57 : decode cX7_leaves 57 = .ok (.getfield 16, 3) := by decide +kernel
theorem dX7_leaves_60 : decode cX7_leaves 60 = .ok (.bipush 83, 2) := by decide +kernel
theorem dX7_leaves_62 : decode cX7_leaves 62 = .ok (.aload_n 0, 1) := by decide +kernel
theorem dX7_leaves_63 : decode cX7_leaves 63 = .ok (.getfield 58, 3) := by decide +kernel
theorem dX7_leaves_66 : decode cX7_leaves 66 = .ok (.imul, 1) := by decide +kernel
theorem dX7_leaves_67 : decode cX7_leaves 67 = .ok (.iload_n 1, 1) := by decide +kernel
theorem dX7_leaves_68 : decode cX7_leaves 68 = .ok (.iadd, 1) := by decide +kernel
theorem dX7_leaves_69 : decode cX7_leaves 69 = .ok (.aload_n 0, 1) := by decide +kernel
theorem dX7_leaves_70 : decode cX7_leaves 70 = .ok (.getfield 13, 3) := by decide +kernel
theorem dX7_leaves_73 : decode cX7_leaves 73 = .ok (.iload_n 1, 1) := by decide +kernel
theorem dX7_leaves_74 : decode cX7_leaves 74 = .ok (.iaload, 1) := by decide +kernel
theorem dX7_leaves_75 : decode cX7_leaves 75 = .ok (.iastore, 1) := by decide +kernel
theorem dX7_leaves_76 : decode cX7_leaves 76 = .ok (.iinc 1 1, 3) := by decide +kernel
theorem dX7_leaves_79 : decode cX7_leaves 79 = .ok (.goto (-29), 3) := by decide +kernel
theorem dX7_leaves_82 : decode cX7_leaves 82 = .ok (.aload_n 0, 1) := by decide +kernel
theorem dX7_leaves_83 : decode cX7_leaves 83 = .ok (.dup, 1) := by decide +kernel
theorem dX7_leaves_84 : decode cX7_leaves 84 = .ok (.getfield 58, 3) := by decide +kernel
theorem dX7_leaves_87 : decode cX7_leaves 87 = .ok (.iconst 1, 1) := by decide +kernel
theorem dX7_leaves_88 : decode cX7_leaves 88 = .ok (.iadd, 1) := by decide +kernel
theorem dX7_leaves_89 : decode cX7_leaves 89 = .ok (.putfield 58, 3) := by decide +kernel
theorem dX7_leaves_92 : decode cX7_leaves 92 = .ok (.return_, 1) := by decide +kernel
theorem dX7_back_0 : decode cX7_back 0 = .ok (.aload_n 0, 1) := by decide +kernel
theorem dX7_back_1 : decode cX7_back 1 = .ok (.getfield 58, 3) := by decide +kernel
theorem dX7_back_4 : decode cX7_back 4 = .ok (.ifCond .ne 8, 3) := by decide +kernel
theorem dX7_back_7 : decode cX7_back 7 = .ok (.aload_n 0, 1) := by decide +kernel
theorem dX7_back_8 : decode cX7_back 8 = .ok (.invokevirtual 62, 3) := by decide +kernel
theorem dX7_back_11 : decode cX7_back 11 = .ok (.ireturn, 1) := by decide +kernel
theorem dX7_back_12 : decode cX7_back 12 = .ok (.aload_n 0, 1) := by decide +kernel
theorem dX7_back_13 : decode cX7_back 13 = .ok (.dup, 1) := by decide +kernel
theorem dX7_back_14 : decode cX7_back 14 = .ok (.getfield 58, 3) := by decide +kernel
theorem dX7_back_17 : decode cX7_back 17 = .ok (.iconst 1, 1) := by decide +kernel
theorem dX7_back_18 : decode cX7_back 18 = .ok (.isub, 1) := by decide +kernel
theorem dX7_back_19 : decode cX7_back 19 = .ok (.putfield 58, 3) := by decide +kernel
theorem dX7_back_22 : decode cX7_back 22 = .ok (.iconst 0, 1) := by decide +kernel
theorem dX7_back_23 : decode cX7_back 23 = .ok (.istore_n 1, 1) := by decide +kernel
theorem dX7_back_24 : decode cX7_back 24 = .ok (.iload_n 1, 1) := by decide +kernel
theorem dX7_back_25 : decode cX7_back 25 = .ok (.bipush 83, 2) := by decide +kernel
theorem dX7_back_27 : decode cX7_back 27 = .ok (.if_icmp .ge 29, 3) := by decide +kernel
theorem dX7_back_30 : decode cX7_back 30 = .ok (.aload_n 0, 1) := by decide +kernel
theorem dX7_back_31 : decode cX7_back 31 = .ok (.getfield 7, 3) := by decide +kernel
theorem dX7_back_34 : decode cX7_back 34 = .ok (.iload_n 1, 1) := by decide +kernel
theorem dX7_back_35 : decode cX7_back 35 = .ok (.aload_n 0, 1) := by decide +kernel
theorem dX7_back_36 : decode cX7_back 36 = .ok (.getfield 16, 3) := by decide +kernel
theorem dX7_back_39 : decode cX7_back 39 = .ok (.bipush 83, 2) := by decide +kernel
theorem dX7_back_41 : decode cX7_back 41 = .ok (.aload_n 0, 1) := by decide +kernel
theorem dX7_back_42 : decode cX7_back 42 = .ok (.getfield 58, 3) := by decide +kernel
theorem dX7_back_45 : decode cX7_back 45 = .ok (.imul, 1) := by decide +kernel
theorem dX7_back_46 : decode cX7_back 46 = .ok (.iload_n 1, 1) := by decide +kernel
theorem dX7_back_47 : decode cX7_back 47 = .ok (.iadd, 1) := by decide +kernel
theorem dX7_back_48 : decode cX7_back 48 = .ok (.iaload, 1) := by decide +kernel
theorem dX7_back_49 : decode cX7_back 49 = .ok (.iastore, 1) := by decide +kernel
theorem dX7_back_50 : decode cX7_back 50 = .ok (.iinc 1 1, 3) := by decide +kernel
theorem dX7_back_53 : decode cX7_back 53 = .ok (.goto (-29), 3) := by decide +kernel
theorem dX7_back_56 : decode cX7_back 56 = .ok (.aload_n 0, 1) := by decide +kernel
theorem dX7_back_57 : decode cX7_back 57 = .ok (.getfield 58, 3) := by decide +kernel
theorem dX7_back_60 : decode cX7_back 60 = .ok (.ireturn, 1) := by decide +kernel
theorem dX7_ends_0 : decode cX7_ends 0 = .ok (.iload_n 1, 1) := by decide +kernel
theorem dX7_ends_1 : decode cX7_ends 1 = .ok (.ifCond .lt 9, 3) := by decide +kernel
theorem dX7_ends_4 : decode cX7_ends 4 = .ok (.aload_n 0, 1) := by decide +kernel
theorem dX7_ends_5 : decode cX7_ends 5 = .ok (.invokevirtual 66, 3) := by decide +kernel
theorem dX7_ends_8 : decode cX7_ends 8 = .ok (.iload_n 1, 1) := by decide +kernel
theorem dX7_ends_9 : decode cX7_ends 9 = .ok (.ireturn, 1) := by decide +kernel
theorem dX7_ends_10 : decode cX7_ends 10 = .ok (.iload_n 1, 1) := by decide +kernel
theorem dX7_ends_11 : decode cX7_ends 11 = .ok (.bipush (-4), 2) := by decide +kernel
theorem dX7_ends_13 : decode cX7_ends 13 = .ok (.if_icmp .ne 10, 3) := by decide +kernel
theorem dX7_ends_16 : decode cX7_ends 16 = .ok (.aload_n 0, 1) := by decide +kernel
theorem dX7_ends_17 : decode cX7_ends 17 = .ok (.invokevirtual 69, 3) := by decide +kernel
theorem dX7_ends_20 : decode cX7_ends 20 = .ok (.goto 7, 3) := by decide +kernel
theorem dX7_ends_23 : decode cX7_ends 23 = .ok (.aload_n 0, 1) := by decide +kernel
theorem dX7_ends_24 : decode cX7_ends 24 = .ok (.invokevirtual 72, 3) := by decide +kernel
theorem dX7_ends_27 : decode cX7_ends 27 = .ok (.ireturn, 1) := by decide +kernel
theorem dX7_firstOf_0 : decode cX7_firstOf 0 = .ok (.aload_n 0, 1) := by decide +kernel
theorem dX7_firstOf_1 : decode cX7_firstOf 1 = .ok (.iload_n 1, 1) := by decide +kernel
theorem dX7_firstOf_2 : decode cX7_firstOf 2 = .ok (.iconst 1, 1) := by decide +kernel
theorem dX7_firstOf_3 : decode cX7_firstOf 3 = .ok (.invokevirtual 55, 3) := by decide +kernel
theorem dX7_firstOf_6 : decode cX7_firstOf 6 = .ok (.sipush 256, 3) := by decide +kernel
theorem dX7_firstOf_9 : decode cX7_firstOf 9 = .ok (.if_icmp .ge 7, 3) := by decide +kernel
theorem dX7_firstOf_12 : decode cX7_firstOf 12 = .ok (.iconst 2, 1) := by decide +kernel
theorem dX7_firstOf_13 : decode cX7_firstOf 13 = .ok (.goto 13, 3) := by decide +kernel
theorem dX7_firstOf_16 : decode cX7_firstOf 16 = .ok (.iconst 1, 1) := by decide +kernel
theorem dX7_firstOf_17 : decode cX7_firstOf 17 = .ok (.aload_n 0, 1) := by decide +kernel
theorem dX7_firstOf_18 : decode cX7_firstOf 18 = .ok (.iload_n 1, 1) := by decide +kernel
theorem dX7_firstOf_19 : decode cX7_firstOf 19 = .ok (.iconst 0, 1) := by decide +kernel
theorem dX7_firstOf_20 : decode cX7_firstOf 20 = .ok (.invokevirtual 55, 3) := by decide +kernel
theorem dX7_firstOf_23 : decode cX7_firstOf 23 = .ok (.ishl, 1) := by decide +kernel
theorem dX7_firstOf_24 : decode cX7_firstOf 24 = .ok (.iconst 1, 1) := by decide +kernel
theorem dX7_firstOf_25 : decode cX7_firstOf 25 = .ok (.isub, 1) := by decide +kernel
theorem dX7_firstOf_26 : decode cX7_firstOf 26 = .ok (.ireturn, 1) := by decide +kernel
theorem dX7_addsChip_0 : decode cX7_addsChip 0 = .ok (.iload_n 1, 1) := by decide +kernel
theorem dX7_addsChip_1 : decode cX7_addsChip 1 = .ok (.iconst 2, 1) := by decide +kernel
theorem dX7_addsChip_2 : decode cX7_addsChip 2 = .ok (.iconst 4, 1) := by decide +kernel
theorem dX7_addsChip_3 : decode cX7_addsChip 3 = .ok (.invokestatic 43, 3) := by decide +kernel
theorem dX7_addsChip_6 : decode cX7_addsChip 6 = .ok (.ifCond .eq 14, 3) := by decide +kernel
theorem dX7_addsChip_9 : decode cX7_addsChip 9 = .ok (.iload_n 2, 1) := by decide +kernel
theorem dX7_addsChip_10 : decode cX7_addsChip 10 = .ok (.iconst 0, 1) := by decide +kernel
theorem dX7_addsChip_11 : decode cX7_addsChip 11 = .ok (.sipush 256, 3) := by decide +kernel
theorem dX7_addsChip_14 : decode cX7_addsChip 14 = .ok (.invokestatic 43, 3) := by decide +kernel
theorem dX7_addsChip_17 : decode cX7_addsChip 17 = .ok (.ifCond .ne 6, 3) := by decide +kernel
theorem dX7_addsChip_20 : decode cX7_addsChip 20 = .ok (.bipush (-2), 2) := by decide +kernel
theorem dX7_addsChip_22 : decode cX7_addsChip 22 = .ok (.ireturn, 1) := by decide +kernel
theorem dX7_addsChip_23 : decode cX7_addsChip 23 = .ok (.aload_n 0, 1) := by decide +kernel
theorem dX7_addsChip_24 : decode cX7_addsChip 24 = .ok (.getfield 7, 3) := by decide +kernel
theorem dX7_addsChip_27 : decode cX7_addsChip 27 = .ok (.iconst 0, 1) := by decide +kernel
theorem dX7_addsChip_28 : decode cX7_addsChip 28 = .ok (.iaload, 1) := by decide +kernel
theorem dX7_addsChip_29 : decode cX7_addsChip 29 = .ok (.iconst 4, 1) := by decide +kernel
theorem dX7_addsChip_30 : decode cX7_addsChip 30 = .ok (.if_icmp .ne 6, 3) := by decide +kernel
theorem dX7_addsChip_33 : decode cX7_addsChip 33 = .ok (.bipush (-4), 2) := by decide +kernel
theorem dX7_addsChip_35 : decode cX7_addsChip 35 = .ok (.ireturn, 1) := by decide +kernel
theorem dX7_addsChip_36 : decode cX7_addsChip 36 = .ok (.aload_n 0, 1) := by decide +kernel
theorem dX7_addsChip_37 : decode cX7_addsChip 37 = .ok (.getfield 7, 3) := by decide +kernel
theorem dX7_addsChip_40 : decode cX7_addsChip 40 = .ok (.iconst 0, 1) := by decide +kernel
theorem dX7_addsChip_41 : decode cX7_addsChip 41 = .ok (.iaload, 1) := by decide +kernel
theorem dX7_addsChip_42 : decode cX7_addsChip 42 = .ok (.istore_n 3, 1) := by decide +kernel
theorem dX7_addsChip_43 : decode cX7_addsChip 43 = .ok (.iconst 0, 1) := by decide +kernel
theorem dX7_addsChip_44 : decode cX7_addsChip 44 = .ok (.istore 4, 2) := by decide +kernel
theorem dX7_addsChip_46 : decode cX7_addsChip 46 = .ok (.iload 4, 2) := by decide +kernel
theorem dX7_addsChip_48 : decode cX7_addsChip 48 = .ok (.bipush 19, 2) := by decide +kernel
theorem dX7_addsChip_50 : decode cX7_addsChip 50 = .ok (.if_icmp .ge 21, 3) := by decide +kernel
theorem dX7_addsChip_53 : decode cX7_addsChip 53 = .ok (.aload_n 0, 1) := by decide +kernel
theorem dX7_addsChip_54 : decode cX7_addsChip 54 = .ok (.getfield 7, 3) := by decide +kernel
theorem dX7_addsChip_57 : decode cX7_addsChip 57 = .ok (.iload_n 3, 1) := by decide +kernel
theorem dX7_addsChip_58 : decode cX7_addsChip 58 = .ok (.iload 4, 2) := by decide +kernel
theorem dX7_addsChip_60 : decode cX7_addsChip 60 = .ok (.invokestatic 47, 3) := by decide +kernel
theorem dX7_addsChip_63 : decode cX7_addsChip 63 = .ok (.iconst 0, 1) := by decide +kernel
theorem dX7_addsChip_64 : decode cX7_addsChip 64 = .ok (.iastore, 1) := by decide +kernel
theorem dX7_addsChip_65 : decode cX7_addsChip 65 = .ok (.iinc 4 1, 3) := by decide +kernel
theorem dX7_addsChip_68 : decode cX7_addsChip 68 = .ok (.goto (-22), 3) := by decide +kernel
theorem dX7_addsChip_71 : decode cX7_addsChip 71 = .ok (.aload_n 0, 1) := by decide +kernel
theorem dX7_addsChip_72 : decode cX7_addsChip 72 = .ok (.getfield 7, 3) := by decide +kernel
theorem dX7_addsChip_75 : decode cX7_addsChip 75 = .ok (.iload_n 3, 1) := by decide +kernel
theorem dX7_addsChip_76 : decode cX7_addsChip 76 = .ok (.iconst 0, 1) := by decide +kernel
theorem dX7_addsChip_77 : decode cX7_addsChip 77 = .ok (.invokestatic 47, 3) := by decide +kernel
theorem dX7_addsChip_80 : decode cX7_addsChip 80 = .ok (.iload_n 1, 1) := by decide +kernel
theorem dX7_addsChip_81 : decode cX7_addsChip 81 = .ok (.iastore, 1) := by decide +kernel
theorem dX7_addsChip_82 : decode cX7_addsChip 82 = .ok (.aload_n 0, 1) := by decide +kernel
theorem dX7_addsChip_83 : decode cX7_addsChip 83 = .ok (.getfield 7, 3) := by decide +kernel
theorem dX7_addsChip_86 : decode cX7_addsChip 86 = .ok (.iload_n 3, 1) := by decide +kernel
theorem dX7_addsChip_87 : decode cX7_addsChip 87 = .ok (.iconst 1, 1) := by decide +kernel
theorem dX7_addsChip_88 : decode cX7_addsChip 88 = .ok (.invokestatic 47, 3) := by decide +kernel
theorem dX7_addsChip_91 : decode cX7_addsChip 91 = .ok (.iload_n 2, 1) := by decide +kernel
theorem dX7_addsChip_92 : decode cX7_addsChip 92 = .ok (.iastore, 1) := by decide +kernel
theorem dX7_addsChip_93 : decode cX7_addsChip 93 = .ok (.aload_n 0, 1) := by decide +kernel
theorem dX7_addsChip_94 : decode cX7_addsChip 94 = .ok (.getfield 7, 3) := by decide +kernel
theorem dX7_addsChip_97 : decode cX7_addsChip 97 = .ok (.iload_n 3, 1) := by decide +kernel
theorem dX7_addsChip_98 : decode cX7_addsChip 98 = .ok (.iconst 3, 1) := by decide +kernel
theorem dX7_addsChip_99 : decode cX7_addsChip 99 = .ok (.invokestatic 47, 3) := by decide +kernel
theorem dX7_addsChip_102 : decode cX7_addsChip 102 = .ok (.aload_n 0, 1) := by decide +kernel
theorem dX7_addsChip_103 : decode cX7_addsChip 103 = .ok (.iload_n 3, 1) := by decide +kernel
theorem dX7_addsChip_104 : decode cX7_addsChip 104 = .ok (.invokevirtual 75, 3) := by decide +kernel
theorem dX7_addsChip_107 : decode cX7_addsChip 107 = .ok (.iastore, 1) := by decide +kernel
theorem dX7_addsChip_108 : decode cX7_addsChip 108 = .ok (.aload_n 0, 1) := by decide +kernel
theorem dX7_addsChip_109 : decode cX7_addsChip 109 = .ok (.getfield 7, 3) := by decide +kernel
theorem dX7_addsChip_112 : decode cX7_addsChip 112 = .ok (.iconst 0, 1) := by decide +kernel
theorem dX7_addsChip_113 : decode cX7_addsChip 113 = .ok (.dup2, 1) := by decide +kernel
theorem dX7_addsChip_114 : decode cX7_addsChip 114 = .ok (.iaload, 1) := by decide +kernel
theorem dX7_addsChip_115 : decode cX7_addsChip 115 = .ok (.iconst 1, 1) := by decide +kernel
theorem dX7_addsChip_116 : decode cX7_addsChip 116 = .ok (.iadd, 1) := by decide +kernel
theorem dX7_addsChip_117 : decode cX7_addsChip 117 = .ok (.iastore, 1) := by decide +kernel
theorem dX7_addsChip_118 : decode cX7_addsChip 118 = .ok (.iload_n 3, 1) := by decide +kernel
theorem dX7_addsChip_119 : decode cX7_addsChip 119 = .ok (.ireturn, 1) := by decide +kernel
theorem dX7_addsCell_0 : decode cX7_addsCell 0 = .ok (.aload_n 0, 1) := by decide +kernel
theorem dX7_addsCell_1 : decode cX7_addsCell 1 = .ok (.iload_n 1, 1) := by decide +kernel
theorem dX7_addsCell_2 : decode cX7_addsCell 2 = .ok (.invokevirtual 51, 3) := by decide +kernel
theorem dX7_addsCell_5 : decode cX7_addsCell 5 = .ok (.ifCond .eq 17, 3) := by decide +kernel
theorem dX7_addsCell_8 : decode cX7_addsCell 8 = .ok (.iload_n 2, 1) := by decide +kernel
theorem dX7_addsCell_9 : decode cX7_addsCell 9 = .ok (.invokestatic 79, 3) := by decide +kernel
theorem dX7_addsCell_12 : decode cX7_addsCell 12 = .ok (.ifCond .eq 10, 3) := by decide +kernel
theorem dX7_addsCell_15 : decode cX7_addsCell 15 = .ok (.iload_n 3, 1) := by decide +kernel
theorem dX7_addsCell_16 : decode cX7_addsCell 16 = .ok (.invokestatic 82, 3) := by decide +kernel
theorem dX7_addsCell_19 : decode cX7_addsCell 19 = .ok (.ifCond .ne 6, 3) := by decide +kernel
theorem dX7_addsCell_22 : decode cX7_addsCell 22 = .ok (.bipush (-2), 2) := by decide +kernel
theorem dX7_addsCell_24 : decode cX7_addsCell 24 = .ok (.ireturn, 1) := by decide +kernel
theorem dX7_addsCell_25 : decode cX7_addsCell 25 = .ok (.aload_n 0, 1) := by decide +kernel
theorem dX7_addsCell_26 : decode cX7_addsCell 26 = .ok (.iload_n 1, 1) := by decide +kernel
theorem dX7_addsCell_27 : decode cX7_addsCell 27 = .ok (.iconst 2, 1) := by decide +kernel
theorem dX7_addsCell_28 : decode cX7_addsCell 28 = .ok (.invokevirtual 55, 3) := by decide +kernel
theorem dX7_addsCell_31 : decode cX7_addsCell 31 = .ok (.istore 4, 2) := by decide +kernel
theorem dX7_addsCell_33 : decode cX7_addsCell 33 = .ok (.iload 4, 2) := by decide +kernel
theorem dX7_addsCell_35 : decode cX7_addsCell 35 = .ok (.bipush 6, 2) := by decide +kernel
theorem dX7_addsCell_37 : decode cX7_addsCell 37 = .ok (.if_icmp .ne 6, 3) := by decide +kernel
theorem dX7_addsCell_40 : decode cX7_addsCell 40 = .ok (.bipush (-4), 2) := by decide +kernel
theorem dX7_addsCell_42 : decode cX7_addsCell 42 = .ok (.ireturn, 1) := by decide +kernel
theorem dX7_addsCell_43 : decode cX7_addsCell 43 = .ok (.aload_n 0, 1) := by decide +kernel
theorem dX7_addsCell_44 : decode cX7_addsCell 44 = .ok (.getfield 7, 3) := by decide +kernel
theorem dX7_addsCell_47 : decode cX7_addsCell 47 = .ok (.iload_n 1, 1) := by decide +kernel
theorem dX7_addsCell_48 : decode cX7_addsCell 48 = .ok (.bipush 7, 2) := by decide +kernel
theorem dX7_addsCell_50 : decode cX7_addsCell 50 = .ok (.iconst 2, 1) := by decide +kernel
theorem dX7_addsCell_51 : decode cX7_addsCell 51 = .ok (.iload 4, 2) := by decide +kernel
theorem dX7_addsCell_53 : decode cX7_addsCell 53 = .ok (.imul, 1) := by decide +kernel
theorem dX7_addsCell_54 : decode cX7_addsCell 54 = .ok (.iadd, 1) := by decide +kernel
theorem dX7_addsCell_55 : decode cX7_addsCell 55 = .ok (.invokestatic 47, 3) := by decide +kernel
theorem dX7_addsCell_58 : decode cX7_addsCell 58 = .ok (.iload_n 2, 1) := by decide +kernel
theorem dX7_addsCell_59 : decode cX7_addsCell 59 = .ok (.iastore, 1) := by decide +kernel
theorem dX7_addsCell_60 : decode cX7_addsCell 60 = .ok (.aload_n 0, 1) := by decide +kernel
theorem dX7_addsCell_61 : decode cX7_addsCell 61 = .ok (.getfield 7, 3) := by decide +kernel
theorem dX7_addsCell_64 : decode cX7_addsCell 64 = .ok (.iload_n 1, 1) := by decide +kernel
theorem dX7_addsCell_65 : decode cX7_addsCell 65 = .ok (.bipush 7, 2) := by decide +kernel
theorem dX7_addsCell_67 : decode cX7_addsCell 67 = .ok (.iconst 2, 1) := by decide +kernel
theorem dX7_addsCell_68 : decode cX7_addsCell 68 = .ok (.iload 4, 2) := by decide +kernel
theorem dX7_addsCell_70 : decode cX7_addsCell 70 = .ok (.imul, 1) := by decide +kernel
theorem dX7_addsCell_71 : decode cX7_addsCell 71 = .ok (.iadd, 1) := by decide +kernel
theorem dX7_addsCell_72 : decode cX7_addsCell 72 = .ok (.iconst 1, 1) := by decide +kernel
theorem dX7_addsCell_73 : decode cX7_addsCell 73 = .ok (.iadd, 1) := by decide +kernel
theorem dX7_addsCell_74 : decode cX7_addsCell 74 = .ok (.invokestatic 47, 3) := by decide +kernel
theorem dX7_addsCell_77 : decode cX7_addsCell 77 = .ok (.iload_n 3, 1) := by decide +kernel
theorem dX7_addsCell_78 : decode cX7_addsCell 78 = .ok (.iastore, 1) := by decide +kernel
theorem dX7_addsCell_79 : decode cX7_addsCell 79 = .ok (.aload_n 0, 1) := by decide +kernel
theorem dX7_addsCell_80 : decode cX7_addsCell 80 = .ok (.getfield 7, 3) := by decide +kernel
theorem dX7_addsCell_83 : decode cX7_addsCell 83 = .ok (.iload_n 1, 1) := by decide +kernel
theorem dX7_addsCell_84 : decode cX7_addsCell 84 = .ok (.iconst 2, 1) := by decide +kernel
theorem dX7_addsCell_85 : decode cX7_addsCell 85 = .ok (.invokestatic 47, 3) := by decide +kernel
theorem dX7_addsCell_88 : decode cX7_addsCell 88 = .ok (.dup2, 1) := by decide +kernel
theorem dX7_addsCell_89 : decode cX7_addsCell 89 = .ok (.iaload, 1) := by decide +kernel
theorem dX7_addsCell_90 : decode cX7_addsCell 90 = .ok (.iconst 1, 1) := by decide +kernel
theorem dX7_addsCell_91 : decode cX7_addsCell 91 = .ok (.iadd, 1) := by decide +kernel
theorem dX7_addsCell_92 : decode cX7_addsCell 92 = .ok (.iastore, 1) := by decide +kernel
theorem dX7_addsCell_93 : decode cX7_addsCell 93 = .ok (.iload 4, 2) := by decide +kernel
theorem dX7_addsCell_95 : decode cX7_addsCell 95 = .ok (.ireturn, 1) := by decide +kernel
theorem dX7_addsFault_0 : decode cX7_addsFault 0 = .ok (.iload_n 1, 1) := by decide +kernel
theorem dX7_addsFault_1 : decode cX7_addsFault 1 = .ok (.ifCond .ne 6, 3) := by decide +kernel
theorem dX7_addsFault_4 : decode cX7_addsFault 4 = .ok (.bipush (-2), 2) := by decide +kernel
theorem dX7_addsFault_6 : decode cX7_addsFault 6 = .ok (.ireturn, 1) := by decide +kernel
theorem dX7_addsFault_7 : decode cX7_addsFault 7 = .ok (.aload_n 0, 1) := by decide +kernel
theorem dX7_addsFault_8 : decode cX7_addsFault 8 = .ok (.getfield 7, 3) := by decide +kernel
theorem dX7_addsFault_11 : decode cX7_addsFault 11 = .ok (.iconst 2, 1) := by decide +kernel
theorem dX7_addsFault_12 : decode cX7_addsFault 12 = .ok (.iaload, 1) := by decide +kernel
theorem dX7_addsFault_13 : decode cX7_addsFault 13 = .ok (.iconst 4, 1) := by decide +kernel
theorem dX7_addsFault_14 : decode cX7_addsFault 14 = .ok (.if_icmp .ne 6, 3) := by decide +kernel
theorem dX7_addsFault_17 : decode cX7_addsFault 17 = .ok (.bipush (-4), 2) := by decide +kernel
theorem dX7_addsFault_19 : decode cX7_addsFault 19 = .ok (.ireturn, 1) := by decide +kernel
theorem dX7_addsFault_20 : decode cX7_addsFault 20 = .ok (.aload_n 0, 1) := by decide +kernel
theorem dX7_addsFault_21 : decode cX7_addsFault 21 = .ok (.getfield 7, 3) := by decide +kernel
theorem dX7_addsFault_24 : decode cX7_addsFault 24 = .ok (.iconst 3, 1) := by decide +kernel
theorem dX7_addsFault_25 : decode cX7_addsFault 25 = .ok (.aload_n 0, 1) := by decide +kernel
theorem dX7_addsFault_26 : decode cX7_addsFault 26 = .ok (.getfield 7, 3) := by decide +kernel
theorem dX7_addsFault_29 : decode cX7_addsFault 29 = .ok (.iconst 2, 1) := by decide +kernel
theorem dX7_addsFault_30 : decode cX7_addsFault 30 = .ok (.iaload, 1) := by decide +kernel
theorem dX7_addsFault_31 : decode cX7_addsFault 31 = .ok (.iadd, 1) := by decide +kernel
theorem dX7_addsFault_32 : decode cX7_addsFault 32 = .ok (.iload_n 2, 1) := by decide +kernel
theorem dX7_addsFault_33 : decode cX7_addsFault 33 = .ok (.iastore, 1) := by decide +kernel
theorem dX7_addsFault_34 : decode cX7_addsFault 34 = .ok (.aload_n 0, 1) := by decide +kernel
theorem dX7_addsFault_35 : decode cX7_addsFault 35 = .ok (.getfield 7, 3) := by decide +kernel
theorem dX7_addsFault_38 : decode cX7_addsFault 38 = .ok (.iconst 2, 1) := by decide +kernel
theorem dX7_addsFault_39 : decode cX7_addsFault 39 = .ok (.dup2, 1) := by decide +kernel
theorem dX7_addsFault_40 : decode cX7_addsFault 40 = .ok (.iaload, 1) := by decide +kernel
theorem dX7_addsFault_41 : decode cX7_addsFault 41 = .ok (.iconst 1, 1) := by decide +kernel
theorem dX7_addsFault_42 : decode cX7_addsFault 42 = .ok (.iadd, 1) := by decide +kernel
theorem dX7_addsFault_43 : decode cX7_addsFault 43 = .ok (.iastore, 1) := by decide +kernel
theorem dX7_addsFault_44 : decode cX7_addsFault 44 = .ok (.aload_n 0, 1) := by decide +kernel
theorem dX7_addsFault_45 : decode cX7_addsFault 45 = .ok (.getfield 7, 3) := by decide +kernel
theorem dX7_addsFault_48 : decode cX7_addsFault 48 = .ok (.iconst 2, 1) := by decide +kernel
theorem dX7_addsFault_49 : decode cX7_addsFault 49 = .ok (.iaload, 1) := by decide +kernel
theorem dX7_addsFault_50 : decode cX7_addsFault 50 = .ok (.ireturn, 1) := by decide +kernel
theorem dX7_opensOne_0 : decode cX7_opensOne 0 = .ok (.aload_n 0, 1) := by decide +kernel
theorem dX7_opensOne_1 : decode cX7_opensOne 1 = .ok (.aload_n 0, 1) := by decide +kernel
theorem dX7_opensOne_2 : decode cX7_opensOne 2 = .ok (.iload_n 1, 1) := by decide +kernel
theorem dX7_opensOne_3 : decode cX7_opensOne 3 = .ok (.iload_n 2, 1) := by decide +kernel
theorem dX7_opensOne_4 : decode cX7_opensOne 4 = .ok (.invokevirtual 85, 3) := by decide +kernel
theorem dX7_opensOne_7 : decode cX7_opensOne 7 = .ok (.sipush 1000, 3) := by decide +kernel
theorem dX7_opensOne_10 : decode cX7_opensOne 10 = .ok (.bipush 10, 2) := by decide +kernel
theorem dX7_opensOne_12 : decode cX7_opensOne 12 = .ok (.iload_n 1, 1) := by decide +kernel
theorem dX7_opensOne_13 : decode cX7_opensOne 13 = .ok (.imul, 1) := by decide +kernel
theorem dX7_opensOne_14 : decode cX7_opensOne 14 = .ok (.iadd, 1) := by decide +kernel
theorem dX7_opensOne_15 : decode cX7_opensOne 15 = .ok (.iload_n 2, 1) := by decide +kernel
theorem dX7_opensOne_16 : decode cX7_opensOne 16 = .ok (.iadd, 1) := by decide +kernel
theorem dX7_opensOne_17 : decode cX7_opensOne 17 = .ok (.invokevirtual 89, 3) := by decide +kernel
theorem dX7_opensOne_20 : decode cX7_opensOne 20 = .ok (.ireturn, 1) := by decide +kernel
theorem dX7_sticksOne_0 : decode cX7_sticksOne 0 = .ok (.aload_n 0, 1) := by decide +kernel
theorem dX7_sticksOne_1 : decode cX7_sticksOne 1 = .ok (.iload_n 1, 1) := by decide +kernel
theorem dX7_sticksOne_2 : decode cX7_sticksOne 2 = .ok (.invokestatic 82, 3) := by decide +kernel
theorem dX7_sticksOne_5 : decode cX7_sticksOne 5 = .ok (.ifCond .eq 14, 3) := by decide +kernel
theorem dX7_sticksOne_8 : decode cX7_sticksOne 8 = .ok (.iload_n 2, 1) := by decide +kernel
theorem dX7_sticksOne_9 : decode cX7_sticksOne 9 = .ok (.invokestatic 79, 3) := by decide +kernel
theorem dX7_sticksOne_12 : decode cX7_sticksOne 12 = .ok (.ifCond .eq 7, 3) := by decide +kernel
theorem dX7_sticksOne_15 : decode cX7_sticksOne 15 = .ok (.iconst 1, 1) := by decide +kernel
theorem dX7_sticksOne_16 : decode cX7_sticksOne 16 = .ok (.goto 4, 3) := by decide +kernel
theorem dX7_sticksOne_19 : decode cX7_sticksOne 19 = .ok (.iconst 0, 1) := by decide +kernel
theorem dX7_sticksOne_20 : decode cX7_sticksOne 20 = .ok (.sipush 2000, 3) := by decide +kernel
theorem dX7_sticksOne_23 : decode cX7_sticksOne 23 = .ok (.bipush 10, 2) := by decide +kernel
theorem dX7_sticksOne_25 : decode cX7_sticksOne 25 = .ok (.iload_n 1, 1) := by decide +kernel
theorem dX7_sticksOne_26 : decode cX7_sticksOne 26 = .ok (.imul, 1) := by decide +kernel
theorem dX7_sticksOne_27 : decode cX7_sticksOne 27 = .ok (.iadd, 1) := by decide +kernel
theorem dX7_sticksOne_28 : decode cX7_sticksOne 28 = .ok (.iload_n 2, 1) := by decide +kernel
theorem dX7_sticksOne_29 : decode cX7_sticksOne 29 = .ok (.iadd, 1) := by decide +kernel
theorem dX7_sticksOne_30 : decode cX7_sticksOne 30 = .ok (.invokevirtual 89, 3) := by decide +kernel
theorem dX7_sticksOne_33 : decode cX7_sticksOne 33 = .ok (.ireturn, 1) := by decide +kernel
theorem dX7_shortsTwo_0 : decode cX7_shortsTwo 0 = .ok (.iload_n 1, 1) := by decide +kernel
theorem dX7_shortsTwo_1 : decode cX7_shortsTwo 1 = .ok (.iload_n 2, 1) := by decide +kernel
theorem dX7_shortsTwo_2 : decode cX7_shortsTwo 2 = .ok (.if_icmp .ge 7, 3) := by decide +kernel
theorem dX7_shortsTwo_5 : decode cX7_shortsTwo 5 = .ok (.iload_n 1, 1) := by decide +kernel
theorem dX7_shortsTwo_6 : decode cX7_shortsTwo 6 = .ok (.goto 4, 3) := by decide +kernel
theorem dX7_shortsTwo_9 : decode cX7_shortsTwo 9 = .ok (.iload_n 2, 1) := by decide +kernel
theorem dX7_shortsTwo_10 : decode cX7_shortsTwo 10 = .ok (.istore 4, 2) := by decide +kernel
theorem dX7_shortsTwo_12 : decode cX7_shortsTwo 12 = .ok (.iload_n 1, 1) := by decide +kernel
theorem dX7_shortsTwo_13 : decode cX7_shortsTwo 13 = .ok (.iload_n 2, 1) := by decide +kernel
theorem dX7_shortsTwo_14 : decode cX7_shortsTwo 14 = .ok (.if_icmp .ge 7, 3) := by decide +kernel
theorem dX7_shortsTwo_17 : decode cX7_shortsTwo 17 = .ok (.iload_n 2, 1) := by decide +kernel
theorem dX7_shortsTwo_18 : decode cX7_shortsTwo 18 = .ok (.goto 4, 3) := by decide +kernel
theorem dX7_shortsTwo_21 : decode cX7_shortsTwo 21 = .ok (.iload_n 1, 1) := by decide +kernel
theorem dX7_shortsTwo_22 : decode cX7_shortsTwo 22 = .ok (.istore 5, 2) := by decide +kernel
theorem dX7_shortsTwo_24 : decode cX7_shortsTwo 24 = .ok (.aload_n 0, 1) := by decide +kernel
theorem dX7_shortsTwo_25 : decode cX7_shortsTwo 25 = .ok (.iload_n 1, 1) := by decide +kernel
theorem dX7_shortsTwo_26 : decode cX7_shortsTwo 26 = .ok (.invokestatic 82, 3) := by decide +kernel
theorem dX7_shortsTwo_29 : decode cX7_shortsTwo 29 = .ok (.ifCond .eq 26, 3) := by decide +kernel
theorem dX7_shortsTwo_32 : decode cX7_shortsTwo 32 = .ok (.iload_n 2, 1) := by decide +kernel
theorem dX7_shortsTwo_33 : decode cX7_shortsTwo 33 = .ok (.invokestatic 82, 3) := by decide +kernel
theorem dX7_shortsTwo_36 : decode cX7_shortsTwo 36 = .ok (.ifCond .eq 19, 3) := by decide +kernel
theorem dX7_shortsTwo_39 : decode cX7_shortsTwo 39 = .ok (.iload_n 1, 1) := by decide +kernel
theorem dX7_shortsTwo_40 : decode cX7_shortsTwo 40 = .ok (.iload_n 2, 1) := by decide +kernel
theorem dX7_shortsTwo_41 : decode cX7_shortsTwo 41 = .ok (.if_icmp .eq 14, 3) := by decide +kernel
theorem dX7_shortsTwo_44 : decode cX7_shortsTwo 44 = .ok (.iload_n 3, 1) := by decide +kernel
theorem dX7_shortsTwo_45 : decode cX7_shortsTwo 45 = .ok (.invokestatic 79, 3) := by decide +kernel
theorem dX7_shortsTwo_48 : decode cX7_shortsTwo 48 = .ok (.ifCond .eq 7, 3) := by decide +kernel
theorem dX7_shortsTwo_51 : decode cX7_shortsTwo 51 = .ok (.iconst 1, 1) := by decide +kernel
theorem dX7_shortsTwo_52 : decode cX7_shortsTwo 52 = .ok (.goto 4, 3) := by decide +kernel
theorem dX7_shortsTwo_55 : decode cX7_shortsTwo 55 = .ok (.iconst 0, 1) := by decide +kernel
theorem dX7_shortsTwo_56 : decode cX7_shortsTwo 56 = .ok (.sipush 3000, 3) := by decide +kernel
theorem dX7_shortsTwo_59 : decode cX7_shortsTwo 59 = .ok (.sipush 1000, 3) := by decide +kernel
theorem dX7_shortsTwo_62 : decode cX7_shortsTwo 62 = .ok (.iload_n 3, 1) := by decide +kernel
theorem dX7_shortsTwo_63 : decode cX7_shortsTwo 63 = .ok (.imul, 1) := by decide +kernel
theorem dX7_shortsTwo_64 : decode cX7_shortsTwo 64 = .ok (.iadd, 1) := by decide +kernel
theorem dX7_shortsTwo_65 : decode cX7_shortsTwo 65 = .ok (.bipush 10, 2) := by decide +kernel
theorem dX7_shortsTwo_67 : decode cX7_shortsTwo 67 = .ok (.iload 4, 2) := by decide +kernel
theorem dX7_shortsTwo_69 : decode cX7_shortsTwo 69 = .ok (.imul, 1) := by decide +kernel
theorem dX7_shortsTwo_70 : decode cX7_shortsTwo 70 = .ok (.iadd, 1) := by decide +kernel
theorem dX7_shortsTwo_71 : decode cX7_shortsTwo 71 = .ok (.iload 5, 2) := by decide +kernel
theorem dX7_shortsTwo_73 : decode cX7_shortsTwo 73 = .ok (.iadd, 1) := by decide +kernel
theorem dX7_shortsTwo_74 : decode cX7_shortsTwo 74 = .ok (.invokevirtual 89, 3) := by decide +kernel
theorem dX7_shortsTwo_77 : decode cX7_shortsTwo 77 = .ok (.ireturn, 1) := by decide +kernel
theorem dX7_healsAll_0 : decode cX7_healsAll 0 = .ok (.aload_n 0, 1) := by decide +kernel
theorem dX7_healsAll_1 : decode cX7_healsAll 1 = .ok (.getfield 7, 3) := by decide +kernel
theorem dX7_healsAll_4 : decode cX7_healsAll 4 = .ok (.iconst 2, 1) := by decide +kernel
theorem dX7_healsAll_5 : decode cX7_healsAll 5 = .ok (.iaload, 1) := by decide +kernel
theorem dX7_healsAll_6 : decode cX7_healsAll 6 = .ok (.istore_n 1, 1) := by decide +kernel
theorem dX7_healsAll_7 : decode cX7_healsAll 7 = .ok (.aload_n 0, 1) := by decide +kernel
theorem dX7_healsAll_8 : decode cX7_healsAll 8 = .ok (.getfield 7, 3) := by decide +kernel
theorem dX7_healsAll_11 : decode cX7_healsAll 11 = .ok (.iconst 2, 1) := by decide +kernel
theorem dX7_healsAll_12 : decode cX7_healsAll 12 = .ok (.iconst 0, 1) := by decide +kernel
theorem dX7_healsAll_13 : decode cX7_healsAll 13 = .ok (.iastore, 1) := by decide +kernel
theorem dX7_healsAll_14 : decode cX7_healsAll 14 = .ok (.iload_n 1, 1) := by decide +kernel
theorem dX7_healsAll_15 : decode cX7_healsAll 15 = .ok (.ireturn, 1) := by decide +kernel
theorem dX7_chip_0 : decode cX7_chip 0 = .ok (.aload_n 0, 1) := by decide +kernel
theorem dX7_chip_1 : decode cX7_chip 1 = .ok (.invokevirtual 93, 3) := by decide +kernel
theorem dX7_chip_4 : decode cX7_chip 4 = .ok (.aload_n 0, 1) := by decide +kernel
theorem dX7_chip_5 : decode cX7_chip 5 = .ok (.aload_n 0, 1) := by decide +kernel
theorem dX7_chip_6 : decode cX7_chip 6 = .ok (.iload_n 1, 1) := by decide +kernel
theorem dX7_chip_7 : decode cX7_chip 7 = .ok (.iload_n 2, 1) := by decide +kernel
theorem dX7_chip_8 : decode cX7_chip 8 = .ok (.invokevirtual 96, 3) := by decide +kernel
theorem dX7_chip_11 : decode cX7_chip 11 = .ok (.invokevirtual 99, 3) := by decide +kernel
theorem dX7_chip_14 : decode cX7_chip 14 = .ok (.ireturn, 1) := by decide +kernel
theorem dX7_cell_0 : decode cX7_cell 0 = .ok (.aload_n 0, 1) := by decide +kernel
theorem dX7_cell_1 : decode cX7_cell 1 = .ok (.invokevirtual 93, 3) := by decide +kernel
theorem dX7_cell_4 : decode cX7_cell 4 = .ok (.aload_n 0, 1) := by decide +kernel
theorem dX7_cell_5 : decode cX7_cell 5 = .ok (.aload_n 0, 1) := by decide +kernel
theorem dX7_cell_6 : decode cX7_cell 6 = .ok (.iload_n 1, 1) := by decide +kernel
theorem dX7_cell_7 : decode cX7_cell 7 = .ok (.iload_n 2, 1) := by decide +kernel
theorem dX7_cell_8 : decode cX7_cell 8 = .ok (.iload_n 3, 1) := by decide +kernel
theorem dX7_cell_9 : decode cX7_cell 9 = .ok (.invokevirtual 102, 3) := by decide +kernel
theorem dX7_cell_12 : decode cX7_cell 12 = .ok (.invokevirtual 99, 3) := by decide +kernel
theorem dX7_cell_15 : decode cX7_cell 15 = .ok (.ireturn, 1) := by decide +kernel
theorem dX7_opens_0 : decode cX7_opens 0 = .ok (.aload_n 0, 1) := by decide +kernel
theorem dX7_opens_1 : decode cX7_opens 1 = .ok (.invokevirtual 93, 3) := by decide +kernel
theorem dX7_opens_4 : decode cX7_opens 4 = .ok (.aload_n 0, 1) := by decide +kernel
theorem dX7_opens_5 : decode cX7_opens 5 = .ok (.aload_n 0, 1) := by decide +kernel
theorem dX7_opens_6 : decode cX7_opens 6 = .ok (.iload_n 1, 1) := by decide +kernel
theorem dX7_opens_7 : decode cX7_opens 7 = .ok (.iload_n 2, 1) := by decide +kernel
theorem dX7_opens_8 : decode cX7_opens 8 = .ok (.invokevirtual 106, 3) := by decide +kernel
theorem dX7_opens_11 : decode cX7_opens 11 = .ok (.invokevirtual 99, 3) := by decide +kernel
theorem dX7_opens_14 : decode cX7_opens 14 = .ok (.ireturn, 1) := by decide +kernel
theorem dX7_sticks_0 : decode cX7_sticks 0 = .ok (.aload_n 0, 1) := by decide +kernel
theorem dX7_sticks_1 : decode cX7_sticks 1 = .ok (.invokevirtual 93, 3) := by decide +kernel
theorem dX7_sticks_4 : decode cX7_sticks 4 = .ok (.aload_n 0, 1) := by decide +kernel
theorem dX7_sticks_5 : decode cX7_sticks 5 = .ok (.aload_n 0, 1) := by decide +kernel
theorem dX7_sticks_6 : decode cX7_sticks 6 = .ok (.iload_n 1, 1) := by decide +kernel
theorem dX7_sticks_7 : decode cX7_sticks 7 = .ok (.iload_n 2, 1) := by decide +kernel
theorem dX7_sticks_8 : decode cX7_sticks 8 = .ok (.invokevirtual 109, 3) := by decide +kernel
theorem dX7_sticks_11 : decode cX7_sticks 11 = .ok (.invokevirtual 99, 3) := by decide +kernel
theorem dX7_sticks_14 : decode cX7_sticks 14 = .ok (.ireturn, 1) := by decide +kernel
theorem dX7_shorts_0 : decode cX7_shorts 0 = .ok (.aload_n 0, 1) := by decide +kernel
theorem dX7_shorts_1 : decode cX7_shorts 1 = .ok (.invokevirtual 93, 3) := by decide +kernel
theorem dX7_shorts_4 : decode cX7_shorts 4 = .ok (.aload_n 0, 1) := by decide +kernel
theorem dX7_shorts_5 : decode cX7_shorts 5 = .ok (.aload_n 0, 1) := by decide +kernel
theorem dX7_shorts_6 : decode cX7_shorts 6 = .ok (.iload_n 1, 1) := by decide +kernel
theorem dX7_shorts_7 : decode cX7_shorts 7 = .ok (.iload_n 2, 1) := by decide +kernel
theorem dX7_shorts_8 : decode cX7_shorts 8 = .ok (.iload_n 3, 1) := by decide +kernel
theorem dX7_shorts_9 : decode cX7_shorts 9 = .ok (.invokevirtual 112, 3) := by decide +kernel
theorem dX7_shorts_12 : decode cX7_shorts 12 = .ok (.invokevirtual 99, 3) := by decide +kernel
theorem dX7_shorts_15 : decode cX7_shorts 15 = .ok (.ireturn, 1) := by decide +kernel
theorem dX7_heals_0 : decode cX7_heals 0 = .ok (.aload_n 0, 1) := by decide +kernel
theorem dX7_heals_1 : decode cX7_heals 1 = .ok (.invokevirtual 93, 3) := by decide +kernel
theorem dX7_heals_4 : decode cX7_heals 4 = .ok (.aload_n 0, 1) := by decide +kernel
theorem dX7_heals_5 : decode cX7_heals 5 = .ok (.aload_n 0, 1) := by decide +kernel
theorem dX7_heals_6 : decode cX7_heals 6 = .ok (.invokevirtual 115, 3) := by decide +kernel
theorem dX7_heals_9 : decode cX7_heals 9 = .ok (.invokevirtual 99, 3) := by decide +kernel
theorem dX7_heals_12 : decode cX7_heals 12 = .ok (.ireturn, 1) := by decide +kernel
theorem dX7_usesAll_0 : decode cX7_usesAll 0 = .ok (.aload_n 0, 1) := by decide +kernel
theorem dX7_usesAll_1 : decode cX7_usesAll 1 = .ok (.aload_n 0, 1) := by decide +kernel
theorem dX7_usesAll_2 : decode cX7_usesAll 2 = .ok (.getfield 7, 3) := by decide +kernel
theorem dX7_usesAll_5 : decode cX7_usesAll 5 = .ok (.iconst 2, 1) := by decide +kernel
theorem dX7_usesAll_6 : decode cX7_usesAll 6 = .ok (.iaload, 1) := by decide +kernel
theorem dX7_usesAll_7 : decode cX7_usesAll 7 = .ok (.putfield 118, 3) := by decide +kernel
theorem dX7_usesAll_10 : decode cX7_usesAll 10 = .ok (.iconst 0, 1) := by decide +kernel
theorem dX7_usesAll_11 : decode cX7_usesAll 11 = .ok (.istore_n 1, 1) := by decide +kernel
theorem dX7_usesAll_12 : decode cX7_usesAll 12 = .ok (.iload_n 1, 1) := by decide +kernel
theorem dX7_usesAll_13 : decode cX7_usesAll 13 = .ok (.aload_n 0, 1) := by decide +kernel
theorem dX7_usesAll_14 : decode cX7_usesAll 14 = .ok (.getfield 118, 3) := by decide +kernel
theorem dX7_usesAll_17 : decode cX7_usesAll 17 = .ok (.if_icmp .ge 23, 3) := by decide +kernel
theorem dX7_usesAll_20 : decode cX7_usesAll 20 = .ok (.aload_n 0, 1) := by decide +kernel
theorem dX7_usesAll_21 : decode cX7_usesAll 21 = .ok (.getfield 25, 3) := by decide +kernel
theorem dX7_usesAll_24 : decode cX7_usesAll 24 = .ok (.iload_n 1, 1) := by decide +kernel
theorem dX7_usesAll_25 : decode cX7_usesAll 25 = .ok (.aload_n 0, 1) := by decide +kernel
theorem dX7_usesAll_26 : decode cX7_usesAll 26 = .ok (.getfield 7, 3) := by decide +kernel
theorem dX7_usesAll_29 : decode cX7_usesAll 29 = .ok (.iconst 3, 1) := by decide +kernel
theorem dX7_usesAll_30 : decode cX7_usesAll 30 = .ok (.iload_n 1, 1) := by decide +kernel
theorem dX7_usesAll_31 : decode cX7_usesAll 31 = .ok (.iadd, 1) := by decide +kernel
theorem dX7_usesAll_32 : decode cX7_usesAll 32 = .ok (.iaload, 1) := by decide +kernel
theorem dX7_usesAll_33 : decode cX7_usesAll 33 = .ok (.iastore, 1) := by decide +kernel
theorem dX7_usesAll_34 : decode cX7_usesAll 34 = .ok (.iinc 1 1, 3) := by decide +kernel
theorem dX7_usesAll_37 : decode cX7_usesAll 37 = .ok (.goto (-25), 3) := by decide +kernel
theorem dX7_usesAll_40 : decode cX7_usesAll 40 = .ok (.return_, 1) := by decide +kernel
theorem dX7_usesOne_0 : decode cX7_usesOne 0 = .ok (.aload_n 0, 1) := by decide +kernel
theorem dX7_usesOne_1 : decode cX7_usesOne 1 = .ok (.iload_n 1, 1) := by decide +kernel
theorem dX7_usesOne_2 : decode cX7_usesOne 2 = .ok (.ifCond .ne 7, 3) := by decide +kernel
theorem dX7_usesOne_5 : decode cX7_usesOne 5 = .ok (.iconst 0, 1) := by decide +kernel
theorem dX7_usesOne_6 : decode cX7_usesOne 6 = .ok (.goto 4, 3) := by decide +kernel
theorem dX7_usesOne_9 : decode cX7_usesOne 9 = .ok (.iconst 1, 1) := by decide +kernel
theorem dX7_usesOne_10 : decode cX7_usesOne 10 = .ok (.putfield 118, 3) := by decide +kernel
theorem dX7_usesOne_13 : decode cX7_usesOne 13 = .ok (.aload_n 0, 1) := by decide +kernel
theorem dX7_usesOne_14 : decode cX7_usesOne 14 = .ok (.getfield 25, 3) := by decide +kernel
theorem dX7_usesOne_17 : decode cX7_usesOne 17 = .ok (.iconst 0, 1) := by decide +kernel
theorem dX7_usesOne_18 : decode cX7_usesOne 18 = .ok (.iload_n 1, 1) := by decide +kernel
theorem dX7_usesOne_19 : decode cX7_usesOne 19 = .ok (.iastore, 1) := by decide +kernel
theorem dX7_usesOne_20 : decode cX7_usesOne 20 = .ok (.return_, 1) := by decide +kernel
theorem dX7_isOpen_0 : decode cX7_isOpen 0 = .ok (.iconst 0, 1) := by decide +kernel
theorem dX7_isOpen_1 : decode cX7_isOpen 1 = .ok (.istore_n 3, 1) := by decide +kernel
theorem dX7_isOpen_2 : decode cX7_isOpen 2 = .ok (.iconst 0, 1) := by decide +kernel
theorem dX7_isOpen_3 : decode cX7_isOpen 3 = .ok (.istore 4, 2) := by decide +kernel
theorem dX7_isOpen_5 : decode cX7_isOpen 5 = .ok (.iload 4, 2) := by decide +kernel
theorem dX7_isOpen_7 : decode cX7_isOpen 7 = .ok (.aload_n 0, 1) := by decide +kernel
theorem dX7_isOpen_8 : decode cX7_isOpen 8 = .ok (.getfield 118, 3) := by decide +kernel
theorem dX7_isOpen_11 : decode cX7_isOpen 11 = .ok (.if_icmp .ge 39, 3) := by decide +kernel
theorem dX7_isOpen_14 : decode cX7_isOpen 14 = .ok (.iload_n 3, 1) := by decide +kernel
theorem dX7_isOpen_15 : decode cX7_isOpen 15 = .ok (.ifCond .ne 23, 3) := by decide +kernel
theorem dX7_isOpen_18 : decode cX7_isOpen 18 = .ok (.aload_n 0, 1) := by decide +kernel
theorem dX7_isOpen_19 : decode cX7_isOpen 19 = .ok (.getfield 25, 3) := by decide +kernel
theorem dX7_isOpen_22 : decode cX7_isOpen 22 = .ok (.iload 4, 2) := by decide +kernel
theorem dX7_isOpen_24 : decode cX7_isOpen 24 = .ok (.iaload, 1) := by decide +kernel
theorem dX7_isOpen_25 : decode cX7_isOpen 25 = .ok (.sipush 1000, 3) := by decide +kernel
theorem dX7_isOpen_28 : decode cX7_isOpen 28 = .ok (.bipush 10, 2) := by decide +kernel
theorem dX7_isOpen_30 : decode cX7_isOpen 30 = .ok (.iload_n 1, 1) := by decide +kernel
theorem dX7_isOpen_31 : decode cX7_isOpen 31 = .ok (.imul, 1) := by decide +kernel
theorem dX7_isOpen_32 : decode cX7_isOpen 32 = .ok (.iadd, 1) := by decide +kernel
theorem dX7_isOpen_33 : decode cX7_isOpen 33 = .ok (.iload_n 2, 1) := by decide +kernel
theorem dX7_isOpen_34 : decode cX7_isOpen 34 = .ok (.iadd, 1) := by decide +kernel
theorem dX7_isOpen_35 : decode cX7_isOpen 35 = .ok (.if_icmp .ne 7, 3) := by decide +kernel
theorem dX7_isOpen_38 : decode cX7_isOpen 38 = .ok (.iconst 1, 1) := by decide +kernel
theorem dX7_isOpen_39 : decode cX7_isOpen 39 = .ok (.goto 4, 3) := by decide +kernel
theorem dX7_isOpen_42 : decode cX7_isOpen 42 = .ok (.iconst 0, 1) := by decide +kernel
theorem dX7_isOpen_43 : decode cX7_isOpen 43 = .ok (.istore_n 3, 1) := by decide +kernel
theorem dX7_isOpen_44 : decode cX7_isOpen 44 = .ok (.iinc 4 1, 3) := by decide +kernel
theorem dX7_isOpen_47 : decode cX7_isOpen 47 = .ok (.goto (-42), 3) := by decide +kernel
theorem dX7_isOpen_50 : decode cX7_isOpen 50 = .ok (.iload_n 3, 1) := by decide +kernel
theorem dX7_isOpen_51 : decode cX7_isOpen 51 = .ok (.ireturn, 1) := by decide +kernel
theorem dX7_outs_0 : decode cX7_outs 0 = .ok (.iconst 0, 1) := by decide +kernel
theorem dX7_outs_1 : decode cX7_outs 1 = .ok (.istore_n 1, 1) := by decide +kernel
theorem dX7_outs_2 : decode cX7_outs 2 = .ok (.iconst 0, 1) := by decide +kernel
theorem dX7_outs_3 : decode cX7_outs 3 = .ok (.istore_n 2, 1) := by decide +kernel
theorem dX7_outs_4 : decode cX7_outs 4 = .ok (.iload_n 2, 1) := by decide +kernel
theorem dX7_outs_5 : decode cX7_outs 5 = .ok (.aload_n 0, 1) := by decide +kernel
theorem dX7_outs_6 : decode cX7_outs 6 = .ok (.invokevirtual 121, 3) := by decide +kernel
theorem dX7_outs_9 : decode cX7_outs 9 = .ok (.if_icmp .ge 51, 3) := by decide +kernel
theorem dX7_outs_12 : decode cX7_outs 12 = .ok (.iconst 0, 1) := by decide +kernel
theorem dX7_outs_13 : decode cX7_outs 13 = .ok (.istore_n 3, 1) := by decide +kernel
theorem dX7_outs_14 : decode cX7_outs 14 = .ok (.iload_n 3, 1) := by decide +kernel
theorem dX7_outs_15 : decode cX7_outs 15 = .ok (.aload_n 0, 1) := by decide +kernel
theorem dX7_outs_16 : decode cX7_outs 16 = .ok (.iload_n 2, 1) := by decide +kernel
theorem dX7_outs_17 : decode cX7_outs 17 = .ok (.iconst 2, 1) := by decide +kernel
theorem dX7_outs_18 : decode cX7_outs 18 = .ok (.invokevirtual 55, 3) := by decide +kernel
theorem dX7_outs_21 : decode cX7_outs 21 = .ok (.if_icmp .ge 33, 3) := by decide +kernel
theorem dX7_outs_24 : decode cX7_outs 24 = .ok (.iload_n 1, 1) := by decide +kernel
theorem dX7_outs_25 : decode cX7_outs 25 = .ok (.aload_n 0, 1) := by decide +kernel
theorem dX7_outs_26 : decode cX7_outs 26 = .ok (.iload_n 2, 1) := by decide +kernel
theorem dX7_outs_27 : decode cX7_outs 27 = .ok (.iload_n 3, 1) := by decide +kernel
theorem dX7_outs_28 : decode cX7_outs 28 = .ok (.invokevirtual 124, 3) := by decide +kernel
theorem dX7_outs_31 : decode cX7_outs 31 = .ok (.ifCond .eq 14, 3) := by decide +kernel
theorem dX7_outs_34 : decode cX7_outs 34 = .ok (.iconst 1, 1) := by decide +kernel
theorem dX7_outs_35 : decode cX7_outs 35 = .ok (.aload_n 0, 1) := by decide +kernel
theorem dX7_outs_36 : decode cX7_outs 36 = .ok (.iload_n 2, 1) := by decide +kernel
theorem dX7_outs_37 : decode cX7_outs 37 = .ok (.iload_n 3, 1) := by decide +kernel
theorem dX7_outs_38 : decode cX7_outs 38 = .ok (.invokevirtual 127, 3) := by decide +kernel
theorem dX7_outs_41 : decode cX7_outs 41 = .ok (.ishl, 1) := by decide +kernel
theorem dX7_outs_42 : decode cX7_outs 42 = .ok (.goto 4, 3) := by decide +kernel
theorem dX7_outs_45 : decode cX7_outs 45 = .ok (.iconst 0, 1) := by decide +kernel
theorem dX7_outs_46 : decode cX7_outs 46 = .ok (.ior, 1) := by decide +kernel
theorem dX7_outs_47 : decode cX7_outs 47 = .ok (.istore_n 1, 1) := by decide +kernel
theorem dX7_outs_48 : decode cX7_outs 48 = .ok (.iinc 3 1, 3) := by decide +kernel
theorem dX7_outs_51 : decode cX7_outs 51 = .ok (.goto (-37), 3) := by decide +kernel
theorem dX7_outs_54 : decode cX7_outs 54 = .ok (.iinc 2 1, 3) := by decide +kernel
theorem dX7_outs_57 : decode cX7_outs 57 = .ok (.goto (-53), 3) := by decide +kernel
theorem dX7_outs_60 : decode cX7_outs 60 = .ok (.iload_n 1, 1) := by decide +kernel
theorem dX7_outs_61 : decode cX7_outs 61 = .ok (.ireturn, 1) := by decide +kernel
theorem dX7_netsWithCells_0 : decode cX7_netsWithCells 0 = .ok (.iconst 0, 1) := by decide +kernel
theorem dX7_netsWithCells_1 : decode cX7_netsWithCells 1 = .ok (.istore_n 1, 1) := by decide +kernel
theorem dX7_netsWithCells_2 : decode cX7_netsWithCells 2 = .ok (.iconst 0, 1) := by decide +kernel
theorem dX7_netsWithCells_3 : decode cX7_netsWithCells 3 = .ok (.istore_n 2, 1) := by decide +kernel
theorem dX7_netsWithCells_4 : decode cX7_netsWithCells 4 = .ok (.iload_n 2, 1) := by decide +kernel
theorem dX7_netsWithCells_5 : decode cX7_netsWithCells 5 = .ok (.aload_n 0, 1) := by decide +kernel
theorem dX7_netsWithCells_6 : decode cX7_netsWithCells 6 = .ok (.invokevirtual 121, 3) := by decide +kernel
theorem dX7_netsWithCells_9 : decode cX7_netsWithCells 9 = .ok (.if_icmp .ge 38, 3) := by decide +kernel
theorem dX7_netsWithCells_12 : decode cX7_netsWithCells 12 = .ok (.iconst 0, 1) := by decide +kernel
theorem dX7_netsWithCells_13 : decode cX7_netsWithCells 13 = .ok (.istore_n 3, 1) := by decide +kernel
theorem dX7_netsWithCells_14 : decode cX7_netsWithCells 14 = .ok (.iload_n 3, 1) := by decide +kernel
theorem dX7_netsWithCells_15 : decode cX7_netsWithCells 15 = .ok (.aload_n 0, 1) := by decide +kernel
theorem dX7_netsWithCells_16 : decode cX7_netsWithCells 16 = .ok (.iload_n 2, 1) := by decide +kernel
theorem dX7_netsWithCells_17 : decode cX7_netsWithCells 17 = .ok (.iconst 2, 1) := by decide +kernel
theorem dX7_netsWithCells_18 : decode cX7_netsWithCells 18 = .ok (.invokevirtual 55, 3) := by decide +kernel
theorem dX7_netsWithCells_21 : decode cX7_netsWithCells 21 = .ok (.if_icmp .ge 20, 3) := by decide +kernel
theorem dX7_netsWithCells_24 : decode cX7_netsWithCells 24 = .ok (.iload_n 1, 1) := by decide +kernel
theorem dX7_netsWithCells_25 : decode cX7_netsWithCells 25 = .ok (.iconst 1, 1) := by decide +kernel
theorem dX7_netsWithCells_26 : decode cX7_netsWithCells 26 = .ok (.aload_n 0, 1) := by decide +kernel
theorem dX7_netsWithCells_27 : decode cX7_netsWithCells 27 = .ok (.iload_n 2, 1) := by decide +kernel
theorem dX7_netsWithCells_28 : decode cX7_netsWithCells 28 = .ok (.iload_n 3, 1) := by decide +kernel
theorem dX7_netsWithCells_29 : decode cX7_netsWithCells 29 = .ok (.invokevirtual 127, 3) := by decide +kernel
theorem dX7_netsWithCells_32 : decode cX7_netsWithCells 32 = .ok (.ishl, 1) := by decide +kernel
theorem dX7_netsWithCells_33 : decode cX7_netsWithCells 33 = .ok (.ior, 1) := by decide +kernel
theorem dX7_netsWithCells_34 : decode cX7_netsWithCells 34 = .ok (.istore_n 1, 1) := by decide +kernel
theorem dX7_netsWithCells_35 : decode cX7_netsWithCells 35 = .ok (.iinc 3 1, 3) := by decide +kernel
theorem dX7_netsWithCells_38 : decode cX7_netsWithCells 38 = .ok (.goto (-24), 3) := by decide +kernel
theorem dX7_netsWithCells_41 : decode cX7_netsWithCells 41 = .ok (.iinc 2 1, 3) := by decide +kernel
theorem dX7_netsWithCells_44 : decode cX7_netsWithCells 44 = .ok (.goto (-40), 3) := by decide +kernel
theorem dX7_netsWithCells_47 : decode cX7_netsWithCells 47 = .ok (.iload_n 1, 1) := by decide +kernel
theorem dX7_netsWithCells_48 : decode cX7_netsWithCells 48 = .ok (.ireturn, 1) := by decide +kernel
theorem dX7_ones_0 : decode cX7_ones 0 = .ok (.iconst 0, 1) := by decide +kernel
theorem dX7_ones_1 : decode cX7_ones 1 = .ok (.istore_n 1, 1) := by decide +kernel
theorem dX7_ones_2 : decode cX7_ones 2 = .ok (.iconst 0, 1) := by decide +kernel
theorem dX7_ones_3 : decode cX7_ones 3 = .ok (.istore_n 2, 1) := by decide +kernel
theorem dX7_ones_4 : decode cX7_ones 4 = .ok (.iload_n 2, 1) := by decide +kernel
theorem dX7_ones_5 : decode cX7_ones 5 = .ok (.bipush 8, 2) := by decide +kernel
theorem dX7_ones_7 : decode cX7_ones 7 = .ok (.if_icmp .ge 17, 3) := by decide +kernel
theorem dX7_ones_10 : decode cX7_ones 10 = .ok (.iload_n 1, 1) := by decide +kernel
theorem dX7_ones_11 : decode cX7_ones 11 = .ok (.iload_n 0, 1) := by decide +kernel
theorem dX7_ones_12 : decode cX7_ones 12 = .ok (.iload_n 2, 1) := by decide +kernel
theorem dX7_ones_13 : decode cX7_ones 13 = .ok (.ishr, 1) := by decide +kernel
theorem dX7_ones_14 : decode cX7_ones 14 = .ok (.iconst 1, 1) := by decide +kernel
theorem dX7_ones_15 : decode cX7_ones 15 = .ok (.iand, 1) := by decide +kernel
theorem dX7_ones_16 : decode cX7_ones 16 = .ok (.iadd, 1) := by decide +kernel
theorem dX7_ones_17 : decode cX7_ones 17 = .ok (.istore_n 1, 1) := by decide +kernel
theorem dX7_ones_18 : decode cX7_ones 18 = .ok (.iinc 2 1, 3) := by decide +kernel
theorem dX7_ones_21 : decode cX7_ones 21 = .ok (.goto (-17), 3) := by decide +kernel
theorem dX7_ones_24 : decode cX7_ones 24 = .ok (.iload_n 1, 1) := by decide +kernel
theorem dX7_ones_25 : decode cX7_ones 25 = .ok (.ireturn, 1) := by decide +kernel
theorem dX7_counting_0 : decode cX7_counting 0 = .ok (.iconst 0, 1) := by decide +kernel
theorem dX7_counting_1 : decode cX7_counting 1 = .ok (.istore_n 1, 1) := by decide +kernel
theorem dX7_counting_2 : decode cX7_counting 2 = .ok (.iconst 1, 1) := by decide +kernel
theorem dX7_counting_3 : decode cX7_counting 3 = .ok (.iload_n 1, 1) := by decide +kernel
theorem dX7_counting_4 : decode cX7_counting 4 = .ok (.ishl, 1) := by decide +kernel
theorem dX7_counting_5 : decode cX7_counting 5 = .ok (.aload_n 0, 1) := by decide +kernel
theorem dX7_counting_6 : decode cX7_counting 6 = .ok (.invokevirtual 130, 3) := by decide +kernel
theorem dX7_counting_9 : decode cX7_counting 9 = .ok (.invokestatic 133, 3) := by decide +kernel
theorem dX7_counting_12 : decode cX7_counting 12 = .ok (.iconst 2, 1) := by decide +kernel
theorem dX7_counting_13 : decode cX7_counting 13 = .ok (.iadd, 1) := by decide +kernel
theorem dX7_counting_14 : decode cX7_counting 14 = .ok (.if_icmp .ge 9, 3) := by decide +kernel
theorem dX7_counting_17 : decode cX7_counting 17 = .ok (.iinc 1 1, 3) := by decide +kernel
theorem dX7_counting_20 : decode cX7_counting 20 = .ok (.goto (-18), 3) := by decide +kernel
theorem dX7_counting_23 : decode cX7_counting 23 = .ok (.iload_n 1, 1) := by decide +kernel
theorem dX7_counting_24 : decode cX7_counting 24 = .ok (.ireturn, 1) := by decide +kernel
theorem dX7_patternAt_0 : decode cX7_patternAt 0 = .ok (.aload_n 0, 1) := by decide +kernel
theorem dX7_patternAt_1 : decode cX7_patternAt 1 = .ok (.invokevirtual 136, 3) := by decide +kernel
theorem dX7_patternAt_4 : decode cX7_patternAt 4 = .ok (.istore_n 3, 1) := by decide +kernel
theorem dX7_patternAt_5 : decode cX7_patternAt 5 = .ok (.aload_n 0, 1) := by decide +kernel
theorem dX7_patternAt_6 : decode cX7_patternAt 6 = .ok (.invokevirtual 130, 3) := by decide +kernel
theorem dX7_patternAt_9 : decode cX7_patternAt 9 = .ok (.iconst 1, 1) := by decide +kernel
theorem dX7_patternAt_10 : decode cX7_patternAt 10 = .ok (.iload_n 2, 1) := by decide +kernel
theorem dX7_patternAt_11 : decode cX7_patternAt 11 = .ok (.ishl, 1) := by decide +kernel
theorem dX7_patternAt_12 : decode cX7_patternAt 12 = .ok (.iconst 1, 1) := by decide +kernel
theorem dX7_patternAt_13 : decode cX7_patternAt 13 = .ok (.isub, 1) := by decide +kernel
theorem dX7_patternAt_14 : decode cX7_patternAt 14 = .ok (.iand, 1) := by decide +kernel
theorem dX7_patternAt_15 : decode cX7_patternAt 15 = .ok (.invokestatic 133, 3) := by decide +kernel
theorem dX7_patternAt_18 : decode cX7_patternAt 18 = .ok (.iconst 1, 1) := by decide +kernel
theorem dX7_patternAt_19 : decode cX7_patternAt 19 = .ok (.iadd, 1) := by decide +kernel
theorem dX7_patternAt_20 : decode cX7_patternAt 20 = .ok (.istore 4, 2) := by decide +kernel
theorem dX7_patternAt_22 : decode cX7_patternAt 22 = .ok (.iload_n 1, 1) := by decide +kernel
theorem dX7_patternAt_23 : decode cX7_patternAt 23 = .ok (.iload_n 3, 1) := by decide +kernel
theorem dX7_patternAt_24 : decode cX7_patternAt 24 = .ok (.if_icmp .ge 12, 3) := by decide +kernel
theorem dX7_patternAt_27 : decode cX7_patternAt 27 = .ok (.iload 4, 2) := by decide +kernel
theorem dX7_patternAt_29 : decode cX7_patternAt 29 = .ok (.iload_n 1, 1) := by decide +kernel
theorem dX7_patternAt_30 : decode cX7_patternAt 30 = .ok (.ishr, 1) := by decide +kernel
theorem dX7_patternAt_31 : decode cX7_patternAt 31 = .ok (.iconst 1, 1) := by decide +kernel
theorem dX7_patternAt_32 : decode cX7_patternAt 32 = .ok (.iand, 1) := by decide +kernel
theorem dX7_patternAt_33 : decode cX7_patternAt 33 = .ok (.goto 13, 3) := by decide +kernel
theorem dX7_patternAt_36 : decode cX7_patternAt 36 = .ok (.iconst 1, 1) := by decide +kernel
theorem dX7_patternAt_37 : decode cX7_patternAt 37 = .ok (.iload 4, 2) := by decide +kernel
theorem dX7_patternAt_39 : decode cX7_patternAt 39 = .ok (.iload_n 1, 1) := by decide +kernel
theorem dX7_patternAt_40 : decode cX7_patternAt 40 = .ok (.iload_n 3, 1) := by decide +kernel
theorem dX7_patternAt_41 : decode cX7_patternAt 41 = .ok (.isub, 1) := by decide +kernel
theorem dX7_patternAt_42 : decode cX7_patternAt 42 = .ok (.ishr, 1) := by decide +kernel
theorem dX7_patternAt_43 : decode cX7_patternAt 43 = .ok (.iconst 1, 1) := by decide +kernel
theorem dX7_patternAt_44 : decode cX7_patternAt 44 = .ok (.iand, 1) := by decide +kernel
theorem dX7_patternAt_45 : decode cX7_patternAt 45 = .ok (.isub, 1) := by decide +kernel
theorem dX7_patternAt_46 : decode cX7_patternAt 46 = .ok (.ireturn, 1) := by decide +kernel
theorem dX7_drives_0 : decode cX7_drives 0 = .ok (.aload_n 0, 1) := by decide +kernel
theorem dX7_drives_1 : decode cX7_drives 1 = .ok (.iload_n 1, 1) := by decide +kernel
theorem dX7_drives_2 : decode cX7_drives 2 = .ok (.iload_n 2, 1) := by decide +kernel
theorem dX7_drives_3 : decode cX7_drives 3 = .ok (.invokevirtual 124, 3) := by decide +kernel
theorem dX7_drives_6 : decode cX7_drives 6 = .ok (.ifCond .eq 25, 3) := by decide +kernel
theorem dX7_drives_9 : decode cX7_drives 9 = .ok (.aload_n 0, 1) := by decide +kernel
theorem dX7_drives_10 : decode cX7_drives 10 = .ok (.iload_n 1, 1) := by decide +kernel
theorem dX7_drives_11 : decode cX7_drives 11 = .ok (.iload_n 2, 1) := by decide +kernel
theorem dX7_drives_12 : decode cX7_drives 12 = .ok (.invokevirtual 139, 3) := by decide +kernel
theorem dX7_drives_15 : decode cX7_drives 15 = .ok (.ifCond .ne 16, 3) := by decide +kernel
theorem dX7_drives_18 : decode cX7_drives 18 = .ok (.iload_n 3, 1) := by decide +kernel
theorem dX7_drives_19 : decode cX7_drives 19 = .ok (.ifCond .ge 14, 3) := by decide +kernel
theorem dX7_drives_22 : decode cX7_drives 22 = .ok (.aload_n 0, 1) := by decide +kernel
theorem dX7_drives_23 : decode cX7_drives 23 = .ok (.iload_n 1, 1) := by decide +kernel
theorem dX7_drives_24 : decode cX7_drives 24 = .ok (.iconst 3, 1) := by decide +kernel
theorem dX7_drives_25 : decode cX7_drives 25 = .ok (.invokevirtual 55, 3) := by decide +kernel
theorem dX7_drives_28 : decode cX7_drives 28 = .ok (.ifCond .eq 5, 3) := by decide +kernel
theorem dX7_drives_31 : decode cX7_drives 31 = .ok (.iconst (-1), 1) := by decide +kernel
theorem dX7_drives_32 : decode cX7_drives 32 = .ok (.ireturn, 1) := by decide +kernel
theorem dX7_drives_33 : decode cX7_drives 33 = .ok (.iload_n 3, 1) := by decide +kernel
theorem dX7_drives_34 : decode cX7_drives 34 = .ok (.ifCond .ge 17, 3) := by decide +kernel
theorem dX7_drives_37 : decode cX7_drives 37 = .ok (.aload_n 0, 1) := by decide +kernel
theorem dX7_drives_38 : decode cX7_drives 38 = .ok (.iload_n 1, 1) := by decide +kernel
theorem dX7_drives_39 : decode cX7_drives 39 = .ok (.bipush 6, 2) := by decide +kernel
theorem dX7_drives_41 : decode cX7_drives 41 = .ok (.invokevirtual 55, 3) := by decide +kernel
theorem dX7_drives_44 : decode cX7_drives 44 = .ok (.iload_n 2, 1) := by decide +kernel
theorem dX7_drives_45 : decode cX7_drives 45 = .ok (.ishr, 1) := by decide +kernel
theorem dX7_drives_46 : decode cX7_drives 46 = .ok (.iconst 1, 1) := by decide +kernel
theorem dX7_drives_47 : decode cX7_drives 47 = .ok (.iand, 1) := by decide +kernel
theorem dX7_drives_48 : decode cX7_drives 48 = .ok (.goto 14, 3) := by decide +kernel
theorem dX7_drives_51 : decode cX7_drives 51 = .ok (.aload_n 0, 1) := by decide +kernel
theorem dX7_drives_52 : decode cX7_drives 52 = .ok (.iload_n 3, 1) := by decide +kernel
theorem dX7_drives_53 : decode cX7_drives 53 = .ok (.aload_n 0, 1) := by decide +kernel
theorem dX7_drives_54 : decode cX7_drives 54 = .ok (.iload_n 1, 1) := by decide +kernel
theorem dX7_drives_55 : decode cX7_drives 55 = .ok (.iload_n 2, 1) := by decide +kernel
theorem dX7_drives_56 : decode cX7_drives 56 = .ok (.invokevirtual 127, 3) := by decide +kernel
theorem dX7_drives_59 : decode cX7_drives 59 = .ok (.invokevirtual 142, 3) := by decide +kernel
theorem dX7_drives_62 : decode cX7_drives 62 = .ok (.ireturn, 1) := by decide +kernel
theorem dX7_laysDrivers_0 : decode cX7_laysDrivers 0 = .ok (.iconst 0, 1) := by decide +kernel
theorem dX7_laysDrivers_1 : decode cX7_laysDrivers 1 = .ok (.istore_n 2, 1) := by decide +kernel
theorem dX7_laysDrivers_2 : decode cX7_laysDrivers 2 = .ok (.iconst 0, 1) := by decide +kernel
theorem dX7_laysDrivers_3 : decode cX7_laysDrivers 3 = .ok (.istore_n 3, 1) := by decide +kernel
theorem dX7_laysDrivers_4 : decode cX7_laysDrivers 4 = .ok (.iconst 0, 1) := by decide +kernel
theorem dX7_laysDrivers_5 : decode cX7_laysDrivers 5 = .ok (.istore 4, 2) := by decide +kernel
theorem dX7_laysDrivers_7 : decode cX7_laysDrivers 7 = .ok (.iload 4, 2) := by decide +kernel
theorem dX7_laysDrivers_9 : decode cX7_laysDrivers 9 = .ok (.aload_n 0, 1) := by decide +kernel
theorem dX7_laysDrivers_10 : decode cX7_laysDrivers 10 = .ok (.invokevirtual 121, 3) := by decide +kernel
theorem dX7_laysDrivers_13 : decode cX7_laysDrivers 13 = .ok (.if_icmp .ge 86, 3) := by decide +kernel
theorem dX7_laysDrivers_16 : decode cX7_laysDrivers 16 = .ok (.iconst 0, 1) := by decide +kernel
theorem dX7_laysDrivers_17 : decode cX7_laysDrivers 17 = .ok (.istore 5, 2) := by decide +kernel
theorem dX7_laysDrivers_19 : decode cX7_laysDrivers 19 = .ok (.iload 5, 2) := by decide +kernel
theorem dX7_laysDrivers_21 : decode cX7_laysDrivers 21 = .ok (.aload_n 0, 1) := by decide +kernel
theorem dX7_laysDrivers_22 : decode cX7_laysDrivers 22 = .ok (.iload 4, 2) := by decide +kernel
theorem dX7_laysDrivers_24 : decode cX7_laysDrivers 24 = .ok (.iconst 2, 1) := by decide +kernel
theorem dX7_laysDrivers_25 : decode cX7_laysDrivers 25 = .ok (.invokevirtual 55, 3) := by decide +kernel
theorem dX7_laysDrivers_28 : decode cX7_laysDrivers 28 = .ok (.if_icmp .ge 65, 3) := by decide +kernel
theorem dX7_laysDrivers_31 : decode cX7_laysDrivers 31 = .ok (.aload_n 0, 1) := by decide +kernel
theorem dX7_laysDrivers_32 : decode cX7_laysDrivers 32 = .ok (.iload 4, 2) := by decide +kernel
theorem dX7_laysDrivers_34 : decode cX7_laysDrivers 34 = .ok (.iload 5, 2) := by decide +kernel
theorem dX7_laysDrivers_36 : decode cX7_laysDrivers 36 = .ok (.iload_n 1, 1) := by decide +kernel
theorem dX7_laysDrivers_37 : decode cX7_laysDrivers 37 = .ok (.invokevirtual 145, 3) := by decide +kernel
theorem dX7_laysDrivers_40 : decode cX7_laysDrivers 40 = .ok (.istore 6, 2) := by decide +kernel
theorem dX7_laysDrivers_42 : decode cX7_laysDrivers 42 = .ok (.iload_n 2, 1) := by decide +kernel
theorem dX7_laysDrivers_43 : decode cX7_laysDrivers 43 = .ok (.iload 6, 2) := by decide +kernel
theorem dX7_laysDrivers_45 : decode cX7_laysDrivers 45 = .ok (.ifCond .ne 16, 3) := by decide +kernel
theorem dX7_laysDrivers_48 : decode cX7_laysDrivers 48 = .ok (.iconst 1, 1) := by decide +kernel
theorem dX7_laysDrivers_49 : decode cX7_laysDrivers 49 = .ok (.aload_n 0, 1) := by decide +kernel
theorem dX7_laysDrivers_50 : decode cX7_laysDrivers 50 = .ok (.iload 4, 2) := by decide +kernel
theorem dX7_laysDrivers_52 : decode cX7_laysDrivers 52 = .ok (.iload 5, 2) := by decide +kernel
theorem dX7_laysDrivers_54 : decode cX7_laysDrivers 54 = .ok (.invokevirtual 127, 3) := by decide +kernel
theorem dX7_laysDrivers_57 : decode cX7_laysDrivers 57 = .ok (.ishl, 1) := by decide +kernel
theorem dX7_laysDrivers_58 : decode cX7_laysDrivers 58 = .ok (.goto 4, 3) := by decide +kernel
theorem dX7_laysDrivers_61 : decode cX7_laysDrivers 61 = .ok (.iconst 0, 1) := by decide +kernel
theorem dX7_laysDrivers_62 : decode cX7_laysDrivers 62 = .ok (.ior, 1) := by decide +kernel
theorem dX7_laysDrivers_63 : decode cX7_laysDrivers 63 = .ok (.istore_n 2, 1) := by decide +kernel
theorem dX7_laysDrivers_64 : decode cX7_laysDrivers 64 = .ok (.iload_n 3, 1) := by decide +kernel
theorem dX7_laysDrivers_65 : decode cX7_laysDrivers 65 = .ok (.iload 6, 2) := by decide +kernel
theorem dX7_laysDrivers_67 : decode cX7_laysDrivers 67 = .ok (.iconst 1, 1) := by decide +kernel
theorem dX7_laysDrivers_68 : decode cX7_laysDrivers 68 = .ok (.if_icmp .ne 16, 3) := by decide +kernel
theorem dX7_laysDrivers_71 : decode cX7_laysDrivers 71 = .ok (.iconst 1, 1) := by decide +kernel
theorem dX7_laysDrivers_72 : decode cX7_laysDrivers 72 = .ok (.aload_n 0, 1) := by decide +kernel
theorem dX7_laysDrivers_73 : decode cX7_laysDrivers 73 = .ok (.iload 4, 2) := by decide +kernel
theorem dX7_laysDrivers_75 : decode cX7_laysDrivers 75 = .ok (.iload 5, 2) := by decide +kernel
theorem dX7_laysDrivers_77 : decode cX7_laysDrivers 77 = .ok (.invokevirtual 127, 3) := by decide +kernel
theorem dX7_laysDrivers_80 : decode cX7_laysDrivers 80 = .ok (.ishl, 1) := by decide +kernel
theorem dX7_laysDrivers_81 : decode cX7_laysDrivers 81 = .ok (.goto 4, 3) := by decide +kernel
theorem dX7_laysDrivers_84 : decode cX7_laysDrivers 84 = .ok (.iconst 0, 1) := by decide +kernel
theorem dX7_laysDrivers_85 : decode cX7_laysDrivers 85 = .ok (.ior, 1) := by decide +kernel
theorem dX7_laysDrivers_86 : decode cX7_laysDrivers 86 = .ok (.istore_n 3, 1) := by decide +kernel
theorem dX7_laysDrivers_87 : decode cX7_laysDrivers 87 = .ok (.iinc 5 1, 3) := by decide +kernel
theorem dX7_laysDrivers_90 : decode cX7_laysDrivers 90 = .ok (.goto (-71), 3) := by decide +kernel
theorem dX7_laysDrivers_93 : decode cX7_laysDrivers 93 = .ok (.iinc 4 1, 3) := by decide +kernel
theorem dX7_laysDrivers_96 : decode cX7_laysDrivers 96 = .ok (.goto (-89), 3) := by decide +kernel
theorem dX7_laysDrivers_99 : decode cX7_laysDrivers 99 = .ok (.aload_n 0, 1) := by decide +kernel
theorem dX7_laysDrivers_100 : decode cX7_laysDrivers 100 = .ok (.iload_n 2, 1) := by decide +kernel
theorem dX7_laysDrivers_101 : decode cX7_laysDrivers 101 = .ok (.iload_n 3, 1) := by decide +kernel
theorem dX7_laysDrivers_102 : decode cX7_laysDrivers 102 = .ok (.iand, 1) := by decide +kernel
theorem dX7_laysDrivers_103 : decode cX7_laysDrivers 103 = .ok (.putfield 148, 3) := by decide +kernel
theorem dX7_laysDrivers_106 : decode cX7_laysDrivers 106 = .ok (.iconst 0, 1) := by decide +kernel
theorem dX7_laysDrivers_107 : decode cX7_laysDrivers 107 = .ok (.istore 4, 2) := by decide +kernel
theorem dX7_laysDrivers_109 : decode cX7_laysDrivers 109 = .ok (.iload 4, 2) := by decide +kernel
theorem dX7_laysDrivers_111 : decode cX7_laysDrivers 111 = .ok (.bipush 8, 2) := by decide +kernel
theorem dX7_laysDrivers_113 : decode cX7_laysDrivers 113 = .ok (.if_icmp .ge 30, 3) := by decide +kernel
theorem dX7_laysDrivers_116 : decode cX7_laysDrivers 116 = .ok (.aload_n 0, 1) := by decide +kernel
theorem dX7_laysDrivers_117 : decode cX7_laysDrivers 117 = .ok (.getfield 28, 3) := by decide +kernel
theorem dX7_laysDrivers_120 : decode cX7_laysDrivers 120 = .ok (.iload 4, 2) := by decide +kernel
theorem dX7_laysDrivers_122 : decode cX7_laysDrivers 122 = .ok (.iload_n 2, 1) := by decide +kernel
theorem dX7_laysDrivers_123 : decode cX7_laysDrivers 123 = .ok (.iload 4, 2) := by decide +kernel
theorem dX7_laysDrivers_125 : decode cX7_laysDrivers 125 = .ok (.invokestatic 151, 3) := by decide +kernel
theorem dX7_laysDrivers_128 : decode cX7_laysDrivers 128 = .ok (.ifCond .eq 7, 3) := by decide +kernel
theorem dX7_laysDrivers_131 : decode cX7_laysDrivers 131 = .ok (.iconst 0, 1) := by decide +kernel
theorem dX7_laysDrivers_132 : decode cX7_laysDrivers 132 = .ok (.goto 4, 3) := by decide +kernel
theorem dX7_laysDrivers_135 : decode cX7_laysDrivers 135 = .ok (.iconst 1, 1) := by decide +kernel
theorem dX7_laysDrivers_136 : decode cX7_laysDrivers 136 = .ok (.iastore, 1) := by decide +kernel
theorem dX7_laysDrivers_137 : decode cX7_laysDrivers 137 = .ok (.iinc 4 1, 3) := by decide +kernel
theorem dX7_laysDrivers_140 : decode cX7_laysDrivers 140 = .ok (.goto (-31), 3) := by decide +kernel
theorem dX7_laysDrivers_143 : decode cX7_laysDrivers 143 = .ok (.return_, 1) := by decide +kernel
theorem dX7_laysNets_0 : decode cX7_laysNets 0 = .ok (.aload_n 0, 1) := by decide +kernel
theorem dX7_laysNets_1 : decode cX7_laysNets 1 = .ok (.iload_n 1, 1) := by decide +kernel
theorem dX7_laysNets_2 : decode cX7_laysNets 2 = .ok (.invokevirtual 154, 3) := by decide +kernel
theorem dX7_laysNets_5 : decode cX7_laysNets 5 = .ok (.iconst 0, 1) := by decide +kernel
theorem dX7_laysNets_6 : decode cX7_laysNets 6 = .ok (.istore_n 2, 1) := by decide +kernel
theorem dX7_laysNets_7 : decode cX7_laysNets 7 = .ok (.iload_n 2, 1) := by decide +kernel
theorem dX7_laysNets_8 : decode cX7_laysNets 8 = .ok (.aload_n 0, 1) := by decide +kernel
theorem dX7_laysNets_9 : decode cX7_laysNets 9 = .ok (.getfield 118, 3) := by decide +kernel
theorem dX7_laysNets_12 : decode cX7_laysNets 12 = .ok (.if_icmp .ge 98, 3) := by decide +kernel
theorem dX7_laysNets_15 : decode cX7_laysNets 15 = .ok (.aload_n 0, 1) := by decide +kernel
theorem dX7_laysNets_16 : decode cX7_laysNets 16 = .ok (.getfield 25, 3) := by decide +kernel
theorem dX7_laysNets_19 : decode cX7_laysNets 19 = .ok (.iload_n 2, 1) := by decide +kernel
theorem dX7_laysNets_20 : decode cX7_laysNets 20 = .ok (.iaload, 1) := by decide +kernel
theorem dX7_laysNets_21 : decode cX7_laysNets 21 = .ok (.istore_n 3, 1) := by decide +kernel
theorem dX7_laysNets_22 : decode cX7_laysNets 22 = .ok (.iload_n 3, 1) := by decide +kernel
theorem dX7_laysNets_23 : decode cX7_laysNets 23 = .ok (.sipush 3000, 3) := by decide +kernel
theorem dX7_laysNets_26 : decode cX7_laysNets 26 = .ok (.if_icmp .lt 78, 3) := by decide +kernel
theorem dX7_laysNets_29 : decode cX7_laysNets 29 = .ok (.iload_n 3, 1) := by decide +kernel
theorem dX7_laysNets_30 : decode cX7_laysNets 30 = .ok (.bipush 10, 2) := by decide +kernel
theorem dX7_laysNets_32 : decode cX7_laysNets 32 = .ok (.idiv, 1) := by decide +kernel
theorem dX7_laysNets_33 : decode cX7_laysNets 33 = .ok (.bipush 10, 2) := by decide +kernel
theorem dX7_laysNets_35 : decode cX7_laysNets 35 = .ok (.irem, 1) := by decide +kernel
theorem dX7_laysNets_36 : decode cX7_laysNets 36 = .ok (.istore 4, 2) := by decide +kernel
theorem dX7_laysNets_38 : decode cX7_laysNets 38 = .ok (.iload_n 3, 1) := by decide +kernel
theorem dX7_laysNets_39 : decode cX7_laysNets 39 = .ok (.bipush 10, 2) := by decide +kernel
theorem dX7_laysNets_41 : decode cX7_laysNets 41 = .ok (.irem, 1) := by decide +kernel
theorem dX7_laysNets_42 : decode cX7_laysNets 42 = .ok (.istore 5, 2) := by decide +kernel
theorem dX7_laysNets_44 : decode cX7_laysNets 44 = .ok (.iload_n 3, 1) := by decide +kernel
theorem dX7_laysNets_45 : decode cX7_laysNets 45 = .ok (.sipush 4000, 3) := by decide +kernel
theorem dX7_laysNets_48 : decode cX7_laysNets 48 = .ok (.if_icmp .ge 21, 3) := by decide +kernel
theorem dX7_laysNets_51 : decode cX7_laysNets 51 = .ok (.aload_n 0, 1) := by decide +kernel
theorem dX7_laysNets_52 : decode cX7_laysNets 52 = .ok (.getfield 28, 3) := by decide +kernel
theorem dX7_laysNets_55 : decode cX7_laysNets 55 = .ok (.iload 4, 2) := by decide +kernel
theorem dX7_laysNets_57 : decode cX7_laysNets 57 = .ok (.iaload, 1) := by decide +kernel
theorem dX7_laysNets_58 : decode cX7_laysNets 58 = .ok (.aload_n 0, 1) := by decide +kernel
theorem dX7_laysNets_59 : decode cX7_laysNets 59 = .ok (.getfield 28, 3) := by decide +kernel
theorem dX7_laysNets_62 : decode cX7_laysNets 62 = .ok (.iload 5, 2) := by decide +kernel
theorem dX7_laysNets_64 : decode cX7_laysNets 64 = .ok (.iaload, 1) := by decide +kernel
theorem dX7_laysNets_65 : decode cX7_laysNets 65 = .ok (.iand, 1) := by decide +kernel
theorem dX7_laysNets_66 : decode cX7_laysNets 66 = .ok (.goto 18, 3) := by decide +kernel
theorem dX7_laysNets_69 : decode cX7_laysNets 69 = .ok (.aload_n 0, 1) := by decide +kernel
theorem dX7_laysNets_70 : decode cX7_laysNets 70 = .ok (.getfield 28, 3) := by decide +kernel
theorem dX7_laysNets_73 : decode cX7_laysNets 73 = .ok (.iload 4, 2) := by decide +kernel
theorem dX7_laysNets_75 : decode cX7_laysNets 75 = .ok (.iaload, 1) := by decide +kernel
theorem dX7_laysNets_76 : decode cX7_laysNets 76 = .ok (.aload_n 0, 1) := by decide +kernel
theorem dX7_laysNets_77 : decode cX7_laysNets 77 = .ok (.getfield 28, 3) := by decide +kernel
theorem dX7_laysNets_80 : decode cX7_laysNets 80 = .ok (.iload 5, 2) := by decide +kernel
theorem dX7_laysNets_82 : decode cX7_laysNets 82 = .ok (.iaload, 1) := by decide +kernel
theorem dX7_laysNets_83 : decode cX7_laysNets 83 = .ok (.ior, 1) := by decide +kernel
theorem dX7_laysNets_84 : decode cX7_laysNets 84 = .ok (.istore 6, 2) := by decide +kernel
theorem dX7_laysNets_86 : decode cX7_laysNets 86 = .ok (.aload_n 0, 1) := by decide +kernel
theorem dX7_laysNets_87 : decode cX7_laysNets 87 = .ok (.getfield 28, 3) := by decide +kernel
theorem dX7_laysNets_90 : decode cX7_laysNets 90 = .ok (.iload 4, 2) := by decide +kernel
theorem dX7_laysNets_92 : decode cX7_laysNets 92 = .ok (.iload 6, 2) := by decide +kernel
theorem dX7_laysNets_94 : decode cX7_laysNets 94 = .ok (.iastore, 1) := by decide +kernel
theorem dX7_laysNets_95 : decode cX7_laysNets 95 = .ok (.aload_n 0, 1) := by decide +kernel
theorem dX7_laysNets_96 : decode cX7_laysNets 96 = .ok (.getfield 28, 3) := by decide +kernel
theorem dX7_laysNets_99 : decode cX7_laysNets 99 = .ok (.iload 5, 2) := by decide +kernel
theorem dX7_laysNets_101 : decode cX7_laysNets 101 = .ok (.iload 6, 2) := by decide +kernel
theorem dX7_laysNets_103 : decode cX7_laysNets 103 = .ok (.iastore, 1) := by decide +kernel
theorem dX7_laysNets_104 : decode cX7_laysNets 104 = .ok (.iinc 2 1, 3) := by decide +kernel
theorem dX7_laysNets_107 : decode cX7_laysNets 107 = .ok (.goto (-100), 3) := by decide +kernel
theorem dX7_laysNets_110 : decode cX7_laysNets 110 = .ok (.iconst 0, 1) := by decide +kernel
theorem dX7_laysNets_111 : decode cX7_laysNets 111 = .ok (.istore_n 2, 1) := by decide +kernel
theorem dX7_laysNets_112 : decode cX7_laysNets 112 = .ok (.iload_n 2, 1) := by decide +kernel
theorem dX7_laysNets_113 : decode cX7_laysNets 113 = .ok (.aload_n 0, 1) := by decide +kernel
theorem dX7_laysNets_114 : decode cX7_laysNets 114 = .ok (.getfield 118, 3) := by decide +kernel
theorem dX7_laysNets_117 : decode cX7_laysNets 117 = .ok (.if_icmp .ge 49, 3) := by decide +kernel
theorem dX7_laysNets_120 : decode cX7_laysNets 120 = .ok (.aload_n 0, 1) := by decide +kernel
theorem dX7_laysNets_121 : decode cX7_laysNets 121 = .ok (.getfield 25, 3) := by decide +kernel
theorem dX7_laysNets_124 : decode cX7_laysNets 124 = .ok (.iload_n 2, 1) := by decide +kernel
theorem dX7_laysNets_125 : decode cX7_laysNets 125 = .ok (.iaload, 1) := by decide +kernel
theorem dX7_laysNets_126 : decode cX7_laysNets 126 = .ok (.sipush 1000, 3) := by decide +kernel
theorem dX7_laysNets_129 : decode cX7_laysNets 129 = .ok (.idiv, 1) := by decide +kernel
theorem dX7_laysNets_130 : decode cX7_laysNets 130 = .ok (.iconst 2, 1) := by decide +kernel
theorem dX7_laysNets_131 : decode cX7_laysNets 131 = .ok (.if_icmp .ne 29, 3) := by decide +kernel
theorem dX7_laysNets_134 : decode cX7_laysNets 134 = .ok (.aload_n 0, 1) := by decide +kernel
theorem dX7_laysNets_135 : decode cX7_laysNets 135 = .ok (.getfield 28, 3) := by decide +kernel
theorem dX7_laysNets_138 : decode cX7_laysNets 138 = .ok (.aload_n 0, 1) := by decide +kernel
theorem dX7_laysNets_139 : decode cX7_laysNets 139 = .ok (.getfield 25, 3) := by decide +kernel
theorem dX7_laysNets_142 : decode cX7_laysNets 142 = .ok (.iload_n 2, 1) := by decide +kernel
theorem dX7_laysNets_143 : decode cX7_laysNets 143 = .ok (.iaload, 1) := by decide +kernel
theorem dX7_laysNets_144 : decode cX7_laysNets 144 = .ok (.bipush 10, 2) := by decide +kernel
theorem dX7_laysNets_146 : decode cX7_laysNets 146 = .ok (.idiv, 1) := by decide +kernel
theorem dX7_laysNets_147 : decode cX7_laysNets 147 = .ok (.bipush 10, 2) := by decide +kernel
theorem dX7_laysNets_149 : decode cX7_laysNets 149 = .ok (.irem, 1) := by decide +kernel
theorem dX7_laysNets_150 : decode cX7_laysNets 150 = .ok (.aload_n 0, 1) := by decide +kernel
theorem dX7_laysNets_151 : decode cX7_laysNets 151 = .ok (.getfield 25, 3) := by decide +kernel
theorem dX7_laysNets_154 : decode cX7_laysNets 154 = .ok (.iload_n 2, 1) := by decide +kernel
theorem dX7_laysNets_155 : decode cX7_laysNets 155 = .ok (.iaload, 1) := by decide +kernel
theorem dX7_laysNets_156 : decode cX7_laysNets 156 = .ok (.bipush 10, 2) := by decide +kernel
theorem dX7_laysNets_158 : decode cX7_laysNets 158 = .ok (.irem, 1) := by decide +kernel
theorem dX7_laysNets_159 : decode cX7_laysNets 159 = .ok (.iastore, 1) := by decide +kernel
theorem dX7_laysNets_160 : decode cX7_laysNets 160 = .ok (.iinc 2 1, 3) := by decide +kernel
theorem dX7_laysNets_163 : decode cX7_laysNets 163 = .ok (.goto (-51), 3) := by decide +kernel
theorem dX7_laysNets_166 : decode cX7_laysNets 166 = .ok (.return_, 1) := by decide +kernel
theorem dX7_sees_0 : decode cX7_sees 0 = .ok (.aload_n 0, 1) := by decide +kernel
theorem dX7_sees_1 : decode cX7_sees 1 = .ok (.iload_n 1, 1) := by decide +kernel
theorem dX7_sees_2 : decode cX7_sees 2 = .ok (.iload_n 2, 1) := by decide +kernel
theorem dX7_sees_3 : decode cX7_sees 3 = .ok (.invokevirtual 139, 3) := by decide +kernel
theorem dX7_sees_6 : decode cX7_sees 6 = .ok (.ifCond .eq 7, 3) := by decide +kernel
theorem dX7_sees_9 : decode cX7_sees 9 = .ok (.iconst 1, 1) := by decide +kernel
theorem dX7_sees_10 : decode cX7_sees 10 = .ok (.goto 14, 3) := by decide +kernel
theorem dX7_sees_13 : decode cX7_sees 13 = .ok (.aload_n 0, 1) := by decide +kernel
theorem dX7_sees_14 : decode cX7_sees 14 = .ok (.getfield 28, 3) := by decide +kernel
theorem dX7_sees_17 : decode cX7_sees 17 = .ok (.aload_n 0, 1) := by decide +kernel
theorem dX7_sees_18 : decode cX7_sees 18 = .ok (.iload_n 1, 1) := by decide +kernel
theorem dX7_sees_19 : decode cX7_sees 19 = .ok (.iload_n 2, 1) := by decide +kernel
theorem dX7_sees_20 : decode cX7_sees 20 = .ok (.invokevirtual 127, 3) := by decide +kernel
theorem dX7_sees_23 : decode cX7_sees 23 = .ok (.iaload, 1) := by decide +kernel
theorem dX7_sees_24 : decode cX7_sees 24 = .ok (.ireturn, 1) := by decide +kernel
theorem dX7_laysNow_0 : decode cX7_laysNow 0 = .ok (.aload_n 0, 1) := by decide +kernel
theorem dX7_laysNow_1 : decode cX7_laysNow 1 = .ok (.invokevirtual 158, 3) := by decide +kernel
theorem dX7_laysNow_4 : decode cX7_laysNow 4 = .ok (.aload_n 0, 1) := by decide +kernel
theorem dX7_laysNow_5 : decode cX7_laysNow 5 = .ok (.iconst (-1), 1) := by decide +kernel
theorem dX7_laysNow_6 : decode cX7_laysNow 6 = .ok (.invokevirtual 161, 3) := by decide +kernel
theorem dX7_laysNow_9 : decode cX7_laysNow 9 = .ok (.return_, 1) := by decide +kernel
theorem dX7_onesNow_0 : decode cX7_onesNow 0 = .ok (.aload_n 0, 1) := by decide +kernel
theorem dX7_onesNow_1 : decode cX7_onesNow 1 = .ok (.invokevirtual 164, 3) := by decide +kernel
theorem dX7_onesNow_4 : decode cX7_onesNow 4 = .ok (.iconst 0, 1) := by decide +kernel
theorem dX7_onesNow_5 : decode cX7_onesNow 5 = .ok (.istore_n 1, 1) := by decide +kernel
theorem dX7_onesNow_6 : decode cX7_onesNow 6 = .ok (.iconst 0, 1) := by decide +kernel
theorem dX7_onesNow_7 : decode cX7_onesNow 7 = .ok (.istore_n 2, 1) := by decide +kernel
theorem dX7_onesNow_8 : decode cX7_onesNow 8 = .ok (.iload_n 2, 1) := by decide +kernel
theorem dX7_onesNow_9 : decode cX7_onesNow 9 = .ok (.bipush 8, 2) := by decide +kernel
theorem dX7_onesNow_11 : decode cX7_onesNow 11 = .ok (.if_icmp .ge 20, 3) := by decide +kernel
theorem dX7_onesNow_14 : decode cX7_onesNow 14 = .ok (.iload_n 1, 1) := by decide +kernel
theorem dX7_onesNow_15 : decode cX7_onesNow 15 = .ok (.aload_n 0, 1) := by decide +kernel
theorem dX7_onesNow_16 : decode cX7_onesNow 16 = .ok (.getfield 28, 3) := by decide +kernel
theorem dX7_onesNow_19 : decode cX7_onesNow 19 = .ok (.iload_n 2, 1) := by decide +kernel
theorem dX7_onesNow_20 : decode cX7_onesNow 20 = .ok (.iaload, 1) := by decide +kernel
theorem dX7_onesNow_21 : decode cX7_onesNow 21 = .ok (.iload_n 2, 1) := by decide +kernel
theorem dX7_onesNow_22 : decode cX7_onesNow 22 = .ok (.ishl, 1) := by decide +kernel
theorem dX7_onesNow_23 : decode cX7_onesNow 23 = .ok (.ior, 1) := by decide +kernel
theorem dX7_onesNow_24 : decode cX7_onesNow 24 = .ok (.istore_n 1, 1) := by decide +kernel
theorem dX7_onesNow_25 : decode cX7_onesNow 25 = .ok (.iinc 2 1, 3) := by decide +kernel
theorem dX7_onesNow_28 : decode cX7_onesNow 28 = .ok (.goto (-20), 3) := by decide +kernel
theorem dX7_onesNow_31 : decode cX7_onesNow 31 = .ok (.iload_n 1, 1) := by decide +kernel
theorem dX7_onesNow_32 : decode cX7_onesNow 32 = .ok (.ireturn, 1) := by decide +kernel
theorem dX7_kindOf_0 : decode cX7_kindOf 0 = .ok (.aload_n 0, 1) := by decide +kernel
theorem dX7_kindOf_1 : decode cX7_kindOf 1 = .ok (.iload_n 1, 1) := by decide +kernel
theorem dX7_kindOf_2 : decode cX7_kindOf 2 = .ok (.iconst 3, 1) := by decide +kernel
theorem dX7_kindOf_3 : decode cX7_kindOf 3 = .ok (.invokevirtual 55, 3) := by decide +kernel
theorem dX7_kindOf_6 : decode cX7_kindOf 6 = .ok (.istore_n 2, 1) := by decide +kernel
theorem dX7_kindOf_7 : decode cX7_kindOf 7 = .ok (.iload_n 2, 1) := by decide +kernel
theorem dX7_kindOf_8 : decode cX7_kindOf 8 = .ok (.iconst 2, 1) := by decide +kernel
theorem dX7_kindOf_9 : decode cX7_kindOf 9 = .ok (.if_icmp .ge 18, 3) := by decide +kernel
theorem dX7_kindOf_12 : decode cX7_kindOf 12 = .ok (.aload_n 0, 1) := by decide +kernel
theorem dX7_kindOf_13 : decode cX7_kindOf 13 = .ok (.iload_n 1, 1) := by decide +kernel
theorem dX7_kindOf_14 : decode cX7_kindOf 14 = .ok (.iconst 2, 1) := by decide +kernel
theorem dX7_kindOf_15 : decode cX7_kindOf 15 = .ok (.invokevirtual 55, 3) := by decide +kernel
theorem dX7_kindOf_18 : decode cX7_kindOf 18 = .ok (.ifCond .le 7, 3) := by decide +kernel
theorem dX7_kindOf_21 : decode cX7_kindOf 21 = .ok (.iload_n 2, 1) := by decide +kernel
theorem dX7_kindOf_22 : decode cX7_kindOf 22 = .ok (.goto 4, 3) := by decide +kernel
theorem dX7_kindOf_25 : decode cX7_kindOf 25 = .ok (.iconst 3, 1) := by decide +kernel
theorem dX7_kindOf_26 : decode cX7_kindOf 26 = .ok (.ireturn, 1) := by decide +kernel
theorem dX7_kindOf_27 : decode cX7_kindOf 27 = .ok (.iload_n 2, 1) := by decide +kernel
theorem dX7_kindOf_28 : decode cX7_kindOf 28 = .ok (.iconst 2, 1) := by decide +kernel
theorem dX7_kindOf_29 : decode cX7_kindOf 29 = .ok (.if_icmp .ne 19, 3) := by decide +kernel
theorem dX7_kindOf_32 : decode cX7_kindOf 32 = .ok (.aload_n 0, 1) := by decide +kernel
theorem dX7_kindOf_33 : decode cX7_kindOf 33 = .ok (.iload_n 1, 1) := by decide +kernel
theorem dX7_kindOf_34 : decode cX7_kindOf 34 = .ok (.iconst 1, 1) := by decide +kernel
theorem dX7_kindOf_35 : decode cX7_kindOf 35 = .ok (.invokevirtual 55, 3) := by decide +kernel
theorem dX7_kindOf_38 : decode cX7_kindOf 38 = .ok (.sipush 256, 3) := by decide +kernel
theorem dX7_kindOf_41 : decode cX7_kindOf 41 = .ok (.if_icmp .ge 7, 3) := by decide +kernel
theorem dX7_kindOf_44 : decode cX7_kindOf 44 = .ok (.iconst 2, 1) := by decide +kernel
theorem dX7_kindOf_45 : decode cX7_kindOf 45 = .ok (.goto 4, 3) := by decide +kernel
theorem dX7_kindOf_48 : decode cX7_kindOf 48 = .ok (.iconst 3, 1) := by decide +kernel
theorem dX7_kindOf_49 : decode cX7_kindOf 49 = .ok (.ireturn, 1) := by decide +kernel
theorem dX7_longOf_0 : decode cX7_longOf 0 = .ok (.aload_n 0, 1) := by decide +kernel
theorem dX7_longOf_1 : decode cX7_longOf 1 = .ok (.iload_n 1, 1) := by decide +kernel
theorem dX7_longOf_2 : decode cX7_longOf 2 = .ok (.invokevirtual 167, 3) := by decide +kernel
theorem dX7_longOf_5 : decode cX7_longOf 5 = .ok (.istore_n 2, 1) := by decide +kernel
theorem dX7_longOf_6 : decode cX7_longOf 6 = .ok (.iload_n 2, 1) := by decide +kernel
theorem dX7_longOf_7 : decode cX7_longOf 7 = .ok (.iconst 2, 1) := by decide +kernel
theorem dX7_longOf_8 : decode cX7_longOf 8 = .ok (.if_icmp .ge 12, 3) := by decide +kernel
theorem dX7_longOf_11 : decode cX7_longOf 11 = .ok (.aload_n 0, 1) := by decide +kernel
theorem dX7_longOf_12 : decode cX7_longOf 12 = .ok (.iload_n 1, 1) := by decide +kernel
theorem dX7_longOf_13 : decode cX7_longOf 13 = .ok (.iconst 2, 1) := by decide +kernel
theorem dX7_longOf_14 : decode cX7_longOf 14 = .ok (.invokevirtual 55, 3) := by decide +kernel
theorem dX7_longOf_17 : decode cX7_longOf 17 = .ok (.goto 14, 3) := by decide +kernel
theorem dX7_longOf_20 : decode cX7_longOf 20 = .ok (.iload_n 2, 1) := by decide +kernel
theorem dX7_longOf_21 : decode cX7_longOf 21 = .ok (.iconst 2, 1) := by decide +kernel
theorem dX7_longOf_22 : decode cX7_longOf 22 = .ok (.if_icmp .ne 8, 3) := by decide +kernel
theorem dX7_longOf_25 : decode cX7_longOf 25 = .ok (.bipush 8, 2) := by decide +kernel
theorem dX7_longOf_27 : decode cX7_longOf 27 = .ok (.goto 4, 3) := by decide +kernel
theorem dX7_longOf_30 : decode cX7_longOf 30 = .ok (.iconst 1, 1) := by decide +kernel
theorem dX7_longOf_31 : decode cX7_longOf 31 = .ok (.ireturn, 1) := by decide +kernel
theorem dX7_captured_0 : decode cX7_captured 0 = .ok (.aload_n 0, 1) := by decide +kernel
theorem dX7_captured_1 : decode cX7_captured 1 = .ok (.iload_n 1, 1) := by decide +kernel
theorem dX7_captured_2 : decode cX7_captured 2 = .ok (.invokevirtual 167, 3) := by decide +kernel
theorem dX7_captured_5 : decode cX7_captured 5 = .ok (.istore_n 2, 1) := by decide +kernel
theorem dX7_captured_6 : decode cX7_captured 6 = .ok (.iload_n 2, 1) := by decide +kernel
theorem dX7_captured_7 : decode cX7_captured 7 = .ok (.iconst 2, 1) := by decide +kernel
theorem dX7_captured_8 : decode cX7_captured 8 = .ok (.if_icmp .lt 19, 3) := by decide +kernel
theorem dX7_captured_11 : decode cX7_captured 11 = .ok (.iload_n 2, 1) := by decide +kernel
theorem dX7_captured_12 : decode cX7_captured 12 = .ok (.iconst 2, 1) := by decide +kernel
theorem dX7_captured_13 : decode cX7_captured 13 = .ok (.if_icmp .ne 12, 3) := by decide +kernel
theorem dX7_captured_16 : decode cX7_captured 16 = .ok (.aload_n 0, 1) := by decide +kernel
theorem dX7_captured_17 : decode cX7_captured 17 = .ok (.iload_n 1, 1) := by decide +kernel
theorem dX7_captured_18 : decode cX7_captured 18 = .ok (.iconst 1, 1) := by decide +kernel
theorem dX7_captured_19 : decode cX7_captured 19 = .ok (.invokevirtual 55, 3) := by decide +kernel
theorem dX7_captured_22 : decode cX7_captured 22 = .ok (.goto 4, 3) := by decide +kernel
theorem dX7_captured_25 : decode cX7_captured 25 = .ok (.iconst 0, 1) := by decide +kernel
theorem dX7_captured_26 : decode cX7_captured 26 = .ok (.ireturn, 1) := by decide +kernel
theorem dX7_captured_27 : decode cX7_captured 27 = .ok (.iconst 0, 1) := by decide +kernel
theorem dX7_captured_28 : decode cX7_captured 28 = .ok (.istore_n 3, 1) := by decide +kernel
theorem dX7_captured_29 : decode cX7_captured 29 = .ok (.iconst 0, 1) := by decide +kernel
theorem dX7_captured_30 : decode cX7_captured 30 = .ok (.istore 4, 2) := by decide +kernel
theorem dX7_captured_32 : decode cX7_captured 32 = .ok (.iload 4, 2) := by decide +kernel
theorem dX7_captured_34 : decode cX7_captured 34 = .ok (.aload_n 0, 1) := by decide +kernel
theorem dX7_captured_35 : decode cX7_captured 35 = .ok (.iload_n 1, 1) := by decide +kernel
theorem dX7_captured_36 : decode cX7_captured 36 = .ok (.iconst 2, 1) := by decide +kernel
theorem dX7_captured_37 : decode cX7_captured 37 = .ok (.invokevirtual 55, 3) := by decide +kernel
theorem dX7_captured_40 : decode cX7_captured 40 = .ok (.if_icmp .ge 47, 3) := by decide +kernel
theorem dX7_captured_43 : decode cX7_captured 43 = .ok (.iload_n 3, 1) := by decide +kernel
theorem dX7_captured_44 : decode cX7_captured 44 = .ok (.aload_n 0, 1) := by decide +kernel
theorem dX7_captured_45 : decode cX7_captured 45 = .ok (.iload_n 1, 1) := by decide +kernel
theorem dX7_captured_46 : decode cX7_captured 46 = .ok (.iload 4, 2) := by decide +kernel
theorem dX7_captured_48 : decode cX7_captured 48 = .ok (.invokevirtual 124, 3) := by decide +kernel
theorem dX7_captured_51 : decode cX7_captured 51 = .ok (.ifCond .eq 18, 3) := by decide +kernel
theorem dX7_captured_54 : decode cX7_captured 54 = .ok (.aload_n 0, 1) := by decide +kernel
theorem dX7_captured_55 : decode cX7_captured 55 = .ok (.iload_n 1, 1) := by decide +kernel
theorem dX7_captured_56 : decode cX7_captured 56 = .ok (.bipush 6, 2) := by decide +kernel
theorem dX7_captured_58 : decode cX7_captured 58 = .ok (.invokevirtual 55, 3) := by decide +kernel
theorem dX7_captured_61 : decode cX7_captured 61 = .ok (.iload 4, 2) := by decide +kernel
theorem dX7_captured_63 : decode cX7_captured 63 = .ok (.ishr, 1) := by decide +kernel
theorem dX7_captured_64 : decode cX7_captured 64 = .ok (.iconst 1, 1) := by decide +kernel
theorem dX7_captured_65 : decode cX7_captured 65 = .ok (.iand, 1) := by decide +kernel
theorem dX7_captured_66 : decode cX7_captured 66 = .ok (.goto 10, 3) := by decide +kernel
theorem dX7_captured_69 : decode cX7_captured 69 = .ok (.aload_n 0, 1) := by decide +kernel
theorem dX7_captured_70 : decode cX7_captured 70 = .ok (.iload_n 1, 1) := by decide +kernel
theorem dX7_captured_71 : decode cX7_captured 71 = .ok (.iload 4, 2) := by decide +kernel
theorem dX7_captured_73 : decode cX7_captured 73 = .ok (.invokevirtual 170, 3) := by decide +kernel
theorem dX7_captured_76 : decode cX7_captured 76 = .ok (.iload 4, 2) := by decide +kernel
theorem dX7_captured_78 : decode cX7_captured 78 = .ok (.ishl, 1) := by decide +kernel
theorem dX7_captured_79 : decode cX7_captured 79 = .ok (.ior, 1) := by decide +kernel
theorem dX7_captured_80 : decode cX7_captured 80 = .ok (.istore_n 3, 1) := by decide +kernel
theorem dX7_captured_81 : decode cX7_captured 81 = .ok (.iinc 4 1, 3) := by decide +kernel
theorem dX7_captured_84 : decode cX7_captured 84 = .ok (.goto (-52), 3) := by decide +kernel
theorem dX7_captured_87 : decode cX7_captured 87 = .ok (.iload_n 3, 1) := by decide +kernel
theorem dX7_captured_88 : decode cX7_captured 88 = .ok (.ireturn, 1) := by decide +kernel
theorem dX7_shifts_0 : decode cX7_shifts 0 = .ok (.iload_n 2, 1) := by decide +kernel
theorem dX7_shifts_1 : decode cX7_shifts 1 = .ok (.istore_n 3, 1) := by decide +kernel
theorem dX7_shifts_2 : decode cX7_shifts 2 = .ok (.iconst 0, 1) := by decide +kernel
theorem dX7_shifts_3 : decode cX7_shifts 3 = .ok (.istore 4, 2) := by decide +kernel
theorem dX7_shifts_5 : decode cX7_shifts 5 = .ok (.iload 4, 2) := by decide +kernel
theorem dX7_shifts_7 : decode cX7_shifts 7 = .ok (.aload_n 0, 1) := by decide +kernel
theorem dX7_shifts_8 : decode cX7_shifts 8 = .ok (.invokevirtual 121, 3) := by decide +kernel
theorem dX7_shifts_11 : decode cX7_shifts 11 = .ok (.if_icmp .ge 68, 3) := by decide +kernel
theorem dX7_shifts_14 : decode cX7_shifts 14 = .ok (.iload_n 1, 1) := by decide +kernel
theorem dX7_shifts_15 : decode cX7_shifts 15 = .ok (.iconst 4, 1) := by decide +kernel
theorem dX7_shifts_16 : decode cX7_shifts 16 = .ok (.if_icmp .ne 13, 3) := by decide +kernel
theorem dX7_shifts_19 : decode cX7_shifts 19 = .ok (.aload_n 0, 1) := by decide +kernel
theorem dX7_shifts_20 : decode cX7_shifts 20 = .ok (.iload 4, 2) := by decide +kernel
theorem dX7_shifts_22 : decode cX7_shifts 22 = .ok (.iconst 0, 1) := by decide +kernel
theorem dX7_shifts_23 : decode cX7_shifts 23 = .ok (.invokevirtual 55, 3) := by decide +kernel
theorem dX7_shifts_26 : decode cX7_shifts 26 = .ok (.goto 9, 3) := by decide +kernel
theorem dX7_shifts_29 : decode cX7_shifts 29 = .ok (.aload_n 0, 1) := by decide +kernel
theorem dX7_shifts_30 : decode cX7_shifts 30 = .ok (.iload 4, 2) := by decide +kernel
theorem dX7_shifts_32 : decode cX7_shifts 32 = .ok (.invokevirtual 173, 3) := by decide +kernel
theorem dX7_shifts_35 : decode cX7_shifts 35 = .ok (.istore 5, 2) := by decide +kernel
theorem dX7_shifts_37 : decode cX7_shifts 37 = .ok (.aload_n 0, 1) := by decide +kernel
theorem dX7_shifts_38 : decode cX7_shifts 38 = .ok (.iload 4, 2) := by decide +kernel
theorem dX7_shifts_40 : decode cX7_shifts 40 = .ok (.iload_n 1, 1) := by decide +kernel
theorem dX7_shifts_41 : decode cX7_shifts 41 = .ok (.invokevirtual 55, 3) := by decide +kernel
theorem dX7_shifts_44 : decode cX7_shifts 44 = .ok (.istore 6, 2) := by decide +kernel
theorem dX7_shifts_46 : decode cX7_shifts 46 = .ok (.aload_n 0, 1) := by decide +kernel
theorem dX7_shifts_47 : decode cX7_shifts 47 = .ok (.getfield 7, 3) := by decide +kernel
theorem dX7_shifts_50 : decode cX7_shifts 50 = .ok (.iload 4, 2) := by decide +kernel
theorem dX7_shifts_52 : decode cX7_shifts 52 = .ok (.iload_n 1, 1) := by decide +kernel
theorem dX7_shifts_53 : decode cX7_shifts 53 = .ok (.invokestatic 47, 3) := by decide +kernel
theorem dX7_shifts_56 : decode cX7_shifts 56 = .ok (.iload 6, 2) := by decide +kernel
theorem dX7_shifts_58 : decode cX7_shifts 58 = .ok (.iconst 1, 1) := by decide +kernel
theorem dX7_shifts_59 : decode cX7_shifts 59 = .ok (.ishr, 1) := by decide +kernel
theorem dX7_shifts_60 : decode cX7_shifts 60 = .ok (.iload_n 3, 1) := by decide +kernel
theorem dX7_shifts_61 : decode cX7_shifts 61 = .ok (.iload 5, 2) := by decide +kernel
theorem dX7_shifts_63 : decode cX7_shifts 63 = .ok (.iconst 1, 1) := by decide +kernel
theorem dX7_shifts_64 : decode cX7_shifts 64 = .ok (.isub, 1) := by decide +kernel
theorem dX7_shifts_65 : decode cX7_shifts 65 = .ok (.ishl, 1) := by decide +kernel
theorem dX7_shifts_66 : decode cX7_shifts 66 = .ok (.ior, 1) := by decide +kernel
theorem dX7_shifts_67 : decode cX7_shifts 67 = .ok (.iastore, 1) := by decide +kernel
theorem dX7_shifts_68 : decode cX7_shifts 68 = .ok (.iload 6, 2) := by decide +kernel
theorem dX7_shifts_70 : decode cX7_shifts 70 = .ok (.iconst 1, 1) := by decide +kernel
theorem dX7_shifts_71 : decode cX7_shifts 71 = .ok (.iand, 1) := by decide +kernel
theorem dX7_shifts_72 : decode cX7_shifts 72 = .ok (.istore_n 3, 1) := by decide +kernel
theorem dX7_shifts_73 : decode cX7_shifts 73 = .ok (.iinc 4 1, 3) := by decide +kernel
theorem dX7_shifts_76 : decode cX7_shifts 76 = .ok (.goto (-71), 3) := by decide +kernel
theorem dX7_shifts_79 : decode cX7_shifts 79 = .ok (.iload_n 3, 1) := by decide +kernel
theorem dX7_shifts_80 : decode cX7_shifts 80 = .ok (.ireturn, 1) := by decide +kernel
theorem dX7_doesPlace_0 : decode cX7_doesPlace 0 = .ok (.aload_n 0, 1) := by decide +kernel
theorem dX7_doesPlace_1 : decode cX7_doesPlace 1 = .ok (.invokevirtual 164, 3) := by decide +kernel
theorem dX7_doesPlace_4 : decode cX7_doesPlace 4 = .ok (.iconst 0, 1) := by decide +kernel
theorem dX7_doesPlace_5 : decode cX7_doesPlace 5 = .ok (.istore_n 2, 1) := by decide +kernel
theorem dX7_doesPlace_6 : decode cX7_doesPlace 6 = .ok (.iload_n 2, 1) := by decide +kernel
theorem dX7_doesPlace_7 : decode cX7_doesPlace 7 = .ok (.aload_n 0, 1) := by decide +kernel
theorem dX7_doesPlace_8 : decode cX7_doesPlace 8 = .ok (.invokevirtual 121, 3) := by decide +kernel
theorem dX7_doesPlace_11 : decode cX7_doesPlace 11 = .ok (.if_icmp .ge 131, 3) := by decide +kernel
theorem dX7_doesPlace_14 : decode cX7_doesPlace 14 = .ok (.iload_n 1, 1) := by decide +kernel
theorem dX7_doesPlace_15 : decode cX7_doesPlace 15 = .ok (.ifCond .ne 21, 3) := by decide +kernel
theorem dX7_doesPlace_18 : decode cX7_doesPlace 18 = .ok (.aload_n 0, 1) := by decide +kernel
theorem dX7_doesPlace_19 : decode cX7_doesPlace 19 = .ok (.getfield 7, 3) := by decide +kernel
theorem dX7_doesPlace_22 : decode cX7_doesPlace 22 = .ok (.iload_n 2, 1) := by decide +kernel
theorem dX7_doesPlace_23 : decode cX7_doesPlace 23 = .ok (.iconst 3, 1) := by decide +kernel
theorem dX7_doesPlace_24 : decode cX7_doesPlace 24 = .ok (.invokestatic 47, 3) := by decide +kernel
theorem dX7_doesPlace_27 : decode cX7_doesPlace 27 = .ok (.aload_n 0, 1) := by decide +kernel
theorem dX7_doesPlace_28 : decode cX7_doesPlace 28 = .ok (.iload_n 2, 1) := by decide +kernel
theorem dX7_doesPlace_29 : decode cX7_doesPlace 29 = .ok (.invokevirtual 75, 3) := by decide +kernel
theorem dX7_doesPlace_32 : decode cX7_doesPlace 32 = .ok (.iastore, 1) := by decide +kernel
theorem dX7_doesPlace_33 : decode cX7_doesPlace 33 = .ok (.goto 103, 3) := by decide +kernel
theorem dX7_doesPlace_36 : decode cX7_doesPlace 36 = .ok (.iload_n 1, 1) := by decide +kernel
theorem dX7_doesPlace_37 : decode cX7_doesPlace 37 = .ok (.bipush 10, 2) := by decide +kernel
theorem dX7_doesPlace_39 : decode cX7_doesPlace 39 = .ok (.if_icmp .ne 17, 3) := by decide +kernel
theorem dX7_doesPlace_42 : decode cX7_doesPlace 42 = .ok (.aload_n 0, 1) := by decide +kernel
theorem dX7_doesPlace_43 : decode cX7_doesPlace 43 = .ok (.getfield 7, 3) := by decide +kernel
theorem dX7_doesPlace_46 : decode cX7_doesPlace 46 = .ok (.iload_n 2, 1) := by decide +kernel
theorem dX7_doesPlace_47 : decode cX7_doesPlace 47 = .ok (.iconst 4, 1) := by decide +kernel
theorem dX7_doesPlace_48 : decode cX7_doesPlace 48 = .ok (.invokestatic 47, 3) := by decide +kernel
theorem dX7_doesPlace_51 : decode cX7_doesPlace 51 = .ok (.iconst 1, 1) := by decide +kernel
theorem dX7_doesPlace_52 : decode cX7_doesPlace 52 = .ok (.iastore, 1) := by decide +kernel
theorem dX7_doesPlace_53 : decode cX7_doesPlace 53 = .ok (.goto 83, 3) := by decide +kernel
theorem dX7_doesPlace_56 : decode cX7_doesPlace 56 = .ok (.iload_n 1, 1) := by decide +kernel
theorem dX7_doesPlace_57 : decode cX7_doesPlace 57 = .ok (.iconst 3, 1) := by decide +kernel
theorem dX7_doesPlace_58 : decode cX7_doesPlace 58 = .ok (.if_icmp .ne 21, 3) := by decide +kernel
theorem dX7_doesPlace_61 : decode cX7_doesPlace 61 = .ok (.aload_n 0, 1) := by decide +kernel
theorem dX7_doesPlace_62 : decode cX7_doesPlace 62 = .ok (.getfield 7, 3) := by decide +kernel
theorem dX7_doesPlace_65 : decode cX7_doesPlace 65 = .ok (.iload_n 2, 1) := by decide +kernel
theorem dX7_doesPlace_66 : decode cX7_doesPlace 66 = .ok (.iconst 5, 1) := by decide +kernel
theorem dX7_doesPlace_67 : decode cX7_doesPlace 67 = .ok (.invokestatic 47, 3) := by decide +kernel
theorem dX7_doesPlace_70 : decode cX7_doesPlace 70 = .ok (.aload_n 0, 1) := by decide +kernel
theorem dX7_doesPlace_71 : decode cX7_doesPlace 71 = .ok (.iload_n 2, 1) := by decide +kernel
theorem dX7_doesPlace_72 : decode cX7_doesPlace 72 = .ok (.invokevirtual 176, 3) := by decide +kernel
theorem dX7_doesPlace_75 : decode cX7_doesPlace 75 = .ok (.iastore, 1) := by decide +kernel
theorem dX7_doesPlace_76 : decode cX7_doesPlace 76 = .ok (.goto 60, 3) := by decide +kernel
theorem dX7_doesPlace_79 : decode cX7_doesPlace 79 = .ok (.iload_n 1, 1) := by decide +kernel
theorem dX7_doesPlace_80 : decode cX7_doesPlace 80 = .ok (.bipush 15, 2) := by decide +kernel
theorem dX7_doesPlace_82 : decode cX7_doesPlace 82 = .ok (.if_icmp .ne 22, 3) := by decide +kernel
theorem dX7_doesPlace_85 : decode cX7_doesPlace 85 = .ok (.aload_n 0, 1) := by decide +kernel
theorem dX7_doesPlace_86 : decode cX7_doesPlace 86 = .ok (.getfield 7, 3) := by decide +kernel
theorem dX7_doesPlace_89 : decode cX7_doesPlace 89 = .ok (.iload_n 2, 1) := by decide +kernel
theorem dX7_doesPlace_90 : decode cX7_doesPlace 90 = .ok (.iconst 3, 1) := by decide +kernel
theorem dX7_doesPlace_91 : decode cX7_doesPlace 91 = .ok (.invokestatic 47, 3) := by decide +kernel
theorem dX7_doesPlace_94 : decode cX7_doesPlace 94 = .ok (.aload_n 0, 1) := by decide +kernel
theorem dX7_doesPlace_95 : decode cX7_doesPlace 95 = .ok (.iload_n 2, 1) := by decide +kernel
theorem dX7_doesPlace_96 : decode cX7_doesPlace 96 = .ok (.iconst 4, 1) := by decide +kernel
theorem dX7_doesPlace_97 : decode cX7_doesPlace 97 = .ok (.invokevirtual 55, 3) := by decide +kernel
theorem dX7_doesPlace_100 : decode cX7_doesPlace 100 = .ok (.iastore, 1) := by decide +kernel
theorem dX7_doesPlace_101 : decode cX7_doesPlace 101 = .ok (.goto 35, 3) := by decide +kernel
theorem dX7_doesPlace_104 : decode cX7_doesPlace 104 = .ok (.iload_n 1, 1) := by decide +kernel
theorem dX7_doesPlace_105 : decode cX7_doesPlace 105 = .ok (.bipush 8, 2) := by decide +kernel
theorem dX7_doesPlace_107 : decode cX7_doesPlace 107 = .ok (.if_icmp .ne 29, 3) := by decide +kernel
theorem dX7_doesPlace_110 : decode cX7_doesPlace 110 = .ok (.aload_n 0, 1) := by decide +kernel
theorem dX7_doesPlace_111 : decode cX7_doesPlace 111 = .ok (.iload_n 2, 1) := by decide +kernel
theorem dX7_doesPlace_112 : decode cX7_doesPlace 112 = .ok (.invokevirtual 167, 3) := by decide +kernel
theorem dX7_doesPlace_115 : decode cX7_doesPlace 115 = .ok (.iconst 2, 1) := by decide +kernel
theorem dX7_doesPlace_116 : decode cX7_doesPlace 116 = .ok (.if_icmp .ge 20, 3) := by decide +kernel
theorem dX7_doesPlace_119 : decode cX7_doesPlace 119 = .ok (.aload_n 0, 1) := by decide +kernel
theorem dX7_doesPlace_120 : decode cX7_doesPlace 120 = .ok (.getfield 7, 3) := by decide +kernel
theorem dX7_doesPlace_123 : decode cX7_doesPlace 123 = .ok (.iload_n 2, 1) := by decide +kernel
theorem dX7_doesPlace_124 : decode cX7_doesPlace 124 = .ok (.bipush 6, 2) := by decide +kernel
theorem dX7_doesPlace_126 : decode cX7_doesPlace 126 = .ok (.invokestatic 47, 3) := by decide +kernel
theorem dX7_doesPlace_129 : decode cX7_doesPlace 129 = .ok (.aload_n 0, 1) := by decide +kernel
theorem dX7_doesPlace_130 : decode cX7_doesPlace 130 = .ok (.iload_n 2, 1) := by decide +kernel
theorem dX7_doesPlace_131 : decode cX7_doesPlace 131 = .ok (.iconst 5, 1) := by decide +kernel
theorem dX7_doesPlace_132 : decode cX7_doesPlace 132 = .ok (.invokevirtual 55, 3) := by decide +kernel
theorem dX7_doesPlace_135 : decode cX7_doesPlace 135 = .ok (.iastore, 1) := by decide +kernel
theorem dX7_doesPlace_136 : decode cX7_doesPlace 136 = .ok (.iinc 2 1, 3) := by decide +kernel
theorem dX7_doesPlace_139 : decode cX7_doesPlace 139 = .ok (.goto (-133), 3) := by decide +kernel
theorem dX7_doesPlace_142 : decode cX7_doesPlace 142 = .ok (.return_, 1) := by decide +kernel
theorem dX7_nextPlace_0 : decode cX7_nextPlace 0 = .ok (.iload_n 0, 1) := by decide +kernel
theorem dX7_nextPlace_1 : decode cX7_nextPlace 1 = .ok (.tableswitch 200 0 14 #[75, 200, 85, 96, 96, 106, 118, 130, 200, 141, 152, 152, 164, 176, 188], 75) := by decide +kernel
theorem dX7_nextPlace_76 : decode cX7_nextPlace 76 = .ok (.iload_n 1, 1) := by decide +kernel
theorem dX7_nextPlace_77 : decode cX7_nextPlace 77 = .ok (.ifCond .ne 7, 3) := by decide +kernel
theorem dX7_nextPlace_80 : decode cX7_nextPlace 80 = .ok (.iconst 1, 1) := by decide +kernel
theorem dX7_nextPlace_81 : decode cX7_nextPlace 81 = .ok (.goto 4, 3) := by decide +kernel
theorem dX7_nextPlace_84 : decode cX7_nextPlace 84 = .ok (.iconst 0, 1) := by decide +kernel
theorem dX7_nextPlace_85 : decode cX7_nextPlace 85 = .ok (.ireturn, 1) := by decide +kernel
theorem dX7_nextPlace_86 : decode cX7_nextPlace 86 = .ok (.iload_n 1, 1) := by decide +kernel
theorem dX7_nextPlace_87 : decode cX7_nextPlace 87 = .ok (.ifCond .ne 7, 3) := by decide +kernel
theorem dX7_nextPlace_90 : decode cX7_nextPlace 90 = .ok (.iconst 3, 1) := by decide +kernel
theorem dX7_nextPlace_91 : decode cX7_nextPlace 91 = .ok (.goto 5, 3) := by decide +kernel
theorem dX7_nextPlace_94 : decode cX7_nextPlace 94 = .ok (.bipush 9, 2) := by decide +kernel
theorem dX7_nextPlace_96 : decode cX7_nextPlace 96 = .ok (.ireturn, 1) := by decide +kernel
theorem dX7_nextPlace_97 : decode cX7_nextPlace 97 = .ok (.iload_n 1, 1) := by decide +kernel
theorem dX7_nextPlace_98 : decode cX7_nextPlace 98 = .ok (.ifCond .ne 7, 3) := by decide +kernel
theorem dX7_nextPlace_101 : decode cX7_nextPlace 101 = .ok (.iconst 4, 1) := by decide +kernel
theorem dX7_nextPlace_102 : decode cX7_nextPlace 102 = .ok (.goto 4, 3) := by decide +kernel
theorem dX7_nextPlace_105 : decode cX7_nextPlace 105 = .ok (.iconst 5, 1) := by decide +kernel
theorem dX7_nextPlace_106 : decode cX7_nextPlace 106 = .ok (.ireturn, 1) := by decide +kernel
theorem dX7_nextPlace_107 : decode cX7_nextPlace 107 = .ok (.iload_n 1, 1) := by decide +kernel
theorem dX7_nextPlace_108 : decode cX7_nextPlace 108 = .ok (.ifCond .ne 8, 3) := by decide +kernel
theorem dX7_nextPlace_111 : decode cX7_nextPlace 111 = .ok (.bipush 6, 2) := by decide +kernel
theorem dX7_nextPlace_113 : decode cX7_nextPlace 113 = .ok (.goto 5, 3) := by decide +kernel
theorem dX7_nextPlace_116 : decode cX7_nextPlace 116 = .ok (.bipush 8, 2) := by decide +kernel
theorem dX7_nextPlace_118 : decode cX7_nextPlace 118 = .ok (.ireturn, 1) := by decide +kernel
theorem dX7_nextPlace_119 : decode cX7_nextPlace 119 = .ok (.iload_n 1, 1) := by decide +kernel
theorem dX7_nextPlace_120 : decode cX7_nextPlace 120 = .ok (.ifCond .ne 8, 3) := by decide +kernel
theorem dX7_nextPlace_123 : decode cX7_nextPlace 123 = .ok (.bipush 6, 2) := by decide +kernel
theorem dX7_nextPlace_125 : decode cX7_nextPlace 125 = .ok (.goto 5, 3) := by decide +kernel
theorem dX7_nextPlace_128 : decode cX7_nextPlace 128 = .ok (.bipush 7, 2) := by decide +kernel
theorem dX7_nextPlace_130 : decode cX7_nextPlace 130 = .ok (.ireturn, 1) := by decide +kernel
theorem dX7_nextPlace_131 : decode cX7_nextPlace 131 = .ok (.iload_n 1, 1) := by decide +kernel
theorem dX7_nextPlace_132 : decode cX7_nextPlace 132 = .ok (.ifCond .ne 7, 3) := by decide +kernel
theorem dX7_nextPlace_135 : decode cX7_nextPlace 135 = .ok (.iconst 4, 1) := by decide +kernel
theorem dX7_nextPlace_136 : decode cX7_nextPlace 136 = .ok (.goto 5, 3) := by decide +kernel
theorem dX7_nextPlace_139 : decode cX7_nextPlace 139 = .ok (.bipush 8, 2) := by decide +kernel
theorem dX7_nextPlace_141 : decode cX7_nextPlace 141 = .ok (.ireturn, 1) := by decide +kernel
theorem dX7_nextPlace_142 : decode cX7_nextPlace 142 = .ok (.iload_n 1, 1) := by decide +kernel
theorem dX7_nextPlace_143 : decode cX7_nextPlace 143 = .ok (.ifCond .ne 8, 3) := by decide +kernel
theorem dX7_nextPlace_146 : decode cX7_nextPlace 146 = .ok (.bipush 10, 2) := by decide +kernel
theorem dX7_nextPlace_148 : decode cX7_nextPlace 148 = .ok (.goto 4, 3) := by decide +kernel
theorem dX7_nextPlace_151 : decode cX7_nextPlace 151 = .ok (.iconst 0, 1) := by decide +kernel
theorem dX7_nextPlace_152 : decode cX7_nextPlace 152 = .ok (.ireturn, 1) := by decide +kernel
theorem dX7_nextPlace_153 : decode cX7_nextPlace 153 = .ok (.iload_n 1, 1) := by decide +kernel
theorem dX7_nextPlace_154 : decode cX7_nextPlace 154 = .ok (.ifCond .ne 8, 3) := by decide +kernel
theorem dX7_nextPlace_157 : decode cX7_nextPlace 157 = .ok (.bipush 11, 2) := by decide +kernel
theorem dX7_nextPlace_159 : decode cX7_nextPlace 159 = .ok (.goto 5, 3) := by decide +kernel
theorem dX7_nextPlace_162 : decode cX7_nextPlace 162 = .ok (.bipush 12, 2) := by decide +kernel
theorem dX7_nextPlace_164 : decode cX7_nextPlace 164 = .ok (.ireturn, 1) := by decide +kernel
theorem dX7_nextPlace_165 : decode cX7_nextPlace 165 = .ok (.iload_n 1, 1) := by decide +kernel
theorem dX7_nextPlace_166 : decode cX7_nextPlace 166 = .ok (.ifCond .ne 8, 3) := by decide +kernel
theorem dX7_nextPlace_169 : decode cX7_nextPlace 169 = .ok (.bipush 13, 2) := by decide +kernel
theorem dX7_nextPlace_171 : decode cX7_nextPlace 171 = .ok (.goto 5, 3) := by decide +kernel
theorem dX7_nextPlace_174 : decode cX7_nextPlace 174 = .ok (.bipush 15, 2) := by decide +kernel
theorem dX7_nextPlace_176 : decode cX7_nextPlace 176 = .ok (.ireturn, 1) := by decide +kernel
theorem dX7_nextPlace_177 : decode cX7_nextPlace 177 = .ok (.iload_n 1, 1) := by decide +kernel
theorem dX7_nextPlace_178 : decode cX7_nextPlace 178 = .ok (.ifCond .ne 8, 3) := by decide +kernel
theorem dX7_nextPlace_181 : decode cX7_nextPlace 181 = .ok (.bipush 13, 2) := by decide +kernel
theorem dX7_nextPlace_183 : decode cX7_nextPlace 183 = .ok (.goto 5, 3) := by decide +kernel
theorem dX7_nextPlace_186 : decode cX7_nextPlace 186 = .ok (.bipush 14, 2) := by decide +kernel
theorem dX7_nextPlace_188 : decode cX7_nextPlace 188 = .ok (.ireturn, 1) := by decide +kernel
theorem dX7_nextPlace_189 : decode cX7_nextPlace 189 = .ok (.iload_n 1, 1) := by decide +kernel
theorem dX7_nextPlace_190 : decode cX7_nextPlace 190 = .ok (.ifCond .ne 8, 3) := by decide +kernel
theorem dX7_nextPlace_193 : decode cX7_nextPlace 193 = .ok (.bipush 11, 2) := by decide +kernel
theorem dX7_nextPlace_195 : decode cX7_nextPlace 195 = .ok (.goto 5, 3) := by decide +kernel
theorem dX7_nextPlace_198 : decode cX7_nextPlace 198 = .ok (.bipush 15, 2) := by decide +kernel
theorem dX7_nextPlace_200 : decode cX7_nextPlace 200 = .ok (.ireturn, 1) := by decide +kernel
theorem dX7_nextPlace_201 : decode cX7_nextPlace 201 = .ok (.iload_n 1, 1) := by decide +kernel
theorem dX7_nextPlace_202 : decode cX7_nextPlace 202 = .ok (.ifCond .ne 7, 3) := by decide +kernel
theorem dX7_nextPlace_205 : decode cX7_nextPlace 205 = .ok (.iconst 1, 1) := by decide +kernel
theorem dX7_nextPlace_206 : decode cX7_nextPlace 206 = .ok (.goto 4, 3) := by decide +kernel
theorem dX7_nextPlace_209 : decode cX7_nextPlace 209 = .ok (.iconst 2, 1) := by decide +kernel
theorem dX7_nextPlace_210 : decode cX7_nextPlace 210 = .ok (.ireturn, 1) := by decide +kernel
theorem dX7_clocksOnce_0 : decode cX7_clocksOnce 0 = .ok (.aload_n 0, 1) := by decide +kernel
theorem dX7_clocksOnce_1 : decode cX7_clocksOnce 1 = .ok (.getfield 7, 3) := by decide +kernel
theorem dX7_clocksOnce_4 : decode cX7_clocksOnce 4 = .ok (.iconst 1, 1) := by decide +kernel
theorem dX7_clocksOnce_5 : decode cX7_clocksOnce 5 = .ok (.iaload, 1) := by decide +kernel
theorem dX7_clocksOnce_6 : decode cX7_clocksOnce 6 = .ok (.istore_n 3, 1) := by decide +kernel
theorem dX7_clocksOnce_7 : decode cX7_clocksOnce 7 = .ok (.iconst 2, 1) := by decide +kernel
theorem dX7_clocksOnce_8 : decode cX7_clocksOnce 8 = .ok (.istore 4, 2) := by decide +kernel
theorem dX7_clocksOnce_10 : decode cX7_clocksOnce 10 = .ok (.iload_n 3, 1) := by decide +kernel
theorem dX7_clocksOnce_11 : decode cX7_clocksOnce 11 = .ok (.iconst 4, 1) := by decide +kernel
theorem dX7_clocksOnce_12 : decode cX7_clocksOnce 12 = .ok (.if_icmp .eq 9, 3) := by decide +kernel
theorem dX7_clocksOnce_15 : decode cX7_clocksOnce 15 = .ok (.iload_n 3, 1) := by decide +kernel
theorem dX7_clocksOnce_16 : decode cX7_clocksOnce 16 = .ok (.bipush 11, 2) := by decide +kernel
theorem dX7_clocksOnce_18 : decode cX7_clocksOnce 18 = .ok (.if_icmp .ne 24, 3) := by decide +kernel
theorem dX7_clocksOnce_21 : decode cX7_clocksOnce 21 = .ok (.aload_n 0, 1) := by decide +kernel
theorem dX7_clocksOnce_22 : decode cX7_clocksOnce 22 = .ok (.iload_n 3, 1) := by decide +kernel
theorem dX7_clocksOnce_23 : decode cX7_clocksOnce 23 = .ok (.bipush 11, 2) := by decide +kernel
theorem dX7_clocksOnce_25 : decode cX7_clocksOnce 25 = .ok (.if_icmp .ne 7, 3) := by decide +kernel
theorem dX7_clocksOnce_28 : decode cX7_clocksOnce 28 = .ok (.iconst 4, 1) := by decide +kernel
theorem dX7_clocksOnce_29 : decode cX7_clocksOnce 29 = .ok (.goto 4, 3) := by decide +kernel
theorem dX7_clocksOnce_32 : decode cX7_clocksOnce 32 = .ok (.iconst 5, 1) := by decide +kernel
theorem dX7_clocksOnce_33 : decode cX7_clocksOnce 33 = .ok (.iload_n 2, 1) := by decide +kernel
theorem dX7_clocksOnce_34 : decode cX7_clocksOnce 34 = .ok (.invokevirtual 179, 3) := by decide +kernel
theorem dX7_clocksOnce_37 : decode cX7_clocksOnce 37 = .ok (.istore 4, 2) := by decide +kernel
theorem dX7_clocksOnce_39 : decode cX7_clocksOnce 39 = .ok (.goto 8, 3) := by decide +kernel
theorem dX7_clocksOnce_42 : decode cX7_clocksOnce 42 = .ok (.aload_n 0, 1) := by decide +kernel
theorem dX7_clocksOnce_43 : decode cX7_clocksOnce 43 = .ok (.iload_n 3, 1) := by decide +kernel
theorem dX7_clocksOnce_44 : decode cX7_clocksOnce 44 = .ok (.invokevirtual 182, 3) := by decide +kernel
theorem dX7_clocksOnce_47 : decode cX7_clocksOnce 47 = .ok (.aload_n 0, 1) := by decide +kernel
theorem dX7_clocksOnce_48 : decode cX7_clocksOnce 48 = .ok (.getfield 7, 3) := by decide +kernel
theorem dX7_clocksOnce_51 : decode cX7_clocksOnce 51 = .ok (.iconst 1, 1) := by decide +kernel
theorem dX7_clocksOnce_52 : decode cX7_clocksOnce 52 = .ok (.iload_n 3, 1) := by decide +kernel
theorem dX7_clocksOnce_53 : decode cX7_clocksOnce 53 = .ok (.iload_n 1, 1) := by decide +kernel
theorem dX7_clocksOnce_54 : decode cX7_clocksOnce 54 = .ok (.invokestatic 185, 3) := by decide +kernel
theorem dX7_clocksOnce_57 : decode cX7_clocksOnce 57 = .ok (.iastore, 1) := by decide +kernel
theorem dX7_clocksOnce_58 : decode cX7_clocksOnce 58 = .ok (.iload 4, 2) := by decide +kernel
theorem dX7_clocksOnce_60 : decode cX7_clocksOnce 60 = .ok (.ireturn, 1) := by decide +kernel
theorem dX7_clocksTo_0 : decode cX7_clocksTo 0 = .ok (.iload_n 1, 1) := by decide +kernel
theorem dX7_clocksTo_1 : decode cX7_clocksTo 1 = .ok (.invokestatic 79, 3) := by decide +kernel
theorem dX7_clocksTo_4 : decode cX7_clocksTo 4 = .ok (.ifCond .eq 19, 3) := by decide +kernel
theorem dX7_clocksTo_7 : decode cX7_clocksTo 7 = .ok (.iload_n 2, 1) := by decide +kernel
theorem dX7_clocksTo_8 : decode cX7_clocksTo 8 = .ok (.invokestatic 79, 3) := by decide +kernel
theorem dX7_clocksTo_11 : decode cX7_clocksTo 11 = .ok (.ifCond .eq 12, 3) := by decide +kernel
theorem dX7_clocksTo_14 : decode cX7_clocksTo 14 = .ok (.aload_n 0, 1) := by decide +kernel
theorem dX7_clocksTo_15 : decode cX7_clocksTo 15 = .ok (.iload_n 1, 1) := by decide +kernel
theorem dX7_clocksTo_16 : decode cX7_clocksTo 16 = .ok (.iload_n 2, 1) := by decide +kernel
theorem dX7_clocksTo_17 : decode cX7_clocksTo 17 = .ok (.invokevirtual 188, 3) := by decide +kernel
theorem dX7_clocksTo_20 : decode cX7_clocksTo 20 = .ok (.goto 5, 3) := by decide +kernel
theorem dX7_clocksTo_23 : decode cX7_clocksTo 23 = .ok (.bipush (-2), 2) := by decide +kernel
theorem dX7_clocksTo_25 : decode cX7_clocksTo 25 = .ok (.ireturn, 1) := by decide +kernel
theorem dX7_clock_0 : decode cX7_clock 0 = .ok (.aload_n 0, 1) := by decide +kernel
theorem dX7_clock_1 : decode cX7_clock 1 = .ok (.invokevirtual 93, 3) := by decide +kernel
theorem dX7_clock_4 : decode cX7_clock 4 = .ok (.aload_n 0, 1) := by decide +kernel
theorem dX7_clock_5 : decode cX7_clock 5 = .ok (.aload_n 0, 1) := by decide +kernel
theorem dX7_clock_6 : decode cX7_clock 6 = .ok (.iload_n 1, 1) := by decide +kernel
theorem dX7_clock_7 : decode cX7_clock 7 = .ok (.iload_n 2, 1) := by decide +kernel
theorem dX7_clock_8 : decode cX7_clock 8 = .ok (.invokevirtual 191, 3) := by decide +kernel
theorem dX7_clock_11 : decode cX7_clock 11 = .ok (.invokevirtual 99, 3) := by decide +kernel
theorem dX7_clock_14 : decode cX7_clock 14 = .ok (.ireturn, 1) := by decide +kernel
theorem dX7_clocks_0 : decode cX7_clocks 0 = .ok (.iload_n 1, 1) := by decide +kernel
theorem dX7_clocks_1 : decode cX7_clocks 1 = .ok (.iconst 1, 1) := by decide +kernel
theorem dX7_clocks_2 : decode cX7_clocks 2 = .ok (.bipush 16, 2) := by decide +kernel
theorem dX7_clocks_4 : decode cX7_clocks 4 = .ok (.invokestatic 43, 3) := by decide +kernel
theorem dX7_clocks_7 : decode cX7_clocks 7 = .ok (.ifCond .eq 23, 3) := by decide +kernel
theorem dX7_clocks_10 : decode cX7_clocks 10 = .ok (.iload_n 2, 1) := by decide +kernel
theorem dX7_clocks_11 : decode cX7_clocks 11 = .ok (.iconst 0, 1) := by decide +kernel
theorem dX7_clocks_12 : decode cX7_clocks 12 = .ok (.ldc 194, 2) := by decide +kernel
theorem dX7_clocks_14 : decode cX7_clocks 14 = .ok (.invokestatic 43, 3) := by decide +kernel
theorem dX7_clocks_17 : decode cX7_clocks 17 = .ok (.ifCond .eq 13, 3) := by decide +kernel
theorem dX7_clocks_20 : decode cX7_clocks 20 = .ok (.iload_n 3, 1) := by decide +kernel
theorem dX7_clocks_21 : decode cX7_clocks 21 = .ok (.iconst 0, 1) := by decide +kernel
theorem dX7_clocks_22 : decode cX7_clocks 22 = .ok (.ldc 194, 2) := by decide +kernel
theorem dX7_clocks_24 : decode cX7_clocks 24 = .ok (.invokestatic 43, 3) := by decide +kernel
theorem dX7_clocks_27 : decode cX7_clocks 27 = .ok (.ifCond .ne 8, 3) := by decide +kernel
theorem dX7_clocks_30 : decode cX7_clocks 30 = .ok (.aload_n 0, 1) := by decide +kernel
theorem dX7_clocks_31 : decode cX7_clocks 31 = .ok (.invokevirtual 72, 3) := by decide +kernel
theorem dX7_clocks_34 : decode cX7_clocks 34 = .ok (.ireturn, 1) := by decide +kernel
theorem dX7_clocks_35 : decode cX7_clocks 35 = .ok (.aload_n 0, 1) := by decide +kernel
theorem dX7_clocks_36 : decode cX7_clocks 36 = .ok (.invokevirtual 93, 3) := by decide +kernel
theorem dX7_clocks_39 : decode cX7_clocks 39 = .ok (.iconst 0, 1) := by decide +kernel
theorem dX7_clocks_40 : decode cX7_clocks 40 = .ok (.istore 4, 2) := by decide +kernel
theorem dX7_clocks_42 : decode cX7_clocks 42 = .ok (.iconst 0, 1) := by decide +kernel
theorem dX7_clocks_43 : decode cX7_clocks 43 = .ok (.istore 5, 2) := by decide +kernel
theorem dX7_clocks_45 : decode cX7_clocks 45 = .ok (.iconst 0, 1) := by decide +kernel
theorem dX7_clocks_46 : decode cX7_clocks 46 = .ok (.istore 6, 2) := by decide +kernel
theorem dX7_clocks_48 : decode cX7_clocks 48 = .ok (.iload 6, 2) := by decide +kernel
theorem dX7_clocks_50 : decode cX7_clocks 50 = .ok (.iload_n 1, 1) := by decide +kernel
theorem dX7_clocks_51 : decode cX7_clocks 51 = .ok (.if_icmp .ge 62, 3) := by decide +kernel
theorem dX7_clocks_54 : decode cX7_clocks 54 = .ok (.aload_n 0, 1) := by decide +kernel
theorem dX7_clocks_55 : decode cX7_clocks 55 = .ok (.iload_n 2, 1) := by decide +kernel
theorem dX7_clocks_56 : decode cX7_clocks 56 = .ok (.iload 6, 2) := by decide +kernel
theorem dX7_clocks_58 : decode cX7_clocks 58 = .ok (.ishr, 1) := by decide +kernel
theorem dX7_clocks_59 : decode cX7_clocks 59 = .ok (.iconst 1, 1) := by decide +kernel
theorem dX7_clocks_60 : decode cX7_clocks 60 = .ok (.iand, 1) := by decide +kernel
theorem dX7_clocks_61 : decode cX7_clocks 61 = .ok (.iload_n 3, 1) := by decide +kernel
theorem dX7_clocks_62 : decode cX7_clocks 62 = .ok (.iload 6, 2) := by decide +kernel
theorem dX7_clocks_64 : decode cX7_clocks 64 = .ok (.ishr, 1) := by decide +kernel
theorem dX7_clocks_65 : decode cX7_clocks 65 = .ok (.iconst 1, 1) := by decide +kernel
theorem dX7_clocks_66 : decode cX7_clocks 66 = .ok (.iand, 1) := by decide +kernel
theorem dX7_clocks_67 : decode cX7_clocks 67 = .ok (.invokevirtual 188, 3) := by decide +kernel
theorem dX7_clocks_70 : decode cX7_clocks 70 = .ok (.istore 7, 2) := by decide +kernel
theorem dX7_clocks_72 : decode cX7_clocks 72 = .ok (.iload 4, 2) := by decide +kernel
theorem dX7_clocks_74 : decode cX7_clocks 74 = .ok (.iload 7, 2) := by decide +kernel
theorem dX7_clocks_76 : decode cX7_clocks 76 = .ok (.iconst 1, 1) := by decide +kernel
theorem dX7_clocks_77 : decode cX7_clocks 77 = .ok (.if_icmp .ne 10, 3) := by decide +kernel
theorem dX7_clocks_80 : decode cX7_clocks 80 = .ok (.iconst 1, 1) := by decide +kernel
theorem dX7_clocks_81 : decode cX7_clocks 81 = .ok (.iload 5, 2) := by decide +kernel
theorem dX7_clocks_83 : decode cX7_clocks 83 = .ok (.ishl, 1) := by decide +kernel
theorem dX7_clocks_84 : decode cX7_clocks 84 = .ok (.goto 4, 3) := by decide +kernel
theorem dX7_clocks_87 : decode cX7_clocks 87 = .ok (.iconst 0, 1) := by decide +kernel
theorem dX7_clocks_88 : decode cX7_clocks 88 = .ok (.ior, 1) := by decide +kernel
theorem dX7_clocks_89 : decode cX7_clocks 89 = .ok (.istore 4, 2) := by decide +kernel
theorem dX7_clocks_91 : decode cX7_clocks 91 = .ok (.iload 5, 2) := by decide +kernel
theorem dX7_clocks_93 : decode cX7_clocks 93 = .ok (.iload 7, 2) := by decide +kernel
theorem dX7_clocks_95 : decode cX7_clocks 95 = .ok (.iconst 2, 1) := by decide +kernel
theorem dX7_clocks_96 : decode cX7_clocks 96 = .ok (.if_icmp .ge 7, 3) := by decide +kernel
theorem dX7_clocks_99 : decode cX7_clocks 99 = .ok (.iconst 1, 1) := by decide +kernel
theorem dX7_clocks_100 : decode cX7_clocks 100 = .ok (.goto 4, 3) := by decide +kernel
theorem dX7_clocks_103 : decode cX7_clocks 103 = .ok (.iconst 0, 1) := by decide +kernel
theorem dX7_clocks_104 : decode cX7_clocks 104 = .ok (.iadd, 1) := by decide +kernel
theorem dX7_clocks_105 : decode cX7_clocks 105 = .ok (.istore 5, 2) := by decide +kernel
theorem dX7_clocks_107 : decode cX7_clocks 107 = .ok (.iinc 6 1, 3) := by decide +kernel
theorem dX7_clocks_110 : decode cX7_clocks 110 = .ok (.goto (-62), 3) := by decide +kernel
theorem dX7_clocks_113 : decode cX7_clocks 113 = .ok (.aload_n 0, 1) := by decide +kernel
theorem dX7_clocks_114 : decode cX7_clocks 114 = .ok (.invokevirtual 66, 3) := by decide +kernel
theorem dX7_clocks_117 : decode cX7_clocks 117 = .ok (.iload 4, 2) := by decide +kernel
theorem dX7_clocks_119 : decode cX7_clocks 119 = .ok (.ireturn, 1) := by decide +kernel
theorem dX7_longAll_0 : decode cX7_longAll 0 = .ok (.iconst 0, 1) := by decide +kernel
theorem dX7_longAll_1 : decode cX7_longAll 1 = .ok (.istore_n 2, 1) := by decide +kernel
theorem dX7_longAll_2 : decode cX7_longAll 2 = .ok (.iconst 0, 1) := by decide +kernel
theorem dX7_longAll_3 : decode cX7_longAll 3 = .ok (.istore_n 3, 1) := by decide +kernel
theorem dX7_longAll_4 : decode cX7_longAll 4 = .ok (.iload_n 3, 1) := by decide +kernel
theorem dX7_longAll_5 : decode cX7_longAll 5 = .ok (.aload_n 0, 1) := by decide +kernel
theorem dX7_longAll_6 : decode cX7_longAll 6 = .ok (.invokevirtual 121, 3) := by decide +kernel
theorem dX7_longAll_9 : decode cX7_longAll 9 = .ok (.if_icmp .ge 30, 3) := by decide +kernel
theorem dX7_longAll_12 : decode cX7_longAll 12 = .ok (.iload_n 2, 1) := by decide +kernel
theorem dX7_longAll_13 : decode cX7_longAll 13 = .ok (.iload_n 1, 1) := by decide +kernel
theorem dX7_longAll_14 : decode cX7_longAll 14 = .ok (.ifCond .eq 12, 3) := by decide +kernel
theorem dX7_longAll_17 : decode cX7_longAll 17 = .ok (.aload_n 0, 1) := by decide +kernel
theorem dX7_longAll_18 : decode cX7_longAll 18 = .ok (.iload_n 3, 1) := by decide +kernel
theorem dX7_longAll_19 : decode cX7_longAll 19 = .ok (.iconst 0, 1) := by decide +kernel
theorem dX7_longAll_20 : decode cX7_longAll 20 = .ok (.invokevirtual 55, 3) := by decide +kernel
theorem dX7_longAll_23 : decode cX7_longAll 23 = .ok (.goto 8, 3) := by decide +kernel
theorem dX7_longAll_26 : decode cX7_longAll 26 = .ok (.aload_n 0, 1) := by decide +kernel
theorem dX7_longAll_27 : decode cX7_longAll 27 = .ok (.iload_n 3, 1) := by decide +kernel
theorem dX7_longAll_28 : decode cX7_longAll 28 = .ok (.invokevirtual 173, 3) := by decide +kernel
theorem dX7_longAll_31 : decode cX7_longAll 31 = .ok (.iadd, 1) := by decide +kernel
theorem dX7_longAll_32 : decode cX7_longAll 32 = .ok (.istore_n 2, 1) := by decide +kernel
theorem dX7_longAll_33 : decode cX7_longAll 33 = .ok (.iinc 3 1, 3) := by decide +kernel
theorem dX7_longAll_36 : decode cX7_longAll 36 = .ok (.goto (-32), 3) := by decide +kernel
theorem dX7_longAll_39 : decode cX7_longAll 39 = .ok (.iload_n 2, 1) := by decide +kernel
theorem dX7_longAll_40 : decode cX7_longAll 40 = .ok (.ireturn, 1) := by decide +kernel
theorem dX7_fightsNow_0 : decode cX7_fightsNow 0 = .ok (.aload_n 0, 1) := by decide +kernel
theorem dX7_fightsNow_1 : decode cX7_fightsNow 1 = .ok (.invokevirtual 164, 3) := by decide +kernel
theorem dX7_fightsNow_4 : decode cX7_fightsNow 4 = .ok (.aload_n 0, 1) := by decide +kernel
theorem dX7_fightsNow_5 : decode cX7_fightsNow 5 = .ok (.getfield 148, 3) := by decide +kernel
theorem dX7_fightsNow_8 : decode cX7_fightsNow 8 = .ok (.ireturn, 1) := by decide +kernel
theorem dX7_tellPort_0 : decode cX7_tellPort 0 = .ok (.iload_n 1, 1) := by decide +kernel
theorem dX7_tellPort_1 : decode cX7_tellPort 1 = .ok (.tableswitch 55 0 3 #[31, 38, 44, 50], 31) := by decide +kernel
theorem dX7_tellPort_32 : decode cX7_tellPort 32 = .ok (.aload_n 0, 1) := by decide +kernel
theorem dX7_tellPort_33 : decode cX7_tellPort 33 = .ok (.getfield 7, 3) := by decide +kernel
theorem dX7_tellPort_36 : decode cX7_tellPort 36 = .ok (.iconst 1, 1) := by decide +kernel
theorem dX7_tellPort_37 : decode cX7_tellPort 37 = .ok (.iaload, 1) := by decide +kernel
theorem dX7_tellPort_38 : decode cX7_tellPort 38 = .ok (.ireturn, 1) := by decide +kernel
theorem dX7_tellPort_39 : decode cX7_tellPort 39 = .ok (.aload_n 0, 1) := by decide +kernel
theorem dX7_tellPort_40 : decode cX7_tellPort 40 = .ok (.iconst 0, 1) := by decide +kernel
theorem dX7_tellPort_41 : decode cX7_tellPort 41 = .ok (.invokevirtual 195, 3) := by decide +kernel
theorem dX7_tellPort_44 : decode cX7_tellPort 44 = .ok (.ireturn, 1) := by decide +kernel
theorem dX7_tellPort_45 : decode cX7_tellPort 45 = .ok (.aload_n 0, 1) := by decide +kernel
theorem dX7_tellPort_46 : decode cX7_tellPort 46 = .ok (.iconst 1, 1) := by decide +kernel
theorem dX7_tellPort_47 : decode cX7_tellPort 47 = .ok (.invokevirtual 195, 3) := by decide +kernel
theorem dX7_tellPort_50 : decode cX7_tellPort 50 = .ok (.ireturn, 1) := by decide +kernel
theorem dX7_tellPort_51 : decode cX7_tellPort 51 = .ok (.aload_n 0, 1) := by decide +kernel
theorem dX7_tellPort_52 : decode cX7_tellPort 52 = .ok (.invokevirtual 199, 3) := by decide +kernel
theorem dX7_tellPort_55 : decode cX7_tellPort 55 = .ok (.ireturn, 1) := by decide +kernel
theorem dX7_tellPort_56 : decode cX7_tellPort 56 = .ok (.aload_n 0, 1) := by decide +kernel
theorem dX7_tellPort_57 : decode cX7_tellPort 57 = .ok (.invokevirtual 202, 3) := by decide +kernel
theorem dX7_tellPort_60 : decode cX7_tellPort 60 = .ok (.ireturn, 1) := by decide +kernel
theorem dX7_port_0 : decode cX7_port 0 = .ok (.iload_n 1, 1) := by decide +kernel
theorem dX7_port_1 : decode cX7_port 1 = .ok (.iconst 0, 1) := by decide +kernel
theorem dX7_port_2 : decode cX7_port 2 = .ok (.iconst 4, 1) := by decide +kernel
theorem dX7_port_3 : decode cX7_port 3 = .ok (.invokestatic 43, 3) := by decide +kernel
theorem dX7_port_6 : decode cX7_port 6 = .ok (.ifCond .eq 11, 3) := by decide +kernel
theorem dX7_port_9 : decode cX7_port 9 = .ok (.aload_n 0, 1) := by decide +kernel
theorem dX7_port_10 : decode cX7_port 10 = .ok (.iload_n 1, 1) := by decide +kernel
theorem dX7_port_11 : decode cX7_port 11 = .ok (.invokevirtual 205, 3) := by decide +kernel
theorem dX7_port_14 : decode cX7_port 14 = .ok (.goto 7, 3) := by decide +kernel
theorem dX7_port_17 : decode cX7_port 17 = .ok (.aload_n 0, 1) := by decide +kernel
theorem dX7_port_18 : decode cX7_port 18 = .ok (.invokevirtual 72, 3) := by decide +kernel
theorem dX7_port_21 : decode cX7_port 21 = .ok (.ireturn, 1) := by decide +kernel
theorem dX7_tellChip_0 : decode cX7_tellChip 0 = .ok (.iload_n 2, 1) := by decide +kernel
theorem dX7_tellChip_1 : decode cX7_tellChip 1 = .ok (.tableswitch 91 0 6 #[43, 50, 57, 64, 71, 77, 84], 43) := by decide +kernel
theorem dX7_tellChip_44 : decode cX7_tellChip 44 = .ok (.aload_n 0, 1) := by decide +kernel
theorem dX7_tellChip_45 : decode cX7_tellChip 45 = .ok (.iload_n 1, 1) := by decide +kernel
theorem dX7_tellChip_46 : decode cX7_tellChip 46 = .ok (.iconst 0, 1) := by decide +kernel
theorem dX7_tellChip_47 : decode cX7_tellChip 47 = .ok (.invokevirtual 55, 3) := by decide +kernel
theorem dX7_tellChip_50 : decode cX7_tellChip 50 = .ok (.ireturn, 1) := by decide +kernel
theorem dX7_tellChip_51 : decode cX7_tellChip 51 = .ok (.aload_n 0, 1) := by decide +kernel
theorem dX7_tellChip_52 : decode cX7_tellChip 52 = .ok (.iload_n 1, 1) := by decide +kernel
theorem dX7_tellChip_53 : decode cX7_tellChip 53 = .ok (.iconst 1, 1) := by decide +kernel
theorem dX7_tellChip_54 : decode cX7_tellChip 54 = .ok (.invokevirtual 55, 3) := by decide +kernel
theorem dX7_tellChip_57 : decode cX7_tellChip 57 = .ok (.ireturn, 1) := by decide +kernel
theorem dX7_tellChip_58 : decode cX7_tellChip 58 = .ok (.aload_n 0, 1) := by decide +kernel
theorem dX7_tellChip_59 : decode cX7_tellChip 59 = .ok (.iload_n 1, 1) := by decide +kernel
theorem dX7_tellChip_60 : decode cX7_tellChip 60 = .ok (.iconst 2, 1) := by decide +kernel
theorem dX7_tellChip_61 : decode cX7_tellChip 61 = .ok (.invokevirtual 55, 3) := by decide +kernel
theorem dX7_tellChip_64 : decode cX7_tellChip 64 = .ok (.ireturn, 1) := by decide +kernel
theorem dX7_tellChip_65 : decode cX7_tellChip 65 = .ok (.aload_n 0, 1) := by decide +kernel
theorem dX7_tellChip_66 : decode cX7_tellChip 66 = .ok (.iload_n 1, 1) := by decide +kernel
theorem dX7_tellChip_67 : decode cX7_tellChip 67 = .ok (.iconst 3, 1) := by decide +kernel
theorem dX7_tellChip_68 : decode cX7_tellChip 68 = .ok (.invokevirtual 55, 3) := by decide +kernel
theorem dX7_tellChip_71 : decode cX7_tellChip 71 = .ok (.ireturn, 1) := by decide +kernel
theorem dX7_tellChip_72 : decode cX7_tellChip 72 = .ok (.aload_n 0, 1) := by decide +kernel
theorem dX7_tellChip_73 : decode cX7_tellChip 73 = .ok (.iload_n 1, 1) := by decide +kernel
theorem dX7_tellChip_74 : decode cX7_tellChip 74 = .ok (.invokevirtual 173, 3) := by decide +kernel
theorem dX7_tellChip_77 : decode cX7_tellChip 77 = .ok (.ireturn, 1) := by decide +kernel
theorem dX7_tellChip_78 : decode cX7_tellChip 78 = .ok (.aload_n 0, 1) := by decide +kernel
theorem dX7_tellChip_79 : decode cX7_tellChip 79 = .ok (.iload_n 1, 1) := by decide +kernel
theorem dX7_tellChip_80 : decode cX7_tellChip 80 = .ok (.iconst 4, 1) := by decide +kernel
theorem dX7_tellChip_81 : decode cX7_tellChip 81 = .ok (.invokevirtual 55, 3) := by decide +kernel
theorem dX7_tellChip_84 : decode cX7_tellChip 84 = .ok (.ireturn, 1) := by decide +kernel
theorem dX7_tellChip_85 : decode cX7_tellChip 85 = .ok (.aload_n 0, 1) := by decide +kernel
theorem dX7_tellChip_86 : decode cX7_tellChip 86 = .ok (.iload_n 1, 1) := by decide +kernel
theorem dX7_tellChip_87 : decode cX7_tellChip 87 = .ok (.iconst 5, 1) := by decide +kernel
theorem dX7_tellChip_88 : decode cX7_tellChip 88 = .ok (.invokevirtual 55, 3) := by decide +kernel
theorem dX7_tellChip_91 : decode cX7_tellChip 91 = .ok (.ireturn, 1) := by decide +kernel
theorem dX7_tellChip_92 : decode cX7_tellChip 92 = .ok (.aload_n 0, 1) := by decide +kernel
theorem dX7_tellChip_93 : decode cX7_tellChip 93 = .ok (.iload_n 1, 1) := by decide +kernel
theorem dX7_tellChip_94 : decode cX7_tellChip 94 = .ok (.bipush 6, 2) := by decide +kernel
theorem dX7_tellChip_96 : decode cX7_tellChip 96 = .ok (.invokevirtual 55, 3) := by decide +kernel
theorem dX7_tellChip_99 : decode cX7_tellChip 99 = .ok (.ireturn, 1) := by decide +kernel
theorem dX7_of_0 : decode cX7_of 0 = .ok (.aload_n 0, 1) := by decide +kernel
theorem dX7_of_1 : decode cX7_of 1 = .ok (.iload_n 1, 1) := by decide +kernel
theorem dX7_of_2 : decode cX7_of 2 = .ok (.invokevirtual 51, 3) := by decide +kernel
theorem dX7_of_5 : decode cX7_of 5 = .ok (.ifCond .eq 22, 3) := by decide +kernel
theorem dX7_of_8 : decode cX7_of 8 = .ok (.iload_n 2, 1) := by decide +kernel
theorem dX7_of_9 : decode cX7_of 9 = .ok (.iconst 0, 1) := by decide +kernel
theorem dX7_of_10 : decode cX7_of 10 = .ok (.bipush 7, 2) := by decide +kernel
theorem dX7_of_12 : decode cX7_of 12 = .ok (.invokestatic 43, 3) := by decide +kernel
theorem dX7_of_15 : decode cX7_of 15 = .ok (.ifCond .eq 12, 3) := by decide +kernel
theorem dX7_of_18 : decode cX7_of 18 = .ok (.aload_n 0, 1) := by decide +kernel
theorem dX7_of_19 : decode cX7_of 19 = .ok (.iload_n 1, 1) := by decide +kernel
theorem dX7_of_20 : decode cX7_of 20 = .ok (.iload_n 2, 1) := by decide +kernel
theorem dX7_of_21 : decode cX7_of 21 = .ok (.invokevirtual 208, 3) := by decide +kernel
theorem dX7_of_24 : decode cX7_of 24 = .ok (.goto 7, 3) := by decide +kernel
theorem dX7_of_27 : decode cX7_of 27 = .ok (.aload_n 0, 1) := by decide +kernel
theorem dX7_of_28 : decode cX7_of 28 = .ok (.invokevirtual 72, 3) := by decide +kernel
theorem dX7_of_31 : decode cX7_of 31 = .ok (.ireturn, 1) := by decide +kernel
theorem dX7_tellCell_0 : decode cX7_tellCell 0 = .ok (.iload_n 3, 1) := by decide +kernel
theorem dX7_tellCell_1 : decode cX7_tellCell 1 = .ok (.iconst 2, 1) := by decide +kernel
theorem dX7_tellCell_2 : decode cX7_tellCell 2 = .ok (.if_icmp .ge 17, 3) := by decide +kernel
theorem dX7_tellCell_5 : decode cX7_tellCell 5 = .ok (.aload_n 0, 1) := by decide +kernel
theorem dX7_tellCell_6 : decode cX7_tellCell 6 = .ok (.iload_n 1, 1) := by decide +kernel
theorem dX7_tellCell_7 : decode cX7_tellCell 7 = .ok (.bipush 7, 2) := by decide +kernel
theorem dX7_tellCell_9 : decode cX7_tellCell 9 = .ok (.iconst 2, 1) := by decide +kernel
theorem dX7_tellCell_10 : decode cX7_tellCell 10 = .ok (.iload_n 2, 1) := by decide +kernel
theorem dX7_tellCell_11 : decode cX7_tellCell 11 = .ok (.imul, 1) := by decide +kernel
theorem dX7_tellCell_12 : decode cX7_tellCell 12 = .ok (.iadd, 1) := by decide +kernel
theorem dX7_tellCell_13 : decode cX7_tellCell 13 = .ok (.iload_n 3, 1) := by decide +kernel
theorem dX7_tellCell_14 : decode cX7_tellCell 14 = .ok (.iadd, 1) := by decide +kernel
theorem dX7_tellCell_15 : decode cX7_tellCell 15 = .ok (.invokevirtual 55, 3) := by decide +kernel
theorem dX7_tellCell_18 : decode cX7_tellCell 18 = .ok (.ireturn, 1) := by decide +kernel
theorem dX7_tellCell_19 : decode cX7_tellCell 19 = .ok (.aload_n 0, 1) := by decide +kernel
theorem dX7_tellCell_20 : decode cX7_tellCell 20 = .ok (.invokevirtual 164, 3) := by decide +kernel
theorem dX7_tellCell_23 : decode cX7_tellCell 23 = .ok (.aload_n 0, 1) := by decide +kernel
theorem dX7_tellCell_24 : decode cX7_tellCell 24 = .ok (.iload_n 1, 1) := by decide +kernel
theorem dX7_tellCell_25 : decode cX7_tellCell 25 = .ok (.iload_n 2, 1) := by decide +kernel
theorem dX7_tellCell_26 : decode cX7_tellCell 26 = .ok (.invokevirtual 124, 3) := by decide +kernel
theorem dX7_tellCell_29 : decode cX7_tellCell 29 = .ok (.ifCond .eq 17, 3) := by decide +kernel
theorem dX7_tellCell_32 : decode cX7_tellCell 32 = .ok (.aload_n 0, 1) := by decide +kernel
theorem dX7_tellCell_33 : decode cX7_tellCell 33 = .ok (.iload_n 1, 1) := by decide +kernel
theorem dX7_tellCell_34 : decode cX7_tellCell 34 = .ok (.bipush 6, 2) := by decide +kernel
theorem dX7_tellCell_36 : decode cX7_tellCell 36 = .ok (.invokevirtual 55, 3) := by decide +kernel
theorem dX7_tellCell_39 : decode cX7_tellCell 39 = .ok (.iload_n 2, 1) := by decide +kernel
theorem dX7_tellCell_40 : decode cX7_tellCell 40 = .ok (.ishr, 1) := by decide +kernel
theorem dX7_tellCell_41 : decode cX7_tellCell 41 = .ok (.iconst 1, 1) := by decide +kernel
theorem dX7_tellCell_42 : decode cX7_tellCell 42 = .ok (.iand, 1) := by decide +kernel
theorem dX7_tellCell_43 : decode cX7_tellCell 43 = .ok (.goto 9, 3) := by decide +kernel
theorem dX7_tellCell_46 : decode cX7_tellCell 46 = .ok (.aload_n 0, 1) := by decide +kernel
theorem dX7_tellCell_47 : decode cX7_tellCell 47 = .ok (.iload_n 1, 1) := by decide +kernel
theorem dX7_tellCell_48 : decode cX7_tellCell 48 = .ok (.iload_n 2, 1) := by decide +kernel
theorem dX7_tellCell_49 : decode cX7_tellCell 49 = .ok (.invokevirtual 170, 3) := by decide +kernel
theorem dX7_tellCell_52 : decode cX7_tellCell 52 = .ok (.ireturn, 1) := by decide +kernel
theorem dX7_about_0 : decode cX7_about 0 = .ok (.aload_n 0, 1) := by decide +kernel
theorem dX7_about_1 : decode cX7_about 1 = .ok (.iload_n 1, 1) := by decide +kernel
theorem dX7_about_2 : decode cX7_about 2 = .ok (.iload_n 2, 1) := by decide +kernel
theorem dX7_about_3 : decode cX7_about 3 = .ok (.invokevirtual 85, 3) := by decide +kernel
theorem dX7_about_6 : decode cX7_about 6 = .ok (.ifCond .eq 22, 3) := by decide +kernel
theorem dX7_about_9 : decode cX7_about 9 = .ok (.iload_n 3, 1) := by decide +kernel
theorem dX7_about_10 : decode cX7_about 10 = .ok (.iconst 0, 1) := by decide +kernel
theorem dX7_about_11 : decode cX7_about 11 = .ok (.iconst 2, 1) := by decide +kernel
theorem dX7_about_12 : decode cX7_about 12 = .ok (.invokestatic 43, 3) := by decide +kernel
theorem dX7_about_15 : decode cX7_about 15 = .ok (.ifCond .eq 13, 3) := by decide +kernel
theorem dX7_about_18 : decode cX7_about 18 = .ok (.aload_n 0, 1) := by decide +kernel
theorem dX7_about_19 : decode cX7_about 19 = .ok (.iload_n 1, 1) := by decide +kernel
theorem dX7_about_20 : decode cX7_about 20 = .ok (.iload_n 2, 1) := by decide +kernel
theorem dX7_about_21 : decode cX7_about 21 = .ok (.iload_n 3, 1) := by decide +kernel
theorem dX7_about_22 : decode cX7_about 22 = .ok (.invokevirtual 211, 3) := by decide +kernel
theorem dX7_about_25 : decode cX7_about 25 = .ok (.goto 7, 3) := by decide +kernel
theorem dX7_about_28 : decode cX7_about 28 = .ok (.aload_n 0, 1) := by decide +kernel
theorem dX7_about_29 : decode cX7_about 29 = .ok (.invokevirtual 72, 3) := by decide +kernel
theorem dX7_about_32 : decode cX7_about 32 = .ok (.ireturn, 1) := by decide +kernel
theorem dX7_cells_0 : decode cX7_cells 0 = .ok (.iconst 0, 1) := by decide +kernel
theorem dX7_cells_1 : decode cX7_cells 1 = .ok (.istore_n 1, 1) := by decide +kernel
theorem dX7_cells_2 : decode cX7_cells 2 = .ok (.iconst 0, 1) := by decide +kernel
theorem dX7_cells_3 : decode cX7_cells 3 = .ok (.istore_n 2, 1) := by decide +kernel
theorem dX7_cells_4 : decode cX7_cells 4 = .ok (.iload_n 2, 1) := by decide +kernel
theorem dX7_cells_5 : decode cX7_cells 5 = .ok (.aload_n 0, 1) := by decide +kernel
theorem dX7_cells_6 : decode cX7_cells 6 = .ok (.invokevirtual 121, 3) := by decide +kernel
theorem dX7_cells_9 : decode cX7_cells 9 = .ok (.if_icmp .ge 18, 3) := by decide +kernel
theorem dX7_cells_12 : decode cX7_cells 12 = .ok (.iload_n 1, 1) := by decide +kernel
theorem dX7_cells_13 : decode cX7_cells 13 = .ok (.aload_n 0, 1) := by decide +kernel
theorem dX7_cells_14 : decode cX7_cells 14 = .ok (.iload_n 2, 1) := by decide +kernel
theorem dX7_cells_15 : decode cX7_cells 15 = .ok (.iconst 2, 1) := by decide +kernel
theorem dX7_cells_16 : decode cX7_cells 16 = .ok (.invokevirtual 55, 3) := by decide +kernel
theorem dX7_cells_19 : decode cX7_cells 19 = .ok (.iadd, 1) := by decide +kernel
theorem dX7_cells_20 : decode cX7_cells 20 = .ok (.istore_n 1, 1) := by decide +kernel
theorem dX7_cells_21 : decode cX7_cells 21 = .ok (.iinc 2 1, 3) := by decide +kernel
theorem dX7_cells_24 : decode cX7_cells 24 = .ok (.goto (-20), 3) := by decide +kernel
theorem dX7_cells_27 : decode cX7_cells 27 = .ok (.iload_n 1, 1) := by decide +kernel
theorem dX7_cells_28 : decode cX7_cells 28 = .ok (.ireturn, 1) := by decide +kernel
theorem dX7_countOf_0 : decode cX7_countOf 0 = .ok (.iload_n 1, 1) := by decide +kernel
theorem dX7_countOf_1 : decode cX7_countOf 1 = .ok (.tableswitch 53 0 3 #[31, 36, 41, 48], 31) := by decide +kernel
theorem dX7_countOf_32 : decode cX7_countOf 32 = .ok (.aload_n 0, 1) := by decide +kernel
theorem dX7_countOf_33 : decode cX7_countOf 33 = .ok (.invokevirtual 121, 3) := by decide +kernel
theorem dX7_countOf_36 : decode cX7_countOf 36 = .ok (.ireturn, 1) := by decide +kernel
theorem dX7_countOf_37 : decode cX7_countOf 37 = .ok (.aload_n 0, 1) := by decide +kernel
theorem dX7_countOf_38 : decode cX7_countOf 38 = .ok (.invokevirtual 214, 3) := by decide +kernel
theorem dX7_countOf_41 : decode cX7_countOf 41 = .ok (.ireturn, 1) := by decide +kernel
theorem dX7_countOf_42 : decode cX7_countOf 42 = .ok (.aload_n 0, 1) := by decide +kernel
theorem dX7_countOf_43 : decode cX7_countOf 43 = .ok (.getfield 7, 3) := by decide +kernel
theorem dX7_countOf_46 : decode cX7_countOf 46 = .ok (.iconst 2, 1) := by decide +kernel
theorem dX7_countOf_47 : decode cX7_countOf 47 = .ok (.iaload, 1) := by decide +kernel
theorem dX7_countOf_48 : decode cX7_countOf 48 = .ok (.ireturn, 1) := by decide +kernel
theorem dX7_countOf_49 : decode cX7_countOf 49 = .ok (.aload_n 0, 1) := by decide +kernel
theorem dX7_countOf_50 : decode cX7_countOf 50 = .ok (.invokevirtual 217, 3) := by decide +kernel
theorem dX7_countOf_53 : decode cX7_countOf 53 = .ok (.ireturn, 1) := by decide +kernel
theorem dX7_countOf_54 : decode cX7_countOf 54 = .ok (.aload_n 0, 1) := by decide +kernel
theorem dX7_countOf_55 : decode cX7_countOf 55 = .ok (.invokevirtual 130, 3) := by decide +kernel
theorem dX7_countOf_58 : decode cX7_countOf 58 = .ok (.ireturn, 1) := by decide +kernel
theorem dX7_count_0 : decode cX7_count 0 = .ok (.iload_n 1, 1) := by decide +kernel
theorem dX7_count_1 : decode cX7_count 1 = .ok (.iconst 0, 1) := by decide +kernel
theorem dX7_count_2 : decode cX7_count 2 = .ok (.iconst 4, 1) := by decide +kernel
theorem dX7_count_3 : decode cX7_count 3 = .ok (.invokestatic 43, 3) := by decide +kernel
theorem dX7_count_6 : decode cX7_count 6 = .ok (.ifCond .eq 11, 3) := by decide +kernel
theorem dX7_count_9 : decode cX7_count 9 = .ok (.aload_n 0, 1) := by decide +kernel
theorem dX7_count_10 : decode cX7_count 10 = .ok (.iload_n 1, 1) := by decide +kernel
theorem dX7_count_11 : decode cX7_count 11 = .ok (.invokevirtual 220, 3) := by decide +kernel
theorem dX7_count_14 : decode cX7_count 14 = .ok (.goto 7, 3) := by decide +kernel
theorem dX7_count_17 : decode cX7_count 17 = .ok (.aload_n 0, 1) := by decide +kernel
theorem dX7_count_18 : decode cX7_count 18 = .ok (.invokevirtual 72, 3) := by decide +kernel
theorem dX7_count_21 : decode cX7_count 21 = .ok (.ireturn, 1) := by decide +kernel
theorem dX7_fault_0 : decode cX7_fault 0 = .ok (.iload_n 1, 1) := by decide +kernel
theorem dX7_fault_1 : decode cX7_fault 1 = .ok (.ifCond .ge 8, 3) := by decide +kernel
theorem dX7_fault_4 : decode cX7_fault 4 = .ok (.aload_n 0, 1) := by decide +kernel
theorem dX7_fault_5 : decode cX7_fault 5 = .ok (.invokevirtual 72, 3) := by decide +kernel
theorem dX7_fault_8 : decode cX7_fault 8 = .ok (.ireturn, 1) := by decide +kernel
theorem dX7_fault_9 : decode cX7_fault 9 = .ok (.iload_n 1, 1) := by decide +kernel
theorem dX7_fault_10 : decode cX7_fault 10 = .ok (.aload_n 0, 1) := by decide +kernel
theorem dX7_fault_11 : decode cX7_fault 11 = .ok (.getfield 7, 3) := by decide +kernel
theorem dX7_fault_14 : decode cX7_fault 14 = .ok (.iconst 2, 1) := by decide +kernel
theorem dX7_fault_15 : decode cX7_fault 15 = .ok (.iaload, 1) := by decide +kernel
theorem dX7_fault_16 : decode cX7_fault 16 = .ok (.if_icmp .ge 14, 3) := by decide +kernel
theorem dX7_fault_19 : decode cX7_fault 19 = .ok (.aload_n 0, 1) := by decide +kernel
theorem dX7_fault_20 : decode cX7_fault 20 = .ok (.getfield 7, 3) := by decide +kernel
theorem dX7_fault_23 : decode cX7_fault 23 = .ok (.iconst 3, 1) := by decide +kernel
theorem dX7_fault_24 : decode cX7_fault 24 = .ok (.iload_n 1, 1) := by decide +kernel
theorem dX7_fault_25 : decode cX7_fault 25 = .ok (.iadd, 1) := by decide +kernel
theorem dX7_fault_26 : decode cX7_fault 26 = .ok (.iaload, 1) := by decide +kernel
theorem dX7_fault_27 : decode cX7_fault 27 = .ok (.goto 4, 3) := by decide +kernel
theorem dX7_fault_30 : decode cX7_fault 30 = .ok (.iconst (-1), 1) := by decide +kernel
theorem dX7_fault_31 : decode cX7_fault 31 = .ok (.ireturn, 1) := by decide +kernel
theorem dX7_patternsOf_0 : decode cX7_patternsOf 0 = .ok (.aload_n 0, 1) := by decide +kernel
theorem dX7_patternsOf_1 : decode cX7_patternsOf 1 = .ok (.invokevirtual 136, 3) := by decide +kernel
theorem dX7_patternsOf_4 : decode cX7_patternsOf 4 = .ok (.iconst 1, 1) := by decide +kernel
theorem dX7_patternsOf_5 : decode cX7_patternsOf 5 = .ok (.iload_n 1, 1) := by decide +kernel
theorem dX7_patternsOf_6 : decode cX7_patternsOf 6 = .ok (.iadd, 1) := by decide +kernel
theorem dX7_patternsOf_7 : decode cX7_patternsOf 7 = .ok (.imul, 1) := by decide +kernel
theorem dX7_patternsOf_8 : decode cX7_patternsOf 8 = .ok (.ireturn, 1) := by decide +kernel
theorem dX7_patterns_0 : decode cX7_patterns 0 = .ok (.iload_n 1, 1) := by decide +kernel
theorem dX7_patterns_1 : decode cX7_patterns 1 = .ok (.invokestatic 79, 3) := by decide +kernel
theorem dX7_patterns_4 : decode cX7_patterns 4 = .ok (.ifCond .eq 11, 3) := by decide +kernel
theorem dX7_patterns_7 : decode cX7_patterns 7 = .ok (.aload_n 0, 1) := by decide +kernel
theorem dX7_patterns_8 : decode cX7_patterns 8 = .ok (.iload_n 1, 1) := by decide +kernel
theorem dX7_patterns_9 : decode cX7_patterns 9 = .ok (.invokevirtual 223, 3) := by decide +kernel
theorem dX7_patterns_12 : decode cX7_patterns 12 = .ok (.goto 7, 3) := by decide +kernel
theorem dX7_patterns_15 : decode cX7_patterns 15 = .ok (.aload_n 0, 1) := by decide +kernel
theorem dX7_patterns_16 : decode cX7_patterns 16 = .ok (.invokevirtual 72, 3) := by decide +kernel
theorem dX7_patterns_19 : decode cX7_patterns 19 = .ok (.ireturn, 1) := by decide +kernel
theorem dX7_pattern_0 : decode cX7_pattern 0 = .ok (.iload_n 1, 1) := by decide +kernel
theorem dX7_pattern_1 : decode cX7_pattern 1 = .ok (.invokestatic 79, 3) := by decide +kernel
theorem dX7_pattern_4 : decode cX7_pattern 4 = .ok (.ifCond .eq 25, 3) := by decide +kernel
theorem dX7_pattern_7 : decode cX7_pattern 7 = .ok (.iload_n 2, 1) := by decide +kernel
theorem dX7_pattern_8 : decode cX7_pattern 8 = .ok (.iconst 0, 1) := by decide +kernel
theorem dX7_pattern_9 : decode cX7_pattern 9 = .ok (.aload_n 0, 1) := by decide +kernel
theorem dX7_pattern_10 : decode cX7_pattern 10 = .ok (.iload_n 1, 1) := by decide +kernel
theorem dX7_pattern_11 : decode cX7_pattern 11 = .ok (.invokevirtual 223, 3) := by decide +kernel
theorem dX7_pattern_14 : decode cX7_pattern 14 = .ok (.iconst 1, 1) := by decide +kernel
theorem dX7_pattern_15 : decode cX7_pattern 15 = .ok (.isub, 1) := by decide +kernel
theorem dX7_pattern_16 : decode cX7_pattern 16 = .ok (.invokestatic 43, 3) := by decide +kernel
theorem dX7_pattern_19 : decode cX7_pattern 19 = .ok (.ifCond .eq 10, 3) := by decide +kernel
theorem dX7_pattern_22 : decode cX7_pattern 22 = .ok (.iload_n 3, 1) := by decide +kernel
theorem dX7_pattern_23 : decode cX7_pattern 23 = .ok (.invokestatic 82, 3) := by decide +kernel
theorem dX7_pattern_26 : decode cX7_pattern 26 = .ok (.ifCond .ne 8, 3) := by decide +kernel
theorem dX7_pattern_29 : decode cX7_pattern 29 = .ok (.aload_n 0, 1) := by decide +kernel
theorem dX7_pattern_30 : decode cX7_pattern 30 = .ok (.invokevirtual 72, 3) := by decide +kernel
theorem dX7_pattern_33 : decode cX7_pattern 33 = .ok (.ireturn, 1) := by decide +kernel
theorem dX7_pattern_34 : decode cX7_pattern 34 = .ok (.aload_n 0, 1) := by decide +kernel
theorem dX7_pattern_35 : decode cX7_pattern 35 = .ok (.invokevirtual 130, 3) := by decide +kernel
theorem dX7_pattern_38 : decode cX7_pattern 38 = .ok (.iload_n 3, 1) := by decide +kernel
theorem dX7_pattern_39 : decode cX7_pattern 39 = .ok (.invokestatic 151, 3) := by decide +kernel
theorem dX7_pattern_42 : decode cX7_pattern 42 = .ok (.ifCond .eq 12, 3) := by decide +kernel
theorem dX7_pattern_45 : decode cX7_pattern 45 = .ok (.aload_n 0, 1) := by decide +kernel
theorem dX7_pattern_46 : decode cX7_pattern 46 = .ok (.iload_n 2, 1) := by decide +kernel
theorem dX7_pattern_47 : decode cX7_pattern 47 = .ok (.iload_n 3, 1) := by decide +kernel
theorem dX7_pattern_48 : decode cX7_pattern 48 = .ok (.invokevirtual 142, 3) := by decide +kernel
theorem dX7_pattern_51 : decode cX7_pattern 51 = .ok (.goto 4, 3) := by decide +kernel
theorem dX7_pattern_54 : decode cX7_pattern 54 = .ok (.iconst (-1), 1) := by decide +kernel
theorem dX7_pattern_55 : decode cX7_pattern 55 = .ok (.ireturn, 1) := by decide +kernel
theorem dX7_laysAnswers_0 : decode cX7_laysAnswers 0 = .ok (.iconst 0, 1) := by decide +kernel
theorem dX7_laysAnswers_1 : decode cX7_laysAnswers 1 = .ok (.istore_n 3, 1) := by decide +kernel
theorem dX7_laysAnswers_2 : decode cX7_laysAnswers 2 = .ok (.iload_n 3, 1) := by decide +kernel
theorem dX7_laysAnswers_3 : decode cX7_laysAnswers 3 = .ok (.bipush 24, 2) := by decide +kernel
theorem dX7_laysAnswers_5 : decode cX7_laysAnswers 5 = .ok (.if_icmp .ge 13, 3) := by decide +kernel
theorem dX7_laysAnswers_8 : decode cX7_laysAnswers 8 = .ok (.aload_n 2, 1) := by decide +kernel
theorem dX7_laysAnswers_9 : decode cX7_laysAnswers 9 = .ok (.iload_n 3, 1) := by decide +kernel
theorem dX7_laysAnswers_10 : decode cX7_laysAnswers 10 = .ok (.iconst 0, 1) := by decide +kernel
theorem dX7_laysAnswers_11 : decode cX7_laysAnswers 11 = .ok (.iastore, 1) := by decide +kernel
theorem dX7_laysAnswers_12 : decode cX7_laysAnswers 12 = .ok (.iinc 3 1, 3) := by decide +kernel
theorem dX7_laysAnswers_15 : decode cX7_laysAnswers 15 = .ok (.goto (-13), 3) := by decide +kernel
theorem dX7_laysAnswers_18 : decode cX7_laysAnswers 18 = .ok (.aload_n 0, 1) := by decide +kernel
theorem dX7_laysAnswers_19 : decode cX7_laysAnswers 19 = .ok (.iload_n 1, 1) := by decide +kernel
theorem dX7_laysAnswers_20 : decode cX7_laysAnswers 20 = .ok (.invokevirtual 223, 3) := by decide +kernel
theorem dX7_laysAnswers_23 : decode cX7_laysAnswers 23 = .ok (.istore_n 3, 1) := by decide +kernel
theorem dX7_laysAnswers_24 : decode cX7_laysAnswers 24 = .ok (.iconst 0, 1) := by decide +kernel
theorem dX7_laysAnswers_25 : decode cX7_laysAnswers 25 = .ok (.istore 4, 2) := by decide +kernel
theorem dX7_laysAnswers_27 : decode cX7_laysAnswers 27 = .ok (.iload 4, 2) := by decide +kernel
theorem dX7_laysAnswers_29 : decode cX7_laysAnswers 29 = .ok (.iload_n 3, 1) := by decide +kernel
theorem dX7_laysAnswers_30 : decode cX7_laysAnswers 30 = .ok (.if_icmp .ge 93, 3) := by decide +kernel
theorem dX7_laysAnswers_33 : decode cX7_laysAnswers 33 = .ok (.aload_n 0, 1) := by decide +kernel
theorem dX7_laysAnswers_34 : decode cX7_laysAnswers 34 = .ok (.iload 4, 2) := by decide +kernel
theorem dX7_laysAnswers_36 : decode cX7_laysAnswers 36 = .ok (.invokevirtual 161, 3) := by decide +kernel
theorem dX7_laysAnswers_39 : decode cX7_laysAnswers 39 = .ok (.iconst 0, 1) := by decide +kernel
theorem dX7_laysAnswers_40 : decode cX7_laysAnswers 40 = .ok (.istore 5, 2) := by decide +kernel
theorem dX7_laysAnswers_42 : decode cX7_laysAnswers 42 = .ok (.iload 5, 2) := by decide +kernel
theorem dX7_laysAnswers_44 : decode cX7_laysAnswers 44 = .ok (.aload_n 0, 1) := by decide +kernel
theorem dX7_laysAnswers_45 : decode cX7_laysAnswers 45 = .ok (.invokevirtual 121, 3) := by decide +kernel
theorem dX7_laysAnswers_48 : decode cX7_laysAnswers 48 = .ok (.if_icmp .ge 69, 3) := by decide +kernel
theorem dX7_laysAnswers_51 : decode cX7_laysAnswers 51 = .ok (.iconst 0, 1) := by decide +kernel
theorem dX7_laysAnswers_52 : decode cX7_laysAnswers 52 = .ok (.istore 6, 2) := by decide +kernel
theorem dX7_laysAnswers_54 : decode cX7_laysAnswers 54 = .ok (.iload 6, 2) := by decide +kernel
theorem dX7_laysAnswers_56 : decode cX7_laysAnswers 56 = .ok (.aload_n 0, 1) := by decide +kernel
theorem dX7_laysAnswers_57 : decode cX7_laysAnswers 57 = .ok (.iload 5, 2) := by decide +kernel
theorem dX7_laysAnswers_59 : decode cX7_laysAnswers 59 = .ok (.iconst 2, 1) := by decide +kernel
theorem dX7_laysAnswers_60 : decode cX7_laysAnswers 60 = .ok (.invokevirtual 55, 3) := by decide +kernel
theorem dX7_laysAnswers_63 : decode cX7_laysAnswers 63 = .ok (.if_icmp .ge 48, 3) := by decide +kernel
theorem dX7_laysAnswers_66 : decode cX7_laysAnswers 66 = .ok (.aload_n 2, 1) := by decide +kernel
theorem dX7_laysAnswers_67 : decode cX7_laysAnswers 67 = .ok (.bipush 6, 2) := by decide +kernel
theorem dX7_laysAnswers_69 : decode cX7_laysAnswers 69 = .ok (.iload 5, 2) := by decide +kernel
theorem dX7_laysAnswers_71 : decode cX7_laysAnswers 71 = .ok (.imul, 1) := by decide +kernel
theorem dX7_laysAnswers_72 : decode cX7_laysAnswers 72 = .ok (.iload 6, 2) := by decide +kernel
theorem dX7_laysAnswers_74 : decode cX7_laysAnswers 74 = .ok (.iadd, 1) := by decide +kernel
theorem dX7_laysAnswers_75 : decode cX7_laysAnswers 75 = .ok (.dup2, 1) := by decide +kernel
theorem dX7_laysAnswers_76 : decode cX7_laysAnswers 76 = .ok (.iaload, 1) := by decide +kernel
theorem dX7_laysAnswers_77 : decode cX7_laysAnswers 77 = .ok (.aload_n 0, 1) := by decide +kernel
theorem dX7_laysAnswers_78 : decode cX7_laysAnswers 78 = .ok (.iload 5, 2) := by decide +kernel
theorem dX7_laysAnswers_80 : decode cX7_laysAnswers 80 = .ok (.iload 6, 2) := by decide +kernel
theorem dX7_laysAnswers_82 : decode cX7_laysAnswers 82 = .ok (.invokevirtual 124, 3) := by decide +kernel
theorem dX7_laysAnswers_85 : decode cX7_laysAnswers 85 = .ok (.ifCond .eq 7, 3) := by decide +kernel
theorem dX7_laysAnswers_88 : decode cX7_laysAnswers 88 = .ok (.iconst 0, 1) := by decide +kernel
theorem dX7_laysAnswers_89 : decode cX7_laysAnswers 89 = .ok (.goto 14, 3) := by decide +kernel
theorem dX7_laysAnswers_92 : decode cX7_laysAnswers 92 = .ok (.aload_n 0, 1) := by decide +kernel
theorem dX7_laysAnswers_93 : decode cX7_laysAnswers 93 = .ok (.iload 5, 2) := by decide +kernel
theorem dX7_laysAnswers_95 : decode cX7_laysAnswers 95 = .ok (.iload 6, 2) := by decide +kernel
theorem dX7_laysAnswers_97 : decode cX7_laysAnswers 97 = .ok (.invokevirtual 170, 3) := by decide +kernel
theorem dX7_laysAnswers_100 : decode cX7_laysAnswers 100 = .ok (.iload 4, 2) := by decide +kernel
theorem dX7_laysAnswers_102 : decode cX7_laysAnswers 102 = .ok (.ishl, 1) := by decide +kernel
theorem dX7_laysAnswers_103 : decode cX7_laysAnswers 103 = .ok (.ior, 1) := by decide +kernel
theorem dX7_laysAnswers_104 : decode cX7_laysAnswers 104 = .ok (.iastore, 1) := by decide +kernel
theorem dX7_laysAnswers_105 : decode cX7_laysAnswers 105 = .ok (.iinc 6 1, 3) := by decide +kernel
theorem dX7_laysAnswers_108 : decode cX7_laysAnswers 108 = .ok (.goto (-54), 3) := by decide +kernel
theorem dX7_laysAnswers_111 : decode cX7_laysAnswers 111 = .ok (.iinc 5 1, 3) := by decide +kernel
theorem dX7_laysAnswers_114 : decode cX7_laysAnswers 114 = .ok (.goto (-72), 3) := by decide +kernel
theorem dX7_laysAnswers_117 : decode cX7_laysAnswers 117 = .ok (.iinc 4 1, 3) := by decide +kernel
theorem dX7_laysAnswers_120 : decode cX7_laysAnswers 120 = .ok (.goto (-93), 3) := by decide +kernel
theorem dX7_laysAnswers_123 : decode cX7_laysAnswers 123 = .ok (.return_, 1) := by decide +kernel
theorem dX7_laysAnswersNow_0 : decode cX7_laysAnswersNow 0 = .ok (.aload_n 0, 1) := by decide +kernel
theorem dX7_laysAnswersNow_1 : decode cX7_laysAnswersNow 1 = .ok (.invokevirtual 158, 3) := by decide +kernel
theorem dX7_laysAnswersNow_4 : decode cX7_laysAnswersNow 4 = .ok (.aload_n 0, 1) := by decide +kernel
theorem dX7_laysAnswersNow_5 : decode cX7_laysAnswersNow 5 = .ok (.iload_n 1, 1) := by decide +kernel
theorem dX7_laysAnswersNow_6 : decode cX7_laysAnswersNow 6 = .ok (.aload_n 0, 1) := by decide +kernel
theorem dX7_laysAnswersNow_7 : decode cX7_laysAnswersNow 7 = .ok (.getfield 31, 3) := by decide +kernel
theorem dX7_laysAnswersNow_10 : decode cX7_laysAnswersNow 10 = .ok (.invokevirtual 226, 3) := by decide +kernel
theorem dX7_laysAnswersNow_13 : decode cX7_laysAnswersNow 13 = .ok (.return_, 1) := by decide +kernel
theorem dX7_answer_0 : decode cX7_answer 0 = .ok (.iload_n 1, 1) := by decide +kernel
theorem dX7_answer_1 : decode cX7_answer 1 = .ok (.invokestatic 79, 3) := by decide +kernel
theorem dX7_answer_4 : decode cX7_answer 4 = .ok (.ifCond .eq 21, 3) := by decide +kernel
theorem dX7_answer_7 : decode cX7_answer 7 = .ok (.aload_n 0, 1) := by decide +kernel
theorem dX7_answer_8 : decode cX7_answer 8 = .ok (.iload_n 2, 1) := by decide +kernel
theorem dX7_answer_9 : decode cX7_answer 9 = .ok (.iload_n 3, 1) := by decide +kernel
theorem dX7_answer_10 : decode cX7_answer 10 = .ok (.invokevirtual 85, 3) := by decide +kernel
theorem dX7_answer_13 : decode cX7_answer 13 = .ok (.ifCond .eq 12, 3) := by decide +kernel
theorem dX7_answer_16 : decode cX7_answer 16 = .ok (.aload_n 0, 1) := by decide +kernel
theorem dX7_answer_17 : decode cX7_answer 17 = .ok (.iload_n 2, 1) := by decide +kernel
theorem dX7_answer_18 : decode cX7_answer 18 = .ok (.iload_n 3, 1) := by decide +kernel
theorem dX7_answer_19 : decode cX7_answer 19 = .ok (.invokevirtual 124, 3) := by decide +kernel
theorem dX7_answer_22 : decode cX7_answer 22 = .ok (.ifCond .eq 8, 3) := by decide +kernel
theorem dX7_answer_25 : decode cX7_answer 25 = .ok (.aload_n 0, 1) := by decide +kernel
theorem dX7_answer_26 : decode cX7_answer 26 = .ok (.invokevirtual 72, 3) := by decide +kernel
theorem dX7_answer_29 : decode cX7_answer 29 = .ok (.ireturn, 1) := by decide +kernel
theorem dX7_answer_30 : decode cX7_answer 30 = .ok (.aload_n 0, 1) := by decide +kernel
theorem dX7_answer_31 : decode cX7_answer 31 = .ok (.iload_n 1, 1) := by decide +kernel
theorem dX7_answer_32 : decode cX7_answer 32 = .ok (.invokevirtual 230, 3) := by decide +kernel
theorem dX7_answer_35 : decode cX7_answer 35 = .ok (.aload_n 0, 1) := by decide +kernel
theorem dX7_answer_36 : decode cX7_answer 36 = .ok (.getfield 31, 3) := by decide +kernel
theorem dX7_answer_39 : decode cX7_answer 39 = .ok (.bipush 6, 2) := by decide +kernel
theorem dX7_answer_41 : decode cX7_answer 41 = .ok (.iload_n 2, 1) := by decide +kernel
theorem dX7_answer_42 : decode cX7_answer 42 = .ok (.imul, 1) := by decide +kernel
theorem dX7_answer_43 : decode cX7_answer 43 = .ok (.iload_n 3, 1) := by decide +kernel
theorem dX7_answer_44 : decode cX7_answer 44 = .ok (.iadd, 1) := by decide +kernel
theorem dX7_answer_45 : decode cX7_answer 45 = .ok (.iaload, 1) := by decide +kernel
theorem dX7_answer_46 : decode cX7_answer 46 = .ok (.ireturn, 1) := by decide +kernel
theorem dX7_answersSo_0 : decode cX7_answersSo 0 = .ok (.aload_n 0, 1) := by decide +kernel
theorem dX7_answersSo_1 : decode cX7_answersSo 1 = .ok (.iload_n 2, 1) := by decide +kernel
theorem dX7_answersSo_2 : decode cX7_answersSo 2 = .ok (.invokevirtual 233, 3) := by decide +kernel
theorem dX7_answersSo_5 : decode cX7_answersSo 5 = .ok (.aload_n 0, 1) := by decide +kernel
theorem dX7_answersSo_6 : decode cX7_answersSo 6 = .ok (.iload_n 1, 1) := by decide +kernel
theorem dX7_answersSo_7 : decode cX7_answersSo 7 = .ok (.aload_n 0, 1) := by decide +kernel
theorem dX7_answersSo_8 : decode cX7_answersSo 8 = .ok (.getfield 34, 3) := by decide +kernel
theorem dX7_answersSo_11 : decode cX7_answersSo 11 = .ok (.invokevirtual 226, 3) := by decide +kernel
theorem dX7_answersSo_14 : decode cX7_answersSo 14 = .ok (.iconst 1, 1) := by decide +kernel
theorem dX7_answersSo_15 : decode cX7_answersSo 15 = .ok (.istore_n 3, 1) := by decide +kernel
theorem dX7_answersSo_16 : decode cX7_answersSo 16 = .ok (.iconst 0, 1) := by decide +kernel
theorem dX7_answersSo_17 : decode cX7_answersSo 17 = .ok (.istore 4, 2) := by decide +kernel
theorem dX7_answersSo_19 : decode cX7_answersSo 19 = .ok (.iload 4, 2) := by decide +kernel
theorem dX7_answersSo_21 : decode cX7_answersSo 21 = .ok (.bipush 24, 2) := by decide +kernel
theorem dX7_answersSo_23 : decode cX7_answersSo 23 = .ok (.if_icmp .ge 36, 3) := by decide +kernel
theorem dX7_answersSo_26 : decode cX7_answersSo 26 = .ok (.iload_n 3, 1) := by decide +kernel
theorem dX7_answersSo_27 : decode cX7_answersSo 27 = .ok (.ifCond .eq 24, 3) := by decide +kernel
theorem dX7_answersSo_30 : decode cX7_answersSo 30 = .ok (.aload_n 0, 1) := by decide +kernel
theorem dX7_answersSo_31 : decode cX7_answersSo 31 = .ok (.getfield 31, 3) := by decide +kernel
theorem dX7_answersSo_34 : decode cX7_answersSo 34 = .ok (.iload 4, 2) := by decide +kernel
theorem dX7_answersSo_36 : decode cX7_answersSo 36 = .ok (.iaload, 1) := by decide +kernel
theorem dX7_answersSo_37 : decode cX7_answersSo 37 = .ok (.aload_n 0, 1) := by decide +kernel
theorem dX7_answersSo_38 : decode cX7_answersSo 38 = .ok (.getfield 34, 3) := by decide +kernel
theorem dX7_answersSo_41 : decode cX7_answersSo 41 = .ok (.iload 4, 2) := by decide +kernel
theorem dX7_answersSo_43 : decode cX7_answersSo 43 = .ok (.iaload, 1) := by decide +kernel
theorem dX7_answersSo_44 : decode cX7_answersSo 44 = .ok (.if_icmp .ne 7, 3) := by decide +kernel
theorem dX7_answersSo_47 : decode cX7_answersSo 47 = .ok (.iconst 1, 1) := by decide +kernel
theorem dX7_answersSo_48 : decode cX7_answersSo 48 = .ok (.goto 4, 3) := by decide +kernel
theorem dX7_answersSo_51 : decode cX7_answersSo 51 = .ok (.iconst 0, 1) := by decide +kernel
theorem dX7_answersSo_52 : decode cX7_answersSo 52 = .ok (.istore_n 3, 1) := by decide +kernel
theorem dX7_answersSo_53 : decode cX7_answersSo 53 = .ok (.iinc 4 1, 3) := by decide +kernel
theorem dX7_answersSo_56 : decode cX7_answersSo 56 = .ok (.goto (-37), 3) := by decide +kernel
theorem dX7_answersSo_59 : decode cX7_answersSo 59 = .ok (.iload_n 3, 1) := by decide +kernel
theorem dX7_answersSo_60 : decode cX7_answersSo 60 = .ok (.ireturn, 1) := by decide +kernel
theorem dX7_seenBy_0 : decode cX7_seenBy 0 = .ok (.aload_n 0, 1) := by decide +kernel
theorem dX7_seenBy_1 : decode cX7_seenBy 1 = .ok (.iload_n 1, 1) := by decide +kernel
theorem dX7_seenBy_2 : decode cX7_seenBy 2 = .ok (.invokevirtual 230, 3) := by decide +kernel
theorem dX7_seenBy_5 : decode cX7_seenBy 5 = .ok (.aload_n 0, 1) := by decide +kernel
theorem dX7_seenBy_6 : decode cX7_seenBy 6 = .ok (.iload_n 1, 1) := by decide +kernel
theorem dX7_seenBy_7 : decode cX7_seenBy 7 = .ok (.iconst 0, 1) := by decide +kernel
theorem dX7_seenBy_8 : decode cX7_seenBy 8 = .ok (.invokevirtual 236, 3) := by decide +kernel
theorem dX7_seenBy_11 : decode cX7_seenBy 11 = .ok (.ifCond .eq 7, 3) := by decide +kernel
theorem dX7_seenBy_14 : decode cX7_seenBy 14 = .ok (.iconst 0, 1) := by decide +kernel
theorem dX7_seenBy_15 : decode cX7_seenBy 15 = .ok (.goto 4, 3) := by decide +kernel
theorem dX7_seenBy_18 : decode cX7_seenBy 18 = .ok (.iconst 1, 1) := by decide +kernel
theorem dX7_seenBy_19 : decode cX7_seenBy 19 = .ok (.ireturn, 1) := by decide +kernel
theorem dX7_seen_0 : decode cX7_seen 0 = .ok (.iload_n 1, 1) := by decide +kernel
theorem dX7_seen_1 : decode cX7_seen 1 = .ok (.invokestatic 79, 3) := by decide +kernel
theorem dX7_seen_4 : decode cX7_seen 4 = .ok (.ifCond .eq 11, 3) := by decide +kernel
theorem dX7_seen_7 : decode cX7_seen 7 = .ok (.aload_n 0, 1) := by decide +kernel
theorem dX7_seen_8 : decode cX7_seen 8 = .ok (.iload_n 1, 1) := by decide +kernel
theorem dX7_seen_9 : decode cX7_seen 9 = .ok (.invokevirtual 239, 3) := by decide +kernel
theorem dX7_seen_12 : decode cX7_seen 12 = .ok (.goto 7, 3) := by decide +kernel
theorem dX7_seen_15 : decode cX7_seen 15 = .ok (.aload_n 0, 1) := by decide +kernel
theorem dX7_seen_16 : decode cX7_seen 16 = .ok (.invokevirtual 72, 3) := by decide +kernel
theorem dX7_seen_19 : decode cX7_seen 19 = .ok (.ireturn, 1) := by decide +kernel
theorem dX7_canBe_0 : decode cX7_canBe 0 = .ok (.iload_n 1, 1) := by decide +kernel
theorem dX7_canBe_1 : decode cX7_canBe 1 = .ok (.bipush 10, 2) := by decide +kernel
theorem dX7_canBe_3 : decode cX7_canBe 3 = .ok (.idiv, 1) := by decide +kernel
theorem dX7_canBe_4 : decode cX7_canBe 4 = .ok (.bipush 10, 2) := by decide +kernel
theorem dX7_canBe_6 : decode cX7_canBe 6 = .ok (.irem, 1) := by decide +kernel
theorem dX7_canBe_7 : decode cX7_canBe 7 = .ok (.istore_n 3, 1) := by decide +kernel
theorem dX7_canBe_8 : decode cX7_canBe 8 = .ok (.iload_n 1, 1) := by decide +kernel
theorem dX7_canBe_9 : decode cX7_canBe 9 = .ok (.bipush 10, 2) := by decide +kernel
theorem dX7_canBe_11 : decode cX7_canBe 11 = .ok (.irem, 1) := by decide +kernel
theorem dX7_canBe_12 : decode cX7_canBe 12 = .ok (.istore 4, 2) := by decide +kernel
theorem dX7_canBe_14 : decode cX7_canBe 14 = .ok (.iload_n 1, 1) := by decide +kernel
theorem dX7_canBe_15 : decode cX7_canBe 15 = .ok (.sipush 1000, 3) := by decide +kernel
theorem dX7_canBe_18 : decode cX7_canBe 18 = .ok (.idiv, 1) := by decide +kernel
theorem dX7_canBe_19 : decode cX7_canBe 19 = .ok (.tableswitch 82 0 2 #[25, 35, 49], 25) := by decide +kernel
theorem dX7_canBe_44 : decode cX7_canBe 44 = .ok (.iload_n 1, 1) := by decide +kernel
theorem dX7_canBe_45 : decode cX7_canBe 45 = .ok (.ifCond .ne 7, 3) := by decide +kernel
theorem dX7_canBe_48 : decode cX7_canBe 48 = .ok (.iconst 1, 1) := by decide +kernel
theorem dX7_canBe_49 : decode cX7_canBe 49 = .ok (.goto 4, 3) := by decide +kernel
theorem dX7_canBe_52 : decode cX7_canBe 52 = .ok (.iconst 0, 1) := by decide +kernel
theorem dX7_canBe_53 : decode cX7_canBe 53 = .ok (.ireturn, 1) := by decide +kernel
theorem dX7_canBe_54 : decode cX7_canBe 54 = .ok (.aload_n 0, 1) := by decide +kernel
theorem dX7_canBe_55 : decode cX7_canBe 55 = .ok (.iload_n 1, 1) := by decide +kernel
theorem dX7_canBe_56 : decode cX7_canBe 56 = .ok (.bipush 10, 2) := by decide +kernel
theorem dX7_canBe_58 : decode cX7_canBe 58 = .ok (.idiv, 1) := by decide +kernel
theorem dX7_canBe_59 : decode cX7_canBe 59 = .ok (.bipush 100, 2) := by decide +kernel
theorem dX7_canBe_61 : decode cX7_canBe 61 = .ok (.isub, 1) := by decide +kernel
theorem dX7_canBe_62 : decode cX7_canBe 62 = .ok (.iload 4, 2) := by decide +kernel
theorem dX7_canBe_64 : decode cX7_canBe 64 = .ok (.invokevirtual 85, 3) := by decide +kernel
theorem dX7_canBe_67 : decode cX7_canBe 67 = .ok (.ireturn, 1) := by decide +kernel
theorem dX7_canBe_68 : decode cX7_canBe 68 = .ok (.iload_n 3, 1) := by decide +kernel
theorem dX7_canBe_69 : decode cX7_canBe 69 = .ok (.bipush 8, 2) := by decide +kernel
theorem dX7_canBe_71 : decode cX7_canBe 71 = .ok (.if_icmp .ge 28, 3) := by decide +kernel
theorem dX7_canBe_74 : decode cX7_canBe 74 = .ok (.iload_n 2, 1) := by decide +kernel
theorem dX7_canBe_75 : decode cX7_canBe 75 = .ok (.iload_n 3, 1) := by decide +kernel
theorem dX7_canBe_76 : decode cX7_canBe 76 = .ok (.invokestatic 151, 3) := by decide +kernel
theorem dX7_canBe_79 : decode cX7_canBe 79 = .ok (.ifCond .eq 20, 3) := by decide +kernel
theorem dX7_canBe_82 : decode cX7_canBe 82 = .ok (.iload 4, 2) := by decide +kernel
theorem dX7_canBe_84 : decode cX7_canBe 84 = .ok (.iconst 2, 1) := by decide +kernel
theorem dX7_canBe_85 : decode cX7_canBe 85 = .ok (.if_icmp .ge 14, 3) := by decide +kernel
theorem dX7_canBe_88 : decode cX7_canBe 88 = .ok (.iload_n 1, 1) := by decide +kernel
theorem dX7_canBe_89 : decode cX7_canBe 89 = .ok (.sipush 2100, 3) := by decide +kernel
theorem dX7_canBe_92 : decode cX7_canBe 92 = .ok (.if_icmp .ge 7, 3) := by decide +kernel
theorem dX7_canBe_95 : decode cX7_canBe 95 = .ok (.iconst 1, 1) := by decide +kernel
theorem dX7_canBe_96 : decode cX7_canBe 96 = .ok (.goto 4, 3) := by decide +kernel
theorem dX7_canBe_99 : decode cX7_canBe 99 = .ok (.iconst 0, 1) := by decide +kernel
theorem dX7_canBe_100 : decode cX7_canBe 100 = .ok (.ireturn, 1) := by decide +kernel
theorem dX7_canBe_101 : decode cX7_canBe 101 = .ok (.iload_n 1, 1) := by decide +kernel
theorem dX7_canBe_102 : decode cX7_canBe 102 = .ok (.sipush 1000, 3) := by decide +kernel
theorem dX7_canBe_105 : decode cX7_canBe 105 = .ok (.irem, 1) := by decide +kernel
theorem dX7_canBe_106 : decode cX7_canBe 106 = .ok (.bipush 100, 2) := by decide +kernel
theorem dX7_canBe_108 : decode cX7_canBe 108 = .ok (.if_icmp .ge 37, 3) := by decide +kernel
theorem dX7_canBe_111 : decode cX7_canBe 111 = .ok (.iload_n 3, 1) := by decide +kernel
theorem dX7_canBe_112 : decode cX7_canBe 112 = .ok (.iload 4, 2) := by decide +kernel
theorem dX7_canBe_114 : decode cX7_canBe 114 = .ok (.if_icmp .ge 31, 3) := by decide +kernel
theorem dX7_canBe_117 : decode cX7_canBe 117 = .ok (.iload 4, 2) := by decide +kernel
theorem dX7_canBe_119 : decode cX7_canBe 119 = .ok (.bipush 8, 2) := by decide +kernel
theorem dX7_canBe_121 : decode cX7_canBe 121 = .ok (.if_icmp .ge 24, 3) := by decide +kernel
theorem dX7_canBe_124 : decode cX7_canBe 124 = .ok (.iload_n 2, 1) := by decide +kernel
theorem dX7_canBe_125 : decode cX7_canBe 125 = .ok (.iload_n 3, 1) := by decide +kernel
theorem dX7_canBe_126 : decode cX7_canBe 126 = .ok (.invokestatic 151, 3) := by decide +kernel
theorem dX7_canBe_129 : decode cX7_canBe 129 = .ok (.ifCond .eq 16, 3) := by decide +kernel
theorem dX7_canBe_132 : decode cX7_canBe 132 = .ok (.iload_n 2, 1) := by decide +kernel
theorem dX7_canBe_133 : decode cX7_canBe 133 = .ok (.iload 4, 2) := by decide +kernel
theorem dX7_canBe_135 : decode cX7_canBe 135 = .ok (.invokestatic 151, 3) := by decide +kernel
theorem dX7_canBe_138 : decode cX7_canBe 138 = .ok (.ifCond .eq 7, 3) := by decide +kernel
theorem dX7_canBe_141 : decode cX7_canBe 141 = .ok (.iconst 1, 1) := by decide +kernel
theorem dX7_canBe_142 : decode cX7_canBe 142 = .ok (.goto 4, 3) := by decide +kernel
theorem dX7_canBe_145 : decode cX7_canBe 145 = .ok (.iconst 0, 1) := by decide +kernel
theorem dX7_canBe_146 : decode cX7_canBe 146 = .ok (.ireturn, 1) := by decide +kernel
theorem dX7_suspectsBy_0 : decode cX7_suspectsBy 0 = .ok (.aload_n 0, 1) := by decide +kernel
theorem dX7_suspectsBy_1 : decode cX7_suspectsBy 1 = .ok (.iload_n 1, 1) := by decide +kernel
theorem dX7_suspectsBy_2 : decode cX7_suspectsBy 2 = .ok (.invokevirtual 230, 3) := by decide +kernel
theorem dX7_suspectsBy_5 : decode cX7_suspectsBy 5 = .ok (.aload_n 0, 1) := by decide +kernel
theorem dX7_suspectsBy_6 : decode cX7_suspectsBy 6 = .ok (.invokevirtual 217, 3) := by decide +kernel
theorem dX7_suspectsBy_9 : decode cX7_suspectsBy 9 = .ok (.istore_n 3, 1) := by decide +kernel
theorem dX7_suspectsBy_10 : decode cX7_suspectsBy 10 = .ok (.iconst 0, 1) := by decide +kernel
theorem dX7_suspectsBy_11 : decode cX7_suspectsBy 11 = .ok (.istore 4, 2) := by decide +kernel
theorem dX7_suspectsBy_13 : decode cX7_suspectsBy 13 = .ok (.iconst 0, 1) := by decide +kernel
theorem dX7_suspectsBy_14 : decode cX7_suspectsBy 14 = .ok (.istore 5, 2) := by decide +kernel
theorem dX7_suspectsBy_16 : decode cX7_suspectsBy 16 = .ok (.iload 5, 2) := by decide +kernel
theorem dX7_suspectsBy_18 : decode cX7_suspectsBy 18 = .ok (.sipush 4100, 3) := by decide +kernel
theorem dX7_suspectsBy_21 : decode cX7_suspectsBy 21 = .ok (.if_icmp .ge 78, 3) := by decide +kernel
theorem dX7_suspectsBy_24 : decode cX7_suspectsBy 24 = .ok (.aload_n 0, 1) := by decide +kernel
theorem dX7_suspectsBy_25 : decode cX7_suspectsBy 25 = .ok (.iload 5, 2) := by decide +kernel
theorem dX7_suspectsBy_27 : decode cX7_suspectsBy 27 = .ok (.iload_n 3, 1) := by decide +kernel
theorem dX7_suspectsBy_28 : decode cX7_suspectsBy 28 = .ok (.invokevirtual 242, 3) := by decide +kernel
theorem dX7_suspectsBy_31 : decode cX7_suspectsBy 31 = .ok (.ifCond .eq 25, 3) := by decide +kernel
theorem dX7_suspectsBy_34 : decode cX7_suspectsBy 34 = .ok (.aload_n 0, 1) := by decide +kernel
theorem dX7_suspectsBy_35 : decode cX7_suspectsBy 35 = .ok (.iload_n 1, 1) := by decide +kernel
theorem dX7_suspectsBy_36 : decode cX7_suspectsBy 36 = .ok (.iload 5, 2) := by decide +kernel
theorem dX7_suspectsBy_38 : decode cX7_suspectsBy 38 = .ok (.invokevirtual 236, 3) := by decide +kernel
theorem dX7_suspectsBy_41 : decode cX7_suspectsBy 41 = .ok (.ifCond .eq 15, 3) := by decide +kernel
theorem dX7_suspectsBy_44 : decode cX7_suspectsBy 44 = .ok (.iload 4, 2) := by decide +kernel
theorem dX7_suspectsBy_46 : decode cX7_suspectsBy 46 = .ok (.iload_n 2, 1) := by decide +kernel
theorem dX7_suspectsBy_47 : decode cX7_suspectsBy 47 = .ok (.if_icmp .ne 6, 3) := by decide +kernel
theorem dX7_suspectsBy_50 : decode cX7_suspectsBy 50 = .ok (.iload 5, 2) := by decide +kernel
theorem dX7_suspectsBy_52 : decode cX7_suspectsBy 52 = .ok (.ireturn, 1) := by decide +kernel
theorem dX7_suspectsBy_53 : decode cX7_suspectsBy 53 = .ok (.iinc 4 1, 3) := by decide +kernel
theorem dX7_suspectsBy_56 : decode cX7_suspectsBy 56 = .ok (.iload 5, 2) := by decide +kernel
theorem dX7_suspectsBy_58 : decode cX7_suspectsBy 58 = .ok (.sipush 1000, 3) := by decide +kernel
theorem dX7_suspectsBy_61 : decode cX7_suspectsBy 61 = .ok (.irem, 1) := by decide +kernel
theorem dX7_suspectsBy_62 : decode cX7_suspectsBy 62 = .ok (.bipush 99, 2) := by decide +kernel
theorem dX7_suspectsBy_64 : decode cX7_suspectsBy 64 = .ok (.if_icmp .eq 8, 3) := by decide +kernel
theorem dX7_suspectsBy_67 : decode cX7_suspectsBy 67 = .ok (.iload 5, 2) := by decide +kernel
theorem dX7_suspectsBy_69 : decode cX7_suspectsBy 69 = .ok (.ifCond .ne 20, 3) := by decide +kernel
theorem dX7_suspectsBy_72 : decode cX7_suspectsBy 72 = .ok (.iload 5, 2) := by decide +kernel
theorem dX7_suspectsBy_74 : decode cX7_suspectsBy 74 = .ok (.sipush 1000, 3) := by decide +kernel
theorem dX7_suspectsBy_77 : decode cX7_suspectsBy 77 = .ok (.idiv, 1) := by decide +kernel
theorem dX7_suspectsBy_78 : decode cX7_suspectsBy 78 = .ok (.sipush 1000, 3) := by decide +kernel
theorem dX7_suspectsBy_81 : decode cX7_suspectsBy 81 = .ok (.imul, 1) := by decide +kernel
theorem dX7_suspectsBy_82 : decode cX7_suspectsBy 82 = .ok (.sipush 999, 3) := by decide +kernel
theorem dX7_suspectsBy_85 : decode cX7_suspectsBy 85 = .ok (.iadd, 1) := by decide +kernel
theorem dX7_suspectsBy_86 : decode cX7_suspectsBy 86 = .ok (.goto 5, 3) := by decide +kernel
theorem dX7_suspectsBy_89 : decode cX7_suspectsBy 89 = .ok (.iload 5, 2) := by decide +kernel
theorem dX7_suspectsBy_91 : decode cX7_suspectsBy 91 = .ok (.istore 5, 2) := by decide +kernel
theorem dX7_suspectsBy_93 : decode cX7_suspectsBy 93 = .ok (.iinc 5 1, 3) := by decide +kernel
theorem dX7_suspectsBy_96 : decode cX7_suspectsBy 96 = .ok (.goto (-80), 3) := by decide +kernel
theorem dX7_suspectsBy_99 : decode cX7_suspectsBy 99 = .ok (.iload_n 2, 1) := by decide +kernel
theorem dX7_suspectsBy_100 : decode cX7_suspectsBy 100 = .ok (.ifCond .ge 8, 3) := by decide +kernel
theorem dX7_suspectsBy_103 : decode cX7_suspectsBy 103 = .ok (.iload 4, 2) := by decide +kernel
theorem dX7_suspectsBy_105 : decode cX7_suspectsBy 105 = .ok (.goto 5, 3) := by decide +kernel
theorem dX7_suspectsBy_108 : decode cX7_suspectsBy 108 = .ok (.bipush (-5), 2) := by decide +kernel
theorem dX7_suspectsBy_110 : decode cX7_suspectsBy 110 = .ok (.ireturn, 1) := by decide +kernel
theorem dX7_suspects_0 : decode cX7_suspects 0 = .ok (.iload_n 1, 1) := by decide +kernel
theorem dX7_suspects_1 : decode cX7_suspects 1 = .ok (.invokestatic 79, 3) := by decide +kernel
theorem dX7_suspects_4 : decode cX7_suspects 4 = .ok (.ifCond .eq 17, 3) := by decide +kernel
theorem dX7_suspects_7 : decode cX7_suspects 7 = .ok (.iload_n 2, 1) := by decide +kernel
theorem dX7_suspects_8 : decode cX7_suspects 8 = .ok (.iconst (-1), 1) := by decide +kernel
theorem dX7_suspects_9 : decode cX7_suspects 9 = .ok (.if_icmp .lt 12, 3) := by decide +kernel
theorem dX7_suspects_12 : decode cX7_suspects 12 = .ok (.aload_n 0, 1) := by decide +kernel
theorem dX7_suspects_13 : decode cX7_suspects 13 = .ok (.iload_n 1, 1) := by decide +kernel
theorem dX7_suspects_14 : decode cX7_suspects 14 = .ok (.iload_n 2, 1) := by decide +kernel
theorem dX7_suspects_15 : decode cX7_suspects 15 = .ok (.invokevirtual 245, 3) := by decide +kernel
theorem dX7_suspects_18 : decode cX7_suspects 18 = .ok (.goto 7, 3) := by decide +kernel
theorem dX7_suspects_21 : decode cX7_suspects 21 = .ok (.aload_n 0, 1) := by decide +kernel
theorem dX7_suspects_22 : decode cX7_suspects 22 = .ok (.invokevirtual 72, 3) := by decide +kernel
theorem dX7_suspects_25 : decode cX7_suspects 25 = .ok (.ireturn, 1) := by decide +kernel
theorem dX7_type_0 : decode cX7_type 0 = .ok (.iload_n 1, 1) := by decide +kernel
theorem dX7_type_1 : decode cX7_type 1 = .ok (.iconst 0, 1) := by decide +kernel
theorem dX7_type_2 : decode cX7_type 2 = .ok (.bipush 127, 2) := by decide +kernel
theorem dX7_type_4 : decode cX7_type 4 = .ok (.invokestatic 43, 3) := by decide +kernel
theorem dX7_type_7 : decode cX7_type 7 = .ok (.ifCond .ne 8, 3) := by decide +kernel
theorem dX7_type_10 : decode cX7_type 10 = .ok (.aload_n 0, 1) := by decide +kernel
theorem dX7_type_11 : decode cX7_type 11 = .ok (.invokevirtual 72, 3) := by decide +kernel
theorem dX7_type_14 : decode cX7_type 14 = .ok (.ireturn, 1) := by decide +kernel
theorem dX7_type_15 : decode cX7_type 15 = .ok (.aload_n 0, 1) := by decide +kernel
theorem dX7_type_16 : decode cX7_type 16 = .ok (.getfield 248, 3) := by decide +kernel
theorem dX7_type_19 : decode cX7_type 19 = .ok (.bipush 120, 2) := by decide +kernel
theorem dX7_type_21 : decode cX7_type 21 = .ok (.if_icmp .ne 8, 3) := by decide +kernel
theorem dX7_type_24 : decode cX7_type 24 = .ok (.aload_n 0, 1) := by decide +kernel
theorem dX7_type_25 : decode cX7_type 25 = .ok (.invokevirtual 69, 3) := by decide +kernel
theorem dX7_type_28 : decode cX7_type 28 = .ok (.ireturn, 1) := by decide +kernel
theorem dX7_type_29 : decode cX7_type 29 = .ok (.aload_n 0, 1) := by decide +kernel
theorem dX7_type_30 : decode cX7_type 30 = .ok (.getfield 22, 3) := by decide +kernel
theorem dX7_type_33 : decode cX7_type 33 = .ok (.aload_n 0, 1) := by decide +kernel
theorem dX7_type_34 : decode cX7_type 34 = .ok (.getfield 248, 3) := by decide +kernel
theorem dX7_type_37 : decode cX7_type 37 = .ok (.iload_n 1, 1) := by decide +kernel
theorem dX7_type_38 : decode cX7_type 38 = .ok (.iastore, 1) := by decide +kernel
theorem dX7_type_39 : decode cX7_type 39 = .ok (.aload_n 0, 1) := by decide +kernel
theorem dX7_type_40 : decode cX7_type 40 = .ok (.dup, 1) := by decide +kernel
theorem dX7_type_41 : decode cX7_type 41 = .ok (.getfield 248, 3) := by decide +kernel
theorem dX7_type_44 : decode cX7_type 44 = .ok (.iconst 1, 1) := by decide +kernel
theorem dX7_type_45 : decode cX7_type 45 = .ok (.iadd, 1) := by decide +kernel
theorem dX7_type_46 : decode cX7_type 46 = .ok (.putfield 248, 3) := by decide +kernel
theorem dX7_type_49 : decode cX7_type 49 = .ok (.aload_n 0, 1) := by decide +kernel
theorem dX7_type_50 : decode cX7_type 50 = .ok (.getfield 248, 3) := by decide +kernel
theorem dX7_type_53 : decode cX7_type 53 = .ok (.ireturn, 1) := by decide +kernel
theorem dX7_clear_0 : decode cX7_clear 0 = .ok (.aload_n 0, 1) := by decide +kernel
theorem dX7_clear_1 : decode cX7_clear 1 = .ok (.getfield 248, 3) := by decide +kernel
theorem dX7_clear_4 : decode cX7_clear 4 = .ok (.istore_n 1, 1) := by decide +kernel
theorem dX7_clear_5 : decode cX7_clear 5 = .ok (.aload_n 0, 1) := by decide +kernel
theorem dX7_clear_6 : decode cX7_clear 6 = .ok (.iconst 0, 1) := by decide +kernel
theorem dX7_clear_7 : decode cX7_clear 7 = .ok (.putfield 248, 3) := by decide +kernel
theorem dX7_clear_10 : decode cX7_clear 10 = .ok (.iload_n 1, 1) := by decide +kernel
theorem dX7_clear_11 : decode cX7_clear 11 = .ok (.ireturn, 1) := by decide +kernel
theorem dX7_isAt_0 : decode cX7_isAt 0 = .ok (.aload_n 0, 1) := by decide +kernel
theorem dX7_isAt_1 : decode cX7_isAt 1 = .ok (.getfield 251, 3) := by decide +kernel
theorem dX7_isAt_4 : decode cX7_isAt 4 = .ok (.aload_n 0, 1) := by decide +kernel
theorem dX7_isAt_5 : decode cX7_isAt 5 = .ok (.getfield 248, 3) := by decide +kernel
theorem dX7_isAt_8 : decode cX7_isAt 8 = .ok (.if_icmp .ge 24, 3) := by decide +kernel
theorem dX7_isAt_11 : decode cX7_isAt 11 = .ok (.aload_n 0, 1) := by decide +kernel
theorem dX7_isAt_12 : decode cX7_isAt 12 = .ok (.getfield 22, 3) := by decide +kernel
theorem dX7_isAt_15 : decode cX7_isAt 15 = .ok (.aload_n 0, 1) := by decide +kernel
theorem dX7_isAt_16 : decode cX7_isAt 16 = .ok (.getfield 251, 3) := by decide +kernel
theorem dX7_isAt_19 : decode cX7_isAt 19 = .ok (.iaload, 1) := by decide +kernel
theorem dX7_isAt_20 : decode cX7_isAt 20 = .ok (.iload_n 1, 1) := by decide +kernel
theorem dX7_isAt_21 : decode cX7_isAt 21 = .ok (.iload_n 2, 1) := by decide +kernel
theorem dX7_isAt_22 : decode cX7_isAt 22 = .ok (.invokestatic 43, 3) := by decide +kernel
theorem dX7_isAt_25 : decode cX7_isAt 25 = .ok (.ifCond .eq 7, 3) := by decide +kernel
theorem dX7_isAt_28 : decode cX7_isAt 28 = .ok (.iconst 1, 1) := by decide +kernel
theorem dX7_isAt_29 : decode cX7_isAt 29 = .ok (.goto 4, 3) := by decide +kernel
theorem dX7_isAt_32 : decode cX7_isAt 32 = .ok (.iconst 0, 1) := by decide +kernel
theorem dX7_isAt_33 : decode cX7_isAt 33 = .ok (.ireturn, 1) := by decide +kernel
theorem dX7_blanks_0 : decode cX7_blanks 0 = .ok (.aload_n 0, 1) := by decide +kernel
theorem dX7_blanks_1 : decode cX7_blanks 1 = .ok (.bipush 32, 2) := by decide +kernel
theorem dX7_blanks_3 : decode cX7_blanks 3 = .ok (.bipush 32, 2) := by decide +kernel
theorem dX7_blanks_5 : decode cX7_blanks 5 = .ok (.invokevirtual 254, 3) := by decide +kernel
theorem dX7_blanks_8 : decode cX7_blanks 8 = .ok (.ifCond .eq 16, 3) := by decide +kernel
theorem dX7_blanks_11 : decode cX7_blanks 11 = .ok (.aload_n 0, 1) := by decide +kernel
theorem dX7_blanks_12 : decode cX7_blanks 12 = .ok (.dup, 1) := by decide +kernel
theorem dX7_blanks_13 : decode cX7_blanks 13 = .ok (.getfield 251, 3) := by decide +kernel
theorem dX7_blanks_16 : decode cX7_blanks 16 = .ok (.iconst 1, 1) := by decide +kernel
theorem dX7_blanks_17 : decode cX7_blanks 17 = .ok (.iadd, 1) := by decide +kernel
theorem dX7_blanks_18 : decode cX7_blanks 18 = .ok (.putfield 251, 3) := by decide +kernel
theorem dX7_blanks_21 : decode cX7_blanks 21 = .ok (.goto (-21), 3) := by decide +kernel
theorem dX7_blanks_24 : decode cX7_blanks 24 = .ok (.return_, 1) := by decide +kernel
theorem dX7_number_0 : decode cX7_number 0 = .ok (.aload_n 0, 1) := by decide +kernel
theorem dX7_number_1 : decode cX7_number 1 = .ok (.invokevirtual 257, 3) := by decide +kernel
theorem dX7_number_4 : decode cX7_number 4 = .ok (.iconst 0, 1) := by decide +kernel
theorem dX7_number_5 : decode cX7_number 5 = .ok (.istore_n 1, 1) := by decide +kernel
theorem dX7_number_6 : decode cX7_number 6 = .ok (.iconst 0, 1) := by decide +kernel
theorem dX7_number_7 : decode cX7_number 7 = .ok (.istore_n 2, 1) := by decide +kernel
theorem dX7_number_8 : decode cX7_number 8 = .ok (.aload_n 0, 1) := by decide +kernel
theorem dX7_number_9 : decode cX7_number 9 = .ok (.aload_n 0, 1) := by decide +kernel
theorem dX7_number_10 : decode cX7_number 10 = .ok (.getfield 260, 3) := by decide +kernel
theorem dX7_number_13 : decode cX7_number 13 = .ok (.ifCond .ne 14, 3) := by decide +kernel
theorem dX7_number_16 : decode cX7_number 16 = .ok (.aload_n 0, 1) := by decide +kernel
theorem dX7_number_17 : decode cX7_number 17 = .ok (.bipush 48, 2) := by decide +kernel
theorem dX7_number_19 : decode cX7_number 19 = .ok (.bipush 57, 2) := by decide +kernel
theorem dX7_number_21 : decode cX7_number 21 = .ok (.invokevirtual 254, 3) := by decide +kernel
theorem dX7_number_24 : decode cX7_number 24 = .ok (.ifCond .ne 7, 3) := by decide +kernel
theorem dX7_number_27 : decode cX7_number 27 = .ok (.iconst 1, 1) := by decide +kernel
theorem dX7_number_28 : decode cX7_number 28 = .ok (.goto 4, 3) := by decide +kernel
theorem dX7_number_31 : decode cX7_number 31 = .ok (.iconst 0, 1) := by decide +kernel
theorem dX7_number_32 : decode cX7_number 32 = .ok (.putfield 260, 3) := by decide +kernel
theorem dX7_number_35 : decode cX7_number 35 = .ok (.aload_n 0, 1) := by decide +kernel
theorem dX7_number_36 : decode cX7_number 36 = .ok (.getfield 260, 3) := by decide +kernel
theorem dX7_number_39 : decode cX7_number 39 = .ok (.ifCond .ne 84, 3) := by decide +kernel
theorem dX7_number_42 : decode cX7_number 42 = .ok (.aload_n 0, 1) := by decide +kernel
theorem dX7_number_43 : decode cX7_number 43 = .ok (.bipush 48, 2) := by decide +kernel
theorem dX7_number_45 : decode cX7_number 45 = .ok (.bipush 57, 2) := by decide +kernel
theorem dX7_number_47 : decode cX7_number 47 = .ok (.invokevirtual 254, 3) := by decide +kernel
theorem dX7_number_50 : decode cX7_number 50 = .ok (.ifCond .eq 73, 3) := by decide +kernel
theorem dX7_number_53 : decode cX7_number 53 = .ok (.iinc 2 1, 3) := by decide +kernel
theorem dX7_number_56 : decode cX7_number 56 = .ok (.aload_n 0, 1) := by decide +kernel
theorem dX7_number_57 : decode cX7_number 57 = .ok (.iload_n 2, 1) := by decide +kernel
theorem dX7_number_58 : decode cX7_number 58 = .ok (.iconst 3, 1) := by decide +kernel
theorem dX7_number_59 : decode cX7_number 59 = .ok (.if_icmp .le 7, 3) := by decide +kernel
theorem dX7_number_62 : decode cX7_number 62 = .ok (.iconst 1, 1) := by decide +kernel
theorem dX7_number_63 : decode cX7_number 63 = .ok (.goto 4, 3) := by decide +kernel
theorem dX7_number_66 : decode cX7_number 66 = .ok (.iconst 0, 1) := by decide +kernel
theorem dX7_number_67 : decode cX7_number 67 = .ok (.putfield 260, 3) := by decide +kernel
theorem dX7_number_70 : decode cX7_number 70 = .ok (.aload_n 0, 1) := by decide +kernel
theorem dX7_number_71 : decode cX7_number 71 = .ok (.getfield 260, 3) := by decide +kernel
theorem dX7_number_74 : decode cX7_number 74 = .ok (.ifCond .eq 7, 3) := by decide +kernel
theorem dX7_number_77 : decode cX7_number 77 = .ok (.iload_n 1, 1) := by decide +kernel
theorem dX7_number_78 : decode cX7_number 78 = .ok (.goto 20, 3) := by decide +kernel
theorem dX7_number_81 : decode cX7_number 81 = .ok (.bipush 10, 2) := by decide +kernel
theorem dX7_number_83 : decode cX7_number 83 = .ok (.iload_n 1, 1) := by decide +kernel
theorem dX7_number_84 : decode cX7_number 84 = .ok (.imul, 1) := by decide +kernel
theorem dX7_number_85 : decode cX7_number 85 = .ok (.aload_n 0, 1) := by decide +kernel
theorem dX7_number_86 : decode cX7_number 86 = .ok (.getfield 22, 3) := by decide +kernel
theorem dX7_number_89 : decode cX7_number 89 = .ok (.aload_n 0, 1) := by decide +kernel
theorem dX7_number_90 : decode cX7_number 90 = .ok (.getfield 251, 3) := by decide +kernel
theorem dX7_number_93 : decode cX7_number 93 = .ok (.iaload, 1) := by decide +kernel
theorem dX7_number_94 : decode cX7_number 94 = .ok (.iadd, 1) := by decide +kernel
theorem dX7_number_95 : decode cX7_number 95 = .ok (.bipush 48, 2) := by decide +kernel
theorem dX7_number_97 : decode cX7_number 97 = .ok (.isub, 1) := by decide +kernel
theorem dX7_number_98 : decode cX7_number 98 = .ok (.istore_n 1, 1) := by decide +kernel
theorem dX7_number_99 : decode cX7_number 99 = .ok (.aload_n 0, 1) := by decide +kernel
theorem dX7_number_100 : decode cX7_number 100 = .ok (.dup, 1) := by decide +kernel
theorem dX7_number_101 : decode cX7_number 101 = .ok (.getfield 251, 3) := by decide +kernel
theorem dX7_number_104 : decode cX7_number 104 = .ok (.aload_n 0, 1) := by decide +kernel
theorem dX7_number_105 : decode cX7_number 105 = .ok (.getfield 260, 3) := by decide +kernel
theorem dX7_number_108 : decode cX7_number 108 = .ok (.ifCond .eq 7, 3) := by decide +kernel
theorem dX7_number_111 : decode cX7_number 111 = .ok (.iconst 0, 1) := by decide +kernel
theorem dX7_number_112 : decode cX7_number 112 = .ok (.goto 4, 3) := by decide +kernel
theorem dX7_number_115 : decode cX7_number 115 = .ok (.iconst 1, 1) := by decide +kernel
theorem dX7_number_116 : decode cX7_number 116 = .ok (.iadd, 1) := by decide +kernel
theorem dX7_number_117 : decode cX7_number 117 = .ok (.putfield 251, 3) := by decide +kernel
theorem dX7_number_120 : decode cX7_number 120 = .ok (.goto (-85), 3) := by decide +kernel
theorem dX7_number_123 : decode cX7_number 123 = .ok (.iload_n 1, 1) := by decide +kernel
theorem dX7_number_124 : decode cX7_number 124 = .ok (.ireturn, 1) := by decide +kernel
theorem dX7_manyOf_0 : decode cX7_manyOf 0 = .ok (.iload_n 0, 1) := by decide +kernel
theorem dX7_manyOf_1 : decode cX7_manyOf 1 = .ok (.tableswitch 97 99 117 #[93, 97, 97, 97, 97, 91, 97, 97, 93, 97, 97, 97, 93, 95, 97, 97, 95, 97, 93], 91) := by decide +kernel
theorem dX7_manyOf_92 : decode cX7_manyOf 92 = .ok (.iconst 0, 1) := by decide +kernel
theorem dX7_manyOf_93 : decode cX7_manyOf 93 = .ok (.ireturn, 1) := by decide +kernel
theorem dX7_manyOf_94 : decode cX7_manyOf 94 = .ok (.iconst 2, 1) := by decide +kernel
theorem dX7_manyOf_95 : decode cX7_manyOf 95 = .ok (.ireturn, 1) := by decide +kernel
theorem dX7_manyOf_96 : decode cX7_manyOf 96 = .ok (.iconst 3, 1) := by decide +kernel
theorem dX7_manyOf_97 : decode cX7_manyOf 97 = .ok (.ireturn, 1) := by decide +kernel
theorem dX7_manyOf_98 : decode cX7_manyOf 98 = .ok (.iconst (-1), 1) := by decide +kernel
theorem dX7_manyOf_99 : decode cX7_manyOf 99 = .ok (.ireturn, 1) := by decide +kernel
theorem dX7_readsOrder_0 : decode cX7_readsOrder 0 = .ok (.aload_n 0, 1) := by decide +kernel
theorem dX7_readsOrder_1 : decode cX7_readsOrder 1 = .ok (.getfield 22, 3) := by decide +kernel
theorem dX7_readsOrder_4 : decode cX7_readsOrder 4 = .ok (.aload_n 0, 1) := by decide +kernel
theorem dX7_readsOrder_5 : decode cX7_readsOrder 5 = .ok (.getfield 251, 3) := by decide +kernel
theorem dX7_readsOrder_8 : decode cX7_readsOrder 8 = .ok (.iaload, 1) := by decide +kernel
theorem dX7_readsOrder_9 : decode cX7_readsOrder 9 = .ok (.istore_n 1, 1) := by decide +kernel
theorem dX7_readsOrder_10 : decode cX7_readsOrder 10 = .ok (.iload_n 1, 1) := by decide +kernel
theorem dX7_readsOrder_11 : decode cX7_readsOrder 11 = .ok (.invokestatic 264, 3) := by decide +kernel
theorem dX7_readsOrder_14 : decode cX7_readsOrder 14 = .ok (.istore_n 2, 1) := by decide +kernel
theorem dX7_readsOrder_15 : decode cX7_readsOrder 15 = .ok (.aload_n 0, 1) := by decide +kernel
theorem dX7_readsOrder_16 : decode cX7_readsOrder 16 = .ok (.iload_n 2, 1) := by decide +kernel
theorem dX7_readsOrder_17 : decode cX7_readsOrder 17 = .ok (.ifCond .ge 7, 3) := by decide +kernel
theorem dX7_readsOrder_20 : decode cX7_readsOrder 20 = .ok (.iconst 1, 1) := by decide +kernel
theorem dX7_readsOrder_21 : decode cX7_readsOrder 21 = .ok (.goto 4, 3) := by decide +kernel
theorem dX7_readsOrder_24 : decode cX7_readsOrder 24 = .ok (.iconst 0, 1) := by decide +kernel
theorem dX7_readsOrder_25 : decode cX7_readsOrder 25 = .ok (.putfield 260, 3) := by decide +kernel
theorem dX7_readsOrder_28 : decode cX7_readsOrder 28 = .ok (.aload_n 0, 1) := by decide +kernel
theorem dX7_readsOrder_29 : decode cX7_readsOrder 29 = .ok (.dup, 1) := by decide +kernel
theorem dX7_readsOrder_30 : decode cX7_readsOrder 30 = .ok (.getfield 251, 3) := by decide +kernel
theorem dX7_readsOrder_33 : decode cX7_readsOrder 33 = .ok (.aload_n 0, 1) := by decide +kernel
theorem dX7_readsOrder_34 : decode cX7_readsOrder 34 = .ok (.getfield 260, 3) := by decide +kernel
theorem dX7_readsOrder_37 : decode cX7_readsOrder 37 = .ok (.ifCond .eq 7, 3) := by decide +kernel
theorem dX7_readsOrder_40 : decode cX7_readsOrder 40 = .ok (.iconst 0, 1) := by decide +kernel
theorem dX7_readsOrder_41 : decode cX7_readsOrder 41 = .ok (.goto 4, 3) := by decide +kernel
theorem dX7_readsOrder_44 : decode cX7_readsOrder 44 = .ok (.iconst 1, 1) := by decide +kernel
theorem dX7_readsOrder_45 : decode cX7_readsOrder 45 = .ok (.iadd, 1) := by decide +kernel
theorem dX7_readsOrder_46 : decode cX7_readsOrder 46 = .ok (.putfield 251, 3) := by decide +kernel
theorem dX7_readsOrder_49 : decode cX7_readsOrder 49 = .ok (.iconst 0, 1) := by decide +kernel
theorem dX7_readsOrder_50 : decode cX7_readsOrder 50 = .ok (.istore_n 3, 1) := by decide +kernel
theorem dX7_readsOrder_51 : decode cX7_readsOrder 51 = .ok (.iload_n 3, 1) := by decide +kernel
theorem dX7_readsOrder_52 : decode cX7_readsOrder 52 = .ok (.iload_n 2, 1) := by decide +kernel
theorem dX7_readsOrder_53 : decode cX7_readsOrder 53 = .ok (.if_icmp .ge 33, 3) := by decide +kernel
theorem dX7_readsOrder_56 : decode cX7_readsOrder 56 = .ok (.aload_n 0, 1) := by decide +kernel
theorem dX7_readsOrder_57 : decode cX7_readsOrder 57 = .ok (.getfield 260, 3) := by decide +kernel
theorem dX7_readsOrder_60 : decode cX7_readsOrder 60 = .ok (.ifCond .ne 26, 3) := by decide +kernel
theorem dX7_readsOrder_63 : decode cX7_readsOrder 63 = .ok (.aload_n 0, 1) := by decide +kernel
theorem dX7_readsOrder_64 : decode cX7_readsOrder 64 = .ok (.getfield 40, 3) := by decide +kernel
theorem dX7_readsOrder_67 : decode cX7_readsOrder 67 = .ok (.iconst 3, 1) := by decide +kernel
theorem dX7_readsOrder_68 : decode cX7_readsOrder 68 = .ok (.aload_n 0, 1) := by decide +kernel
theorem dX7_readsOrder_69 : decode cX7_readsOrder 69 = .ok (.getfield 267, 3) := by decide +kernel
theorem dX7_readsOrder_72 : decode cX7_readsOrder 72 = .ok (.imul, 1) := by decide +kernel
theorem dX7_readsOrder_73 : decode cX7_readsOrder 73 = .ok (.iload_n 3, 1) := by decide +kernel
theorem dX7_readsOrder_74 : decode cX7_readsOrder 74 = .ok (.iadd, 1) := by decide +kernel
theorem dX7_readsOrder_75 : decode cX7_readsOrder 75 = .ok (.aload_n 0, 1) := by decide +kernel
theorem dX7_readsOrder_76 : decode cX7_readsOrder 76 = .ok (.invokevirtual 270, 3) := by decide +kernel
theorem dX7_readsOrder_79 : decode cX7_readsOrder 79 = .ok (.iastore, 1) := by decide +kernel
theorem dX7_readsOrder_80 : decode cX7_readsOrder 80 = .ok (.iinc 3 1, 3) := by decide +kernel
theorem dX7_readsOrder_83 : decode cX7_readsOrder 83 = .ok (.goto (-32), 3) := by decide +kernel
theorem dX7_readsOrder_86 : decode cX7_readsOrder 86 = .ok (.aload_n 0, 1) := by decide +kernel
theorem dX7_readsOrder_87 : decode cX7_readsOrder 87 = .ok (.getfield 260, 3) := by decide +kernel
theorem dX7_readsOrder_90 : decode cX7_readsOrder 90 = .ok (.ifCond .ne 48, 3) := by decide +kernel
theorem dX7_readsOrder_93 : decode cX7_readsOrder 93 = .ok (.aload_n 0, 1) := by decide +kernel
theorem dX7_readsOrder_94 : decode cX7_readsOrder 94 = .ok (.invokevirtual 257, 3) := by decide +kernel
theorem dX7_readsOrder_97 : decode cX7_readsOrder 97 = .ok (.aload_n 0, 1) := by decide +kernel
theorem dX7_readsOrder_98 : decode cX7_readsOrder 98 = .ok (.aload_n 0, 1) := by decide +kernel
theorem dX7_readsOrder_99 : decode cX7_readsOrder 99 = .ok (.bipush 59, 2) := by decide +kernel
theorem dX7_readsOrder_101 : decode cX7_readsOrder 101 = .ok (.bipush 59, 2) := by decide +kernel
theorem dX7_readsOrder_103 : decode cX7_readsOrder 103 = .ok (.invokevirtual 254, 3) := by decide +kernel
theorem dX7_readsOrder_106 : decode cX7_readsOrder 106 = .ok (.ifCond .ne 7, 3) := by decide +kernel
theorem dX7_readsOrder_109 : decode cX7_readsOrder 109 = .ok (.iconst 1, 1) := by decide +kernel
theorem dX7_readsOrder_110 : decode cX7_readsOrder 110 = .ok (.goto 4, 3) := by decide +kernel
theorem dX7_readsOrder_113 : decode cX7_readsOrder 113 = .ok (.iconst 0, 1) := by decide +kernel
theorem dX7_readsOrder_114 : decode cX7_readsOrder 114 = .ok (.putfield 260, 3) := by decide +kernel
theorem dX7_readsOrder_117 : decode cX7_readsOrder 117 = .ok (.aload_n 0, 1) := by decide +kernel
theorem dX7_readsOrder_118 : decode cX7_readsOrder 118 = .ok (.dup, 1) := by decide +kernel
theorem dX7_readsOrder_119 : decode cX7_readsOrder 119 = .ok (.getfield 251, 3) := by decide +kernel
theorem dX7_readsOrder_122 : decode cX7_readsOrder 122 = .ok (.aload_n 0, 1) := by decide +kernel
theorem dX7_readsOrder_123 : decode cX7_readsOrder 123 = .ok (.getfield 260, 3) := by decide +kernel
theorem dX7_readsOrder_126 : decode cX7_readsOrder 126 = .ok (.ifCond .eq 7, 3) := by decide +kernel
theorem dX7_readsOrder_129 : decode cX7_readsOrder 129 = .ok (.iconst 0, 1) := by decide +kernel
theorem dX7_readsOrder_130 : decode cX7_readsOrder 130 = .ok (.goto 4, 3) := by decide +kernel
theorem dX7_readsOrder_133 : decode cX7_readsOrder 133 = .ok (.iconst 1, 1) := by decide +kernel
theorem dX7_readsOrder_134 : decode cX7_readsOrder 134 = .ok (.iadd, 1) := by decide +kernel
theorem dX7_readsOrder_135 : decode cX7_readsOrder 135 = .ok (.putfield 251, 3) := by decide +kernel
theorem dX7_readsOrder_138 : decode cX7_readsOrder 138 = .ok (.aload_n 0, 1) := by decide +kernel
theorem dX7_readsOrder_139 : decode cX7_readsOrder 139 = .ok (.getfield 260, 3) := by decide +kernel
theorem dX7_readsOrder_142 : decode cX7_readsOrder 142 = .ok (.ifCond .ne 23, 3) := by decide +kernel
theorem dX7_readsOrder_145 : decode cX7_readsOrder 145 = .ok (.aload_n 0, 1) := by decide +kernel
theorem dX7_readsOrder_146 : decode cX7_readsOrder 146 = .ok (.getfield 37, 3) := by decide +kernel
theorem dX7_readsOrder_149 : decode cX7_readsOrder 149 = .ok (.aload_n 0, 1) := by decide +kernel
theorem dX7_readsOrder_150 : decode cX7_readsOrder 150 = .ok (.getfield 267, 3) := by decide +kernel
theorem dX7_readsOrder_153 : decode cX7_readsOrder 153 = .ok (.iload_n 1, 1) := by decide +kernel
theorem dX7_readsOrder_154 : decode cX7_readsOrder 154 = .ok (.iastore, 1) := by decide +kernel
theorem dX7_readsOrder_155 : decode cX7_readsOrder 155 = .ok (.aload_n 0, 1) := by decide +kernel
theorem dX7_readsOrder_156 : decode cX7_readsOrder 156 = .ok (.dup, 1) := by decide +kernel
theorem dX7_readsOrder_157 : decode cX7_readsOrder 157 = .ok (.getfield 267, 3) := by decide +kernel
theorem dX7_readsOrder_160 : decode cX7_readsOrder 160 = .ok (.iconst 1, 1) := by decide +kernel
theorem dX7_readsOrder_161 : decode cX7_readsOrder 161 = .ok (.iadd, 1) := by decide +kernel
theorem dX7_readsOrder_162 : decode cX7_readsOrder 162 = .ok (.putfield 267, 3) := by decide +kernel
theorem dX7_readsOrder_165 : decode cX7_readsOrder 165 = .ok (.return_, 1) := by decide +kernel
theorem dX7_reads_0 : decode cX7_reads 0 = .ok (.aload_n 0, 1) := by decide +kernel
theorem dX7_reads_1 : decode cX7_reads 1 = .ok (.iconst 0, 1) := by decide +kernel
theorem dX7_reads_2 : decode cX7_reads 2 = .ok (.putfield 251, 3) := by decide +kernel
theorem dX7_reads_5 : decode cX7_reads 5 = .ok (.aload_n 0, 1) := by decide +kernel
theorem dX7_reads_6 : decode cX7_reads 6 = .ok (.iconst 0, 1) := by decide +kernel
theorem dX7_reads_7 : decode cX7_reads 7 = .ok (.putfield 267, 3) := by decide +kernel
theorem dX7_reads_10 : decode cX7_reads 10 = .ok (.aload_n 0, 1) := by decide +kernel
theorem dX7_reads_11 : decode cX7_reads 11 = .ok (.invokevirtual 257, 3) := by decide +kernel
theorem dX7_reads_14 : decode cX7_reads 14 = .ok (.aload_n 0, 1) := by decide +kernel
theorem dX7_reads_15 : decode cX7_reads 15 = .ok (.aload_n 0, 1) := by decide +kernel
theorem dX7_reads_16 : decode cX7_reads 16 = .ok (.getfield 251, 3) := by decide +kernel
theorem dX7_reads_19 : decode cX7_reads 19 = .ok (.aload_n 0, 1) := by decide +kernel
theorem dX7_reads_20 : decode cX7_reads 20 = .ok (.getfield 248, 3) := by decide +kernel
theorem dX7_reads_23 : decode cX7_reads 23 = .ok (.if_icmp .ne 7, 3) := by decide +kernel
theorem dX7_reads_26 : decode cX7_reads 26 = .ok (.iconst 1, 1) := by decide +kernel
theorem dX7_reads_27 : decode cX7_reads 27 = .ok (.goto 4, 3) := by decide +kernel
theorem dX7_reads_30 : decode cX7_reads 30 = .ok (.iconst 0, 1) := by decide +kernel
theorem dX7_reads_31 : decode cX7_reads 31 = .ok (.putfield 260, 3) := by decide +kernel
theorem dX7_reads_34 : decode cX7_reads 34 = .ok (.aload_n 0, 1) := by decide +kernel
theorem dX7_reads_35 : decode cX7_reads 35 = .ok (.getfield 260, 3) := by decide +kernel
theorem dX7_reads_38 : decode cX7_reads 38 = .ok (.ifCond .ne 32, 3) := by decide +kernel
theorem dX7_reads_41 : decode cX7_reads 41 = .ok (.aload_n 0, 1) := by decide +kernel
theorem dX7_reads_42 : decode cX7_reads 42 = .ok (.getfield 251, 3) := by decide +kernel
theorem dX7_reads_45 : decode cX7_reads 45 = .ok (.aload_n 0, 1) := by decide +kernel
theorem dX7_reads_46 : decode cX7_reads 46 = .ok (.getfield 248, 3) := by decide +kernel
theorem dX7_reads_49 : decode cX7_reads 49 = .ok (.if_icmp .ge 21, 3) := by decide +kernel
theorem dX7_reads_52 : decode cX7_reads 52 = .ok (.aload_n 0, 1) := by decide +kernel
theorem dX7_reads_53 : decode cX7_reads 53 = .ok (.invokevirtual 273, 3) := by decide +kernel
theorem dX7_reads_56 : decode cX7_reads 56 = .ok (.aload_n 0, 1) := by decide +kernel
theorem dX7_reads_57 : decode cX7_reads 57 = .ok (.getfield 260, 3) := by decide +kernel
theorem dX7_reads_60 : decode cX7_reads 60 = .ok (.ifCond .ne (-26), 3) := by decide +kernel
theorem dX7_reads_63 : decode cX7_reads 63 = .ok (.aload_n 0, 1) := by decide +kernel
theorem dX7_reads_64 : decode cX7_reads 64 = .ok (.invokevirtual 257, 3) := by decide +kernel
theorem dX7_reads_67 : decode cX7_reads 67 = .ok (.goto (-33), 3) := by decide +kernel
theorem dX7_reads_70 : decode cX7_reads 70 = .ok (.aload_n 0, 1) := by decide +kernel
theorem dX7_reads_71 : decode cX7_reads 71 = .ok (.getfield 260, 3) := by decide +kernel
theorem dX7_reads_74 : decode cX7_reads 74 = .ok (.ifCond .ne 7, 3) := by decide +kernel
theorem dX7_reads_77 : decode cX7_reads 77 = .ok (.iconst 1, 1) := by decide +kernel
theorem dX7_reads_78 : decode cX7_reads 78 = .ok (.goto 4, 3) := by decide +kernel
theorem dX7_reads_81 : decode cX7_reads 81 = .ok (.iconst 0, 1) := by decide +kernel
theorem dX7_reads_82 : decode cX7_reads 82 = .ok (.ireturn, 1) := by decide +kernel
theorem dX7_doesOrder_0 : decode cX7_doesOrder 0 = .ok (.aload_n 0, 1) := by decide +kernel
theorem dX7_doesOrder_1 : decode cX7_doesOrder 1 = .ok (.getfield 40, 3) := by decide +kernel
theorem dX7_doesOrder_4 : decode cX7_doesOrder 4 = .ok (.iconst 3, 1) := by decide +kernel
theorem dX7_doesOrder_5 : decode cX7_doesOrder 5 = .ok (.iload_n 1, 1) := by decide +kernel
theorem dX7_doesOrder_6 : decode cX7_doesOrder 6 = .ok (.imul, 1) := by decide +kernel
theorem dX7_doesOrder_7 : decode cX7_doesOrder 7 = .ok (.iaload, 1) := by decide +kernel
theorem dX7_doesOrder_8 : decode cX7_doesOrder 8 = .ok (.istore_n 2, 1) := by decide +kernel
theorem dX7_doesOrder_9 : decode cX7_doesOrder 9 = .ok (.aload_n 0, 1) := by decide +kernel
theorem dX7_doesOrder_10 : decode cX7_doesOrder 10 = .ok (.getfield 40, 3) := by decide +kernel
theorem dX7_doesOrder_13 : decode cX7_doesOrder 13 = .ok (.iconst 3, 1) := by decide +kernel
theorem dX7_doesOrder_14 : decode cX7_doesOrder 14 = .ok (.iload_n 1, 1) := by decide +kernel
theorem dX7_doesOrder_15 : decode cX7_doesOrder 15 = .ok (.imul, 1) := by decide +kernel
theorem dX7_doesOrder_16 : decode cX7_doesOrder 16 = .ok (.iconst 1, 1) := by decide +kernel
theorem dX7_doesOrder_17 : decode cX7_doesOrder 17 = .ok (.iadd, 1) := by decide +kernel
theorem dX7_doesOrder_18 : decode cX7_doesOrder 18 = .ok (.iaload, 1) := by decide +kernel
theorem dX7_doesOrder_19 : decode cX7_doesOrder 19 = .ok (.istore_n 3, 1) := by decide +kernel
theorem dX7_doesOrder_20 : decode cX7_doesOrder 20 = .ok (.aload_n 0, 1) := by decide +kernel
theorem dX7_doesOrder_21 : decode cX7_doesOrder 21 = .ok (.getfield 40, 3) := by decide +kernel
theorem dX7_doesOrder_24 : decode cX7_doesOrder 24 = .ok (.iconst 3, 1) := by decide +kernel
theorem dX7_doesOrder_25 : decode cX7_doesOrder 25 = .ok (.iload_n 1, 1) := by decide +kernel
theorem dX7_doesOrder_26 : decode cX7_doesOrder 26 = .ok (.imul, 1) := by decide +kernel
theorem dX7_doesOrder_27 : decode cX7_doesOrder 27 = .ok (.iconst 2, 1) := by decide +kernel
theorem dX7_doesOrder_28 : decode cX7_doesOrder 28 = .ok (.iadd, 1) := by decide +kernel
theorem dX7_doesOrder_29 : decode cX7_doesOrder 29 = .ok (.iaload, 1) := by decide +kernel
theorem dX7_doesOrder_30 : decode cX7_doesOrder 30 = .ok (.istore 4, 2) := by decide +kernel
theorem dX7_doesOrder_32 : decode cX7_doesOrder 32 = .ok (.aload_n 0, 1) := by decide +kernel
theorem dX7_doesOrder_33 : decode cX7_doesOrder 33 = .ok (.getfield 37, 3) := by decide +kernel
theorem dX7_doesOrder_36 : decode cX7_doesOrder 36 = .ok (.iload_n 1, 1) := by decide +kernel
theorem dX7_doesOrder_37 : decode cX7_doesOrder 37 = .ok (.iaload, 1) := by decide +kernel
theorem dX7_doesOrder_38 : decode cX7_doesOrder 38 = .ok (.tableswitch 136 99 117 #[90, 136, 136, 136, 136, 136, 136, 136, 106, 136, 136, 136, 113, 97, 136, 136, 127, 136, 120], 90) := by decide +kernel
theorem dX7_doesOrder_128 : decode cX7_doesOrder 128 = .ok (.aload_n 0, 1) := by decide +kernel
theorem dX7_doesOrder_129 : decode cX7_doesOrder 129 = .ok (.iload_n 2, 1) := by decide +kernel
theorem dX7_doesOrder_130 : decode cX7_doesOrder 130 = .ok (.iload_n 3, 1) := by decide +kernel
theorem dX7_doesOrder_131 : decode cX7_doesOrder 131 = .ok (.invokevirtual 96, 3) := by decide +kernel
theorem dX7_doesOrder_134 : decode cX7_doesOrder 134 = .ok (.ireturn, 1) := by decide +kernel
theorem dX7_doesOrder_135 : decode cX7_doesOrder 135 = .ok (.aload_n 0, 1) := by decide +kernel
theorem dX7_doesOrder_136 : decode cX7_doesOrder 136 = .ok (.iload_n 2, 1) := by decide +kernel
theorem dX7_doesOrder_137 : decode cX7_doesOrder 137 = .ok (.iload_n 3, 1) := by decide +kernel
theorem dX7_doesOrder_138 : decode cX7_doesOrder 138 = .ok (.iload 4, 2) := by decide +kernel
theorem dX7_doesOrder_140 : decode cX7_doesOrder 140 = .ok (.invokevirtual 102, 3) := by decide +kernel
theorem dX7_doesOrder_143 : decode cX7_doesOrder 143 = .ok (.ireturn, 1) := by decide +kernel
theorem dX7_doesOrder_144 : decode cX7_doesOrder 144 = .ok (.aload_n 0, 1) := by decide +kernel
theorem dX7_doesOrder_145 : decode cX7_doesOrder 145 = .ok (.iload_n 2, 1) := by decide +kernel
theorem dX7_doesOrder_146 : decode cX7_doesOrder 146 = .ok (.iload_n 3, 1) := by decide +kernel
theorem dX7_doesOrder_147 : decode cX7_doesOrder 147 = .ok (.invokevirtual 191, 3) := by decide +kernel
theorem dX7_doesOrder_150 : decode cX7_doesOrder 150 = .ok (.ireturn, 1) := by decide +kernel
theorem dX7_doesOrder_151 : decode cX7_doesOrder 151 = .ok (.aload_n 0, 1) := by decide +kernel
theorem dX7_doesOrder_152 : decode cX7_doesOrder 152 = .ok (.iload_n 2, 1) := by decide +kernel
theorem dX7_doesOrder_153 : decode cX7_doesOrder 153 = .ok (.iload_n 3, 1) := by decide +kernel
theorem dX7_doesOrder_154 : decode cX7_doesOrder 154 = .ok (.invokevirtual 106, 3) := by decide +kernel
theorem dX7_doesOrder_157 : decode cX7_doesOrder 157 = .ok (.ireturn, 1) := by decide +kernel
theorem dX7_doesOrder_158 : decode cX7_doesOrder 158 = .ok (.aload_n 0, 1) := by decide +kernel
theorem dX7_doesOrder_159 : decode cX7_doesOrder 159 = .ok (.iload_n 2, 1) := by decide +kernel
theorem dX7_doesOrder_160 : decode cX7_doesOrder 160 = .ok (.iload_n 3, 1) := by decide +kernel
theorem dX7_doesOrder_161 : decode cX7_doesOrder 161 = .ok (.invokevirtual 109, 3) := by decide +kernel
theorem dX7_doesOrder_164 : decode cX7_doesOrder 164 = .ok (.ireturn, 1) := by decide +kernel
theorem dX7_doesOrder_165 : decode cX7_doesOrder 165 = .ok (.aload_n 0, 1) := by decide +kernel
theorem dX7_doesOrder_166 : decode cX7_doesOrder 166 = .ok (.iload_n 2, 1) := by decide +kernel
theorem dX7_doesOrder_167 : decode cX7_doesOrder 167 = .ok (.iload_n 3, 1) := by decide +kernel
theorem dX7_doesOrder_168 : decode cX7_doesOrder 168 = .ok (.iload 4, 2) := by decide +kernel
theorem dX7_doesOrder_170 : decode cX7_doesOrder 170 = .ok (.invokevirtual 112, 3) := by decide +kernel
theorem dX7_doesOrder_173 : decode cX7_doesOrder 173 = .ok (.ireturn, 1) := by decide +kernel
theorem dX7_doesOrder_174 : decode cX7_doesOrder 174 = .ok (.aload_n 0, 1) := by decide +kernel
theorem dX7_doesOrder_175 : decode cX7_doesOrder 175 = .ok (.invokevirtual 115, 3) := by decide +kernel
theorem dX7_doesOrder_178 : decode cX7_doesOrder 178 = .ok (.ireturn, 1) := by decide +kernel
theorem dX7_does_0 : decode cX7_does 0 = .ok (.aload_n 0, 1) := by decide +kernel
theorem dX7_does_1 : decode cX7_does 1 = .ok (.invokevirtual 276, 3) := by decide +kernel
theorem dX7_does_4 : decode cX7_does 4 = .ok (.ifCond .ne 11, 3) := by decide +kernel
theorem dX7_does_7 : decode cX7_does 7 = .ok (.bipush (-10), 2) := by decide +kernel
theorem dX7_does_9 : decode cX7_does 9 = .ok (.aload_n 0, 1) := by decide +kernel
theorem dX7_does_10 : decode cX7_does 10 = .ok (.getfield 251, 3) := by decide +kernel
theorem dX7_does_13 : decode cX7_does 13 = .ok (.isub, 1) := by decide +kernel
theorem dX7_does_14 : decode cX7_does 14 = .ok (.ireturn, 1) := by decide +kernel
theorem dX7_does_15 : decode cX7_does 15 = .ok (.aload_n 0, 1) := by decide +kernel
theorem dX7_does_16 : decode cX7_does 16 = .ok (.invokevirtual 93, 3) := by decide +kernel
theorem dX7_does_19 : decode cX7_does 19 = .ok (.iconst 0, 1) := by decide +kernel
theorem dX7_does_20 : decode cX7_does 20 = .ok (.istore_n 1, 1) := by decide +kernel
theorem dX7_does_21 : decode cX7_does 21 = .ok (.iload_n 1, 1) := by decide +kernel
theorem dX7_does_22 : decode cX7_does 22 = .ok (.aload_n 0, 1) := by decide +kernel
theorem dX7_does_23 : decode cX7_does 23 = .ok (.getfield 267, 3) := by decide +kernel
theorem dX7_does_26 : decode cX7_does 26 = .ok (.if_icmp .ge 49, 3) := by decide +kernel
theorem dX7_does_29 : decode cX7_does 29 = .ok (.aload_n 0, 1) := by decide +kernel
theorem dX7_does_30 : decode cX7_does 30 = .ok (.iload_n 1, 1) := by decide +kernel
theorem dX7_does_31 : decode cX7_does 31 = .ok (.invokevirtual 280, 3) := by decide +kernel
theorem dX7_does_34 : decode cX7_does 34 = .ok (.ifCond .ge 35, 3) := by decide +kernel
theorem dX7_does_37 : decode cX7_does 37 = .ok (.iconst 0, 1) := by decide +kernel
theorem dX7_does_38 : decode cX7_does 38 = .ok (.istore_n 2, 1) := by decide +kernel
theorem dX7_does_39 : decode cX7_does 39 = .ok (.iload_n 2, 1) := by decide +kernel
theorem dX7_does_40 : decode cX7_does 40 = .ok (.bipush 83, 2) := by decide +kernel
theorem dX7_does_42 : decode cX7_does 42 = .ok (.if_icmp .ge 21, 3) := by decide +kernel
theorem dX7_does_45 : decode cX7_does 45 = .ok (.aload_n 0, 1) := by decide +kernel
theorem dX7_does_46 : decode cX7_does 46 = .ok (.getfield 7, 3) := by decide +kernel
theorem dX7_does_49 : decode cX7_does 49 = .ok (.iload_n 2, 1) := by decide +kernel
theorem dX7_does_50 : decode cX7_does 50 = .ok (.aload_n 0, 1) := by decide +kernel
theorem dX7_does_51 : decode cX7_does 51 = .ok (.getfield 13, 3) := by decide +kernel
theorem dX7_does_54 : decode cX7_does 54 = .ok (.iload_n 2, 1) := by decide +kernel
theorem dX7_does_55 : decode cX7_does 55 = .ok (.iaload, 1) := by decide +kernel
theorem dX7_does_56 : decode cX7_does 56 = .ok (.iastore, 1) := by decide +kernel
theorem dX7_does_57 : decode cX7_does 57 = .ok (.iinc 2 1, 3) := by decide +kernel
theorem dX7_does_60 : decode cX7_does 60 = .ok (.goto (-21), 3) := by decide +kernel
theorem dX7_does_63 : decode cX7_does 63 = .ok (.sipush (-1000), 3) := by decide +kernel
theorem dX7_does_66 : decode cX7_does 66 = .ok (.iload_n 1, 1) := by decide +kernel
theorem dX7_does_67 : decode cX7_does 67 = .ok (.isub, 1) := by decide +kernel
theorem dX7_does_68 : decode cX7_does 68 = .ok (.ireturn, 1) := by decide +kernel
theorem dX7_does_69 : decode cX7_does 69 = .ok (.iinc 1 1, 3) := by decide +kernel
theorem dX7_does_72 : decode cX7_does 72 = .ok (.goto (-51), 3) := by decide +kernel
theorem dX7_does_75 : decode cX7_does 75 = .ok (.aload_n 0, 1) := by decide +kernel
theorem dX7_does_76 : decode cX7_does 76 = .ok (.invokevirtual 66, 3) := by decide +kernel
theorem dX7_does_79 : decode cX7_does 79 = .ok (.aload_n 0, 1) := by decide +kernel
theorem dX7_does_80 : decode cX7_does 80 = .ok (.getfield 267, 3) := by decide +kernel
theorem dX7_does_83 : decode cX7_does 83 = .ok (.ireturn, 1) := by decide +kernel
theorem dX7_toldOf_0 : decode cX7_toldOf 0 = .ok (.iload_n 1, 1) := by decide +kernel
theorem dX7_toldOf_1 : decode cX7_toldOf 1 = .ok (.iconst 3, 1) := by decide +kernel
theorem dX7_toldOf_2 : decode cX7_toldOf 2 = .ok (.if_icmp .ge 12, 3) := by decide +kernel
theorem dX7_toldOf_5 : decode cX7_toldOf 5 = .ok (.aload_n 0, 1) := by decide +kernel
theorem dX7_toldOf_6 : decode cX7_toldOf 6 = .ok (.getfield 19, 3) := by decide +kernel
theorem dX7_toldOf_9 : decode cX7_toldOf 9 = .ok (.iload_n 1, 1) := by decide +kernel
theorem dX7_toldOf_10 : decode cX7_toldOf 10 = .ok (.iaload, 1) := by decide +kernel
theorem dX7_toldOf_11 : decode cX7_toldOf 11 = .ok (.goto 19, 3) := by decide +kernel
theorem dX7_toldOf_14 : decode cX7_toldOf 14 = .ok (.iload_n 1, 1) := by decide +kernel
theorem dX7_toldOf_15 : decode cX7_toldOf 15 = .ok (.iconst 3, 1) := by decide +kernel
theorem dX7_toldOf_16 : decode cX7_toldOf 16 = .ok (.if_icmp .ne 10, 3) := by decide +kernel
theorem dX7_toldOf_19 : decode cX7_toldOf 19 = .ok (.aload_n 0, 1) := by decide +kernel
theorem dX7_toldOf_20 : decode cX7_toldOf 20 = .ok (.getfield 248, 3) := by decide +kernel
theorem dX7_toldOf_23 : decode cX7_toldOf 23 = .ok (.goto 7, 3) := by decide +kernel
theorem dX7_toldOf_26 : decode cX7_toldOf 26 = .ok (.aload_n 0, 1) := by decide +kernel
theorem dX7_toldOf_27 : decode cX7_toldOf 27 = .ok (.getfield 58, 3) := by decide +kernel
theorem dX7_toldOf_30 : decode cX7_toldOf 30 = .ok (.ireturn, 1) := by decide +kernel
theorem dX7_told_0 : decode cX7_told 0 = .ok (.iload_n 1, 1) := by decide +kernel
theorem dX7_told_1 : decode cX7_told 1 = .ok (.iconst 0, 1) := by decide +kernel
theorem dX7_told_2 : decode cX7_told 2 = .ok (.iconst 4, 1) := by decide +kernel
theorem dX7_told_3 : decode cX7_told 3 = .ok (.invokestatic 43, 3) := by decide +kernel
theorem dX7_told_6 : decode cX7_told 6 = .ok (.ifCond .eq 11, 3) := by decide +kernel
theorem dX7_told_9 : decode cX7_told 9 = .ok (.aload_n 0, 1) := by decide +kernel
theorem dX7_told_10 : decode cX7_told 10 = .ok (.iload_n 1, 1) := by decide +kernel
theorem dX7_told_11 : decode cX7_told 11 = .ok (.invokevirtual 283, 3) := by decide +kernel
theorem dX7_told_14 : decode cX7_told 14 = .ok (.goto 7, 3) := by decide +kernel
theorem dX7_told_17 : decode cX7_told 17 = .ok (.aload_n 0, 1) := by decide +kernel
theorem dX7_told_18 : decode cX7_told 18 = .ok (.invokevirtual 72, 3) := by decide +kernel
theorem dX7_told_21 : decode cX7_told 21 = .ok (.ireturn, 1) := by decide +kernel
theorem dX7_mix_0 : decode cX7_mix 0 = .ok (.aload_n 0, 1) := by decide +kernel
theorem dX7_mix_1 : decode cX7_mix 1 = .ok (.ldc2_w 286, 3) := by decide +kernel
theorem dX7_mix_4 : decode cX7_mix 4 = .ok (.aload_n 0, 1) := by decide +kernel
theorem dX7_mix_5 : decode cX7_mix 5 = .ok (.getfield 288, 3) := by decide +kernel
theorem dX7_mix_8 : decode cX7_mix 8 = .ok (.lmul, 1) := by decide +kernel
theorem dX7_mix_9 : decode cX7_mix 9 = .ok (.iload_n 1, 1) := by decide +kernel
theorem dX7_mix_10 : decode cX7_mix 10 = .ok (.i2l, 1) := by decide +kernel
theorem dX7_mix_11 : decode cX7_mix 11 = .ok (.ladd, 1) := by decide +kernel
theorem dX7_mix_12 : decode cX7_mix 12 = .ok (.putfield 288, 3) := by decide +kernel
theorem dX7_mix_15 : decode cX7_mix 15 = .ok (.return_, 1) := by decide +kernel
theorem dX7_mixChip_0 : decode cX7_mixChip 0 = .ok (.iconst 0, 1) := by decide +kernel
theorem dX7_mixChip_1 : decode cX7_mixChip 1 = .ok (.istore_n 2, 1) := by decide +kernel
theorem dX7_mixChip_2 : decode cX7_mixChip 2 = .ok (.iload_n 2, 1) := by decide +kernel
theorem dX7_mixChip_3 : decode cX7_mixChip 3 = .ok (.bipush 8, 2) := by decide +kernel
theorem dX7_mixChip_5 : decode cX7_mixChip 5 = .ok (.if_icmp .ge 19, 3) := by decide +kernel
theorem dX7_mixChip_8 : decode cX7_mixChip 8 = .ok (.aload_n 0, 1) := by decide +kernel
theorem dX7_mixChip_9 : decode cX7_mixChip 9 = .ok (.aload_n 0, 1) := by decide +kernel
theorem dX7_mixChip_10 : decode cX7_mixChip 10 = .ok (.iload_n 1, 1) := by decide +kernel
theorem dX7_mixChip_11 : decode cX7_mixChip 11 = .ok (.iload_n 2, 1) := by decide +kernel
theorem dX7_mixChip_12 : decode cX7_mixChip 12 = .ok (.invokevirtual 208, 3) := by decide +kernel
theorem dX7_mixChip_15 : decode cX7_mixChip 15 = .ok (.invokevirtual 292, 3) := by decide +kernel
theorem dX7_mixChip_18 : decode cX7_mixChip 18 = .ok (.iinc 2 1, 3) := by decide +kernel
theorem dX7_mixChip_21 : decode cX7_mixChip 21 = .ok (.goto (-19), 3) := by decide +kernel
theorem dX7_mixChip_24 : decode cX7_mixChip 24 = .ok (.iconst 0, 1) := by decide +kernel
theorem dX7_mixChip_25 : decode cX7_mixChip 25 = .ok (.istore_n 2, 1) := by decide +kernel
theorem dX7_mixChip_26 : decode cX7_mixChip 26 = .ok (.iload_n 2, 1) := by decide +kernel
theorem dX7_mixChip_27 : decode cX7_mixChip 27 = .ok (.iconst 3, 1) := by decide +kernel
theorem dX7_mixChip_28 : decode cX7_mixChip 28 = .ok (.aload_n 0, 1) := by decide +kernel
theorem dX7_mixChip_29 : decode cX7_mixChip 29 = .ok (.iload_n 1, 1) := by decide +kernel
theorem dX7_mixChip_30 : decode cX7_mixChip 30 = .ok (.iconst 2, 1) := by decide +kernel
theorem dX7_mixChip_31 : decode cX7_mixChip 31 = .ok (.invokevirtual 55, 3) := by decide +kernel
theorem dX7_mixChip_34 : decode cX7_mixChip 34 = .ok (.imul, 1) := by decide +kernel
theorem dX7_mixChip_35 : decode cX7_mixChip 35 = .ok (.if_icmp .ge 24, 3) := by decide +kernel
theorem dX7_mixChip_38 : decode cX7_mixChip 38 = .ok (.aload_n 0, 1) := by decide +kernel
theorem dX7_mixChip_39 : decode cX7_mixChip 39 = .ok (.aload_n 0, 1) := by decide +kernel
theorem dX7_mixChip_40 : decode cX7_mixChip 40 = .ok (.iload_n 1, 1) := by decide +kernel
theorem dX7_mixChip_41 : decode cX7_mixChip 41 = .ok (.iload_n 2, 1) := by decide +kernel
theorem dX7_mixChip_42 : decode cX7_mixChip 42 = .ok (.iconst 3, 1) := by decide +kernel
theorem dX7_mixChip_43 : decode cX7_mixChip 43 = .ok (.idiv, 1) := by decide +kernel
theorem dX7_mixChip_44 : decode cX7_mixChip 44 = .ok (.iload_n 2, 1) := by decide +kernel
theorem dX7_mixChip_45 : decode cX7_mixChip 45 = .ok (.iconst 3, 1) := by decide +kernel
theorem dX7_mixChip_46 : decode cX7_mixChip 46 = .ok (.irem, 1) := by decide +kernel
theorem dX7_mixChip_47 : decode cX7_mixChip 47 = .ok (.invokevirtual 211, 3) := by decide +kernel
theorem dX7_mixChip_50 : decode cX7_mixChip 50 = .ok (.invokevirtual 292, 3) := by decide +kernel
theorem dX7_mixChip_53 : decode cX7_mixChip 53 = .ok (.iinc 2 1, 3) := by decide +kernel
theorem dX7_mixChip_56 : decode cX7_mixChip 56 = .ok (.goto (-30), 3) := by decide +kernel
theorem dX7_mixChip_59 : decode cX7_mixChip 59 = .ok (.return_, 1) := by decide +kernel
theorem dX7_digest_0 : decode cX7_digest 0 = .ok (.aload_n 0, 1) := by decide +kernel
theorem dX7_digest_1 : decode cX7_digest 1 = .ok (.ldc2_w 295, 3) := by decide +kernel
theorem dX7_digest_4 : decode cX7_digest 4 = .ok (.putfield 288, 3) := by decide +kernel
theorem dX7_digest_7 : decode cX7_digest 7 = .ok (.iconst 0, 1) := by decide +kernel
theorem dX7_digest_8 : decode cX7_digest 8 = .ok (.istore_n 1, 1) := by decide +kernel
theorem dX7_digest_9 : decode cX7_digest 9 = .ok (.iload_n 1, 1) := by decide +kernel
theorem dX7_digest_10 : decode cX7_digest 10 = .ok (.iconst 5, 1) := by decide +kernel
theorem dX7_digest_11 : decode cX7_digest 11 = .ok (.if_icmp .ge 18, 3) := by decide +kernel
theorem dX7_digest_14 : decode cX7_digest 14 = .ok (.aload_n 0, 1) := by decide +kernel
theorem dX7_digest_15 : decode cX7_digest 15 = .ok (.aload_n 0, 1) := by decide +kernel
theorem dX7_digest_16 : decode cX7_digest 16 = .ok (.iload_n 1, 1) := by decide +kernel
theorem dX7_digest_17 : decode cX7_digest 17 = .ok (.invokevirtual 283, 3) := by decide +kernel
theorem dX7_digest_20 : decode cX7_digest 20 = .ok (.invokevirtual 292, 3) := by decide +kernel
theorem dX7_digest_23 : decode cX7_digest 23 = .ok (.iinc 1 1, 3) := by decide +kernel
theorem dX7_digest_26 : decode cX7_digest 26 = .ok (.goto (-17), 3) := by decide +kernel
theorem dX7_digest_29 : decode cX7_digest 29 = .ok (.iconst 0, 1) := by decide +kernel
theorem dX7_digest_30 : decode cX7_digest 30 = .ok (.istore_n 1, 1) := by decide +kernel
theorem dX7_digest_31 : decode cX7_digest 31 = .ok (.iload_n 1, 1) := by decide +kernel
theorem dX7_digest_32 : decode cX7_digest 32 = .ok (.iconst 5, 1) := by decide +kernel
theorem dX7_digest_33 : decode cX7_digest 33 = .ok (.if_icmp .ge 18, 3) := by decide +kernel
theorem dX7_digest_36 : decode cX7_digest 36 = .ok (.aload_n 0, 1) := by decide +kernel
theorem dX7_digest_37 : decode cX7_digest 37 = .ok (.aload_n 0, 1) := by decide +kernel
theorem dX7_digest_38 : decode cX7_digest 38 = .ok (.iload_n 1, 1) := by decide +kernel
theorem dX7_digest_39 : decode cX7_digest 39 = .ok (.invokevirtual 220, 3) := by decide +kernel
theorem dX7_digest_42 : decode cX7_digest 42 = .ok (.invokevirtual 292, 3) := by decide +kernel
theorem dX7_digest_45 : decode cX7_digest 45 = .ok (.iinc 1 1, 3) := by decide +kernel
theorem dX7_digest_48 : decode cX7_digest 48 = .ok (.goto (-17), 3) := by decide +kernel
theorem dX7_digest_51 : decode cX7_digest 51 = .ok (.iconst 0, 1) := by decide +kernel
theorem dX7_digest_52 : decode cX7_digest 52 = .ok (.istore_n 1, 1) := by decide +kernel
theorem dX7_digest_53 : decode cX7_digest 53 = .ok (.iload_n 1, 1) := by decide +kernel
theorem dX7_digest_54 : decode cX7_digest 54 = .ok (.iconst 5, 1) := by decide +kernel
theorem dX7_digest_55 : decode cX7_digest 55 = .ok (.if_icmp .ge 18, 3) := by decide +kernel
theorem dX7_digest_58 : decode cX7_digest 58 = .ok (.aload_n 0, 1) := by decide +kernel
theorem dX7_digest_59 : decode cX7_digest 59 = .ok (.aload_n 0, 1) := by decide +kernel
theorem dX7_digest_60 : decode cX7_digest 60 = .ok (.iload_n 1, 1) := by decide +kernel
theorem dX7_digest_61 : decode cX7_digest 61 = .ok (.invokevirtual 205, 3) := by decide +kernel
theorem dX7_digest_64 : decode cX7_digest 64 = .ok (.invokevirtual 292, 3) := by decide +kernel
theorem dX7_digest_67 : decode cX7_digest 67 = .ok (.iinc 1 1, 3) := by decide +kernel
theorem dX7_digest_70 : decode cX7_digest 70 = .ok (.goto (-17), 3) := by decide +kernel
theorem dX7_digest_73 : decode cX7_digest 73 = .ok (.iconst 0, 1) := by decide +kernel
theorem dX7_digest_74 : decode cX7_digest 74 = .ok (.istore_n 1, 1) := by decide +kernel
theorem dX7_digest_75 : decode cX7_digest 75 = .ok (.iload_n 1, 1) := by decide +kernel
theorem dX7_digest_76 : decode cX7_digest 76 = .ok (.aload_n 0, 1) := by decide +kernel
theorem dX7_digest_77 : decode cX7_digest 77 = .ok (.invokevirtual 121, 3) := by decide +kernel
theorem dX7_digest_80 : decode cX7_digest 80 = .ok (.if_icmp .ge 14, 3) := by decide +kernel
theorem dX7_digest_83 : decode cX7_digest 83 = .ok (.aload_n 0, 1) := by decide +kernel
theorem dX7_digest_84 : decode cX7_digest 84 = .ok (.iload_n 1, 1) := by decide +kernel
theorem dX7_digest_85 : decode cX7_digest 85 = .ok (.invokevirtual 297, 3) := by decide +kernel
theorem dX7_digest_88 : decode cX7_digest 88 = .ok (.iinc 1 1, 3) := by decide +kernel
theorem dX7_digest_91 : decode cX7_digest 91 = .ok (.goto (-16), 3) := by decide +kernel
theorem dX7_digest_94 : decode cX7_digest 94 = .ok (.iconst 0, 1) := by decide +kernel
theorem dX7_digest_95 : decode cX7_digest 95 = .ok (.istore_n 1, 1) := by decide +kernel
theorem dX7_digest_96 : decode cX7_digest 96 = .ok (.iload_n 1, 1) := by decide +kernel
theorem dX7_digest_97 : decode cX7_digest 97 = .ok (.aload_n 0, 1) := by decide +kernel
theorem dX7_digest_98 : decode cX7_digest 98 = .ok (.getfield 7, 3) := by decide +kernel
theorem dX7_digest_101 : decode cX7_digest 101 = .ok (.iconst 2, 1) := by decide +kernel
theorem dX7_digest_102 : decode cX7_digest 102 = .ok (.iaload, 1) := by decide +kernel
theorem dX7_digest_103 : decode cX7_digest 103 = .ok (.if_icmp .ge 21, 3) := by decide +kernel
theorem dX7_digest_106 : decode cX7_digest 106 = .ok (.aload_n 0, 1) := by decide +kernel
theorem dX7_digest_107 : decode cX7_digest 107 = .ok (.aload_n 0, 1) := by decide +kernel
theorem dX7_digest_108 : decode cX7_digest 108 = .ok (.getfield 7, 3) := by decide +kernel
theorem dX7_digest_111 : decode cX7_digest 111 = .ok (.iconst 3, 1) := by decide +kernel
theorem dX7_digest_112 : decode cX7_digest 112 = .ok (.iload_n 1, 1) := by decide +kernel
theorem dX7_digest_113 : decode cX7_digest 113 = .ok (.iadd, 1) := by decide +kernel
theorem dX7_digest_114 : decode cX7_digest 114 = .ok (.iaload, 1) := by decide +kernel
theorem dX7_digest_115 : decode cX7_digest 115 = .ok (.invokevirtual 292, 3) := by decide +kernel
theorem dX7_digest_118 : decode cX7_digest 118 = .ok (.iinc 1 1, 3) := by decide +kernel
theorem dX7_digest_121 : decode cX7_digest 121 = .ok (.goto (-25), 3) := by decide +kernel
theorem dX7_digest_124 : decode cX7_digest 124 = .ok (.aload_n 0, 1) := by decide +kernel
theorem dX7_digest_125 : decode cX7_digest 125 = .ok (.aload_n 0, 1) := by decide +kernel
theorem dX7_digest_126 : decode cX7_digest 126 = .ok (.iconst 0, 1) := by decide +kernel
theorem dX7_digest_127 : decode cX7_digest 127 = .ok (.invokevirtual 223, 3) := by decide +kernel
theorem dX7_digest_130 : decode cX7_digest 130 = .ok (.invokevirtual 292, 3) := by decide +kernel
theorem dX7_digest_133 : decode cX7_digest 133 = .ok (.aload_n 0, 1) := by decide +kernel
theorem dX7_digest_134 : decode cX7_digest 134 = .ok (.aload_n 0, 1) := by decide +kernel
theorem dX7_digest_135 : decode cX7_digest 135 = .ok (.iconst 0, 1) := by decide +kernel
theorem dX7_digest_136 : decode cX7_digest 136 = .ok (.invokevirtual 239, 3) := by decide +kernel
theorem dX7_digest_139 : decode cX7_digest 139 = .ok (.invokevirtual 292, 3) := by decide +kernel
theorem dX7_digest_142 : decode cX7_digest 142 = .ok (.aload_n 0, 1) := by decide +kernel
theorem dX7_digest_143 : decode cX7_digest 143 = .ok (.aload_n 0, 1) := by decide +kernel
theorem dX7_digest_144 : decode cX7_digest 144 = .ok (.iconst 1, 1) := by decide +kernel
theorem dX7_digest_145 : decode cX7_digest 145 = .ok (.invokevirtual 239, 3) := by decide +kernel
theorem dX7_digest_148 : decode cX7_digest 148 = .ok (.invokevirtual 292, 3) := by decide +kernel
theorem dX7_digest_151 : decode cX7_digest 151 = .ok (.aload_n 0, 1) := by decide +kernel
theorem dX7_digest_152 : decode cX7_digest 152 = .ok (.aload_n 0, 1) := by decide +kernel
theorem dX7_digest_153 : decode cX7_digest 153 = .ok (.iconst 0, 1) := by decide +kernel
theorem dX7_digest_154 : decode cX7_digest 154 = .ok (.iconst (-1), 1) := by decide +kernel
theorem dX7_digest_155 : decode cX7_digest 155 = .ok (.invokevirtual 245, 3) := by decide +kernel
theorem dX7_digest_158 : decode cX7_digest 158 = .ok (.invokevirtual 292, 3) := by decide +kernel
theorem dX7_digest_161 : decode cX7_digest 161 = .ok (.aload_n 0, 1) := by decide +kernel
theorem dX7_digest_162 : decode cX7_digest 162 = .ok (.aload_n 0, 1) := by decide +kernel
theorem dX7_digest_163 : decode cX7_digest 163 = .ok (.iconst 1, 1) := by decide +kernel
theorem dX7_digest_164 : decode cX7_digest 164 = .ok (.iconst (-1), 1) := by decide +kernel
theorem dX7_digest_165 : decode cX7_digest 165 = .ok (.invokevirtual 245, 3) := by decide +kernel
theorem dX7_digest_168 : decode cX7_digest 168 = .ok (.invokevirtual 292, 3) := by decide +kernel
theorem dX7_digest_171 : decode cX7_digest 171 = .ok (.aload_n 0, 1) := by decide +kernel
theorem dX7_digest_172 : decode cX7_digest 172 = .ok (.getfield 288, 3) := by decide +kernel
theorem dX7_digest_175 : decode cX7_digest 175 = .ok (.lreturn, 1) := by decide +kernel
