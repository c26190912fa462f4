theorem dX0_init_0 : decode cX0_init 0 = .ok (.aload_n 0, 1) := by decide +kernel
theorem dX0_init_1 : decode cX0_init 1 = .ok (.invokespecial 3, 3) := by decide +kernel
theorem dX0_init_4 : decode cX0_init 4 = .ok (.aload_n 0, 1) := by decide +kernel
theorem dX0_init_5 : decode cX0_init 5 = .ok (.iconst 4, 1) := by decide +kernel
theorem dX0_init_6 : decode cX0_init 6 = .ok (.anewarray 9, 3) := by decide +kernel
theorem dX0_init_9 : decode cX0_init 9 = .ok (.putfield 11, 3) := by decide +kernel
theorem dX0_init_12 : decode cX0_init 12 = .ok (.aload_n 0, 1) := by decide +kernel
theorem dX0_init_13 : decode cX0_init 13 = .ok (.iconst 4, 1) := by decide +kernel
theorem dX0_init_14 : decode cX0_init 14 = .ok (.newarray .int, 2) := by decide +kernel
theorem dX0_init_16 : decode cX0_init 16 = .ok (.putfield 17, 3) := by decide +kernel
theorem dX0_init_19 : decode cX0_init 19 = .ok (.iconst 0, 1) := by decide +kernel
theorem dX0_init_20 : decode cX0_init 20 = .ok (.istore_n 1, 1) := by decide +kernel
theorem dX0_init_21 : decode cX0_init 21 = .ok (.iload_n 1, 1) := by decide +kernel
theorem dX0_init_22 : decode cX0_init 22 = .ok (.iconst 4, 1) := by decide +kernel
theorem dX0_init_23 : decode cX0_init 23 = .ok (.if_icmp .ge 22, 3) := by decide +kernel
theorem dX0_init_26 : decode cX0_init 26 = .ok (.aload_n 0, 1) := by decide +kernel
theorem dX0_init_27 : decode cX0_init 27 = .ok (.getfield 11, 3) := by decide +kernel
theorem dX0_init_30 : decode cX0_init 30 = .ok (.iload_n 1, 1) := by decide +kernel
theorem dX0_init_31 : decode cX0_init 31 = .ok (.new 9, 3) := by decide +kernel
theorem dX0_init_34 : decode cX0_init 34 = .ok (.dup, 1) := by decide +kernel
theorem dX0_init_35 : decode cX0_init 35 = .ok (.invokespecial 21, 3) := by decide +kernel
theorem dX0_init_38 : decode cX0_init 38 = .ok (.aastore, 1) := by decide +kernel
theorem dX0_init_39 : decode cX0_init 39 = .ok (.iinc 1 1, 3) := by decide +kernel
theorem dX0_init_42 : decode cX0_init 42 = .ok (.goto (-21), 3) := by decide +kernel
theorem dX0_init_45 : decode cX0_init 45 = .ok (.return_, 1) := by decide +kernel
theorem dX0_copyFrom_0 : decode cX0_copyFrom 0 = .ok (.iconst 0, 1) := by decide +kernel
theorem dX0_copyFrom_1 : decode cX0_copyFrom 1 = .ok (.istore_n 2, 1) := by decide +kernel
theorem dX0_copyFrom_2 : decode cX0_copyFrom 2 = .ok (.iload_n 2, 1) := by decide +kernel
theorem dX0_copyFrom_3 : decode cX0_copyFrom 3 = .ok (.aload_n 1, 1) := by decide +kernel
theorem dX0_copyFrom_4 : decode cX0_copyFrom 4 = .ok (.getfield 22, 3) := by decide +kernel
theorem dX0_copyFrom_7 : decode cX0_copyFrom 7 = .ok (.if_icmp .ge 24, 3) := by decide +kernel
theorem dX0_copyFrom_10 : decode cX0_copyFrom 10 = .ok (.aload_n 0, 1) := by decide +kernel
theorem dX0_copyFrom_11 : decode cX0_copyFrom 11 = .ok (.getfield 11, 3) := by decide +kernel
theorem dX0_copyFrom_14 : decode cX0_copyFrom 14 = .ok (.iload_n 2, 1) := by decide +kernel
theorem dX0_copyFrom_15 : decode cX0_copyFrom 15 = .ok (.aaload, 1) := by decide +kernel
theorem dX0_copyFrom_16 : decode cX0_copyFrom 16 = .ok (.aload_n 1, 1) := by decide +kernel
theorem dX0_copyFrom_17 : decode cX0_copyFrom 17 = .ok (.getfield 11, 3) := by decide +kernel
theorem dX0_copyFrom_20 : decode cX0_copyFrom 20 = .ok (.iload_n 2, 1) := by decide +kernel
theorem dX0_copyFrom_21 : decode cX0_copyFrom 21 = .ok (.aaload, 1) := by decide +kernel
theorem dX0_copyFrom_22 : decode cX0_copyFrom 22 = .ok (.invokevirtual 26, 3) := by decide +kernel
theorem dX0_copyFrom_25 : decode cX0_copyFrom 25 = .ok (.iinc 2 1, 3) := by decide +kernel
theorem dX0_copyFrom_28 : decode cX0_copyFrom 28 = .ok (.goto (-26), 3) := by decide +kernel
theorem dX0_copyFrom_31 : decode cX0_copyFrom 31 = .ok (.aload_n 0, 1) := by decide +kernel
theorem dX0_copyFrom_32 : decode cX0_copyFrom 32 = .ok (.aload_n 1, 1) := by decide +kernel
theorem dX0_copyFrom_33 : decode cX0_copyFrom 33 = .ok (.getfield 22, 3) := by decide +kernel
theorem dX0_copyFrom_36 : decode cX0_copyFrom 36 = .ok (.putfield 22, 3) := by decide +kernel
theorem dX0_copyFrom_39 : decode cX0_copyFrom 39 = .ok (.aload_n 1, 1) := by decide +kernel
theorem dX0_copyFrom_40 : decode cX0_copyFrom 40 = .ok (.getfield 17, 3) := by decide +kernel
theorem dX0_copyFrom_43 : decode cX0_copyFrom 43 = .ok (.iconst 0, 1) := by decide +kernel
theorem dX0_copyFrom_44 : decode cX0_copyFrom 44 = .ok (.aload_n 0, 1) := by decide +kernel
theorem dX0_copyFrom_45 : decode cX0_copyFrom 45 = .ok (.getfield 17, 3) := by decide +kernel
theorem dX0_copyFrom_48 : decode cX0_copyFrom 48 = .ok (.iconst 0, 1) := by decide +kernel
theorem dX0_copyFrom_49 : decode cX0_copyFrom 49 = .ok (.iconst 4, 1) := by decide +kernel
theorem dX0_copyFrom_50 : decode cX0_copyFrom 50 = .ok (.invokestatic 30, 3) := by decide +kernel
theorem dX0_copyFrom_53 : decode cX0_copyFrom 53 = .ok (.aload_n 0, 1) := by decide +kernel
theorem dX0_copyFrom_54 : decode cX0_copyFrom 54 = .ok (.aload_n 1, 1) := by decide +kernel
theorem dX0_copyFrom_55 : decode cX0_copyFrom 55 = .ok (.getfield 36, 3) := by decide +kernel
theorem dX0_copyFrom_58 : decode cX0_copyFrom 58 = .ok (.putfield 36, 3) := by decide +kernel
theorem dX0_copyFrom_61 : decode cX0_copyFrom 61 = .ok (.aload_n 0, 1) := by decide +kernel
theorem dX0_copyFrom_62 : decode cX0_copyFrom 62 = .ok (.aload_n 1, 1) := by decide +kernel
theorem dX0_copyFrom_63 : decode cX0_copyFrom 63 = .ok (.getfield 39, 3) := by decide +kernel
theorem dX0_copyFrom_66 : decode cX0_copyFrom 66 = .ok (.putfield 39, 3) := by decide +kernel
theorem dX0_copyFrom_69 : decode cX0_copyFrom 69 = .ok (.aload_n 0, 1) := by decide +kernel
theorem dX0_copyFrom_70 : decode cX0_copyFrom 70 = .ok (.aload_n 1, 1) := by decide +kernel
theorem dX0_copyFrom_71 : decode cX0_copyFrom 71 = .ok (.getfield 42, 3) := by decide +kernel
theorem dX0_copyFrom_74 : decode cX0_copyFrom 74 = .ok (.putfield 42, 3) := by decide +kernel
theorem dX0_copyFrom_77 : decode cX0_copyFrom 77 = .ok (.aload_n 0, 1) := by decide +kernel
theorem dX0_copyFrom_78 : decode cX0_copyFrom 78 = .ok (.aload_n 1, 1) := by decide +kernel
theorem dX0_copyFrom_79 : decode cX0_copyFrom 79 = .ok (.getfield 45, 3) := by decide +kernel
theorem dX0_copyFrom_82 : decode cX0_copyFrom 82 = .ok (.putfield 45, 3) := by decide +kernel
theorem dX0_copyFrom_85 : decode cX0_copyFrom 85 = .ok (.return_, 1) := by decide +kernel
theorem dX0_hasChip_0 : decode cX0_hasChip 0 = .ok (.iload_n 1, 1) := by decide +kernel
theorem dX0_hasChip_1 : decode cX0_hasChip 1 = .ok (.ifCond .lt 15, 3) := by decide +kernel
theorem dX0_hasChip_4 : decode cX0_hasChip 4 = .ok (.iload_n 1, 1) := by decide +kernel
theorem dX0_hasChip_5 : decode cX0_hasChip 5 = .ok (.aload_n 0, 1) := by decide +kernel
theorem dX0_hasChip_6 : decode cX0_hasChip 6 = .ok (.getfield 22, 3) := by decide +kernel
theorem dX0_hasChip_9 : decode cX0_hasChip 9 = .ok (.if_icmp .ge 7, 3) := by decide +kernel
theorem dX0_hasChip_12 : decode cX0_hasChip 12 = .ok (.iconst 1, 1) := by decide +kernel
theorem dX0_hasChip_13 : decode cX0_hasChip 13 = .ok (.goto 4, 3) := by decide +kernel
theorem dX0_hasChip_16 : decode cX0_hasChip 16 = .ok (.iconst 0, 1) := by decide +kernel
theorem dX0_hasChip_17 : decode cX0_hasChip 17 = .ok (.ireturn, 1) := by decide +kernel
theorem dX0_hasCell_0 : decode cX0_hasCell 0 = .ok (.aload_n 0, 1) := by decide +kernel
theorem dX0_hasCell_1 : decode cX0_hasCell 1 = .ok (.iload_n 1, 1) := by decide +kernel
theorem dX0_hasCell_2 : decode cX0_hasCell 2 = .ok (.invokevirtual 48, 3) := by decide +kernel
theorem dX0_hasCell_5 : decode cX0_hasCell 5 = .ok (.ifCond .eq 24, 3) := by decide +kernel
theorem dX0_hasCell_8 : decode cX0_hasCell 8 = .ok (.iload_n 2, 1) := by decide +kernel
theorem dX0_hasCell_9 : decode cX0_hasCell 9 = .ok (.ifCond .lt 20, 3) := by decide +kernel
theorem dX0_hasCell_12 : decode cX0_hasCell 12 = .ok (.iload_n 2, 1) := by decide +kernel
theorem dX0_hasCell_13 : decode cX0_hasCell 13 = .ok (.aload_n 0, 1) := by decide +kernel
theorem dX0_hasCell_14 : decode cX0_hasCell 14 = .ok (.getfield 11, 3) := by decide +kernel
theorem dX0_hasCell_17 : decode cX0_hasCell 17 = .ok (.iload_n 1, 1) := by decide +kernel
theorem dX0_hasCell_18 : decode cX0_hasCell 18 = .ok (.aaload, 1) := by decide +kernel
theorem dX0_hasCell_19 : decode cX0_hasCell 19 = .ok (.getfield 52, 3) := by decide +kernel
theorem dX0_hasCell_22 : decode cX0_hasCell 22 = .ok (.if_icmp .ge 7, 3) := by decide +kernel
theorem dX0_hasCell_25 : decode cX0_hasCell 25 = .ok (.iconst 1, 1) := by decide +kernel
theorem dX0_hasCell_26 : decode cX0_hasCell 26 = .ok (.goto 4, 3) := by decide +kernel
theorem dX0_hasCell_29 : decode cX0_hasCell 29 = .ok (.iconst 0, 1) := by decide +kernel
theorem dX0_hasCell_30 : decode cX0_hasCell 30 = .ok (.ireturn, 1) := by decide +kernel
theorem dX0_addChip_0 : decode cX0_addChip 0 = .ok (.iload_n 1, 1) := by decide +kernel
theorem dX0_addChip_1 : decode cX0_addChip 1 = .ok (.iconst 2, 1) := by decide +kernel
theorem dX0_addChip_2 : decode cX0_addChip 2 = .ok (.if_icmp .lt 19, 3) := by decide +kernel
theorem dX0_addChip_5 : decode cX0_addChip 5 = .ok (.iload_n 1, 1) := by decide +kernel
theorem dX0_addChip_6 : decode cX0_addChip 6 = .ok (.iconst 4, 1) := by decide +kernel
theorem dX0_addChip_7 : decode cX0_addChip 7 = .ok (.if_icmp .gt 14, 3) := by decide +kernel
theorem dX0_addChip_10 : decode cX0_addChip 10 = .ok (.iload_n 2, 1) := by decide +kernel
theorem dX0_addChip_11 : decode cX0_addChip 11 = .ok (.ifCond .lt 10, 3) := by decide +kernel
theorem dX0_addChip_14 : decode cX0_addChip 14 = .ok (.iload_n 2, 1) := by decide +kernel
theorem dX0_addChip_15 : decode cX0_addChip 15 = .ok (.sipush 256, 3) := by decide +kernel
theorem dX0_addChip_18 : decode cX0_addChip 18 = .ok (.if_icmp .le 6, 3) := by decide +kernel
theorem dX0_addChip_21 : decode cX0_addChip 21 = .ok (.bipush (-2), 2) := by decide +kernel
theorem dX0_addChip_23 : decode cX0_addChip 23 = .ok (.ireturn, 1) := by decide +kernel
theorem dX0_addChip_24 : decode cX0_addChip 24 = .ok (.aload_n 0, 1) := by decide +kernel
theorem dX0_addChip_25 : decode cX0_addChip 25 = .ok (.getfield 22, 3) := by decide +kernel
theorem dX0_addChip_28 : decode cX0_addChip 28 = .ok (.iconst 4, 1) := by decide +kernel
theorem dX0_addChip_29 : decode cX0_addChip 29 = .ok (.if_icmp .lt 6, 3) := by decide +kernel
theorem dX0_addChip_32 : decode cX0_addChip 32 = .ok (.bipush (-4), 2) := by decide +kernel
theorem dX0_addChip_34 : decode cX0_addChip 34 = .ok (.ireturn, 1) := by decide +kernel
theorem dX0_addChip_35 : decode cX0_addChip 35 = .ok (.aload_n 0, 1) := by decide +kernel
theorem dX0_addChip_36 : decode cX0_addChip 36 = .ok (.getfield 11, 3) := by decide +kernel
theorem dX0_addChip_39 : decode cX0_addChip 39 = .ok (.aload_n 0, 1) := by decide +kernel
theorem dX0_addChip_40 : decode cX0_addChip 40 = .ok (.getfield 22, 3) := by decide +kernel
theorem dX0_addChip_43 : decode cX0_addChip 43 = .ok (.aaload, 1) := by decide +kernel
theorem dX0_addChip_44 : decode cX0_addChip 44 = .ok (.iload_n 1, 1) := by decide +kernel
theorem dX0_addChip_45 : decode cX0_addChip 45 = .ok (.iload_n 2, 1) := by decide +kernel
theorem dX0_addChip_46 : decode cX0_addChip 46 = .ok (.invokevirtual 55, 3) := by decide +kernel
theorem dX0_addChip_49 : decode cX0_addChip 49 = .ok (.aload_n 0, 1) := by decide +kernel
theorem dX0_addChip_50 : decode cX0_addChip 50 = .ok (.dup, 1) := by decide +kernel
theorem dX0_addChip_51 : decode cX0_addChip 51 = .ok (.getfield 22, 3) := by decide +kernel
theorem dX0_addChip_54 : decode cX0_addChip 54 = .ok (.iconst 1, 1) := by decide +kernel
theorem dX0_addChip_55 : decode cX0_addChip 55 = .ok (.iadd, 1) := by decide +kernel
theorem dX0_addChip_56 : decode cX0_addChip 56 = .ok (.putfield 22, 3) := by decide +kernel
theorem dX0_addChip_59 : decode cX0_addChip 59 = .ok (.aload_n 0, 1) := by decide +kernel
theorem dX0_addChip_60 : decode cX0_addChip 60 = .ok (.getfield 22, 3) := by decide +kernel
theorem dX0_addChip_63 : decode cX0_addChip 63 = .ok (.iconst 1, 1) := by decide +kernel
theorem dX0_addChip_64 : decode cX0_addChip 64 = .ok (.isub, 1) := by decide +kernel
theorem dX0_addChip_65 : decode cX0_addChip 65 = .ok (.ireturn, 1) := by decide +kernel
theorem dX0_addCell_0 : decode cX0_addCell 0 = .ok (.aload_n 0, 1) := by decide +kernel
theorem dX0_addCell_1 : decode cX0_addCell 1 = .ok (.iload_n 1, 1) := by decide +kernel
theorem dX0_addCell_2 : decode cX0_addCell 2 = .ok (.invokevirtual 48, 3) := by decide +kernel
theorem dX0_addCell_5 : decode cX0_addCell 5 = .ok (.ifCond .eq 17, 3) := by decide +kernel
theorem dX0_addCell_8 : decode cX0_addCell 8 = .ok (.iload_n 2, 1) := by decide +kernel
theorem dX0_addCell_9 : decode cX0_addCell 9 = .ok (.invokestatic 59, 3) := by decide +kernel
theorem dX0_addCell_12 : decode cX0_addCell 12 = .ok (.ifCond .eq 10, 3) := by decide +kernel
theorem dX0_addCell_15 : decode cX0_addCell 15 = .ok (.iload_n 3, 1) := by decide +kernel
theorem dX0_addCell_16 : decode cX0_addCell 16 = .ok (.invokestatic 62, 3) := by decide +kernel
theorem dX0_addCell_19 : decode cX0_addCell 19 = .ok (.ifCond .ne 6, 3) := by decide +kernel
theorem dX0_addCell_22 : decode cX0_addCell 22 = .ok (.bipush (-2), 2) := by decide +kernel
theorem dX0_addCell_24 : decode cX0_addCell 24 = .ok (.ireturn, 1) := by decide +kernel
theorem dX0_addCell_25 : decode cX0_addCell 25 = .ok (.aload_n 0, 1) := by decide +kernel
theorem dX0_addCell_26 : decode cX0_addCell 26 = .ok (.getfield 11, 3) := by decide +kernel
theorem dX0_addCell_29 : decode cX0_addCell 29 = .ok (.iload_n 1, 1) := by decide +kernel
theorem dX0_addCell_30 : decode cX0_addCell 30 = .ok (.aaload, 1) := by decide +kernel
theorem dX0_addCell_31 : decode cX0_addCell 31 = .ok (.iload_n 2, 1) := by decide +kernel
theorem dX0_addCell_32 : decode cX0_addCell 32 = .ok (.iload_n 3, 1) := by decide +kernel
theorem dX0_addCell_33 : decode cX0_addCell 33 = .ok (.invokevirtual 65, 3) := by decide +kernel
theorem dX0_addCell_36 : decode cX0_addCell 36 = .ok (.istore 4, 2) := by decide +kernel
theorem dX0_addCell_38 : decode cX0_addCell 38 = .ok (.iload 4, 2) := by decide +kernel
theorem dX0_addCell_40 : decode cX0_addCell 40 = .ok (.ifCond .lt 27, 3) := by decide +kernel
theorem dX0_addCell_43 : decode cX0_addCell 43 = .ok (.aload_n 0, 1) := by decide +kernel
theorem dX0_addCell_44 : decode cX0_addCell 44 = .ok (.dup, 1) := by decide +kernel
theorem dX0_addCell_45 : decode cX0_addCell 45 = .ok (.getfield 42, 3) := by decide +kernel
theorem dX0_addCell_48 : decode cX0_addCell 48 = .ok (.iconst 1, 1) := by decide +kernel
theorem dX0_addCell_49 : decode cX0_addCell 49 = .ok (.iload_n 3, 1) := by decide +kernel
theorem dX0_addCell_50 : decode cX0_addCell 50 = .ok (.ishl, 1) := by decide +kernel
theorem dX0_addCell_51 : decode cX0_addCell 51 = .ok (.ior, 1) := by decide +kernel
theorem dX0_addCell_52 : decode cX0_addCell 52 = .ok (.putfield 42, 3) := by decide +kernel
theorem dX0_addCell_55 : decode cX0_addCell 55 = .ok (.aload_n 0, 1) := by decide +kernel
theorem dX0_addCell_56 : decode cX0_addCell 56 = .ok (.dup, 1) := by decide +kernel
theorem dX0_addCell_57 : decode cX0_addCell 57 = .ok (.getfield 45, 3) := by decide +kernel
theorem dX0_addCell_60 : decode cX0_addCell 60 = .ok (.iload_n 2, 1) := by decide +kernel
theorem dX0_addCell_61 : decode cX0_addCell 61 = .ok (.iload_n 3, 1) := by decide +kernel
theorem dX0_addCell_62 : decode cX0_addCell 62 = .ok (.ishl, 1) := by decide +kernel
theorem dX0_addCell_63 : decode cX0_addCell 63 = .ok (.ior, 1) := by decide +kernel
theorem dX0_addCell_64 : decode cX0_addCell 64 = .ok (.putfield 45, 3) := by decide +kernel
theorem dX0_addCell_67 : decode cX0_addCell 67 = .ok (.iload 4, 2) := by decide +kernel
theorem dX0_addCell_69 : decode cX0_addCell 69 = .ok (.ireturn, 1) := by decide +kernel
theorem dX0_addOpen_0 : decode cX0_addOpen 0 = .ok (.aload_n 0, 1) := by decide +kernel
theorem dX0_addOpen_1 : decode cX0_addOpen 1 = .ok (.iload_n 1, 1) := by decide +kernel
theorem dX0_addOpen_2 : decode cX0_addOpen 2 = .ok (.iload_n 2, 1) := by decide +kernel
theorem dX0_addOpen_3 : decode cX0_addOpen 3 = .ok (.invokevirtual 69, 3) := by decide +kernel
theorem dX0_addOpen_6 : decode cX0_addOpen 6 = .ok (.ifCond .eq 16, 3) := by decide +kernel
theorem dX0_addOpen_9 : decode cX0_addOpen 9 = .ok (.aload_n 0, 1) := by decide +kernel
theorem dX0_addOpen_10 : decode cX0_addOpen 10 = .ok (.iconst 1, 1) := by decide +kernel
theorem dX0_addOpen_11 : decode cX0_addOpen 11 = .ok (.iload_n 1, 1) := by decide +kernel
theorem dX0_addOpen_12 : decode cX0_addOpen 12 = .ok (.iload_n 2, 1) := by decide +kernel
theorem dX0_addOpen_13 : decode cX0_addOpen 13 = .ok (.invokestatic 73, 3) := by decide +kernel
theorem dX0_addOpen_16 : decode cX0_addOpen 16 = .ok (.invokevirtual 77, 3) := by decide +kernel
theorem dX0_addOpen_19 : decode cX0_addOpen 19 = .ok (.goto 5, 3) := by decide +kernel
theorem dX0_addOpen_22 : decode cX0_addOpen 22 = .ok (.bipush (-2), 2) := by decide +kernel
theorem dX0_addOpen_24 : decode cX0_addOpen 24 = .ok (.ireturn, 1) := by decide +kernel
theorem dX0_addStuck_0 : decode cX0_addStuck 0 = .ok (.iload_n 1, 1) := by decide +kernel
theorem dX0_addStuck_1 : decode cX0_addStuck 1 = .ok (.invokestatic 62, 3) := by decide +kernel
theorem dX0_addStuck_4 : decode cX0_addStuck 4 = .ok (.ifCond .eq 23, 3) := by decide +kernel
theorem dX0_addStuck_7 : decode cX0_addStuck 7 = .ok (.iload_n 2, 1) := by decide +kernel
theorem dX0_addStuck_8 : decode cX0_addStuck 8 = .ok (.invokestatic 59, 3) := by decide +kernel
theorem dX0_addStuck_11 : decode cX0_addStuck 11 = .ok (.ifCond .eq 16, 3) := by decide +kernel
theorem dX0_addStuck_14 : decode cX0_addStuck 14 = .ok (.aload_n 0, 1) := by decide +kernel
theorem dX0_addStuck_15 : decode cX0_addStuck 15 = .ok (.iconst 2, 1) := by decide +kernel
theorem dX0_addStuck_16 : decode cX0_addStuck 16 = .ok (.iload_n 1, 1) := by decide +kernel
theorem dX0_addStuck_17 : decode cX0_addStuck 17 = .ok (.iload_n 2, 1) := by decide +kernel
theorem dX0_addStuck_18 : decode cX0_addStuck 18 = .ok (.invokestatic 73, 3) := by decide +kernel
theorem dX0_addStuck_21 : decode cX0_addStuck 21 = .ok (.invokevirtual 77, 3) := by decide +kernel
theorem dX0_addStuck_24 : decode cX0_addStuck 24 = .ok (.goto 5, 3) := by decide +kernel
theorem dX0_addStuck_27 : decode cX0_addStuck 27 = .ok (.bipush (-2), 2) := by decide +kernel
theorem dX0_addStuck_29 : decode cX0_addStuck 29 = .ok (.ireturn, 1) := by decide +kernel
theorem dX0_addShort_0 : decode cX0_addShort 0 = .ok (.iload_n 1, 1) := by decide +kernel
theorem dX0_addShort_1 : decode cX0_addShort 1 = .ok (.invokestatic 62, 3) := by decide +kernel
theorem dX0_addShort_4 : decode cX0_addShort 4 = .ok (.ifCond .eq 22, 3) := by decide +kernel
theorem dX0_addShort_7 : decode cX0_addShort 7 = .ok (.iload_n 2, 1) := by decide +kernel
theorem dX0_addShort_8 : decode cX0_addShort 8 = .ok (.invokestatic 62, 3) := by decide +kernel
theorem dX0_addShort_11 : decode cX0_addShort 11 = .ok (.ifCond .eq 15, 3) := by decide +kernel
theorem dX0_addShort_14 : decode cX0_addShort 14 = .ok (.iload_n 1, 1) := by decide +kernel
theorem dX0_addShort_15 : decode cX0_addShort 15 = .ok (.iload_n 2, 1) := by decide +kernel
theorem dX0_addShort_16 : decode cX0_addShort 16 = .ok (.if_icmp .eq 10, 3) := by decide +kernel
theorem dX0_addShort_19 : decode cX0_addShort 19 = .ok (.iload_n 3, 1) := by decide +kernel
theorem dX0_addShort_20 : decode cX0_addShort 20 = .ok (.invokestatic 59, 3) := by decide +kernel
theorem dX0_addShort_23 : decode cX0_addShort 23 = .ok (.ifCond .ne 6, 3) := by decide +kernel
theorem dX0_addShort_26 : decode cX0_addShort 26 = .ok (.bipush (-2), 2) := by decide +kernel
theorem dX0_addShort_28 : decode cX0_addShort 28 = .ok (.ireturn, 1) := by decide +kernel
theorem dX0_addShort_29 : decode cX0_addShort 29 = .ok (.iload_n 3, 1) := by decide +kernel
theorem dX0_addShort_30 : decode cX0_addShort 30 = .ok (.ifCond .ne 7, 3) := by decide +kernel
theorem dX0_addShort_33 : decode cX0_addShort 33 = .ok (.iconst 3, 1) := by decide +kernel
theorem dX0_addShort_34 : decode cX0_addShort 34 = .ok (.goto 4, 3) := by decide +kernel
theorem dX0_addShort_37 : decode cX0_addShort 37 = .ok (.iconst 4, 1) := by decide +kernel
theorem dX0_addShort_38 : decode cX0_addShort 38 = .ok (.iload_n 1, 1) := by decide +kernel
theorem dX0_addShort_39 : decode cX0_addShort 39 = .ok (.iload_n 2, 1) := by decide +kernel
theorem dX0_addShort_40 : decode cX0_addShort 40 = .ok (.invokestatic 81, 3) := by decide +kernel
theorem dX0_addShort_43 : decode cX0_addShort 43 = .ok (.iload_n 1, 1) := by decide +kernel
theorem dX0_addShort_44 : decode cX0_addShort 44 = .ok (.iload_n 2, 1) := by decide +kernel
theorem dX0_addShort_45 : decode cX0_addShort 45 = .ok (.invokestatic 86, 3) := by decide +kernel
theorem dX0_addShort_48 : decode cX0_addShort 48 = .ok (.invokestatic 73, 3) := by decide +kernel
theorem dX0_addShort_51 : decode cX0_addShort 51 = .ok (.istore 4, 2) := by decide +kernel
theorem dX0_addShort_53 : decode cX0_addShort 53 = .ok (.aload_n 0, 1) := by decide +kernel
theorem dX0_addShort_54 : decode cX0_addShort 54 = .ok (.iload 4, 2) := by decide +kernel
theorem dX0_addShort_56 : decode cX0_addShort 56 = .ok (.invokevirtual 77, 3) := by decide +kernel
theorem dX0_addShort_59 : decode cX0_addShort 59 = .ok (.ireturn, 1) := by decide +kernel
theorem dX0_addFault_0 : decode cX0_addFault 0 = .ok (.aload_n 0, 1) := by decide +kernel
theorem dX0_addFault_1 : decode cX0_addFault 1 = .ok (.getfield 36, 3) := by decide +kernel
theorem dX0_addFault_4 : decode cX0_addFault 4 = .ok (.iconst 4, 1) := by decide +kernel
theorem dX0_addFault_5 : decode cX0_addFault 5 = .ok (.if_icmp .lt 6, 3) := by decide +kernel
theorem dX0_addFault_8 : decode cX0_addFault 8 = .ok (.bipush (-4), 2) := by decide +kernel
theorem dX0_addFault_10 : decode cX0_addFault 10 = .ok (.ireturn, 1) := by decide +kernel
theorem dX0_addFault_11 : decode cX0_addFault 11 = .ok (.aload_n 0, 1) := by decide +kernel
theorem dX0_addFault_12 : decode cX0_addFault 12 = .ok (.getfield 17, 3) := by decide +kernel
theorem dX0_addFault_15 : decode cX0_addFault 15 = .ok (.aload_n 0, 1) := by decide +kernel
theorem dX0_addFault_16 : decode cX0_addFault 16 = .ok (.getfield 36, 3) := by decide +kernel
theorem dX0_addFault_19 : decode cX0_addFault 19 = .ok (.iload_n 1, 1) := by decide +kernel
theorem dX0_addFault_20 : decode cX0_addFault 20 = .ok (.iastore, 1) := by decide +kernel
theorem dX0_addFault_21 : decode cX0_addFault 21 = .ok (.aload_n 0, 1) := by decide +kernel
theorem dX0_addFault_22 : decode cX0_addFault 22 = .ok (.dup, 1) := by decide +kernel
theorem dX0_addFault_23 : decode cX0_addFault 23 = .ok (.getfield 36, 3) := by decide +kernel
theorem dX0_addFault_26 : decode cX0_addFault 26 = .ok (.iconst 1, 1) := by decide +kernel
theorem dX0_addFault_27 : decode cX0_addFault 27 = .ok (.iadd, 1) := by decide +kernel
theorem dX0_addFault_28 : decode cX0_addFault 28 = .ok (.putfield 36, 3) := by decide +kernel
theorem dX0_addFault_31 : decode cX0_addFault 31 = .ok (.aload_n 0, 1) := by decide +kernel
theorem dX0_addFault_32 : decode cX0_addFault 32 = .ok (.getfield 36, 3) := by decide +kernel
theorem dX0_addFault_35 : decode cX0_addFault 35 = .ok (.ireturn, 1) := by decide +kernel
theorem dX0_dropFaults_0 : decode cX0_dropFaults 0 = .ok (.aload_n 0, 1) := by decide +kernel
theorem dX0_dropFaults_1 : decode cX0_dropFaults 1 = .ok (.getfield 36, 3) := by decide +kernel
theorem dX0_dropFaults_4 : decode cX0_dropFaults 4 = .ok (.istore_n 1, 1) := by decide +kernel
theorem dX0_dropFaults_5 : decode cX0_dropFaults 5 = .ok (.aload_n 0, 1) := by decide +kernel
theorem dX0_dropFaults_6 : decode cX0_dropFaults 6 = .ok (.iconst 0, 1) := by decide +kernel
theorem dX0_dropFaults_7 : decode cX0_dropFaults 7 = .ok (.putfield 36, 3) := by decide +kernel
theorem dX0_dropFaults_10 : decode cX0_dropFaults 10 = .ok (.iload_n 1, 1) := by decide +kernel
theorem dX0_dropFaults_11 : decode cX0_dropFaults 11 = .ok (.ireturn, 1) := by decide +kernel
theorem dX0_tick_0 : decode cX0_tick 0 = .ok (.iload_n 1, 1) := by decide +kernel
theorem dX0_tick_1 : decode cX0_tick 1 = .ok (.invokestatic 59, 3) := by decide +kernel
theorem dX0_tick_4 : decode cX0_tick 4 = .ok (.ifCond .eq 10, 3) := by decide +kernel
theorem dX0_tick_7 : decode cX0_tick 7 = .ok (.iload_n 2, 1) := by decide +kernel
theorem dX0_tick_8 : decode cX0_tick 8 = .ok (.invokestatic 59, 3) := by decide +kernel
theorem dX0_tick_11 : decode cX0_tick 11 = .ok (.ifCond .ne 6, 3) := by decide +kernel
theorem dX0_tick_14 : decode cX0_tick 14 = .ok (.bipush (-2), 2) := by decide +kernel
theorem dX0_tick_16 : decode cX0_tick 16 = .ok (.ireturn, 1) := by decide +kernel
theorem dX0_tick_17 : decode cX0_tick 17 = .ok (.iconst 2, 1) := by decide +kernel
theorem dX0_tick_18 : decode cX0_tick 18 = .ok (.istore 4, 2) := by decide +kernel
theorem dX0_tick_20 : decode cX0_tick 20 = .ok (.aload_n 0, 1) := by decide +kernel
theorem dX0_tick_21 : decode cX0_tick 21 = .ok (.getfield 39, 3) := by decide +kernel
theorem dX0_tick_24 : decode cX0_tick 24 = .ok (.tableswitch 136 0 15 #[80, 136, 136, 94, 126, 136, 136, 136, 109, 136, 87, 116, 136, 136, 136, 102], 80) := by decide +kernel
theorem dX0_tick_104 : decode cX0_tick 104 = .ok (.aload_n 0, 1) := by decide +kernel
theorem dX0_tick_105 : decode cX0_tick 105 = .ok (.invokevirtual 89, 3) := by decide +kernel
theorem dX0_tick_108 : decode cX0_tick 108 = .ok (.goto 52, 3) := by decide +kernel
theorem dX0_tick_111 : decode cX0_tick 111 = .ok (.aload_n 0, 1) := by decide +kernel
theorem dX0_tick_112 : decode cX0_tick 112 = .ok (.invokevirtual 92, 3) := by decide +kernel
theorem dX0_tick_115 : decode cX0_tick 115 = .ok (.goto 45, 3) := by decide +kernel
theorem dX0_tick_118 : decode cX0_tick 118 = .ok (.aload_n 0, 1) := by decide +kernel
theorem dX0_tick_119 : decode cX0_tick 119 = .ok (.aload_n 3, 1) := by decide +kernel
theorem dX0_tick_120 : decode cX0_tick 120 = .ok (.invokevirtual 95, 3) := by decide +kernel
theorem dX0_tick_123 : decode cX0_tick 123 = .ok (.goto 37, 3) := by decide +kernel
theorem dX0_tick_126 : decode cX0_tick 126 = .ok (.aload_n 0, 1) := by decide +kernel
theorem dX0_tick_127 : decode cX0_tick 127 = .ok (.invokevirtual 99, 3) := by decide +kernel
theorem dX0_tick_130 : decode cX0_tick 130 = .ok (.goto 30, 3) := by decide +kernel
theorem dX0_tick_133 : decode cX0_tick 133 = .ok (.aload_n 0, 1) := by decide +kernel
theorem dX0_tick_134 : decode cX0_tick 134 = .ok (.invokevirtual 102, 3) := by decide +kernel
theorem dX0_tick_137 : decode cX0_tick 137 = .ok (.goto 23, 3) := by decide +kernel
theorem dX0_tick_140 : decode cX0_tick 140 = .ok (.aload_n 0, 1) := by decide +kernel
theorem dX0_tick_141 : decode cX0_tick 141 = .ok (.iload_n 2, 1) := by decide +kernel
theorem dX0_tick_142 : decode cX0_tick 142 = .ok (.invokevirtual 105, 3) := by decide +kernel
theorem dX0_tick_145 : decode cX0_tick 145 = .ok (.istore 4, 2) := by decide +kernel
theorem dX0_tick_147 : decode cX0_tick 147 = .ok (.goto 13, 3) := by decide +kernel
theorem dX0_tick_150 : decode cX0_tick 150 = .ok (.aload_n 0, 1) := by decide +kernel
theorem dX0_tick_151 : decode cX0_tick 151 = .ok (.iload_n 2, 1) := by decide +kernel
theorem dX0_tick_152 : decode cX0_tick 152 = .ok (.invokevirtual 108, 3) := by decide +kernel
theorem dX0_tick_155 : decode cX0_tick 155 = .ok (.istore 4, 2) := by decide +kernel
theorem dX0_tick_157 : decode cX0_tick 157 = .ok (.goto 3, 3) := by decide +kernel
theorem dX0_tick_160 : decode cX0_tick 160 = .ok (.aload_n 0, 1) := by decide +kernel
theorem dX0_tick_161 : decode cX0_tick 161 = .ok (.getstatic 111, 3) := by decide +kernel
theorem dX0_tick_164 : decode cX0_tick 164 = .ok (.iconst 2, 1) := by decide +kernel
theorem dX0_tick_165 : decode cX0_tick 165 = .ok (.aload_n 0, 1) := by decide +kernel
theorem dX0_tick_166 : decode cX0_tick 166 = .ok (.getfield 39, 3) := by decide +kernel
theorem dX0_tick_169 : decode cX0_tick 169 = .ok (.imul, 1) := by decide +kernel
theorem dX0_tick_170 : decode cX0_tick 170 = .ok (.iload_n 1, 1) := by decide +kernel
theorem dX0_tick_171 : decode cX0_tick 171 = .ok (.iadd, 1) := by decide +kernel
theorem dX0_tick_172 : decode cX0_tick 172 = .ok (.iaload, 1) := by decide +kernel
theorem dX0_tick_173 : decode cX0_tick 173 = .ok (.putfield 39, 3) := by decide +kernel
theorem dX0_tick_176 : decode cX0_tick 176 = .ok (.iload 4, 2) := by decide +kernel
theorem dX0_tick_178 : decode cX0_tick 178 = .ok (.ireturn, 1) := by decide +kernel
theorem dX0_resetChips_0 : decode cX0_resetChips 0 = .ok (.iconst 0, 1) := by decide +kernel
theorem dX0_resetChips_1 : decode cX0_resetChips 1 = .ok (.istore_n 1, 1) := by decide +kernel
theorem dX0_resetChips_2 : decode cX0_resetChips 2 = .ok (.iload_n 1, 1) := by decide +kernel
theorem dX0_resetChips_3 : decode cX0_resetChips 3 = .ok (.aload_n 0, 1) := by decide +kernel
theorem dX0_resetChips_4 : decode cX0_resetChips 4 = .ok (.getfield 22, 3) := by decide +kernel
theorem dX0_resetChips_7 : decode cX0_resetChips 7 = .ok (.if_icmp .ge 18, 3) := by decide +kernel
theorem dX0_resetChips_10 : decode cX0_resetChips 10 = .ok (.aload_n 0, 1) := by decide +kernel
theorem dX0_resetChips_11 : decode cX0_resetChips 11 = .ok (.getfield 11, 3) := by decide +kernel
theorem dX0_resetChips_14 : decode cX0_resetChips 14 = .ok (.iload_n 1, 1) := by decide +kernel
theorem dX0_resetChips_15 : decode cX0_resetChips 15 = .ok (.aaload, 1) := by decide +kernel
theorem dX0_resetChips_16 : decode cX0_resetChips 16 = .ok (.invokevirtual 114, 3) := by decide +kernel
theorem dX0_resetChips_19 : decode cX0_resetChips 19 = .ok (.iinc 1 1, 3) := by decide +kernel
theorem dX0_resetChips_22 : decode cX0_resetChips 22 = .ok (.goto (-20), 3) := by decide +kernel
theorem dX0_resetChips_25 : decode cX0_resetChips 25 = .ok (.return_, 1) := by decide +kernel
theorem dX0_captureInstructions_0 : decode cX0_captureInstructions 0 = .ok (.iconst 0, 1) := by decide +kernel
theorem dX0_captureInstructions_1 : decode cX0_captureInstructions 1 = .ok (.istore_n 1, 1) := by decide +kernel
theorem dX0_captureInstructions_2 : decode cX0_captureInstructions 2 = .ok (.iload_n 1, 1) := by decide +kernel
theorem dX0_captureInstructions_3 : decode cX0_captureInstructions 3 = .ok (.aload_n 0, 1) := by decide +kernel
theorem dX0_captureInstructions_4 : decode cX0_captureInstructions 4 = .ok (.getfield 22, 3) := by decide +kernel
theorem dX0_captureInstructions_7 : decode cX0_captureInstructions 7 = .ok (.if_icmp .ge 19, 3) := by decide +kernel
theorem dX0_captureInstructions_10 : decode cX0_captureInstructions 10 = .ok (.aload_n 0, 1) := by decide +kernel
theorem dX0_captureInstructions_11 : decode cX0_captureInstructions 11 = .ok (.getfield 11, 3) := by decide +kernel
theorem dX0_captureInstructions_14 : decode cX0_captureInstructions 14 = .ok (.iload_n 1, 1) := by decide +kernel
theorem dX0_captureInstructions_15 : decode cX0_captureInstructions 15 = .ok (.aaload, 1) := by decide +kernel
theorem dX0_captureInstructions_16 : decode cX0_captureInstructions 16 = .ok (.iconst 1, 1) := by decide +kernel
theorem dX0_captureInstructions_17 : decode cX0_captureInstructions 17 = .ok (.putfield 117, 3) := by decide +kernel
theorem dX0_captureInstructions_20 : decode cX0_captureInstructions 20 = .ok (.iinc 1 1, 3) := by decide +kernel
theorem dX0_captureInstructions_23 : decode cX0_captureInstructions 23 = .ok (.goto (-21), 3) := by decide +kernel
theorem dX0_captureInstructions_26 : decode cX0_captureInstructions 26 = .ok (.return_, 1) := by decide +kernel
theorem dX0_captureData_0 : decode cX0_captureData 0 = .ok (.aload_n 1, 1) := by decide +kernel
theorem dX0_captureData_1 : decode cX0_captureData 1 = .ok (.invokevirtual 120, 3) := by decide +kernel
theorem dX0_captureData_4 : decode cX0_captureData 4 = .ok (.iconst 0, 1) := by decide +kernel
theorem dX0_captureData_5 : decode cX0_captureData 5 = .ok (.istore_n 2, 1) := by decide +kernel
theorem dX0_captureData_6 : decode cX0_captureData 6 = .ok (.iload_n 2, 1) := by decide +kernel
theorem dX0_captureData_7 : decode cX0_captureData 7 = .ok (.aload_n 0, 1) := by decide +kernel
theorem dX0_captureData_8 : decode cX0_captureData 8 = .ok (.getfield 22, 3) := by decide +kernel
theorem dX0_captureData_11 : decode cX0_captureData 11 = .ok (.if_icmp .ge 64, 3) := by decide +kernel
theorem dX0_captureData_14 : decode cX0_captureData 14 = .ok (.aload_n 0, 1) := by decide +kernel
theorem dX0_captureData_15 : decode cX0_captureData 15 = .ok (.getfield 11, 3) := by decide +kernel
theorem dX0_captureData_18 : decode cX0_captureData 18 = .ok (.iload_n 2, 1) := by decide +kernel
theorem dX0_captureData_19 : decode cX0_captureData 19 = .ok (.aaload, 1) := by decide +kernel
theorem dX0_captureData_20 : decode cX0_captureData 20 = .ok (.astore_n 3, 1) := by decide +kernel
theorem dX0_captureData_21 : decode cX0_captureData 21 = .ok (.aload_n 3, 1) := by decide +kernel
theorem dX0_captureData_22 : decode cX0_captureData 22 = .ok (.invokevirtual 125, 3) := by decide +kernel
theorem dX0_captureData_25 : decode cX0_captureData 25 = .ok (.ifCond .eq 25, 3) := by decide +kernel
theorem dX0_captureData_28 : decode cX0_captureData 28 = .ok (.aload_n 3, 1) := by decide +kernel
theorem dX0_captureData_29 : decode cX0_captureData 29 = .ok (.aload_n 1, 1) := by decide +kernel
theorem dX0_captureData_30 : decode cX0_captureData 30 = .ok (.iload_n 2, 1) := by decide +kernel
theorem dX0_captureData_31 : decode cX0_captureData 31 = .ok (.invokevirtual 129, 3) := by decide +kernel
theorem dX0_captureData_34 : decode cX0_captureData 34 = .ok (.aload_n 3, 1) := by decide +kernel
theorem dX0_captureData_35 : decode cX0_captureData 35 = .ok (.getfield 132, 3) := by decide +kernel
theorem dX0_captureData_38 : decode cX0_captureData 38 = .ok (.aload_n 3, 1) := by decide +kernel
theorem dX0_captureData_39 : decode cX0_captureData 39 = .ok (.getfield 135, 3) := by decide +kernel
theorem dX0_captureData_42 : decode cX0_captureData 42 = .ok (.iand, 1) := by decide +kernel
theorem dX0_captureData_43 : decode cX0_captureData 43 = .ok (.ior, 1) := by decide +kernel
theorem dX0_captureData_44 : decode cX0_captureData 44 = .ok (.putfield 138, 3) := by decide +kernel
theorem dX0_captureData_47 : decode cX0_captureData 47 = .ok (.goto 22, 3) := by decide +kernel
theorem dX0_captureData_50 : decode cX0_captureData 50 = .ok (.aload_n 3, 1) := by decide +kernel
theorem dX0_captureData_51 : decode cX0_captureData 51 = .ok (.aload_n 3, 1) := by decide +kernel
theorem dX0_captureData_52 : decode cX0_captureData 52 = .ok (.invokevirtual 141, 3) := by decide +kernel
theorem dX0_captureData_55 : decode cX0_captureData 55 = .ok (.ifCond .eq 10, 3) := by decide +kernel
theorem dX0_captureData_58 : decode cX0_captureData 58 = .ok (.aload_n 3, 1) := by decide +kernel
theorem dX0_captureData_59 : decode cX0_captureData 59 = .ok (.getfield 144, 3) := by decide +kernel
theorem dX0_captureData_62 : decode cX0_captureData 62 = .ok (.goto 4, 3) := by decide +kernel
theorem dX0_captureData_65 : decode cX0_captureData 65 = .ok (.iconst 0, 1) := by decide +kernel
theorem dX0_captureData_66 : decode cX0_captureData 66 = .ok (.putfield 138, 3) := by decide +kernel
theorem dX0_captureData_69 : decode cX0_captureData 69 = .ok (.iinc 2 1, 3) := by decide +kernel
theorem dX0_captureData_72 : decode cX0_captureData 72 = .ok (.goto (-66), 3) := by decide +kernel
theorem dX0_captureData_75 : decode cX0_captureData 75 = .ok (.return_, 1) := by decide +kernel
theorem dX0_updateInstructions_0 : decode cX0_updateInstructions 0 = .ok (.iconst 0, 1) := by decide +kernel
theorem dX0_updateInstructions_1 : decode cX0_updateInstructions 1 = .ok (.istore_n 1, 1) := by decide +kernel
theorem dX0_updateInstructions_2 : decode cX0_updateInstructions 2 = .ok (.iload_n 1, 1) := by decide +kernel
theorem dX0_updateInstructions_3 : decode cX0_updateInstructions 3 = .ok (.aload_n 0, 1) := by decide +kernel
theorem dX0_updateInstructions_4 : decode cX0_updateInstructions 4 = .ok (.getfield 22, 3) := by decide +kernel
theorem dX0_updateInstructions_7 : decode cX0_updateInstructions 7 = .ok (.if_icmp .ge 27, 3) := by decide +kernel
theorem dX0_updateInstructions_10 : decode cX0_updateInstructions 10 = .ok (.aload_n 0, 1) := by decide +kernel
theorem dX0_updateInstructions_11 : decode cX0_updateInstructions 11 = .ok (.getfield 11, 3) := by decide +kernel
theorem dX0_updateInstructions_14 : decode cX0_updateInstructions 14 = .ok (.iload_n 1, 1) := by decide +kernel
theorem dX0_updateInstructions_15 : decode cX0_updateInstructions 15 = .ok (.aaload, 1) := by decide +kernel
theorem dX0_updateInstructions_16 : decode cX0_updateInstructions 16 = .ok (.aload_n 0, 1) := by decide +kernel
theorem dX0_updateInstructions_17 : decode cX0_updateInstructions 17 = .ok (.getfield 11, 3) := by decide +kernel
theorem dX0_updateInstructions_20 : decode cX0_updateInstructions 20 = .ok (.iload_n 1, 1) := by decide +kernel
theorem dX0_updateInstructions_21 : decode cX0_updateInstructions 21 = .ok (.aaload, 1) := by decide +kernel
theorem dX0_updateInstructions_22 : decode cX0_updateInstructions 22 = .ok (.getfield 117, 3) := by decide +kernel
theorem dX0_updateInstructions_25 : decode cX0_updateInstructions 25 = .ok (.putfield 147, 3) := by decide +kernel
theorem dX0_updateInstructions_28 : decode cX0_updateInstructions 28 = .ok (.iinc 1 1, 3) := by decide +kernel
theorem dX0_updateInstructions_31 : decode cX0_updateInstructions 31 = .ok (.goto (-29), 3) := by decide +kernel
theorem dX0_updateInstructions_34 : decode cX0_updateInstructions 34 = .ok (.return_, 1) := by decide +kernel
theorem dX0_updateLatches_0 : decode cX0_updateLatches 0 = .ok (.iconst 0, 1) := by decide +kernel
theorem dX0_updateLatches_1 : decode cX0_updateLatches 1 = .ok (.istore_n 1, 1) := by decide +kernel
theorem dX0_updateLatches_2 : decode cX0_updateLatches 2 = .ok (.iload_n 1, 1) := by decide +kernel
theorem dX0_updateLatches_3 : decode cX0_updateLatches 3 = .ok (.aload_n 0, 1) := by decide +kernel
theorem dX0_updateLatches_4 : decode cX0_updateLatches 4 = .ok (.getfield 22, 3) := by decide +kernel
theorem dX0_updateLatches_7 : decode cX0_updateLatches 7 = .ok (.if_icmp .ge 18, 3) := by decide +kernel
theorem dX0_updateLatches_10 : decode cX0_updateLatches 10 = .ok (.aload_n 0, 1) := by decide +kernel
theorem dX0_updateLatches_11 : decode cX0_updateLatches 11 = .ok (.getfield 11, 3) := by decide +kernel
theorem dX0_updateLatches_14 : decode cX0_updateLatches 14 = .ok (.iload_n 1, 1) := by decide +kernel
theorem dX0_updateLatches_15 : decode cX0_updateLatches 15 = .ok (.aaload, 1) := by decide +kernel
theorem dX0_updateLatches_16 : decode cX0_updateLatches 16 = .ok (.invokevirtual 150, 3) := by decide +kernel
theorem dX0_updateLatches_19 : decode cX0_updateLatches 19 = .ok (.iinc 1 1, 3) := by decide +kernel
theorem dX0_updateLatches_22 : decode cX0_updateLatches 22 = .ok (.goto (-20), 3) := by decide +kernel
theorem dX0_updateLatches_25 : decode cX0_updateLatches 25 = .ok (.return_, 1) := by decide +kernel
theorem dX0_shiftInstructions_0 : decode cX0_shiftInstructions 0 = .ok (.iload_n 1, 1) := by decide +kernel
theorem dX0_shiftInstructions_1 : decode cX0_shiftInstructions 1 = .ok (.istore_n 2, 1) := by decide +kernel
theorem dX0_shiftInstructions_2 : decode cX0_shiftInstructions 2 = .ok (.iconst 0, 1) := by decide +kernel
theorem dX0_shiftInstructions_3 : decode cX0_shiftInstructions 3 = .ok (.istore_n 3, 1) := by decide +kernel
theorem dX0_shiftInstructions_4 : decode cX0_shiftInstructions 4 = .ok (.iload_n 3, 1) := by decide +kernel
theorem dX0_shiftInstructions_5 : decode cX0_shiftInstructions 5 = .ok (.aload_n 0, 1) := by decide +kernel
theorem dX0_shiftInstructions_6 : decode cX0_shiftInstructions 6 = .ok (.getfield 22, 3) := by decide +kernel
theorem dX0_shiftInstructions_9 : decode cX0_shiftInstructions 9 = .ok (.if_icmp .ge 20, 3) := by decide +kernel
theorem dX0_shiftInstructions_12 : decode cX0_shiftInstructions 12 = .ok (.aload_n 0, 1) := by decide +kernel
theorem dX0_shiftInstructions_13 : decode cX0_shiftInstructions 13 = .ok (.getfield 11, 3) := by decide +kernel
theorem dX0_shiftInstructions_16 : decode cX0_shiftInstructions 16 = .ok (.iload_n 3, 1) := by decide +kernel
theorem dX0_shiftInstructions_17 : decode cX0_shiftInstructions 17 = .ok (.aaload, 1) := by decide +kernel
theorem dX0_shiftInstructions_18 : decode cX0_shiftInstructions 18 = .ok (.iload_n 2, 1) := by decide +kernel
theorem dX0_shiftInstructions_19 : decode cX0_shiftInstructions 19 = .ok (.invokevirtual 151, 3) := by decide +kernel
theorem dX0_shiftInstructions_22 : decode cX0_shiftInstructions 22 = .ok (.istore_n 2, 1) := by decide +kernel
theorem dX0_shiftInstructions_23 : decode cX0_shiftInstructions 23 = .ok (.iinc 3 1, 3) := by decide +kernel
theorem dX0_shiftInstructions_26 : decode cX0_shiftInstructions 26 = .ok (.goto (-22), 3) := by decide +kernel
theorem dX0_shiftInstructions_29 : decode cX0_shiftInstructions 29 = .ok (.iload_n 2, 1) := by decide +kernel
theorem dX0_shiftInstructions_30 : decode cX0_shiftInstructions 30 = .ok (.ireturn, 1) := by decide +kernel
theorem dX0_shiftData_0 : decode cX0_shiftData 0 = .ok (.iload_n 1, 1) := by decide +kernel
theorem dX0_shiftData_1 : decode cX0_shiftData 1 = .ok (.istore_n 2, 1) := by decide +kernel
theorem dX0_shiftData_2 : decode cX0_shiftData 2 = .ok (.iconst 0, 1) := by decide +kernel
theorem dX0_shiftData_3 : decode cX0_shiftData 3 = .ok (.istore_n 3, 1) := by decide +kernel
theorem dX0_shiftData_4 : decode cX0_shiftData 4 = .ok (.iload_n 3, 1) := by decide +kernel
theorem dX0_shiftData_5 : decode cX0_shiftData 5 = .ok (.aload_n 0, 1) := by decide +kernel
theorem dX0_shiftData_6 : decode cX0_shiftData 6 = .ok (.getfield 22, 3) := by decide +kernel
theorem dX0_shiftData_9 : decode cX0_shiftData 9 = .ok (.if_icmp .ge 20, 3) := by decide +kernel
theorem dX0_shiftData_12 : decode cX0_shiftData 12 = .ok (.aload_n 0, 1) := by decide +kernel
theorem dX0_shiftData_13 : decode cX0_shiftData 13 = .ok (.getfield 11, 3) := by decide +kernel
theorem dX0_shiftData_16 : decode cX0_shiftData 16 = .ok (.iload_n 3, 1) := by decide +kernel
theorem dX0_shiftData_17 : decode cX0_shiftData 17 = .ok (.aaload, 1) := by decide +kernel
theorem dX0_shiftData_18 : decode cX0_shiftData 18 = .ok (.iload_n 2, 1) := by decide +kernel
theorem dX0_shiftData_19 : decode cX0_shiftData 19 = .ok (.invokevirtual 154, 3) := by decide +kernel
theorem dX0_shiftData_22 : decode cX0_shiftData 22 = .ok (.istore_n 2, 1) := by decide +kernel
theorem dX0_shiftData_23 : decode cX0_shiftData 23 = .ok (.iinc 3 1, 3) := by decide +kernel
theorem dX0_shiftData_26 : decode cX0_shiftData 26 = .ok (.goto (-22), 3) := by decide +kernel
theorem dX0_shiftData_29 : decode cX0_shiftData 29 = .ok (.iload_n 2, 1) := by decide +kernel
theorem dX0_shiftData_30 : decode cX0_shiftData 30 = .ok (.ireturn, 1) := by decide +kernel
theorem dX0_dataBits_0 : decode cX0_dataBits 0 = .ok (.iconst 0, 1) := by decide +kernel
theorem dX0_dataBits_1 : decode cX0_dataBits 1 = .ok (.istore_n 1, 1) := by decide +kernel
theorem dX0_dataBits_2 : decode cX0_dataBits 2 = .ok (.iconst 0, 1) := by decide +kernel
theorem dX0_dataBits_3 : decode cX0_dataBits 3 = .ok (.istore_n 2, 1) := by decide +kernel
theorem dX0_dataBits_4 : decode cX0_dataBits 4 = .ok (.iload_n 2, 1) := by decide +kernel
theorem dX0_dataBits_5 : decode cX0_dataBits 5 = .ok (.aload_n 0, 1) := by decide +kernel
theorem dX0_dataBits_6 : decode cX0_dataBits 6 = .ok (.getfield 22, 3) := by decide +kernel
theorem dX0_dataBits_9 : decode cX0_dataBits 9 = .ok (.if_icmp .ge 21, 3) := by decide +kernel
theorem dX0_dataBits_12 : decode cX0_dataBits 12 = .ok (.iload_n 1, 1) := by decide +kernel
theorem dX0_dataBits_13 : decode cX0_dataBits 13 = .ok (.aload_n 0, 1) := by decide +kernel
theorem dX0_dataBits_14 : decode cX0_dataBits 14 = .ok (.getfield 11, 3) := by decide +kernel
theorem dX0_dataBits_17 : decode cX0_dataBits 17 = .ok (.iload_n 2, 1) := by decide +kernel
theorem dX0_dataBits_18 : decode cX0_dataBits 18 = .ok (.aaload, 1) := by decide +kernel
theorem dX0_dataBits_19 : decode cX0_dataBits 19 = .ok (.invokevirtual 155, 3) := by decide +kernel
theorem dX0_dataBits_22 : decode cX0_dataBits 22 = .ok (.iadd, 1) := by decide +kernel
theorem dX0_dataBits_23 : decode cX0_dataBits 23 = .ok (.istore_n 1, 1) := by decide +kernel
theorem dX0_dataBits_24 : decode cX0_dataBits 24 = .ok (.iinc 2 1, 3) := by decide +kernel
theorem dX0_dataBits_27 : decode cX0_dataBits 27 = .ok (.goto (-23), 3) := by decide +kernel
theorem dX0_dataBits_30 : decode cX0_dataBits 30 = .ok (.iload_n 1, 1) := by decide +kernel
theorem dX0_dataBits_31 : decode cX0_dataBits 31 = .ok (.ireturn, 1) := by decide +kernel
theorem dX0_instructionBits_0 : decode cX0_instructionBits 0 = .ok (.iconst 0, 1) := by decide +kernel
theorem dX0_instructionBits_1 : decode cX0_instructionBits 1 = .ok (.istore_n 1, 1) := by decide +kernel
theorem dX0_instructionBits_2 : decode cX0_instructionBits 2 = .ok (.iconst 0, 1) := by decide +kernel
theorem dX0_instructionBits_3 : decode cX0_instructionBits 3 = .ok (.istore_n 2, 1) := by decide +kernel
theorem dX0_instructionBits_4 : decode cX0_instructionBits 4 = .ok (.iload_n 2, 1) := by decide +kernel
theorem dX0_instructionBits_5 : decode cX0_instructionBits 5 = .ok (.aload_n 0, 1) := by decide +kernel
theorem dX0_instructionBits_6 : decode cX0_instructionBits 6 = .ok (.getfield 22, 3) := by decide +kernel
theorem dX0_instructionBits_9 : decode cX0_instructionBits 9 = .ok (.if_icmp .ge 21, 3) := by decide +kernel
theorem dX0_instructionBits_12 : decode cX0_instructionBits 12 = .ok (.iload_n 1, 1) := by decide +kernel
theorem dX0_instructionBits_13 : decode cX0_instructionBits 13 = .ok (.aload_n 0, 1) := by decide +kernel
theorem dX0_instructionBits_14 : decode cX0_instructionBits 14 = .ok (.getfield 11, 3) := by decide +kernel
theorem dX0_instructionBits_17 : decode cX0_instructionBits 17 = .ok (.iload_n 2, 1) := by decide +kernel
theorem dX0_instructionBits_18 : decode cX0_instructionBits 18 = .ok (.aaload, 1) := by decide +kernel
theorem dX0_instructionBits_19 : decode cX0_instructionBits 19 = .ok (.getfield 159, 3) := by decide +kernel
theorem dX0_instructionBits_22 : decode cX0_instructionBits 22 = .ok (.iadd, 1) := by decide +kernel
theorem dX0_instructionBits_23 : decode cX0_instructionBits 23 = .ok (.istore_n 1, 1) := by decide +kernel
theorem dX0_instructionBits_24 : decode cX0_instructionBits 24 = .ok (.iinc 2 1, 3) := by decide +kernel
theorem dX0_instructionBits_27 : decode cX0_instructionBits 27 = .ok (.goto (-23), 3) := by decide +kernel
theorem dX0_instructionBits_30 : decode cX0_instructionBits 30 = .ok (.iload_n 1, 1) := by decide +kernel
theorem dX0_instructionBits_31 : decode cX0_instructionBits 31 = .ok (.ireturn, 1) := by decide +kernel
theorem dX0_cellCount_0 : decode cX0_cellCount 0 = .ok (.iconst 0, 1) := by decide +kernel
theorem dX0_cellCount_1 : decode cX0_cellCount 1 = .ok (.istore_n 1, 1) := by decide +kernel
theorem dX0_cellCount_2 : decode cX0_cellCount 2 = .ok (.iconst 0, 1) := by decide +kernel
theorem dX0_cellCount_3 : decode cX0_cellCount 3 = .ok (.istore_n 2, 1) := by decide +kernel
theorem dX0_cellCount_4 : decode cX0_cellCount 4 = .ok (.iload_n 2, 1) := by decide +kernel
theorem dX0_cellCount_5 : decode cX0_cellCount 5 = .ok (.aload_n 0, 1) := by decide +kernel
theorem dX0_cellCount_6 : decode cX0_cellCount 6 = .ok (.getfield 22, 3) := by decide +kernel
theorem dX0_cellCount_9 : decode cX0_cellCount 9 = .ok (.if_icmp .ge 21, 3) := by decide +kernel
theorem dX0_cellCount_12 : decode cX0_cellCount 12 = .ok (.iload_n 1, 1) := by decide +kernel
theorem dX0_cellCount_13 : decode cX0_cellCount 13 = .ok (.aload_n 0, 1) := by decide +kernel
theorem dX0_cellCount_14 : decode cX0_cellCount 14 = .ok (.getfield 11, 3) := by decide +kernel
theorem dX0_cellCount_17 : decode cX0_cellCount 17 = .ok (.iload_n 2, 1) := by decide +kernel
theorem dX0_cellCount_18 : decode cX0_cellCount 18 = .ok (.aaload, 1) := by decide +kernel
theorem dX0_cellCount_19 : decode cX0_cellCount 19 = .ok (.getfield 52, 3) := by decide +kernel
theorem dX0_cellCount_22 : decode cX0_cellCount 22 = .ok (.iadd, 1) := by decide +kernel
theorem dX0_cellCount_23 : decode cX0_cellCount 23 = .ok (.istore_n 1, 1) := by decide +kernel
theorem dX0_cellCount_24 : decode cX0_cellCount 24 = .ok (.iinc 2 1, 3) := by decide +kernel
theorem dX0_cellCount_27 : decode cX0_cellCount 27 = .ok (.goto (-23), 3) := by decide +kernel
theorem dX0_cellCount_30 : decode cX0_cellCount 30 = .ok (.iload_n 1, 1) := by decide +kernel
theorem dX0_cellCount_31 : decode cX0_cellCount 31 = .ok (.ireturn, 1) := by decide +kernel
theorem dX0_number_0 : decode cX0_number 0 = .ok (.iload_n 1, 1) := by decide +kernel
theorem dX0_number_1 : decode cX0_number 1 = .ok (.tableswitch 60 0 4 #[35, 40, 45, 50, 55], 35) := by decide +kernel
theorem dX0_number_36 : decode cX0_number 36 = .ok (.aload_n 0, 1) := by decide +kernel
theorem dX0_number_37 : decode cX0_number 37 = .ok (.getfield 22, 3) := by decide +kernel
theorem dX0_number_40 : decode cX0_number 40 = .ok (.ireturn, 1) := by decide +kernel
theorem dX0_number_41 : decode cX0_number 41 = .ok (.aload_n 0, 1) := by decide +kernel
theorem dX0_number_42 : decode cX0_number 42 = .ok (.invokevirtual 162, 3) := by decide +kernel
theorem dX0_number_45 : decode cX0_number 45 = .ok (.ireturn, 1) := by decide +kernel
theorem dX0_number_46 : decode cX0_number 46 = .ok (.aload_n 0, 1) := by decide +kernel
theorem dX0_number_47 : decode cX0_number 47 = .ok (.getfield 36, 3) := by decide +kernel
theorem dX0_number_50 : decode cX0_number 50 = .ok (.ireturn, 1) := by decide +kernel
theorem dX0_number_51 : decode cX0_number 51 = .ok (.aload_n 0, 1) := by decide +kernel
theorem dX0_number_52 : decode cX0_number 52 = .ok (.getfield 42, 3) := by decide +kernel
theorem dX0_number_55 : decode cX0_number 55 = .ok (.ireturn, 1) := by decide +kernel
theorem dX0_number_56 : decode cX0_number 56 = .ok (.aload_n 0, 1) := by decide +kernel
theorem dX0_number_57 : decode cX0_number 57 = .ok (.getfield 45, 3) := by decide +kernel
theorem dX0_number_60 : decode cX0_number 60 = .ok (.ireturn, 1) := by decide +kernel
theorem dX0_number_61 : decode cX0_number 61 = .ok (.bipush (-2), 2) := by decide +kernel
theorem dX0_number_63 : decode cX0_number 63 = .ok (.ireturn, 1) := by decide +kernel
theorem dX1_init_0 : decode cX1_init 0 = .ok (.aload_n 0, 1) := by decide +kernel
theorem dX1_init_1 : decode cX1_init 1 = .ok (.invokespecial 3, 3) := by decide +kernel
theorem dX1_init_4 : decode cX1_init 4 = .ok (.aload_n 0, 1) := by decide +kernel
theorem dX1_init_5 : decode cX1_init 5 = .ok (.bipush 6, 2) := by decide +kernel
theorem dX1_init_7 : decode cX1_init 7 = .ok (.newarray .int, 2) := by decide +kernel
theorem dX1_init_9 : decode cX1_init 9 = .ok (.putfield 9, 3) := by decide +kernel
theorem dX1_init_12 : decode cX1_init 12 = .ok (.return_, 1) := by decide +kernel
theorem dX1_begin_0 : decode cX1_begin 0 = .ok (.aload_n 0, 1) := by decide +kernel
theorem dX1_begin_1 : decode cX1_begin 1 = .ok (.iload_n 1, 1) := by decide +kernel
theorem dX1_begin_2 : decode cX1_begin 2 = .ok (.putfield 15, 3) := by decide +kernel
theorem dX1_begin_5 : decode cX1_begin 5 = .ok (.aload_n 0, 1) := by decide +kernel
theorem dX1_begin_6 : decode cX1_begin 6 = .ok (.iload_n 2, 1) := by decide +kernel
theorem dX1_begin_7 : decode cX1_begin 7 = .ok (.putfield 19, 3) := by decide +kernel
theorem dX1_begin_10 : decode cX1_begin 10 = .ok (.aload_n 0, 1) := by decide +kernel
theorem dX1_begin_11 : decode cX1_begin 11 = .ok (.iconst 0, 1) := by decide +kernel
theorem dX1_begin_12 : decode cX1_begin 12 = .ok (.putfield 22, 3) := by decide +kernel
theorem dX1_begin_15 : decode cX1_begin 15 = .ok (.aload_n 0, 1) := by decide +kernel
theorem dX1_begin_16 : decode cX1_begin 16 = .ok (.iconst 0, 1) := by decide +kernel
theorem dX1_begin_17 : decode cX1_begin 17 = .ok (.putfield 25, 3) := by decide +kernel
theorem dX1_begin_20 : decode cX1_begin 20 = .ok (.aload_n 0, 1) := by decide +kernel
theorem dX1_begin_21 : decode cX1_begin 21 = .ok (.iconst 0, 1) := by decide +kernel
theorem dX1_begin_22 : decode cX1_begin 22 = .ok (.putfield 28, 3) := by decide +kernel
theorem dX1_begin_25 : decode cX1_begin 25 = .ok (.aload_n 0, 1) := by decide +kernel
theorem dX1_begin_26 : decode cX1_begin 26 = .ok (.iconst 0, 1) := by decide +kernel
theorem dX1_begin_27 : decode cX1_begin 27 = .ok (.putfield 31, 3) := by decide +kernel
theorem dX1_begin_30 : decode cX1_begin 30 = .ok (.aload_n 0, 1) := by decide +kernel
theorem dX1_begin_31 : decode cX1_begin 31 = .ok (.iconst 0, 1) := by decide +kernel
theorem dX1_begin_32 : decode cX1_begin 32 = .ok (.putfield 34, 3) := by decide +kernel
theorem dX1_begin_35 : decode cX1_begin 35 = .ok (.aload_n 0, 1) := by decide +kernel
theorem dX1_begin_36 : decode cX1_begin 36 = .ok (.invokevirtual 37, 3) := by decide +kernel
theorem dX1_begin_39 : decode cX1_begin 39 = .ok (.return_, 1) := by decide +kernel
theorem dX1_copyFrom_0 : decode cX1_copyFrom 0 = .ok (.aload_n 0, 1) := by decide +kernel
theorem dX1_copyFrom_1 : decode cX1_copyFrom 1 = .ok (.aload_n 1, 1) := by decide +kernel
theorem dX1_copyFrom_2 : decode cX1_copyFrom 2 = .ok (.getfield 15, 3) := by decide +kernel
theorem dX1_copyFrom_5 : decode cX1_copyFrom 5 = .ok (.putfield 15, 3) := by decide +kernel
theorem dX1_copyFrom_8 : decode cX1_copyFrom 8 = .ok (.aload_n 0, 1) := by decide +kernel
theorem dX1_copyFrom_9 : decode cX1_copyFrom 9 = .ok (.aload_n 1, 1) := by decide +kernel
theorem dX1_copyFrom_10 : decode cX1_copyFrom 10 = .ok (.getfield 19, 3) := by decide +kernel
theorem dX1_copyFrom_13 : decode cX1_copyFrom 13 = .ok (.putfield 19, 3) := by decide +kernel
theorem dX1_copyFrom_16 : decode cX1_copyFrom 16 = .ok (.aload_n 0, 1) := by decide +kernel
theorem dX1_copyFrom_17 : decode cX1_copyFrom 17 = .ok (.aload_n 1, 1) := by decide +kernel
theorem dX1_copyFrom_18 : decode cX1_copyFrom 18 = .ok (.getfield 40, 3) := by decide +kernel
theorem dX1_copyFrom_21 : decode cX1_copyFrom 21 = .ok (.putfield 40, 3) := by decide +kernel
theorem dX1_copyFrom_24 : decode cX1_copyFrom 24 = .ok (.aload_n 0, 1) := by decide +kernel
theorem dX1_copyFrom_25 : decode cX1_copyFrom 25 = .ok (.aload_n 1, 1) := by decide +kernel
theorem dX1_copyFrom_26 : decode cX1_copyFrom 26 = .ok (.getfield 22, 3) := by decide +kernel
theorem dX1_copyFrom_29 : decode cX1_copyFrom 29 = .ok (.putfield 22, 3) := by decide +kernel
theorem dX1_copyFrom_32 : decode cX1_copyFrom 32 = .ok (.aload_n 0, 1) := by decide +kernel
theorem dX1_copyFrom_33 : decode cX1_copyFrom 33 = .ok (.aload_n 1, 1) := by decide +kernel
theorem dX1_copyFrom_34 : decode cX1_copyFrom 34 = .ok (.getfield 25, 3) := by decide +kernel
theorem dX1_copyFrom_37 : decode cX1_copyFrom 37 = .ok (.putfield 25, 3) := by decide +kernel
theorem dX1_copyFrom_40 : decode cX1_copyFrom 40 = .ok (.aload_n 0, 1) := by decide +kernel
theorem dX1_copyFrom_41 : decode cX1_copyFrom 41 = .ok (.aload_n 1, 1) := by decide +kernel
theorem dX1_copyFrom_42 : decode cX1_copyFrom 42 = .ok (.getfield 28, 3) := by decide +kernel
theorem dX1_copyFrom_45 : decode cX1_copyFrom 45 = .ok (.putfield 28, 3) := by decide +kernel
theorem dX1_copyFrom_48 : decode cX1_copyFrom 48 = .ok (.aload_n 0, 1) := by decide +kernel
theorem dX1_copyFrom_49 : decode cX1_copyFrom 49 = .ok (.aload_n 1, 1) := by decide +kernel
theorem dX1_copyFrom_50 : decode cX1_copyFrom 50 = .ok (.getfield 31, 3) := by decide +kernel
theorem dX1_copyFrom_53 : decode cX1_copyFrom 53 = .ok (.putfield 31, 3) := by decide +kernel
theorem dX1_copyFrom_56 : decode cX1_copyFrom 56 = .ok (.aload_n 0, 1) := by decide +kernel
theorem dX1_copyFrom_57 : decode cX1_copyFrom 57 = .ok (.aload_n 1, 1) := by decide +kernel
theorem dX1_copyFrom_58 : decode cX1_copyFrom 58 = .ok (.getfield 34, 3) := by decide +kernel
theorem dX1_copyFrom_61 : decode cX1_copyFrom 61 = .ok (.putfield 34, 3) := by decide +kernel
theorem dX1_copyFrom_64 : decode cX1_copyFrom 64 = .ok (.aload_n 1, 1) := by decide +kernel
theorem dX1_copyFrom_65 : decode cX1_copyFrom 65 = .ok (.getfield 9, 3) := by decide +kernel
theorem dX1_copyFrom_68 : decode cX1_copyFrom 68 = .ok (.iconst 0, 1) := by decide +kernel
theorem dX1_copyFrom_69 : decode cX1_copyFrom 69 = .ok (.aload_n 0, 1) := by decide +kernel
theorem dX1_copyFrom_70 : decode cX1_copyFrom 70 = .ok (.getfield 9, 3) := by decide +kernel
theorem dX1_copyFrom_73 : decode cX1_copyFrom 73 = .ok (.iconst 0, 1) := by decide +kernel
theorem dX1_copyFrom_74 : decode cX1_copyFrom 74 = .ok (.bipush 6, 2) := by decide +kernel
theorem dX1_copyFrom_76 : decode cX1_copyFrom 76 = .ok (.invokestatic 43, 3) := by decide +kernel
theorem dX1_copyFrom_79 : decode cX1_copyFrom 79 = .ok (.return_, 1) := by decide +kernel
theorem dX1_reset_0 : decode cX1_reset 0 = .ok (.aload_n 0, 1) := by decide +kernel
theorem dX1_reset_1 : decode cX1_reset 1 = .ok (.aload_n 0, 1) := by decide +kernel
theorem dX1_reset_2 : decode cX1_reset 2 = .ok (.getfield 19, 3) := by decide +kernel
theorem dX1_reset_5 : decode cX1_reset 5 = .ok (.sipush 256, 3) := by decide +kernel
theorem dX1_reset_8 : decode cX1_reset 8 = .ok (.if_icmp .ne 14, 3) := by decide +kernel
theorem dX1_reset_11 : decode cX1_reset 11 = .ok (.iconst 1, 1) := by decide +kernel
theorem dX1_reset_12 : decode cX1_reset 12 = .ok (.aload_n 0, 1) := by decide +kernel
theorem dX1_reset_13 : decode cX1_reset 13 = .ok (.getfield 15, 3) := by decide +kernel
theorem dX1_reset_16 : decode cX1_reset 16 = .ok (.ishl, 1) := by decide +kernel
theorem dX1_reset_17 : decode cX1_reset 17 = .ok (.iconst 1, 1) := by decide +kernel
theorem dX1_reset_18 : decode cX1_reset 18 = .ok (.isub, 1) := by decide +kernel
theorem dX1_reset_19 : decode cX1_reset 19 = .ok (.goto 4, 3) := by decide +kernel
theorem dX1_reset_22 : decode cX1_reset 22 = .ok (.iconst 2, 1) := by decide +kernel
theorem dX1_reset_23 : decode cX1_reset 23 = .ok (.putfield 40, 3) := by decide +kernel
theorem dX1_reset_26 : decode cX1_reset 26 = .ok (.return_, 1) := by decide +kernel
theorem dX1_addCell_0 : decode cX1_addCell 0 = .ok (.aload_n 0, 1) := by decide +kernel
theorem dX1_addCell_1 : decode cX1_addCell 1 = .ok (.getfield 31, 3) := by decide +kernel
theorem dX1_addCell_4 : decode cX1_addCell 4 = .ok (.bipush 6, 2) := by decide +kernel
theorem dX1_addCell_6 : decode cX1_addCell 6 = .ok (.if_icmp .lt 6, 3) := by decide +kernel
theorem dX1_addCell_9 : decode cX1_addCell 9 = .ok (.bipush (-4), 2) := by decide +kernel
theorem dX1_addCell_11 : decode cX1_addCell 11 = .ok (.ireturn, 1) := by decide +kernel
theorem dX1_addCell_12 : decode cX1_addCell 12 = .ok (.aload_n 0, 1) := by decide +kernel
theorem dX1_addCell_13 : decode cX1_addCell 13 = .ok (.getfield 31, 3) := by decide +kernel
theorem dX1_addCell_16 : decode cX1_addCell 16 = .ok (.istore_n 3, 1) := by decide +kernel
theorem dX1_addCell_17 : decode cX1_addCell 17 = .ok (.aload_n 0, 1) := by decide +kernel
theorem dX1_addCell_18 : decode cX1_addCell 18 = .ok (.getfield 9, 3) := by decide +kernel
theorem dX1_addCell_21 : decode cX1_addCell 21 = .ok (.iload_n 3, 1) := by decide +kernel
theorem dX1_addCell_22 : decode cX1_addCell 22 = .ok (.iload_n 2, 1) := by decide +kernel
theorem dX1_addCell_23 : decode cX1_addCell 23 = .ok (.iastore, 1) := by decide +kernel
theorem dX1_addCell_24 : decode cX1_addCell 24 = .ok (.aload_n 0, 1) := by decide +kernel
theorem dX1_addCell_25 : decode cX1_addCell 25 = .ok (.dup, 1) := by decide +kernel
theorem dX1_addCell_26 : decode cX1_addCell 26 = .ok (.getfield 34, 3) := by decide +kernel
theorem dX1_addCell_29 : decode cX1_addCell 29 = .ok (.iload_n 1, 1) := by decide +kernel
theorem dX1_addCell_30 : decode cX1_addCell 30 = .ok (.iload_n 3, 1) := by decide +kernel
theorem dX1_addCell_31 : decode cX1_addCell 31 = .ok (.ishl, 1) := by decide +kernel
theorem dX1_addCell_32 : decode cX1_addCell 32 = .ok (.ior, 1) := by decide +kernel
theorem dX1_addCell_33 : decode cX1_addCell 33 = .ok (.putfield 34, 3) := by decide +kernel
theorem dX1_addCell_36 : decode cX1_addCell 36 = .ok (.aload_n 0, 1) := by decide +kernel
theorem dX1_addCell_37 : decode cX1_addCell 37 = .ok (.dup, 1) := by decide +kernel
theorem dX1_addCell_38 : decode cX1_addCell 38 = .ok (.getfield 31, 3) := by decide +kernel
theorem dX1_addCell_41 : decode cX1_addCell 41 = .ok (.iconst 1, 1) := by decide +kernel
theorem dX1_addCell_42 : decode cX1_addCell 42 = .ok (.iadd, 1) := by decide +kernel
theorem dX1_addCell_43 : decode cX1_addCell 43 = .ok (.putfield 31, 3) := by decide +kernel
theorem dX1_addCell_46 : decode cX1_addCell 46 = .ok (.iload_n 3, 1) := by decide +kernel
theorem dX1_addCell_47 : decode cX1_addCell 47 = .ok (.ireturn, 1) := by decide +kernel
theorem dX1_isOutput_0 : decode cX1_isOutput 0 = .ok (.aload_n 0, 1) := by decide +kernel
theorem dX1_isOutput_1 : decode cX1_isOutput 1 = .ok (.getfield 34, 3) := by decide +kernel
theorem dX1_isOutput_4 : decode cX1_isOutput 4 = .ok (.iload_n 1, 1) := by decide +kernel
theorem dX1_isOutput_5 : decode cX1_isOutput 5 = .ok (.invokestatic 49, 3) := by decide +kernel
theorem dX1_isOutput_8 : decode cX1_isOutput 8 = .ok (.ireturn, 1) := by decide +kernel
theorem dX1_scansCells_0 : decode cX1_scansCells 0 = .ok (.aload_n 0, 1) := by decide +kernel
theorem dX1_scansCells_1 : decode cX1_scansCells 1 = .ok (.getfield 40, 3) := by decide +kernel
theorem dX1_scansCells_4 : decode cX1_scansCells 4 = .ok (.ifCond .eq 11, 3) := by decide +kernel
theorem dX1_scansCells_7 : decode cX1_scansCells 7 = .ok (.aload_n 0, 1) := by decide +kernel
theorem dX1_scansCells_8 : decode cX1_scansCells 8 = .ok (.getfield 40, 3) := by decide +kernel
theorem dX1_scansCells_11 : decode cX1_scansCells 11 = .ok (.iconst 1, 1) := by decide +kernel
theorem dX1_scansCells_12 : decode cX1_scansCells 12 = .ok (.if_icmp .ne 14, 3) := by decide +kernel
theorem dX1_scansCells_15 : decode cX1_scansCells 15 = .ok (.aload_n 0, 1) := by decide +kernel
theorem dX1_scansCells_16 : decode cX1_scansCells 16 = .ok (.getfield 31, 3) := by decide +kernel
theorem dX1_scansCells_19 : decode cX1_scansCells 19 = .ok (.ifCond .le 7, 3) := by decide +kernel
theorem dX1_scansCells_22 : decode cX1_scansCells 22 = .ok (.iconst 1, 1) := by decide +kernel
theorem dX1_scansCells_23 : decode cX1_scansCells 23 = .ok (.goto 4, 3) := by decide +kernel
theorem dX1_scansCells_26 : decode cX1_scansCells 26 = .ok (.iconst 0, 1) := by decide +kernel
theorem dX1_scansCells_27 : decode cX1_scansCells 27 = .ok (.ireturn, 1) := by decide +kernel
theorem dX1_scansIdentity_0 : decode cX1_scansIdentity 0 = .ok (.aload_n 0, 1) := by decide +kernel
theorem dX1_scansIdentity_1 : decode cX1_scansIdentity 1 = .ok (.getfield 40, 3) := by decide +kernel
theorem dX1_scansIdentity_4 : decode cX1_scansIdentity 4 = .ok (.iconst 2, 1) := by decide +kernel
theorem dX1_scansIdentity_5 : decode cX1_scansIdentity 5 = .ok (.if_icmp .ne 17, 3) := by decide +kernel
theorem dX1_scansIdentity_8 : decode cX1_scansIdentity 8 = .ok (.aload_n 0, 1) := by decide +kernel
theorem dX1_scansIdentity_9 : decode cX1_scansIdentity 9 = .ok (.getfield 19, 3) := by decide +kernel
theorem dX1_scansIdentity_12 : decode cX1_scansIdentity 12 = .ok (.sipush 256, 3) := by decide +kernel
theorem dX1_scansIdentity_15 : decode cX1_scansIdentity 15 = .ok (.if_icmp .eq 7, 3) := by decide +kernel
theorem dX1_scansIdentity_18 : decode cX1_scansIdentity 18 = .ok (.iconst 1, 1) := by decide +kernel
theorem dX1_scansIdentity_19 : decode cX1_scansIdentity 19 = .ok (.goto 4, 3) := by decide +kernel
theorem dX1_scansIdentity_22 : decode cX1_scansIdentity 22 = .ok (.iconst 0, 1) := by decide +kernel
theorem dX1_scansIdentity_23 : decode cX1_scansIdentity 23 = .ok (.ireturn, 1) := by decide +kernel
theorem dX1_dataBits_0 : decode cX1_dataBits 0 = .ok (.aload_n 0, 1) := by decide +kernel
theorem dX1_dataBits_1 : decode cX1_dataBits 1 = .ok (.invokevirtual 53, 3) := by decide +kernel
theorem dX1_dataBits_4 : decode cX1_dataBits 4 = .ok (.ifCond .eq 8, 3) := by decide +kernel
theorem dX1_dataBits_7 : decode cX1_dataBits 7 = .ok (.aload_n 0, 1) := by decide +kernel
theorem dX1_dataBits_8 : decode cX1_dataBits 8 = .ok (.getfield 31, 3) := by decide +kernel
theorem dX1_dataBits_11 : decode cX1_dataBits 11 = .ok (.ireturn, 1) := by decide +kernel
theorem dX1_dataBits_12 : decode cX1_dataBits 12 = .ok (.aload_n 0, 1) := by decide +kernel
theorem dX1_dataBits_13 : decode cX1_dataBits 13 = .ok (.invokevirtual 57, 3) := by decide +kernel
theorem dX1_dataBits_16 : decode cX1_dataBits 16 = .ok (.ifCond .eq 8, 3) := by decide +kernel
theorem dX1_dataBits_19 : decode cX1_dataBits 19 = .ok (.bipush 8, 2) := by decide +kernel
theorem dX1_dataBits_21 : decode cX1_dataBits 21 = .ok (.goto 4, 3) := by decide +kernel
theorem dX1_dataBits_24 : decode cX1_dataBits 24 = .ok (.iconst 1, 1) := by decide +kernel
theorem dX1_dataBits_25 : decode cX1_dataBits 25 = .ok (.ireturn, 1) := by decide +kernel
theorem dX1_shiftInstruction_0 : decode cX1_shiftInstruction 0 = .ok (.aload_n 0, 1) := by decide +kernel
theorem dX1_shiftInstruction_1 : decode cX1_shiftInstruction 1 = .ok (.getfield 22, 3) := by decide +kernel
theorem dX1_shiftInstruction_4 : decode cX1_shiftInstruction 4 = .ok (.iconst 1, 1) := by decide +kernel
theorem dX1_shiftInstruction_5 : decode cX1_shiftInstruction 5 = .ok (.iand, 1) := by decide +kernel
theorem dX1_shiftInstruction_6 : decode cX1_shiftInstruction 6 = .ok (.istore_n 2, 1) := by decide +kernel
theorem dX1_shiftInstruction_7 : decode cX1_shiftInstruction 7 = .ok (.aload_n 0, 1) := by decide +kernel
theorem dX1_shiftInstruction_8 : decode cX1_shiftInstruction 8 = .ok (.aload_n 0, 1) := by decide +kernel
theorem dX1_shiftInstruction_9 : decode cX1_shiftInstruction 9 = .ok (.getfield 22, 3) := by decide +kernel
theorem dX1_shiftInstruction_12 : decode cX1_shiftInstruction 12 = .ok (.iconst 1, 1) := by decide +kernel
theorem dX1_shiftInstruction_13 : decode cX1_shiftInstruction 13 = .ok (.ishr, 1) := by decide +kernel
theorem dX1_shiftInstruction_14 : decode cX1_shiftInstruction 14 = .ok (.iload_n 1, 1) := by decide +kernel
theorem dX1_shiftInstruction_15 : decode cX1_shiftInstruction 15 = .ok (.aload_n 0, 1) := by decide +kernel
theorem dX1_shiftInstruction_16 : decode cX1_shiftInstruction 16 = .ok (.getfield 15, 3) := by decide +kernel
theorem dX1_shiftInstruction_19 : decode cX1_shiftInstruction 19 = .ok (.iconst 1, 1) := by decide +kernel
theorem dX1_shiftInstruction_20 : decode cX1_shiftInstruction 20 = .ok (.isub, 1) := by decide +kernel
theorem dX1_shiftInstruction_21 : decode cX1_shiftInstruction 21 = .ok (.ishl, 1) := by decide +kernel
theorem dX1_shiftInstruction_22 : decode cX1_shiftInstruction 22 = .ok (.ior, 1) := by decide +kernel
theorem dX1_shiftInstruction_23 : decode cX1_shiftInstruction 23 = .ok (.putfield 22, 3) := by decide +kernel
theorem dX1_shiftInstruction_26 : decode cX1_shiftInstruction 26 = .ok (.iload_n 2, 1) := by decide +kernel
theorem dX1_shiftInstruction_27 : decode cX1_shiftInstruction 27 = .ok (.ireturn, 1) := by decide +kernel
theorem dX1_shiftData_0 : decode cX1_shiftData 0 = .ok (.aload_n 0, 1) := by decide +kernel
theorem dX1_shiftData_1 : decode cX1_shiftData 1 = .ok (.getfield 25, 3) := by decide +kernel
theorem dX1_shiftData_4 : decode cX1_shiftData 4 = .ok (.iconst 1, 1) := by decide +kernel
theorem dX1_shiftData_5 : decode cX1_shiftData 5 = .ok (.iand, 1) := by decide +kernel
theorem dX1_shiftData_6 : decode cX1_shiftData 6 = .ok (.istore_n 2, 1) := by decide +kernel
theorem dX1_shiftData_7 : decode cX1_shiftData 7 = .ok (.aload_n 0, 1) := by decide +kernel
theorem dX1_shiftData_8 : decode cX1_shiftData 8 = .ok (.aload_n 0, 1) := by decide +kernel
theorem dX1_shiftData_9 : decode cX1_shiftData 9 = .ok (.getfield 25, 3) := by decide +kernel
theorem dX1_shiftData_12 : decode cX1_shiftData 12 = .ok (.iconst 1, 1) := by decide +kernel
theorem dX1_shiftData_13 : decode cX1_shiftData 13 = .ok (.ishr, 1) := by decide +kernel
theorem dX1_shiftData_14 : decode cX1_shiftData 14 = .ok (.iload_n 1, 1) := by decide +kernel
theorem dX1_shiftData_15 : decode cX1_shiftData 15 = .ok (.aload_n 0, 1) := by decide +kernel
theorem dX1_shiftData_16 : decode cX1_shiftData 16 = .ok (.invokevirtual 60, 3) := by decide +kernel
theorem dX1_shiftData_19 : decode cX1_shiftData 19 = .ok (.iconst 1, 1) := by decide +kernel
theorem dX1_shiftData_20 : decode cX1_shiftData 20 = .ok (.isub, 1) := by decide +kernel
theorem dX1_shiftData_21 : decode cX1_shiftData 21 = .ok (.ishl, 1) := by decide +kernel
theorem dX1_shiftData_22 : decode cX1_shiftData 22 = .ok (.ior, 1) := by decide +kernel
theorem dX1_shiftData_23 : decode cX1_shiftData 23 = .ok (.putfield 25, 3) := by decide +kernel
theorem dX1_shiftData_26 : decode cX1_shiftData 26 = .ok (.iload_n 2, 1) := by decide +kernel
theorem dX1_shiftData_27 : decode cX1_shiftData 27 = .ok (.ireturn, 1) := by decide +kernel
theorem dX1_updateLatches_0 : decode cX1_updateLatches 0 = .ok (.aload_n 0, 1) := by decide +kernel
theorem dX1_updateLatches_1 : decode cX1_updateLatches 1 = .ok (.invokevirtual 53, 3) := by decide +kernel
theorem dX1_updateLatches_4 : decode cX1_updateLatches 4 = .ok (.ifCond .eq 11, 3) := by decide +kernel
theorem dX1_updateLatches_7 : decode cX1_updateLatches 7 = .ok (.aload_n 0, 1) := by decide +kernel
theorem dX1_updateLatches_8 : decode cX1_updateLatches 8 = .ok (.aload_n 0, 1) := by decide +kernel
theorem dX1_updateLatches_9 : decode cX1_updateLatches 9 = .ok (.getfield 25, 3) := by decide +kernel
theorem dX1_updateLatches_12 : decode cX1_updateLatches 12 = .ok (.putfield 28, 3) := by decide +kernel
theorem dX1_updateLatches_15 : decode cX1_updateLatches 15 = .ok (.return_, 1) := by decide +kernel
theorem dX1_number_0 : decode cX1_number 0 = .ok (.iload_n 1, 1) := by decide +kernel
theorem dX1_number_1 : decode cX1_number 1 = .ok (.tableswitch 87 0 7 #[47, 52, 57, 62, 67, 72, 77, 82], 47) := by decide +kernel
theorem dX1_number_48 : decode cX1_number 48 = .ok (.aload_n 0, 1) := by decide +kernel
theorem dX1_number_49 : decode cX1_number 49 = .ok (.getfield 15, 3) := by decide +kernel
theorem dX1_number_52 : decode cX1_number 52 = .ok (.ireturn, 1) := by decide +kernel
theorem dX1_number_53 : decode cX1_number 53 = .ok (.aload_n 0, 1) := by decide +kernel
theorem dX1_number_54 : decode cX1_number 54 = .ok (.getfield 19, 3) := by decide +kernel
theorem dX1_number_57 : decode cX1_number 57 = .ok (.ireturn, 1) := by decide +kernel
theorem dX1_number_58 : decode cX1_number 58 = .ok (.aload_n 0, 1) := by decide +kernel
theorem dX1_number_59 : decode cX1_number 59 = .ok (.getfield 31, 3) := by decide +kernel
theorem dX1_number_62 : decode cX1_number 62 = .ok (.ireturn, 1) := by decide +kernel
theorem dX1_number_63 : decode cX1_number 63 = .ok (.aload_n 0, 1) := by decide +kernel
theorem dX1_number_64 : decode cX1_number 64 = .ok (.getfield 40, 3) := by decide +kernel
theorem dX1_number_67 : decode cX1_number 67 = .ok (.ireturn, 1) := by decide +kernel
theorem dX1_number_68 : decode cX1_number 68 = .ok (.aload_n 0, 1) := by decide +kernel
theorem dX1_number_69 : decode cX1_number 69 = .ok (.invokevirtual 60, 3) := by decide +kernel
theorem dX1_number_72 : decode cX1_number 72 = .ok (.ireturn, 1) := by decide +kernel
theorem dX1_number_73 : decode cX1_number 73 = .ok (.aload_n 0, 1) := by decide +kernel
theorem dX1_number_74 : decode cX1_number 74 = .ok (.getfield 22, 3) := by decide +kernel
theorem dX1_number_77 : decode cX1_number 77 = .ok (.ireturn, 1) := by decide +kernel
theorem dX1_number_78 : decode cX1_number 78 = .ok (.aload_n 0, 1) := by decide +kernel
theorem dX1_number_79 : decode cX1_number 79 = .ok (.getfield 25, 3) := by decide +kernel
theorem dX1_number_82 : decode cX1_number 82 = .ok (.ireturn, 1) := by decide +kernel
theorem dX1_number_83 : decode cX1_number 83 = .ok (.aload_n 0, 1) := by decide +kernel
theorem dX1_number_84 : decode cX1_number 84 = .ok (.getfield 28, 3) := by decide +kernel
theorem dX1_number_87 : decode cX1_number 87 = .ok (.ireturn, 1) := by decide +kernel
theorem dX1_number_88 : decode cX1_number 88 = .ok (.bipush (-2), 2) := by decide +kernel
theorem dX1_number_90 : decode cX1_number 90 = .ok (.ireturn, 1) := by decide +kernel
theorem dX2_init_0 : decode cX2_init 0 = .ok (.aload_n 0, 1) := by decide +kernel
theorem dX2_init_1 : decode cX2_init 1 = .ok (.invokespecial 3, 3) := by decide +kernel
theorem dX2_init_4 : decode cX2_init 4 = .ok (.aload_n 0, 1) := by decide +kernel
theorem dX2_init_5 : decode cX2_init 5 = .ok (.bipush 6, 2) := by decide +kernel
theorem dX2_init_7 : decode cX2_init 7 = .ok (.anewarray 11, 3) := by decide +kernel
theorem dX2_init_10 : decode cX2_init 10 = .ok (.putfield 13, 3) := by decide +kernel
theorem dX2_init_13 : decode cX2_init 13 = .ok (.iconst 0, 1) := by decide +kernel
theorem dX2_init_14 : decode cX2_init 14 = .ok (.istore_n 1, 1) := by decide +kernel
theorem dX2_init_15 : decode cX2_init 15 = .ok (.iload_n 1, 1) := by decide +kernel
theorem dX2_init_16 : decode cX2_init 16 = .ok (.bipush 6, 2) := by decide +kernel
theorem dX2_init_18 : decode cX2_init 18 = .ok (.if_icmp .ge 22, 3) := by decide +kernel
theorem dX2_init_21 : decode cX2_init 21 = .ok (.aload_n 0, 1) := by decide +kernel
theorem dX2_init_22 : decode cX2_init 22 = .ok (.getfield 13, 3) := by decide +kernel
theorem dX2_init_25 : decode cX2_init 25 = .ok (.iload_n 1, 1) := by decide +kernel
theorem dX2_init_26 : decode cX2_init 26 = .ok (.new 11, 3) := by decide +kernel
theorem dX2_init_29 : decode cX2_init 29 = .ok (.dup, 1) := by decide +kernel
theorem dX2_init_30 : decode cX2_init 30 = .ok (.invokespecial 17, 3) := by decide +kernel
theorem dX2_init_33 : decode cX2_init 33 = .ok (.aastore, 1) := by decide +kernel
theorem dX2_init_34 : decode cX2_init 34 = .ok (.iinc 1 1, 3) := by decide +kernel
theorem dX2_init_37 : decode cX2_init 37 = .ok (.goto (-22), 3) := by decide +kernel
theorem dX2_init_40 : decode cX2_init 40 = .ok (.return_, 1) := by decide +kernel
theorem dX2_mark_0 : decode cX2_mark 0 = .ok (.aload_n 0, 1) := by decide +kernel
theorem dX2_mark_1 : decode cX2_mark 1 = .ok (.getfield 13, 3) := by decide +kernel
theorem dX2_mark_4 : decode cX2_mark 4 = .ok (.aload_n 0, 1) := by decide +kernel
theorem dX2_mark_5 : decode cX2_mark 5 = .ok (.getfield 18, 3) := by decide +kernel
theorem dX2_mark_8 : decode cX2_mark 8 = .ok (.aaload, 1) := by decide +kernel
theorem dX2_mark_9 : decode cX2_mark 9 = .ok (.aload_n 1, 1) := by decide +kernel
theorem dX2_mark_10 : decode cX2_mark 10 = .ok (.invokevirtual 22, 3) := by decide +kernel
theorem dX2_mark_13 : decode cX2_mark 13 = .ok (.return_, 1) := by decide +kernel
theorem dX2_keepMark_0 : decode cX2_keepMark 0 = .ok (.aload_n 0, 1) := by decide +kernel
theorem dX2_keepMark_1 : decode cX2_keepMark 1 = .ok (.aload_n 0, 1) := by decide +kernel
theorem dX2_keepMark_2 : decode cX2_keepMark 2 = .ok (.getfield 18, 3) := by decide +kernel
theorem dX2_keepMark_5 : decode cX2_keepMark 5 = .ok (.iconst 1, 1) := by decide +kernel
theorem dX2_keepMark_6 : decode cX2_keepMark 6 = .ok (.iadd, 1) := by decide +kernel
theorem dX2_keepMark_7 : decode cX2_keepMark 7 = .ok (.bipush 6, 2) := by decide +kernel
theorem dX2_keepMark_9 : decode cX2_keepMark 9 = .ok (.irem, 1) := by decide +kernel
theorem dX2_keepMark_10 : decode cX2_keepMark 10 = .ok (.putfield 18, 3) := by decide +kernel
theorem dX2_keepMark_13 : decode cX2_keepMark 13 = .ok (.aload_n 0, 1) := by decide +kernel
theorem dX2_keepMark_14 : decode cX2_keepMark 14 = .ok (.aload_n 0, 1) := by decide +kernel
theorem dX2_keepMark_15 : decode cX2_keepMark 15 = .ok (.getfield 26, 3) := by decide +kernel
theorem dX2_keepMark_18 : decode cX2_keepMark 18 = .ok (.iconst 1, 1) := by decide +kernel
theorem dX2_keepMark_19 : decode cX2_keepMark 19 = .ok (.iadd, 1) := by decide +kernel
theorem dX2_keepMark_20 : decode cX2_keepMark 20 = .ok (.iconst 5, 1) := by decide +kernel
theorem dX2_keepMark_21 : decode cX2_keepMark 21 = .ok (.invokestatic 29, 3) := by decide +kernel
theorem dX2_keepMark_24 : decode cX2_keepMark 24 = .ok (.putfield 26, 3) := by decide +kernel
theorem dX2_keepMark_27 : decode cX2_keepMark 27 = .ok (.return_, 1) := by decide +kernel
theorem dX2_returnToMark_0 : decode cX2_returnToMark 0 = .ok (.aload_n 1, 1) := by decide +kernel
theorem dX2_returnToMark_1 : decode cX2_returnToMark 1 = .ok (.aload_n 0, 1) := by decide +kernel
theorem dX2_returnToMark_2 : decode cX2_returnToMark 2 = .ok (.getfield 13, 3) := by decide +kernel
theorem dX2_returnToMark_5 : decode cX2_returnToMark 5 = .ok (.aload_n 0, 1) := by decide +kernel
theorem dX2_returnToMark_6 : decode cX2_returnToMark 6 = .ok (.getfield 18, 3) := by decide +kernel
theorem dX2_returnToMark_9 : decode cX2_returnToMark 9 = .ok (.aaload, 1) := by decide +kernel
theorem dX2_returnToMark_10 : decode cX2_returnToMark 10 = .ok (.invokevirtual 22, 3) := by decide +kernel
theorem dX2_returnToMark_13 : decode cX2_returnToMark 13 = .ok (.return_, 1) := by decide +kernel
theorem dX2_takeBack_0 : decode cX2_takeBack 0 = .ok (.aload_n 0, 1) := by decide +kernel
theorem dX2_takeBack_1 : decode cX2_takeBack 1 = .ok (.getfield 26, 3) := by decide +kernel
theorem dX2_takeBack_4 : decode cX2_takeBack 4 = .ok (.ifCond .ne 6, 3) := by decide +kernel
theorem dX2_takeBack_7 : decode cX2_takeBack 7 = .ok (.bipush (-3), 2) := by decide +kernel
theorem dX2_takeBack_9 : decode cX2_takeBack 9 = .ok (.ireturn, 1) := by decide +kernel
theorem dX2_takeBack_10 : decode cX2_takeBack 10 = .ok (.aload_n 0, 1) := by decide +kernel
theorem dX2_takeBack_11 : decode cX2_takeBack 11 = .ok (.aload_n 0, 1) := by decide +kernel
theorem dX2_takeBack_12 : decode cX2_takeBack 12 = .ok (.getfield 18, 3) := by decide +kernel
theorem dX2_takeBack_15 : decode cX2_takeBack 15 = .ok (.bipush 6, 2) := by decide +kernel
theorem dX2_takeBack_17 : decode cX2_takeBack 17 = .ok (.iadd, 1) := by decide +kernel
theorem dX2_takeBack_18 : decode cX2_takeBack 18 = .ok (.iconst 1, 1) := by decide +kernel
theorem dX2_takeBack_19 : decode cX2_takeBack 19 = .ok (.isub, 1) := by decide +kernel
theorem dX2_takeBack_20 : decode cX2_takeBack 20 = .ok (.bipush 6, 2) := by decide +kernel
theorem dX2_takeBack_22 : decode cX2_takeBack 22 = .ok (.irem, 1) := by decide +kernel
theorem dX2_takeBack_23 : decode cX2_takeBack 23 = .ok (.putfield 18, 3) := by decide +kernel
theorem dX2_takeBack_26 : decode cX2_takeBack 26 = .ok (.aload_n 0, 1) := by decide +kernel
theorem dX2_takeBack_27 : decode cX2_takeBack 27 = .ok (.dup, 1) := by decide +kernel
theorem dX2_takeBack_28 : decode cX2_takeBack 28 = .ok (.getfield 26, 3) := by decide +kernel
theorem dX2_takeBack_31 : decode cX2_takeBack 31 = .ok (.iconst 1, 1) := by decide +kernel
theorem dX2_takeBack_32 : decode cX2_takeBack 32 = .ok (.isub, 1) := by decide +kernel
theorem dX2_takeBack_33 : decode cX2_takeBack 33 = .ok (.putfield 26, 3) := by decide +kernel
theorem dX2_takeBack_36 : decode cX2_takeBack 36 = .ok (.aload_n 0, 1) := by decide +kernel
theorem dX2_takeBack_37 : decode cX2_takeBack 37 = .ok (.aload_n 1, 1) := by decide +kernel
theorem dX2_takeBack_38 : decode cX2_takeBack 38 = .ok (.invokevirtual 35, 3) := by decide +kernel
theorem dX2_takeBack_41 : decode cX2_takeBack 41 = .ok (.aload_n 0, 1) := by decide +kernel
theorem dX2_takeBack_42 : decode cX2_takeBack 42 = .ok (.getfield 26, 3) := by decide +kernel
theorem dX2_takeBack_45 : decode cX2_takeBack 45 = .ok (.ireturn, 1) := by decide +kernel
theorem dX3_init_0 : decode cX3_init 0 = .ok (.aload_n 0, 1) := by decide +kernel
theorem dX3_init_1 : decode cX3_init 1 = .ok (.invokespecial 3, 3) := by decide +kernel
theorem dX3_init_4 : decode cX3_init 4 = .ok (.aload_n 0, 1) := by decide +kernel
theorem dX3_init_5 : decode cX3_init 5 = .ok (.bipush 8, 2) := by decide +kernel
theorem dX3_init_7 : decode cX3_init 7 = .ok (.newarray .int, 2) := by decide +kernel
theorem dX3_init_9 : decode cX3_init 9 = .ok (.putfield 9, 3) := by decide +kernel
theorem dX3_init_12 : decode cX3_init 12 = .ok (.aload_n 0, 1) := by decide +kernel
theorem dX3_init_13 : decode cX3_init 13 = .ok (.iconst 4, 1) := by decide +kernel
theorem dX3_init_14 : decode cX3_init 14 = .ok (.newarray .int, 2) := by decide +kernel
theorem dX3_init_16 : decode cX3_init 16 = .ok (.putfield 15, 3) := by decide +kernel
theorem dX3_init_19 : decode cX3_init 19 = .ok (.aload_n 0, 1) := by decide +kernel
theorem dX3_init_20 : decode cX3_init 20 = .ok (.aload_n 1, 1) := by decide +kernel
theorem dX3_init_21 : decode cX3_init 21 = .ok (.putfield 18, 3) := by decide +kernel
theorem dX3_init_24 : decode cX3_init 24 = .ok (.return_, 1) := by decide +kernel
theorem dX3_settleNow_0 : decode cX3_settleNow 0 = .ok (.aload_n 0, 1) := by decide +kernel
theorem dX3_settleNow_1 : decode cX3_settleNow 1 = .ok (.iconst 1, 1) := by decide +kernel
theorem dX3_settleNow_2 : decode cX3_settleNow 2 = .ok (.putfield 22, 3) := by decide +kernel
theorem dX3_settleNow_5 : decode cX3_settleNow 5 = .ok (.aload_n 0, 1) := by decide +kernel
theorem dX3_settleNow_6 : decode cX3_settleNow 6 = .ok (.aload_n 0, 1) := by decide +kernel
theorem dX3_settleNow_7 : decode cX3_settleNow 7 = .ok (.getfield 18, 3) := by decide +kernel
theorem dX3_settleNow_10 : decode cX3_settleNow 10 = .ok (.getfield 26, 3) := by decide +kernel
theorem dX3_settleNow_13 : decode cX3_settleNow 13 = .ok (.aload_n 0, 1) := by decide +kernel
theorem dX3_settleNow_14 : decode cX3_settleNow 14 = .ok (.getfield 18, 3) := by decide +kernel
theorem dX3_settleNow_17 : decode cX3_settleNow 17 = .ok (.getfield 31, 3) := by decide +kernel
theorem dX3_settleNow_20 : decode cX3_settleNow 20 = .ok (.invokevirtual 34, 3) := by decide +kernel
theorem dX3_settleNow_23 : decode cX3_settleNow 23 = .ok (.aload_n 0, 1) := by decide +kernel
theorem dX3_settleNow_24 : decode cX3_settleNow 24 = .ok (.invokevirtual 38, 3) := by decide +kernel
theorem dX3_settleNow_27 : decode cX3_settleNow 27 = .ok (.aload_n 0, 1) := by decide +kernel
theorem dX3_settleNow_28 : decode cX3_settleNow 28 = .ok (.aload_n 0, 1) := by decide +kernel
theorem dX3_settleNow_29 : decode cX3_settleNow 29 = .ok (.getfield 18, 3) := by decide +kernel
theorem dX3_settleNow_32 : decode cX3_settleNow 32 = .ok (.getfield 26, 3) := by decide +kernel
theorem dX3_settleNow_35 : decode cX3_settleNow 35 = .ok (.aload_n 0, 1) := by decide +kernel
theorem dX3_settleNow_36 : decode cX3_settleNow 36 = .ok (.getfield 18, 3) := by decide +kernel
theorem dX3_settleNow_39 : decode cX3_settleNow 39 = .ok (.getfield 31, 3) := by decide +kernel
theorem dX3_settleNow_42 : decode cX3_settleNow 42 = .ok (.invokevirtual 41, 3) := by decide +kernel
theorem dX3_settleNow_45 : decode cX3_settleNow 45 = .ok (.aload_n 0, 1) := by decide +kernel
theorem dX3_settleNow_46 : decode cX3_settleNow 46 = .ok (.aload_n 0, 1) := by decide +kernel
theorem dX3_settleNow_47 : decode cX3_settleNow 47 = .ok (.getfield 18, 3) := by decide +kernel
theorem dX3_settleNow_50 : decode cX3_settleNow 50 = .ok (.getfield 26, 3) := by decide +kernel
theorem dX3_settleNow_53 : decode cX3_settleNow 53 = .ok (.aload_n 0, 1) := by decide +kernel
theorem dX3_settleNow_54 : decode cX3_settleNow 54 = .ok (.getfield 18, 3) := by decide +kernel
theorem dX3_settleNow_57 : decode cX3_settleNow 57 = .ok (.getfield 31, 3) := by decide +kernel
theorem dX3_settleNow_60 : decode cX3_settleNow 60 = .ok (.invokevirtual 44, 3) := by decide +kernel
theorem dX3_settleNow_63 : decode cX3_settleNow 63 = .ok (.return_, 1) := by decide +kernel
theorem dX3_settleInTest_0 : decode cX3_settleInTest 0 = .ok (.aload_n 0, 1) := by decide +kernel
theorem dX3_settleInTest_1 : decode cX3_settleInTest 1 = .ok (.iload_n 2, 1) := by decide +kernel
theorem dX3_settleInTest_2 : decode cX3_settleInTest 2 = .ok (.putfield 22, 3) := by decide +kernel
theorem dX3_settleInTest_5 : decode cX3_settleInTest 5 = .ok (.aload_n 0, 1) := by decide +kernel
theorem dX3_settleInTest_6 : decode cX3_settleInTest 6 = .ok (.aload_n 3, 1) := by decide +kernel
theorem dX3_settleInTest_7 : decode cX3_settleInTest 7 = .ok (.iload 4, 2) := by decide +kernel
theorem dX3_settleInTest_9 : decode cX3_settleInTest 9 = .ok (.invokevirtual 34, 3) := by decide +kernel
theorem dX3_settleInTest_12 : decode cX3_settleInTest 12 = .ok (.aload_n 0, 1) := by decide +kernel
theorem dX3_settleInTest_13 : decode cX3_settleInTest 13 = .ok (.aload_n 1, 1) := by decide +kernel
theorem dX3_settleInTest_14 : decode cX3_settleInTest 14 = .ok (.aload_n 0, 1) := by decide +kernel
theorem dX3_settleInTest_15 : decode cX3_settleInTest 15 = .ok (.getfield 47, 3) := by decide +kernel
theorem dX3_settleInTest_18 : decode cX3_settleInTest 18 = .ok (.ifCond .eq 10, 3) := by decide +kernel
theorem dX3_settleInTest_21 : decode cX3_settleInTest 21 = .ok (.aload_n 0, 1) := by decide +kernel
theorem dX3_settleInTest_22 : decode cX3_settleInTest 22 = .ok (.invokevirtual 51, 3) := by decide +kernel
theorem dX3_settleInTest_25 : decode cX3_settleInTest 25 = .ok (.goto 10, 3) := by decide +kernel
theorem dX3_settleInTest_28 : decode cX3_settleInTest 28 = .ok (.aload_n 0, 1) := by decide +kernel
theorem dX3_settleInTest_29 : decode cX3_settleInTest 29 = .ok (.getfield 18, 3) := by decide +kernel
theorem dX3_settleInTest_32 : decode cX3_settleInTest 32 = .ok (.getfield 55, 3) := by decide +kernel
theorem dX3_settleInTest_35 : decode cX3_settleInTest 35 = .ok (.invokevirtual 58, 3) := by decide +kernel
theorem dX3_settleInTest_38 : decode cX3_settleInTest 38 = .ok (.aload_n 0, 1) := by decide +kernel
theorem dX3_settleInTest_39 : decode cX3_settleInTest 39 = .ok (.aload_n 3, 1) := by decide +kernel
theorem dX3_settleInTest_40 : decode cX3_settleInTest 40 = .ok (.iload 4, 2) := by decide +kernel
theorem dX3_settleInTest_42 : decode cX3_settleInTest 42 = .ok (.invokevirtual 41, 3) := by decide +kernel
theorem dX3_settleInTest_45 : decode cX3_settleInTest 45 = .ok (.aload_n 0, 1) := by decide +kernel
theorem dX3_settleInTest_46 : decode cX3_settleInTest 46 = .ok (.aload_n 3, 1) := by decide +kernel
theorem dX3_settleInTest_47 : decode cX3_settleInTest 47 = .ok (.iload 4, 2) := by decide +kernel
theorem dX3_settleInTest_49 : decode cX3_settleInTest 49 = .ok (.invokevirtual 44, 3) := by decide +kernel
theorem dX3_settleInTest_52 : decode cX3_settleInTest 52 = .ok (.return_, 1) := by decide +kernel
theorem dX3_findOpenCells_0 : decode cX3_findOpenCells 0 = .ok (.aload_n 0, 1) := by decide +kernel
theorem dX3_findOpenCells_1 : decode cX3_findOpenCells 1 = .ok (.iconst 0, 1) := by decide +kernel
theorem dX3_findOpenCells_2 : decode cX3_findOpenCells 2 = .ok (.putfield 47, 3) := by decide +kernel
theorem dX3_findOpenCells_5 : decode cX3_findOpenCells 5 = .ok (.iconst 0, 1) := by decide +kernel
theorem dX3_findOpenCells_6 : decode cX3_findOpenCells 6 = .ok (.istore_n 3, 1) := by decide +kernel
theorem dX3_findOpenCells_7 : decode cX3_findOpenCells 7 = .ok (.iload_n 3, 1) := by decide +kernel
theorem dX3_findOpenCells_8 : decode cX3_findOpenCells 8 = .ok (.iconst 4, 1) := by decide +kernel
theorem dX3_findOpenCells_9 : decode cX3_findOpenCells 9 = .ok (.if_icmp .ge 16, 3) := by decide +kernel
theorem dX3_findOpenCells_12 : decode cX3_findOpenCells 12 = .ok (.aload_n 0, 1) := by decide +kernel
theorem dX3_findOpenCells_13 : decode cX3_findOpenCells 13 = .ok (.getfield 15, 3) := by decide +kernel
theorem dX3_findOpenCells_16 : decode cX3_findOpenCells 16 = .ok (.iload_n 3, 1) := by decide +kernel
theorem dX3_findOpenCells_17 : decode cX3_findOpenCells 17 = .ok (.iconst 0, 1) := by decide +kernel
theorem dX3_findOpenCells_18 : decode cX3_findOpenCells 18 = .ok (.iastore, 1) := by decide +kernel
theorem dX3_findOpenCells_19 : decode cX3_findOpenCells 19 = .ok (.iinc 3 1, 3) := by decide +kernel
theorem dX3_findOpenCells_22 : decode cX3_findOpenCells 22 = .ok (.goto (-15), 3) := by decide +kernel
theorem dX3_findOpenCells_25 : decode cX3_findOpenCells 25 = .ok (.iconst 0, 1) := by decide +kernel
theorem dX3_findOpenCells_26 : decode cX3_findOpenCells 26 = .ok (.istore_n 3, 1) := by decide +kernel
theorem dX3_findOpenCells_27 : decode cX3_findOpenCells 27 = .ok (.iload_n 3, 1) := by decide +kernel
theorem dX3_findOpenCells_28 : decode cX3_findOpenCells 28 = .ok (.iload_n 2, 1) := by decide +kernel
theorem dX3_findOpenCells_29 : decode cX3_findOpenCells 29 = .ok (.if_icmp .ge 46, 3) := by decide +kernel
theorem dX3_findOpenCells_32 : decode cX3_findOpenCells 32 = .ok (.aload_n 1, 1) := by decide +kernel
theorem dX3_findOpenCells_33 : decode cX3_findOpenCells 33 = .ok (.iload_n 3, 1) := by decide +kernel
theorem dX3_findOpenCells_34 : decode cX3_findOpenCells 34 = .ok (.iaload, 1) := by decide +kernel
theorem dX3_findOpenCells_35 : decode cX3_findOpenCells 35 = .ok (.invokestatic 61, 3) := by decide +kernel
theorem dX3_findOpenCells_38 : decode cX3_findOpenCells 38 = .ok (.iconst 1, 1) := by decide +kernel
theorem dX3_findOpenCells_39 : decode cX3_findOpenCells 39 = .ok (.if_icmp .ne 30, 3) := by decide +kernel
theorem dX3_findOpenCells_42 : decode cX3_findOpenCells 42 = .ok (.aload_n 0, 1) := by decide +kernel
theorem dX3_findOpenCells_43 : decode cX3_findOpenCells 43 = .ok (.iconst 1, 1) := by decide +kernel
theorem dX3_findOpenCells_44 : decode cX3_findOpenCells 44 = .ok (.putfield 47, 3) := by decide +kernel
theorem dX3_findOpenCells_47 : decode cX3_findOpenCells 47 = .ok (.aload_n 0, 1) := by decide +kernel
theorem dX3_findOpenCells_48 : decode cX3_findOpenCells 48 = .ok (.getfield 15, 3) := by decide +kernel
theorem dX3_findOpenCells_51 : decode cX3_findOpenCells 51 = .ok (.aload_n 1, 1) := by decide +kernel
theorem dX3_findOpenCells_52 : decode cX3_findOpenCells 52 = .ok (.iload_n 3, 1) := by decide +kernel
theorem dX3_findOpenCells_53 : decode cX3_findOpenCells 53 = .ok (.iaload, 1) := by decide +kernel
theorem dX3_findOpenCells_54 : decode cX3_findOpenCells 54 = .ok (.invokestatic 65, 3) := by decide +kernel
theorem dX3_findOpenCells_57 : decode cX3_findOpenCells 57 = .ok (.dup2, 1) := by decide +kernel
theorem dX3_findOpenCells_58 : decode cX3_findOpenCells 58 = .ok (.iaload, 1) := by decide +kernel
theorem dX3_findOpenCells_59 : decode cX3_findOpenCells 59 = .ok (.iconst 1, 1) := by decide +kernel
theorem dX3_findOpenCells_60 : decode cX3_findOpenCells 60 = .ok (.aload_n 1, 1) := by decide +kernel
theorem dX3_findOpenCells_61 : decode cX3_findOpenCells 61 = .ok (.iload_n 3, 1) := by decide +kernel
theorem dX3_findOpenCells_62 : decode cX3_findOpenCells 62 = .ok (.iaload, 1) := by decide +kernel
theorem dX3_findOpenCells_63 : decode cX3_findOpenCells 63 = .ok (.invokestatic 68, 3) := by decide +kernel
theorem dX3_findOpenCells_66 : decode cX3_findOpenCells 66 = .ok (.ishl, 1) := by decide +kernel
theorem dX3_findOpenCells_67 : decode cX3_findOpenCells 67 = .ok (.ior, 1) := by decide +kernel
theorem dX3_findOpenCells_68 : decode cX3_findOpenCells 68 = .ok (.iastore, 1) := by decide +kernel
theorem dX3_findOpenCells_69 : decode cX3_findOpenCells 69 = .ok (.iinc 3 1, 3) := by decide +kernel
theorem dX3_findOpenCells_72 : decode cX3_findOpenCells 72 = .ok (.goto (-45), 3) := by decide +kernel
theorem dX3_findOpenCells_75 : decode cX3_findOpenCells 75 = .ok (.return_, 1) := by decide +kernel
theorem dX3_soundOutputs_0 : decode cX3_soundOutputs 0 = .ok (.aload_n 0, 1) := by decide +kernel
theorem dX3_soundOutputs_1 : decode cX3_soundOutputs 1 = .ok (.getfield 18, 3) := by decide +kernel
theorem dX3_soundOutputs_4 : decode cX3_soundOutputs 4 = .ok (.getfield 71, 3) := by decide +kernel
theorem dX3_soundOutputs_7 : decode cX3_soundOutputs 7 = .ok (.iload_n 1, 1) := by decide +kernel
theorem dX3_soundOutputs_8 : decode cX3_soundOutputs 8 = .ok (.aaload, 1) := by decide +kernel
theorem dX3_soundOutputs_9 : decode cX3_soundOutputs 9 = .ok (.getfield 75, 3) := by decide +kernel
theorem dX3_soundOutputs_12 : decode cX3_soundOutputs 12 = .ok (.aload_n 0, 1) := by decide +kernel
theorem dX3_soundOutputs_13 : decode cX3_soundOutputs 13 = .ok (.getfield 15, 3) := by decide +kernel
theorem dX3_soundOutputs_16 : decode cX3_soundOutputs 16 = .ok (.iload_n 1, 1) := by decide +kernel
theorem dX3_soundOutputs_17 : decode cX3_soundOutputs 17 = .ok (.iaload, 1) := by decide +kernel
theorem dX3_soundOutputs_18 : decode cX3_soundOutputs 18 = .ok (.iconst (-1), 1) := by decide +kernel
theorem dX3_soundOutputs_19 : decode cX3_soundOutputs 19 = .ok (.ixor, 1) := by decide +kernel
theorem dX3_soundOutputs_20 : decode cX3_soundOutputs 20 = .ok (.iand, 1) := by decide +kernel
theorem dX3_soundOutputs_21 : decode cX3_soundOutputs 21 = .ok (.ireturn, 1) := by decide +kernel
theorem dX3_driveByLatches_0 : decode cX3_driveByLatches 0 = .ok (.iconst 0, 1) := by decide +kernel
theorem dX3_driveByLatches_1 : decode cX3_driveByLatches 1 = .ok (.istore_n 1, 1) := by decide +kernel
theorem dX3_driveByLatches_2 : decode cX3_driveByLatches 2 = .ok (.iconst 0, 1) := by decide +kernel
theorem dX3_driveByLatches_3 : decode cX3_driveByLatches 3 = .ok (.istore_n 2, 1) := by decide +kernel
theorem dX3_driveByLatches_4 : decode cX3_driveByLatches 4 = .ok (.iconst 0, 1) := by decide +kernel
theorem dX3_driveByLatches_5 : decode cX3_driveByLatches 5 = .ok (.istore_n 3, 1) := by decide +kernel
theorem dX3_driveByLatches_6 : decode cX3_driveByLatches 6 = .ok (.iload_n 3, 1) := by decide +kernel
theorem dX3_driveByLatches_7 : decode cX3_driveByLatches 7 = .ok (.aload_n 0, 1) := by decide +kernel
theorem dX3_driveByLatches_8 : decode cX3_driveByLatches 8 = .ok (.getfield 18, 3) := by decide +kernel
theorem dX3_driveByLatches_11 : decode cX3_driveByLatches 11 = .ok (.getfield 80, 3) := by decide +kernel
theorem dX3_driveByLatches_14 : decode cX3_driveByLatches 14 = .ok (.if_icmp .ge 113, 3) := by decide +kernel
theorem dX3_driveByLatches_17 : decode cX3_driveByLatches 17 = .ok (.aload_n 0, 1) := by decide +kernel
theorem dX3_driveByLatches_18 : decode cX3_driveByLatches 18 = .ok (.getfield 18, 3) := by decide +kernel
theorem dX3_driveByLatches_21 : decode cX3_driveByLatches 21 = .ok (.getfield 71, 3) := by decide +kernel
theorem dX3_driveByLatches_24 : decode cX3_driveByLatches 24 = .ok (.iload_n 3, 1) := by decide +kernel
theorem dX3_driveByLatches_25 : decode cX3_driveByLatches 25 = .ok (.aaload, 1) := by decide +kernel
theorem dX3_driveByLatches_26 : decode cX3_driveByLatches 26 = .ok (.astore 4, 2) := by decide +kernel
theorem dX3_driveByLatches_28 : decode cX3_driveByLatches 28 = .ok (.aload 4, 2) := by decide +kernel
theorem dX3_driveByLatches_30 : decode cX3_driveByLatches 30 = .ok (.getfield 83, 3) := by decide +kernel
theorem dX3_driveByLatches_33 : decode cX3_driveByLatches 33 = .ok (.ifCond .ne 11, 3) := by decide +kernel
theorem dX3_driveByLatches_36 : decode cX3_driveByLatches 36 = .ok (.aload_n 0, 1) := by decide +kernel
theorem dX3_driveByLatches_37 : decode cX3_driveByLatches 37 = .ok (.iload_n 3, 1) := by decide +kernel
theorem dX3_driveByLatches_38 : decode cX3_driveByLatches 38 = .ok (.invokevirtual 86, 3) := by decide +kernel
theorem dX3_driveByLatches_41 : decode cX3_driveByLatches 41 = .ok (.goto 4, 3) := by decide +kernel
theorem dX3_driveByLatches_44 : decode cX3_driveByLatches 44 = .ok (.iconst 0, 1) := by decide +kernel
theorem dX3_driveByLatches_45 : decode cX3_driveByLatches 45 = .ok (.istore 5, 2) := by decide +kernel
theorem dX3_driveByLatches_47 : decode cX3_driveByLatches 47 = .ok (.iconst 0, 1) := by decide +kernel
theorem dX3_driveByLatches_48 : decode cX3_driveByLatches 48 = .ok (.istore 6, 2) := by decide +kernel
theorem dX3_driveByLatches_50 : decode cX3_driveByLatches 50 = .ok (.iload 6, 2) := by decide +kernel
theorem dX3_driveByLatches_52 : decode cX3_driveByLatches 52 = .ok (.aload 4, 2) := by decide +kernel
theorem dX3_driveByLatches_54 : decode cX3_driveByLatches 54 = .ok (.getfield 89, 3) := by decide +kernel
theorem dX3_driveByLatches_57 : decode cX3_driveByLatches 57 = .ok (.if_icmp .ge 64, 3) := by decide +kernel
theorem dX3_driveByLatches_60 : decode cX3_driveByLatches 60 = .ok (.iload 5, 2) := by decide +kernel
theorem dX3_driveByLatches_62 : decode cX3_driveByLatches 62 = .ok (.aload 4, 2) := by decide +kernel
theorem dX3_driveByLatches_64 : decode cX3_driveByLatches 64 = .ok (.getfield 92, 3) := by decide +kernel
theorem dX3_driveByLatches_67 : decode cX3_driveByLatches 67 = .ok (.iand, 1) := by decide +kernel
theorem dX3_driveByLatches_68 : decode cX3_driveByLatches 68 = .ok (.iload 6, 2) := by decide +kernel
theorem dX3_driveByLatches_70 : decode cX3_driveByLatches 70 = .ok (.invokestatic 95, 3) := by decide +kernel
theorem dX3_driveByLatches_73 : decode cX3_driveByLatches 73 = .ok (.ifCond .eq 19, 3) := by decide +kernel
theorem dX3_driveByLatches_76 : decode cX3_driveByLatches 76 = .ok (.iload_n 2, 1) := by decide +kernel
theorem dX3_driveByLatches_77 : decode cX3_driveByLatches 77 = .ok (.iconst 1, 1) := by decide +kernel
theorem dX3_driveByLatches_78 : decode cX3_driveByLatches 78 = .ok (.aload 4, 2) := by decide +kernel
theorem dX3_driveByLatches_80 : decode cX3_driveByLatches 80 = .ok (.getfield 99, 3) := by decide +kernel
theorem dX3_driveByLatches_83 : decode cX3_driveByLatches 83 = .ok (.iload 6, 2) := by decide +kernel
theorem dX3_driveByLatches_85 : decode cX3_driveByLatches 85 = .ok (.iaload, 1) := by decide +kernel
theorem dX3_driveByLatches_86 : decode cX3_driveByLatches 86 = .ok (.ishl, 1) := by decide +kernel
theorem dX3_driveByLatches_87 : decode cX3_driveByLatches 87 = .ok (.ior, 1) := by decide +kernel
theorem dX3_driveByLatches_88 : decode cX3_driveByLatches 88 = .ok (.istore_n 2, 1) := by decide +kernel
theorem dX3_driveByLatches_89 : decode cX3_driveByLatches 89 = .ok (.goto 26, 3) := by decide +kernel
theorem dX3_driveByLatches_92 : decode cX3_driveByLatches 92 = .ok (.iload 5, 2) := by decide +kernel
theorem dX3_driveByLatches_94 : decode cX3_driveByLatches 94 = .ok (.iload 6, 2) := by decide +kernel
theorem dX3_driveByLatches_96 : decode cX3_driveByLatches 96 = .ok (.invokestatic 95, 3) := by decide +kernel
theorem dX3_driveByLatches_99 : decode cX3_driveByLatches 99 = .ok (.ifCond .eq 16, 3) := by decide +kernel
theorem dX3_driveByLatches_102 : decode cX3_driveByLatches 102 = .ok (.iload_n 1, 1) := by decide +kernel
theorem dX3_driveByLatches_103 : decode cX3_driveByLatches 103 = .ok (.iconst 1, 1) := by decide +kernel
theorem dX3_driveByLatches_104 : decode cX3_driveByLatches 104 = .ok (.aload 4, 2) := by decide +kernel
theorem dX3_driveByLatches_106 : decode cX3_driveByLatches 106 = .ok (.getfield 99, 3) := by decide +kernel
theorem dX3_driveByLatches_109 : decode cX3_driveByLatches 109 = .ok (.iload 6, 2) := by decide +kernel
theorem dX3_driveByLatches_111 : decode cX3_driveByLatches 111 = .ok (.iaload, 1) := by decide +kernel
theorem dX3_driveByLatches_112 : decode cX3_driveByLatches 112 = .ok (.ishl, 1) := by decide +kernel
theorem dX3_driveByLatches_113 : decode cX3_driveByLatches 113 = .ok (.ior, 1) := by decide +kernel
theorem dX3_driveByLatches_114 : decode cX3_driveByLatches 114 = .ok (.istore_n 1, 1) := by decide +kernel
theorem dX3_driveByLatches_115 : decode cX3_driveByLatches 115 = .ok (.iinc 6 1, 3) := by decide +kernel
theorem dX3_driveByLatches_118 : decode cX3_driveByLatches 118 = .ok (.goto (-68), 3) := by decide +kernel
theorem dX3_driveByLatches_121 : decode cX3_driveByLatches 121 = .ok (.iinc 3 1, 3) := by decide +kernel
theorem dX3_driveByLatches_124 : decode cX3_driveByLatches 124 = .ok (.goto (-118), 3) := by decide +kernel
theorem dX3_driveByLatches_127 : decode cX3_driveByLatches 127 = .ok (.aload_n 0, 1) := by decide +kernel
theorem dX3_driveByLatches_128 : decode cX3_driveByLatches 128 = .ok (.iload_n 1, 1) := by decide +kernel
theorem dX3_driveByLatches_129 : decode cX3_driveByLatches 129 = .ok (.iload_n 2, 1) := by decide +kernel
theorem dX3_driveByLatches_130 : decode cX3_driveByLatches 130 = .ok (.iand, 1) := by decide +kernel
theorem dX3_driveByLatches_131 : decode cX3_driveByLatches 131 = .ok (.putfield 102, 3) := by decide +kernel
theorem dX3_driveByLatches_134 : decode cX3_driveByLatches 134 = .ok (.iconst 0, 1) := by decide +kernel
theorem dX3_driveByLatches_135 : decode cX3_driveByLatches 135 = .ok (.istore_n 3, 1) := by decide +kernel
theorem dX3_driveByLatches_136 : decode cX3_driveByLatches 136 = .ok (.iload_n 3, 1) := by decide +kernel
theorem dX3_driveByLatches_137 : decode cX3_driveByLatches 137 = .ok (.bipush 8, 2) := by decide +kernel
theorem dX3_driveByLatches_139 : decode cX3_driveByLatches 139 = .ok (.if_icmp .ge 28, 3) := by decide +kernel
theorem dX3_driveByLatches_142 : decode cX3_driveByLatches 142 = .ok (.aload_n 0, 1) := by decide +kernel
theorem dX3_driveByLatches_143 : decode cX3_driveByLatches 143 = .ok (.getfield 9, 3) := by decide +kernel
theorem dX3_driveByLatches_146 : decode cX3_driveByLatches 146 = .ok (.iload_n 3, 1) := by decide +kernel
theorem dX3_driveByLatches_147 : decode cX3_driveByLatches 147 = .ok (.iload_n 1, 1) := by decide +kernel
theorem dX3_driveByLatches_148 : decode cX3_driveByLatches 148 = .ok (.iload_n 3, 1) := by decide +kernel
theorem dX3_driveByLatches_149 : decode cX3_driveByLatches 149 = .ok (.invokestatic 95, 3) := by decide +kernel
theorem dX3_driveByLatches_152 : decode cX3_driveByLatches 152 = .ok (.ifCond .eq 7, 3) := by decide +kernel
theorem dX3_driveByLatches_155 : decode cX3_driveByLatches 155 = .ok (.iconst 0, 1) := by decide +kernel
theorem dX3_driveByLatches_156 : decode cX3_driveByLatches 156 = .ok (.goto 4, 3) := by decide +kernel
theorem dX3_driveByLatches_159 : decode cX3_driveByLatches 159 = .ok (.iconst 1, 1) := by decide +kernel
theorem dX3_driveByLatches_160 : decode cX3_driveByLatches 160 = .ok (.iastore, 1) := by decide +kernel
theorem dX3_driveByLatches_161 : decode cX3_driveByLatches 161 = .ok (.iinc 3 1, 3) := by decide +kernel
theorem dX3_driveByLatches_164 : decode cX3_driveByLatches 164 = .ok (.goto (-28), 3) := by decide +kernel
theorem dX3_driveByLatches_167 : decode cX3_driveByLatches 167 = .ok (.return_, 1) := by decide +kernel
theorem dX3_netsOfSoundOutputs_0 : decode cX3_netsOfSoundOutputs 0 = .ok (.iconst 0, 1) := by decide +kernel
theorem dX3_netsOfSoundOutputs_1 : decode cX3_netsOfSoundOutputs 1 = .ok (.istore_n 1, 1) := by decide +kernel
theorem dX3_netsOfSoundOutputs_2 : decode cX3_netsOfSoundOutputs 2 = .ok (.iconst 0, 1) := by decide +kernel
theorem dX3_netsOfSoundOutputs_3 : decode cX3_netsOfSoundOutputs 3 = .ok (.istore_n 2, 1) := by decide +kernel
theorem dX3_netsOfSoundOutputs_4 : decode cX3_netsOfSoundOutputs 4 = .ok (.iload_n 2, 1) := by decide +kernel
theorem dX3_netsOfSoundOutputs_5 : decode cX3_netsOfSoundOutputs 5 = .ok (.aload_n 0, 1) := by decide +kernel
theorem dX3_netsOfSoundOutputs_6 : decode cX3_netsOfSoundOutputs 6 = .ok (.getfield 18, 3) := by decide +kernel
theorem dX3_netsOfSoundOutputs_9 : decode cX3_netsOfSoundOutputs 9 = .ok (.getfield 80, 3) := by decide +kernel
theorem dX3_netsOfSoundOutputs_12 : decode cX3_netsOfSoundOutputs 12 = .ok (.if_icmp .ge 66, 3) := by decide +kernel
theorem dX3_netsOfSoundOutputs_15 : decode cX3_netsOfSoundOutputs 15 = .ok (.aload_n 0, 1) := by decide +kernel
theorem dX3_netsOfSoundOutputs_16 : decode cX3_netsOfSoundOutputs 16 = .ok (.getfield 18, 3) := by decide +kernel
theorem dX3_netsOfSoundOutputs_19 : decode cX3_netsOfSoundOutputs 19 = .ok (.getfield 71, 3) := by decide +kernel
theorem dX3_netsOfSoundOutputs_22 : decode cX3_netsOfSoundOutputs 22 = .ok (.iload_n 2, 1) := by decide +kernel
theorem dX3_netsOfSoundOutputs_23 : decode cX3_netsOfSoundOutputs 23 = .ok (.aaload, 1) := by decide +kernel
theorem dX3_netsOfSoundOutputs_24 : decode cX3_netsOfSoundOutputs 24 = .ok (.astore_n 3, 1) := by decide +kernel
theorem dX3_netsOfSoundOutputs_25 : decode cX3_netsOfSoundOutputs 25 = .ok (.aload_n 0, 1) := by decide +kernel
theorem dX3_netsOfSoundOutputs_26 : decode cX3_netsOfSoundOutputs 26 = .ok (.iload_n 2, 1) := by decide +kernel
theorem dX3_netsOfSoundOutputs_27 : decode cX3_netsOfSoundOutputs 27 = .ok (.invokevirtual 86, 3) := by decide +kernel
theorem dX3_netsOfSoundOutputs_30 : decode cX3_netsOfSoundOutputs 30 = .ok (.istore 4, 2) := by decide +kernel
theorem dX3_netsOfSoundOutputs_32 : decode cX3_netsOfSoundOutputs 32 = .ok (.iconst 0, 1) := by decide +kernel
theorem dX3_netsOfSoundOutputs_33 : decode cX3_netsOfSoundOutputs 33 = .ok (.istore 5, 2) := by decide +kernel
theorem dX3_netsOfSoundOutputs_35 : decode cX3_netsOfSoundOutputs 35 = .ok (.iload 5, 2) := by decide +kernel
theorem dX3_netsOfSoundOutputs_37 : decode cX3_netsOfSoundOutputs 37 = .ok (.aload_n 3, 1) := by decide +kernel
theorem dX3_netsOfSoundOutputs_38 : decode cX3_netsOfSoundOutputs 38 = .ok (.getfield 89, 3) := by decide +kernel
theorem dX3_netsOfSoundOutputs_41 : decode cX3_netsOfSoundOutputs 41 = .ok (.if_icmp .ge 31, 3) := by decide +kernel
theorem dX3_netsOfSoundOutputs_44 : decode cX3_netsOfSoundOutputs 44 = .ok (.iload 4, 2) := by decide +kernel
theorem dX3_netsOfSoundOutputs_46 : decode cX3_netsOfSoundOutputs 46 = .ok (.iload 5, 2) := by decide +kernel
theorem dX3_netsOfSoundOutputs_48 : decode cX3_netsOfSoundOutputs 48 = .ok (.invokestatic 95, 3) := by decide +kernel
theorem dX3_netsOfSoundOutputs_51 : decode cX3_netsOfSoundOutputs 51 = .ok (.ifCond .eq 15, 3) := by decide +kernel
theorem dX3_netsOfSoundOutputs_54 : decode cX3_netsOfSoundOutputs 54 = .ok (.iload_n 1, 1) := by decide +kernel
theorem dX3_netsOfSoundOutputs_55 : decode cX3_netsOfSoundOutputs 55 = .ok (.iconst 1, 1) := by decide +kernel
theorem dX3_netsOfSoundOutputs_56 : decode cX3_netsOfSoundOutputs 56 = .ok (.aload_n 3, 1) := by decide +kernel
theorem dX3_netsOfSoundOutputs_57 : decode cX3_netsOfSoundOutputs 57 = .ok (.getfield 99, 3) := by decide +kernel
theorem dX3_netsOfSoundOutputs_60 : decode cX3_netsOfSoundOutputs 60 = .ok (.iload 5, 2) := by decide +kernel
theorem dX3_netsOfSoundOutputs_62 : decode cX3_netsOfSoundOutputs 62 = .ok (.iaload, 1) := by decide +kernel
theorem dX3_netsOfSoundOutputs_63 : decode cX3_netsOfSoundOutputs 63 = .ok (.ishl, 1) := by decide +kernel
theorem dX3_netsOfSoundOutputs_64 : decode cX3_netsOfSoundOutputs 64 = .ok (.ior, 1) := by decide +kernel
theorem dX3_netsOfSoundOutputs_65 : decode cX3_netsOfSoundOutputs 65 = .ok (.istore_n 1, 1) := by decide +kernel
theorem dX3_netsOfSoundOutputs_66 : decode cX3_netsOfSoundOutputs 66 = .ok (.iinc 5 1, 3) := by decide +kernel
theorem dX3_netsOfSoundOutputs_69 : decode cX3_netsOfSoundOutputs 69 = .ok (.goto (-34), 3) := by decide +kernel
theorem dX3_netsOfSoundOutputs_72 : decode cX3_netsOfSoundOutputs 72 = .ok (.iinc 2 1, 3) := by decide +kernel
theorem dX3_netsOfSoundOutputs_75 : decode cX3_netsOfSoundOutputs 75 = .ok (.goto (-71), 3) := by decide +kernel
theorem dX3_netsOfSoundOutputs_78 : decode cX3_netsOfSoundOutputs 78 = .ok (.iload_n 1, 1) := by decide +kernel
theorem dX3_netsOfSoundOutputs_79 : decode cX3_netsOfSoundOutputs 79 = .ok (.ireturn, 1) := by decide +kernel
theorem dX3_driveByStimuli_0 : decode cX3_driveByStimuli 0 = .ok (.iconst 0, 1) := by decide +kernel
theorem dX3_driveByStimuli_1 : decode cX3_driveByStimuli 1 = .ok (.istore_n 3, 1) := by decide +kernel
theorem dX3_driveByStimuli_2 : decode cX3_driveByStimuli 2 = .ok (.iload_n 3, 1) := by decide +kernel
theorem dX3_driveByStimuli_3 : decode cX3_driveByStimuli 3 = .ok (.bipush 8, 2) := by decide +kernel
theorem dX3_driveByStimuli_5 : decode cX3_driveByStimuli 5 = .ok (.if_icmp .ge 33, 3) := by decide +kernel
theorem dX3_driveByStimuli_8 : decode cX3_driveByStimuli 8 = .ok (.aload_n 0, 1) := by decide +kernel
theorem dX3_driveByStimuli_9 : decode cX3_driveByStimuli 9 = .ok (.getfield 9, 3) := by decide +kernel
theorem dX3_driveByStimuli_12 : decode cX3_driveByStimuli 12 = .ok (.iload_n 3, 1) := by decide +kernel
theorem dX3_driveByStimuli_13 : decode cX3_driveByStimuli 13 = .ok (.iload_n 2, 1) := by decide +kernel
theorem dX3_driveByStimuli_14 : decode cX3_driveByStimuli 14 = .ok (.iload_n 3, 1) := by decide +kernel
theorem dX3_driveByStimuli_15 : decode cX3_driveByStimuli 15 = .ok (.invokestatic 95, 3) := by decide +kernel
theorem dX3_driveByStimuli_18 : decode cX3_driveByStimuli 18 = .ok (.ifCond .eq 9, 3) := by decide +kernel
theorem dX3_driveByStimuli_21 : decode cX3_driveByStimuli 21 = .ok (.aload_n 1, 1) := by decide +kernel
theorem dX3_driveByStimuli_22 : decode cX3_driveByStimuli 22 = .ok (.iload_n 3, 1) := by decide +kernel
theorem dX3_driveByStimuli_23 : decode cX3_driveByStimuli 23 = .ok (.iaload, 1) := by decide +kernel
theorem dX3_driveByStimuli_24 : decode cX3_driveByStimuli 24 = .ok (.goto 7, 3) := by decide +kernel
theorem dX3_driveByStimuli_27 : decode cX3_driveByStimuli 27 = .ok (.aload_n 0, 1) := by decide +kernel
theorem dX3_driveByStimuli_28 : decode cX3_driveByStimuli 28 = .ok (.getfield 22, 3) := by decide +kernel
theorem dX3_driveByStimuli_31 : decode cX3_driveByStimuli 31 = .ok (.iastore, 1) := by decide +kernel
theorem dX3_driveByStimuli_32 : decode cX3_driveByStimuli 32 = .ok (.iinc 3 1, 3) := by decide +kernel
theorem dX3_driveByStimuli_35 : decode cX3_driveByStimuli 35 = .ok (.goto (-33), 3) := by decide +kernel
theorem dX3_driveByStimuli_38 : decode cX3_driveByStimuli 38 = .ok (.return_, 1) := by decide +kernel
theorem dX3_applyShorts_0 : decode cX3_applyShorts 0 = .ok (.iconst 0, 1) := by decide +kernel
theorem dX3_applyShorts_1 : decode cX3_applyShorts 1 = .ok (.istore_n 3, 1) := by decide +kernel
theorem dX3_applyShorts_2 : decode cX3_applyShorts 2 = .ok (.iload_n 3, 1) := by decide +kernel
theorem dX3_applyShorts_3 : decode cX3_applyShorts 3 = .ok (.iload_n 2, 1) := by decide +kernel
theorem dX3_applyShorts_4 : decode cX3_applyShorts 4 = .ok (.if_icmp .ge 104, 3) := by decide +kernel
theorem dX3_applyShorts_7 : decode cX3_applyShorts 7 = .ok (.aload_n 1, 1) := by decide +kernel
theorem dX3_applyShorts_8 : decode cX3_applyShorts 8 = .ok (.iload_n 3, 1) := by decide +kernel
theorem dX3_applyShorts_9 : decode cX3_applyShorts 9 = .ok (.iaload, 1) := by decide +kernel
theorem dX3_applyShorts_10 : decode cX3_applyShorts 10 = .ok (.invokestatic 61, 3) := by decide +kernel
theorem dX3_applyShorts_13 : decode cX3_applyShorts 13 = .ok (.istore 4, 2) := by decide +kernel
theorem dX3_applyShorts_15 : decode cX3_applyShorts 15 = .ok (.iload 4, 2) := by decide +kernel
theorem dX3_applyShorts_17 : decode cX3_applyShorts 17 = .ok (.iconst 3, 1) := by decide +kernel
theorem dX3_applyShorts_18 : decode cX3_applyShorts 18 = .ok (.if_icmp .eq 9, 3) := by decide +kernel
theorem dX3_applyShorts_21 : decode cX3_applyShorts 21 = .ok (.iload 4, 2) := by decide +kernel
theorem dX3_applyShorts_23 : decode cX3_applyShorts 23 = .ok (.iconst 4, 1) := by decide +kernel
theorem dX3_applyShorts_24 : decode cX3_applyShorts 24 = .ok (.if_icmp .ne 78, 3) := by decide +kernel
theorem dX3_applyShorts_27 : decode cX3_applyShorts 27 = .ok (.aload_n 1, 1) := by decide +kernel
theorem dX3_applyShorts_28 : decode cX3_applyShorts 28 = .ok (.iload_n 3, 1) := by decide +kernel
theorem dX3_applyShorts_29 : decode cX3_applyShorts 29 = .ok (.iaload, 1) := by decide +kernel
theorem dX3_applyShorts_30 : decode cX3_applyShorts 30 = .ok (.invokestatic 65, 3) := by decide +kernel
theorem dX3_applyShorts_33 : decode cX3_applyShorts 33 = .ok (.istore 5, 2) := by decide +kernel
theorem dX3_applyShorts_35 : decode cX3_applyShorts 35 = .ok (.aload_n 1, 1) := by decide +kernel
theorem dX3_applyShorts_36 : decode cX3_applyShorts 36 = .ok (.iload_n 3, 1) := by decide +kernel
theorem dX3_applyShorts_37 : decode cX3_applyShorts 37 = .ok (.iaload, 1) := by decide +kernel
theorem dX3_applyShorts_38 : decode cX3_applyShorts 38 = .ok (.invokestatic 68, 3) := by decide +kernel
theorem dX3_applyShorts_41 : decode cX3_applyShorts 41 = .ok (.istore 6, 2) := by decide +kernel
theorem dX3_applyShorts_43 : decode cX3_applyShorts 43 = .ok (.iload 4, 2) := by decide +kernel
theorem dX3_applyShorts_45 : decode cX3_applyShorts 45 = .ok (.iconst 3, 1) := by decide +kernel
theorem dX3_applyShorts_46 : decode cX3_applyShorts 46 = .ok (.if_icmp .ne 21, 3) := by decide +kernel
theorem dX3_applyShorts_49 : decode cX3_applyShorts 49 = .ok (.aload_n 0, 1) := by decide +kernel
theorem dX3_applyShorts_50 : decode cX3_applyShorts 50 = .ok (.getfield 9, 3) := by decide +kernel
theorem dX3_applyShorts_53 : decode cX3_applyShorts 53 = .ok (.iload 5, 2) := by decide +kernel
theorem dX3_applyShorts_55 : decode cX3_applyShorts 55 = .ok (.iaload, 1) := by decide +kernel
theorem dX3_applyShorts_56 : decode cX3_applyShorts 56 = .ok (.aload_n 0, 1) := by decide +kernel
theorem dX3_applyShorts_57 : decode cX3_applyShorts 57 = .ok (.getfield 9, 3) := by decide +kernel
theorem dX3_applyShorts_60 : decode cX3_applyShorts 60 = .ok (.iload 6, 2) := by decide +kernel
theorem dX3_applyShorts_62 : decode cX3_applyShorts 62 = .ok (.iaload, 1) := by decide +kernel
theorem dX3_applyShorts_63 : decode cX3_applyShorts 63 = .ok (.iand, 1) := by decide +kernel
theorem dX3_applyShorts_64 : decode cX3_applyShorts 64 = .ok (.goto 18, 3) := by decide +kernel
theorem dX3_applyShorts_67 : decode cX3_applyShorts 67 = .ok (.aload_n 0, 1) := by decide +kernel
theorem dX3_applyShorts_68 : decode cX3_applyShorts 68 = .ok (.getfield 9, 3) := by decide +kernel
theorem dX3_applyShorts_71 : decode cX3_applyShorts 71 = .ok (.iload 5, 2) := by decide +kernel
theorem dX3_applyShorts_73 : decode cX3_applyShorts 73 = .ok (.iaload, 1) := by decide +kernel
theorem dX3_applyShorts_74 : decode cX3_applyShorts 74 = .ok (.aload_n 0, 1) := by decide +kernel
theorem dX3_applyShorts_75 : decode cX3_applyShorts 75 = .ok (.getfield 9, 3) := by decide +kernel
theorem dX3_applyShorts_78 : decode cX3_applyShorts 78 = .ok (.iload 6, 2) := by decide +kernel
theorem dX3_applyShorts_80 : decode cX3_applyShorts 80 = .ok (.iaload, 1) := by decide +kernel
theorem dX3_applyShorts_81 : decode cX3_applyShorts 81 = .ok (.ior, 1) := by decide +kernel
theorem dX3_applyShorts_82 : decode cX3_applyShorts 82 = .ok (.istore 7, 2) := by decide +kernel
theorem dX3_applyShorts_84 : decode cX3_applyShorts 84 = .ok (.aload_n 0, 1) := by decide +kernel
theorem dX3_applyShorts_85 : decode cX3_applyShorts 85 = .ok (.getfield 9, 3) := by decide +kernel
theorem dX3_applyShorts_88 : decode cX3_applyShorts 88 = .ok (.iload 5, 2) := by decide +kernel
theorem dX3_applyShorts_90 : decode cX3_applyShorts 90 = .ok (.iload 7, 2) := by decide +kernel
theorem dX3_applyShorts_92 : decode cX3_applyShorts 92 = .ok (.iastore, 1) := by decide +kernel
theorem dX3_applyShorts_93 : decode cX3_applyShorts 93 = .ok (.aload_n 0, 1) := by decide +kernel
theorem dX3_applyShorts_94 : decode cX3_applyShorts 94 = .ok (.getfield 9, 3) := by decide +kernel
theorem dX3_applyShorts_97 : decode cX3_applyShorts 97 = .ok (.iload 6, 2) := by decide +kernel
theorem dX3_applyShorts_99 : decode cX3_applyShorts 99 = .ok (.iload 7, 2) := by decide +kernel
theorem dX3_applyShorts_101 : decode cX3_applyShorts 101 = .ok (.iastore, 1) := by decide +kernel
theorem dX3_applyShorts_102 : decode cX3_applyShorts 102 = .ok (.iinc 3 1, 3) := by decide +kernel
theorem dX3_applyShorts_105 : decode cX3_applyShorts 105 = .ok (.goto (-103), 3) := by decide +kernel
theorem dX3_applyShorts_108 : decode cX3_applyShorts 108 = .ok (.return_, 1) := by decide +kernel
theorem dX3_applyStuck_0 : decode cX3_applyStuck 0 = .ok (.iconst 0, 1) := by decide +kernel
theorem dX3_applyStuck_1 : decode cX3_applyStuck 1 = .ok (.istore_n 3, 1) := by decide +kernel
theorem dX3_applyStuck_2 : decode cX3_applyStuck 2 = .ok (.iload_n 3, 1) := by decide +kernel
theorem dX3_applyStuck_3 : decode cX3_applyStuck 3 = .ok (.iload_n 2, 1) := by decide +kernel
theorem dX3_applyStuck_4 : decode cX3_applyStuck 4 = .ok (.if_icmp .ge 48, 3) := by decide +kernel
theorem dX3_applyStuck_7 : decode cX3_applyStuck 7 = .ok (.aload_n 1, 1) := by decide +kernel
theorem dX3_applyStuck_8 : decode cX3_applyStuck 8 = .ok (.iload_n 3, 1) := by decide +kernel
theorem dX3_applyStuck_9 : decode cX3_applyStuck 9 = .ok (.iaload, 1) := by decide +kernel
theorem dX3_applyStuck_10 : decode cX3_applyStuck 10 = .ok (.invokestatic 61, 3) := by decide +kernel
theorem dX3_applyStuck_13 : decode cX3_applyStuck 13 = .ok (.iconst 2, 1) := by decide +kernel
theorem dX3_applyStuck_14 : decode cX3_applyStuck 14 = .ok (.if_icmp .ne 32, 3) := by decide +kernel
theorem dX3_applyStuck_17 : decode cX3_applyStuck 17 = .ok (.aload_n 0, 1) := by decide +kernel
theorem dX3_applyStuck_18 : decode cX3_applyStuck 18 = .ok (.getfield 9, 3) := by decide +kernel
theorem dX3_applyStuck_21 : decode cX3_applyStuck 21 = .ok (.aload_n 1, 1) := by decide +kernel
theorem dX3_applyStuck_22 : decode cX3_applyStuck 22 = .ok (.iload_n 3, 1) := by decide +kernel
theorem dX3_applyStuck_23 : decode cX3_applyStuck 23 = .ok (.iaload, 1) := by decide +kernel
theorem dX3_applyStuck_24 : decode cX3_applyStuck 24 = .ok (.invokestatic 65, 3) := by decide +kernel
theorem dX3_applyStuck_27 : decode cX3_applyStuck 27 = .ok (.aload_n 1, 1) := by decide +kernel
theorem dX3_applyStuck_28 : decode cX3_applyStuck 28 = .ok (.iload_n 3, 1) := by decide +kernel
theorem dX3_applyStuck_29 : decode cX3_applyStuck 29 = .ok (.iaload, 1) := by decide +kernel
theorem dX3_applyStuck_30 : decode cX3_applyStuck 30 = .ok (.invokestatic 68, 3) := by decide +kernel
theorem dX3_applyStuck_33 : decode cX3_applyStuck 33 = .ok (.iconst 1, 1) := by decide +kernel
theorem dX3_applyStuck_34 : decode cX3_applyStuck 34 = .ok (.if_icmp .ne 10, 3) := by decide +kernel
theorem dX3_applyStuck_37 : decode cX3_applyStuck 37 = .ok (.aload_n 0, 1) := by decide +kernel
theorem dX3_applyStuck_38 : decode cX3_applyStuck 38 = .ok (.getfield 22, 3) := by decide +kernel
theorem dX3_applyStuck_41 : decode cX3_applyStuck 41 = .ok (.goto 4, 3) := by decide +kernel
theorem dX3_applyStuck_44 : decode cX3_applyStuck 44 = .ok (.iconst 0, 1) := by decide +kernel
theorem dX3_applyStuck_45 : decode cX3_applyStuck 45 = .ok (.iastore, 1) := by decide +kernel
theorem dX3_applyStuck_46 : decode cX3_applyStuck 46 = .ok (.iinc 3 1, 3) := by decide +kernel
theorem dX3_applyStuck_49 : decode cX3_applyStuck 49 = .ok (.goto (-47), 3) := by decide +kernel
theorem dX3_applyStuck_52 : decode cX3_applyStuck 52 = .ok (.return_, 1) := by decide +kernel
theorem dX3_seenBy_0 : decode cX3_seenBy 0 = .ok (.aload_n 0, 1) := by decide +kernel
theorem dX3_seenBy_1 : decode cX3_seenBy 1 = .ok (.getfield 15, 3) := by decide +kernel
theorem dX3_seenBy_4 : decode cX3_seenBy 4 = .ok (.iload_n 1, 1) := by decide +kernel
theorem dX3_seenBy_5 : decode cX3_seenBy 5 = .ok (.iaload, 1) := by decide +kernel
theorem dX3_seenBy_6 : decode cX3_seenBy 6 = .ok (.iload_n 2, 1) := by decide +kernel
theorem dX3_seenBy_7 : decode cX3_seenBy 7 = .ok (.invokestatic 95, 3) := by decide +kernel
theorem dX3_seenBy_10 : decode cX3_seenBy 10 = .ok (.ifCond .eq 10, 3) := by decide +kernel
theorem dX3_seenBy_13 : decode cX3_seenBy 13 = .ok (.aload_n 0, 1) := by decide +kernel
theorem dX3_seenBy_14 : decode cX3_seenBy 14 = .ok (.getfield 22, 3) := by decide +kernel
theorem dX3_seenBy_17 : decode cX3_seenBy 17 = .ok (.goto 22, 3) := by decide +kernel
theorem dX3_seenBy_20 : decode cX3_seenBy 20 = .ok (.aload_n 0, 1) := by decide +kernel
theorem dX3_seenBy_21 : decode cX3_seenBy 21 = .ok (.getfield 9, 3) := by decide +kernel
theorem dX3_seenBy_24 : decode cX3_seenBy 24 = .ok (.aload_n 0, 1) := by decide +kernel
theorem dX3_seenBy_25 : decode cX3_seenBy 25 = .ok (.getfield 18, 3) := by decide +kernel
theorem dX3_seenBy_28 : decode cX3_seenBy 28 = .ok (.getfield 71, 3) := by decide +kernel
theorem dX3_seenBy_31 : decode cX3_seenBy 31 = .ok (.iload_n 1, 1) := by decide +kernel
theorem dX3_seenBy_32 : decode cX3_seenBy 32 = .ok (.aaload, 1) := by decide +kernel
theorem dX3_seenBy_33 : decode cX3_seenBy 33 = .ok (.getfield 99, 3) := by decide +kernel
theorem dX3_seenBy_36 : decode cX3_seenBy 36 = .ok (.iload_n 2, 1) := by decide +kernel
theorem dX3_seenBy_37 : decode cX3_seenBy 37 = .ok (.iaload, 1) := by decide +kernel
theorem dX3_seenBy_38 : decode cX3_seenBy 38 = .ok (.iaload, 1) := by decide +kernel
theorem dX3_seenBy_39 : decode cX3_seenBy 39 = .ok (.ireturn, 1) := by decide +kernel
theorem dX3_seenByInputs_0 : decode cX3_seenByInputs 0 = .ok (.aload_n 0, 1) := by decide +kernel
theorem dX3_seenByInputs_1 : decode cX3_seenByInputs 1 = .ok (.getfield 18, 3) := by decide +kernel
theorem dX3_seenByInputs_4 : decode cX3_seenByInputs 4 = .ok (.getfield 71, 3) := by decide +kernel
theorem dX3_seenByInputs_7 : decode cX3_seenByInputs 7 = .ok (.iload_n 1, 1) := by decide +kernel
theorem dX3_seenByInputs_8 : decode cX3_seenByInputs 8 = .ok (.aaload, 1) := by decide +kernel
theorem dX3_seenByInputs_9 : decode cX3_seenByInputs 9 = .ok (.astore_n 2, 1) := by decide +kernel
theorem dX3_seenByInputs_10 : decode cX3_seenByInputs 10 = .ok (.iconst 0, 1) := by decide +kernel
theorem dX3_seenByInputs_11 : decode cX3_seenByInputs 11 = .ok (.istore_n 3, 1) := by decide +kernel
theorem dX3_seenByInputs_12 : decode cX3_seenByInputs 12 = .ok (.iconst 0, 1) := by decide +kernel
theorem dX3_seenByInputs_13 : decode cX3_seenByInputs 13 = .ok (.istore 4, 2) := by decide +kernel
theorem dX3_seenByInputs_15 : decode cX3_seenByInputs 15 = .ok (.iload 4, 2) := by decide +kernel
theorem dX3_seenByInputs_17 : decode cX3_seenByInputs 17 = .ok (.aload_n 2, 1) := by decide +kernel
theorem dX3_seenByInputs_18 : decode cX3_seenByInputs 18 = .ok (.getfield 89, 3) := by decide +kernel
theorem dX3_seenByInputs_21 : decode cX3_seenByInputs 21 = .ok (.if_icmp .ge 31, 3) := by decide +kernel
theorem dX3_seenByInputs_24 : decode cX3_seenByInputs 24 = .ok (.aload_n 2, 1) := by decide +kernel
theorem dX3_seenByInputs_25 : decode cX3_seenByInputs 25 = .ok (.iload 4, 2) := by decide +kernel
theorem dX3_seenByInputs_27 : decode cX3_seenByInputs 27 = .ok (.invokevirtual 105, 3) := by decide +kernel
theorem dX3_seenByInputs_30 : decode cX3_seenByInputs 30 = .ok (.ifCond .ne 16, 3) := by decide +kernel
theorem dX3_seenByInputs_33 : decode cX3_seenByInputs 33 = .ok (.iload_n 3, 1) := by decide +kernel
theorem dX3_seenByInputs_34 : decode cX3_seenByInputs 34 = .ok (.aload_n 0, 1) := by decide +kernel
theorem dX3_seenByInputs_35 : decode cX3_seenByInputs 35 = .ok (.iload_n 1, 1) := by decide +kernel
theorem dX3_seenByInputs_36 : decode cX3_seenByInputs 36 = .ok (.iload 4, 2) := by decide +kernel
theorem dX3_seenByInputs_38 : decode cX3_seenByInputs 38 = .ok (.invokevirtual 109, 3) := by decide +kernel
theorem dX3_seenByInputs_41 : decode cX3_seenByInputs 41 = .ok (.iload 4, 2) := by decide +kernel
theorem dX3_seenByInputs_43 : decode cX3_seenByInputs 43 = .ok (.ishl, 1) := by decide +kernel
theorem dX3_seenByInputs_44 : decode cX3_seenByInputs 44 = .ok (.ior, 1) := by decide +kernel
theorem dX3_seenByInputs_45 : decode cX3_seenByInputs 45 = .ok (.istore_n 3, 1) := by decide +kernel
theorem dX3_seenByInputs_46 : decode cX3_seenByInputs 46 = .ok (.iinc 4 1, 3) := by decide +kernel
theorem dX3_seenByInputs_49 : decode cX3_seenByInputs 49 = .ok (.goto (-34), 3) := by decide +kernel
theorem dX3_seenByInputs_52 : decode cX3_seenByInputs 52 = .ok (.iload_n 3, 1) := by decide +kernel
theorem dX3_seenByInputs_53 : decode cX3_seenByInputs 53 = .ok (.ireturn, 1) := by decide +kernel
theorem dX3_netsAtOne_0 : decode cX3_netsAtOne 0 = .ok (.iconst 0, 1) := by decide +kernel
theorem dX3_netsAtOne_1 : decode cX3_netsAtOne 1 = .ok (.istore_n 1, 1) := by decide +kernel
theorem dX3_netsAtOne_2 : decode cX3_netsAtOne 2 = .ok (.iconst 0, 1) := by decide +kernel
theorem dX3_netsAtOne_3 : decode cX3_netsAtOne 3 = .ok (.istore_n 2, 1) := by decide +kernel
theorem dX3_netsAtOne_4 : decode cX3_netsAtOne 4 = .ok (.iload_n 2, 1) := by decide +kernel
theorem dX3_netsAtOne_5 : decode cX3_netsAtOne 5 = .ok (.bipush 8, 2) := by decide +kernel
theorem dX3_netsAtOne_7 : decode cX3_netsAtOne 7 = .ok (.if_icmp .ge 20, 3) := by decide +kernel
theorem dX3_netsAtOne_10 : decode cX3_netsAtOne 10 = .ok (.iload_n 1, 1) := by decide +kernel
theorem dX3_netsAtOne_11 : decode cX3_netsAtOne 11 = .ok (.aload_n 0, 1) := by decide +kernel
theorem dX3_netsAtOne_12 : decode cX3_netsAtOne 12 = .ok (.getfield 9, 3) := by decide +kernel
theorem dX3_netsAtOne_15 : decode cX3_netsAtOne 15 = .ok (.iload_n 2, 1) := by decide +kernel
theorem dX3_netsAtOne_16 : decode cX3_netsAtOne 16 = .ok (.iaload, 1) := by decide +kernel
theorem dX3_netsAtOne_17 : decode cX3_netsAtOne 17 = .ok (.iload_n 2, 1) := by decide +kernel
theorem dX3_netsAtOne_18 : decode cX3_netsAtOne 18 = .ok (.ishl, 1) := by decide +kernel
theorem dX3_netsAtOne_19 : decode cX3_netsAtOne 19 = .ok (.ior, 1) := by decide +kernel
theorem dX3_netsAtOne_20 : decode cX3_netsAtOne 20 = .ok (.istore_n 1, 1) := by decide +kernel
theorem dX3_netsAtOne_21 : decode cX3_netsAtOne 21 = .ok (.iinc 2 1, 3) := by decide +kernel
theorem dX3_netsAtOne_24 : decode cX3_netsAtOne 24 = .ok (.goto (-20), 3) := by decide +kernel
theorem dX3_netsAtOne_27 : decode cX3_netsAtOne 27 = .ok (.iload_n 1, 1) := by decide +kernel
theorem dX3_netsAtOne_28 : decode cX3_netsAtOne 28 = .ok (.ireturn, 1) := by decide +kernel
theorem dX4_init_0 : decode cX4_init 0 = .ok (.aload_n 0, 1) := by decide +kernel
theorem dX4_init_1 : decode cX4_init 1 = .ok (.invokespecial 3, 3) := by decide +kernel
theorem dX4_init_4 : decode cX4_init 4 = .ok (.aload_n 0, 1) := by decide +kernel
theorem dX4_init_5 : decode cX4_init 5 = .ok (.bipush 8, 2) := by decide +kernel
theorem dX4_init_7 : decode cX4_init 7 = .ok (.newarray .int, 2) := by decide +kernel
theorem dX4_init_9 : decode cX4_init 9 = .ok (.putfield 9, 3) := by decide +kernel
theorem dX4_init_12 : decode cX4_init 12 = .ok (.aload_n 0, 1) := by decide +kernel
theorem dX4_init_13 : decode cX4_init 13 = .ok (.bipush 24, 2) := by decide +kernel
theorem dX4_init_15 : decode cX4_init 15 = .ok (.newarray .int, 2) := by decide +kernel
theorem dX4_init_17 : decode cX4_init 17 = .ok (.putfield 15, 3) := by decide +kernel
theorem dX4_init_20 : decode cX4_init 20 = .ok (.aload_n 0, 1) := by decide +kernel
theorem dX4_init_21 : decode cX4_init 21 = .ok (.iconst 1, 1) := by decide +kernel
theorem dX4_init_22 : decode cX4_init 22 = .ok (.newarray .int, 2) := by decide +kernel
theorem dX4_init_24 : decode cX4_init 24 = .ok (.putfield 18, 3) := by decide +kernel
theorem dX4_init_27 : decode cX4_init 27 = .ok (.aload_n 0, 1) := by decide +kernel
theorem dX4_init_28 : decode cX4_init 28 = .ok (.bipush 97, 2) := by decide +kernel
theorem dX4_init_30 : decode cX4_init 30 = .ok (.newarray .int, 2) := by decide +kernel
theorem dX4_init_32 : decode cX4_init 32 = .ok (.putfield 21, 3) := by decide +kernel
theorem dX4_init_35 : decode cX4_init 35 = .ok (.aload_n 0, 1) := by decide +kernel
theorem dX4_init_36 : decode cX4_init 36 = .ok (.aload_n 1, 1) := by decide +kernel
theorem dX4_init_37 : decode cX4_init 37 = .ok (.putfield 24, 3) := by decide +kernel
theorem dX4_init_40 : decode cX4_init 40 = .ok (.aload_n 0, 1) := by decide +kernel
theorem dX4_init_41 : decode cX4_init 41 = .ok (.new 28, 3) := by decide +kernel
theorem dX4_init_44 : decode cX4_init 44 = .ok (.dup, 1) := by decide +kernel
theorem dX4_init_45 : decode cX4_init 45 = .ok (.aload_n 1, 1) := by decide +kernel
theorem dX4_init_46 : decode cX4_init 46 = .ok (.invokespecial 30, 3) := by decide +kernel
theorem dX4_init_49 : decode cX4_init 49 = .ok (.putfield 33, 3) := by decide +kernel
theorem dX4_init_52 : decode cX4_init 52 = .ok (.return_, 1) := by decide +kernel
theorem dX4_patternCount_0 : decode cX4_patternCount 0 = .ok (.aload_n 0, 1) := by decide +kernel
theorem dX4_patternCount_1 : decode cX4_patternCount 1 = .ok (.getfield 24, 3) := by decide +kernel
theorem dX4_patternCount_4 : decode cX4_patternCount 4 = .ok (.getfield 37, 3) := by decide +kernel
theorem dX4_patternCount_7 : decode cX4_patternCount 7 = .ok (.invokestatic 43, 3) := by decide +kernel
theorem dX4_patternCount_10 : decode cX4_patternCount 10 = .ok (.iload_n 1, 1) := by decide +kernel
theorem dX4_patternCount_11 : decode cX4_patternCount 11 = .ok (.ishl, 1) := by decide +kernel
theorem dX4_patternCount_12 : decode cX4_patternCount 12 = .ok (.ireturn, 1) := by decide +kernel
theorem dX4_stimulus_0 : decode cX4_stimulus 0 = .ok (.iload_n 1, 1) := by decide +kernel
theorem dX4_stimulus_1 : decode cX4_stimulus 1 = .ok (.iload_n 2, 1) := by decide +kernel
theorem dX4_stimulus_2 : decode cX4_stimulus 2 = .ok (.aload_n 0, 1) := by decide +kernel
theorem dX4_stimulus_3 : decode cX4_stimulus 3 = .ok (.getfield 24, 3) := by decide +kernel
theorem dX4_stimulus_6 : decode cX4_stimulus 6 = .ok (.getfield 37, 3) := by decide +kernel
theorem dX4_stimulus_9 : decode cX4_stimulus 9 = .ok (.invokestatic 47, 3) := by decide +kernel
theorem dX4_stimulus_12 : decode cX4_stimulus 12 = .ok (.ireturn, 1) := by decide +kernel
theorem dX4_codeBits_0 : decode cX4_codeBits 0 = .ok (.iload_n 0, 1) := by decide +kernel
theorem dX4_codeBits_1 : decode cX4_codeBits 1 = .ok (.invokestatic 51, 3) := by decide +kernel
theorem dX4_codeBits_4 : decode cX4_codeBits 4 = .ok (.iconst 2, 1) := by decide +kernel
theorem dX4_codeBits_5 : decode cX4_codeBits 5 = .ok (.iadd, 1) := by decide +kernel
theorem dX4_codeBits_6 : decode cX4_codeBits 6 = .ok (.istore_n 1, 1) := by decide +kernel
theorem dX4_codeBits_7 : decode cX4_codeBits 7 = .ok (.iconst 1, 1) := by decide +kernel
theorem dX4_codeBits_8 : decode cX4_codeBits 8 = .ok (.istore_n 2, 1) := by decide +kernel
theorem dX4_codeBits_9 : decode cX4_codeBits 9 = .ok (.iload_n 2, 1) := by decide +kernel
theorem dX4_codeBits_10 : decode cX4_codeBits 10 = .ok (.bipush 8, 2) := by decide +kernel
theorem dX4_codeBits_12 : decode cX4_codeBits 12 = .ok (.if_icmp .ge 16, 3) := by decide +kernel
theorem dX4_codeBits_15 : decode cX4_codeBits 15 = .ok (.iconst 1, 1) := by decide +kernel
theorem dX4_codeBits_16 : decode cX4_codeBits 16 = .ok (.iload_n 2, 1) := by decide +kernel
theorem dX4_codeBits_17 : decode cX4_codeBits 17 = .ok (.ishl, 1) := by decide +kernel
theorem dX4_codeBits_18 : decode cX4_codeBits 18 = .ok (.iload_n 1, 1) := by decide +kernel
theorem dX4_codeBits_19 : decode cX4_codeBits 19 = .ok (.if_icmp .ge 9, 3) := by decide +kernel
theorem dX4_codeBits_22 : decode cX4_codeBits 22 = .ok (.iinc 2 1, 3) := by decide +kernel
theorem dX4_codeBits_25 : decode cX4_codeBits 25 = .ok (.goto (-16), 3) := by decide +kernel
theorem dX4_codeBits_28 : decode cX4_codeBits 28 = .ok (.iload_n 2, 1) := by decide +kernel
theorem dX4_codeBits_29 : decode cX4_codeBits 29 = .ok (.ireturn, 1) := by decide +kernel
theorem dX4_stimulusAt_0 : decode cX4_stimulusAt 0 = .ok (.iload_n 2, 1) := by decide +kernel
theorem dX4_stimulusAt_1 : decode cX4_stimulusAt 1 = .ok (.invokestatic 43, 3) := by decide +kernel
theorem dX4_stimulusAt_4 : decode cX4_stimulusAt 4 = .ok (.istore_n 3, 1) := by decide +kernel
theorem dX4_stimulusAt_5 : decode cX4_stimulusAt 5 = .ok (.iconst 2, 1) := by decide +kernel
theorem dX4_stimulusAt_6 : decode cX4_stimulusAt 6 = .ok (.iload_n 1, 1) := by decide +kernel
theorem dX4_stimulusAt_7 : decode cX4_stimulusAt 7 = .ok (.ishl, 1) := by decide +kernel
theorem dX4_stimulusAt_8 : decode cX4_stimulusAt 8 = .ok (.iconst 1, 1) := by decide +kernel
theorem dX4_stimulusAt_9 : decode cX4_stimulusAt 9 = .ok (.isub, 1) := by decide +kernel
theorem dX4_stimulusAt_10 : decode cX4_stimulusAt 10 = .ok (.istore 4, 2) := by decide +kernel
theorem dX4_stimulusAt_12 : decode cX4_stimulusAt 12 = .ok (.iload_n 2, 1) := by decide +kernel
theorem dX4_stimulusAt_13 : decode cX4_stimulusAt 13 = .ok (.iload 4, 2) := by decide +kernel
theorem dX4_stimulusAt_15 : decode cX4_stimulusAt 15 = .ok (.iand, 1) := by decide +kernel
theorem dX4_stimulusAt_16 : decode cX4_stimulusAt 16 = .ok (.invokestatic 51, 3) := by decide +kernel
theorem dX4_stimulusAt_19 : decode cX4_stimulusAt 19 = .ok (.istore 5, 2) := by decide +kernel
theorem dX4_stimulusAt_21 : decode cX4_stimulusAt 21 = .ok (.iconst 1, 1) := by decide +kernel
theorem dX4_stimulusAt_22 : decode cX4_stimulusAt 22 = .ok (.iload_n 3, 1) := by decide +kernel
theorem dX4_stimulusAt_23 : decode cX4_stimulusAt 23 = .ok (.ishl, 1) := by decide +kernel
theorem dX4_stimulusAt_24 : decode cX4_stimulusAt 24 = .ok (.iconst 1, 1) := by decide +kernel
theorem dX4_stimulusAt_25 : decode cX4_stimulusAt 25 = .ok (.isub, 1) := by decide +kernel
theorem dX4_stimulusAt_26 : decode cX4_stimulusAt 26 = .ok (.iload 5, 2) := by decide +kernel
theorem dX4_stimulusAt_28 : decode cX4_stimulusAt 28 = .ok (.isub, 1) := by decide +kernel
theorem dX4_stimulusAt_29 : decode cX4_stimulusAt 29 = .ok (.istore 6, 2) := by decide +kernel
theorem dX4_stimulusAt_31 : decode cX4_stimulusAt 31 = .ok (.iload_n 0, 1) := by decide +kernel
theorem dX4_stimulusAt_32 : decode cX4_stimulusAt 32 = .ok (.ifCond .ne 8, 3) := by decide +kernel
theorem dX4_stimulusAt_35 : decode cX4_stimulusAt 35 = .ok (.iload 5, 2) := by decide +kernel
theorem dX4_stimulusAt_37 : decode cX4_stimulusAt 37 = .ok (.goto 10, 3) := by decide +kernel
theorem dX4_stimulusAt_40 : decode cX4_stimulusAt 40 = .ok (.iload 5, 2) := by decide +kernel
theorem dX4_stimulusAt_42 : decode cX4_stimulusAt 42 = .ok (.iload 6, 2) := by decide +kernel
theorem dX4_stimulusAt_44 : decode cX4_stimulusAt 44 = .ok (.iload_n 3, 1) := by decide +kernel
theorem dX4_stimulusAt_45 : decode cX4_stimulusAt 45 = .ok (.ishl, 1) := by decide +kernel
theorem dX4_stimulusAt_46 : decode cX4_stimulusAt 46 = .ok (.ior, 1) := by decide +kernel
theorem dX4_stimulusAt_47 : decode cX4_stimulusAt 47 = .ok (.ireturn, 1) := by decide +kernel
theorem dX4_prepare_0 : decode cX4_prepare 0 = .ok (.aload_n 0, 1) := by decide +kernel
theorem dX4_prepare_1 : decode cX4_prepare 1 = .ok (.getfield 24, 3) := by decide +kernel
theorem dX4_prepare_4 : decode cX4_prepare 4 = .ok (.getfield 37, 3) := by decide +kernel
theorem dX4_prepare_7 : decode cX4_prepare 7 = .ok (.istore_n 2, 1) := by decide +kernel
theorem dX4_prepare_8 : decode cX4_prepare 8 = .ok (.aload_n 0, 1) := by decide +kernel
theorem dX4_prepare_9 : decode cX4_prepare 9 = .ok (.iconst 1, 1) := by decide +kernel
theorem dX4_prepare_10 : decode cX4_prepare 10 = .ok (.iload_n 2, 1) := by decide +kernel
theorem dX4_prepare_11 : decode cX4_prepare 11 = .ok (.invokestatic 43, 3) := by decide +kernel
theorem dX4_prepare_14 : decode cX4_prepare 14 = .ok (.iload_n 1, 1) := by decide +kernel
theorem dX4_prepare_15 : decode cX4_prepare 15 = .ok (.ishl, 1) := by decide +kernel
theorem dX4_prepare_16 : decode cX4_prepare 16 = .ok (.ishl, 1) := by decide +kernel
theorem dX4_prepare_17 : decode cX4_prepare 17 = .ok (.iconst 1, 1) := by decide +kernel
theorem dX4_prepare_18 : decode cX4_prepare 18 = .ok (.isub, 1) := by decide +kernel
theorem dX4_prepare_19 : decode cX4_prepare 19 = .ok (.putfield 56, 3) := by decide +kernel
theorem dX4_prepare_22 : decode cX4_prepare 22 = .ok (.iconst 0, 1) := by decide +kernel
theorem dX4_prepare_23 : decode cX4_prepare 23 = .ok (.istore_n 3, 1) := by decide +kernel
theorem dX4_prepare_24 : decode cX4_prepare 24 = .ok (.iload_n 3, 1) := by decide +kernel
theorem dX4_prepare_25 : decode cX4_prepare 25 = .ok (.bipush 8, 2) := by decide +kernel
theorem dX4_prepare_27 : decode cX4_prepare 27 = .ok (.if_icmp .ge 21, 3) := by decide +kernel
theorem dX4_prepare_30 : decode cX4_prepare 30 = .ok (.aload_n 0, 1) := by decide +kernel
theorem dX4_prepare_31 : decode cX4_prepare 31 = .ok (.getfield 9, 3) := by decide +kernel
theorem dX4_prepare_34 : decode cX4_prepare 34 = .ok (.iload_n 3, 1) := by decide +kernel
theorem dX4_prepare_35 : decode cX4_prepare 35 = .ok (.iload_n 1, 1) := by decide +kernel
theorem dX4_prepare_36 : decode cX4_prepare 36 = .ok (.iload_n 3, 1) := by decide +kernel
theorem dX4_prepare_37 : decode cX4_prepare 37 = .ok (.iload_n 2, 1) := by decide +kernel
theorem dX4_prepare_38 : decode cX4_prepare 38 = .ok (.invokestatic 47, 3) := by decide +kernel
theorem dX4_prepare_41 : decode cX4_prepare 41 = .ok (.iastore, 1) := by decide +kernel
theorem dX4_prepare_42 : decode cX4_prepare 42 = .ok (.iinc 3 1, 3) := by decide +kernel
theorem dX4_prepare_45 : decode cX4_prepare 45 = .ok (.goto (-21), 3) := by decide +kernel
theorem dX4_prepare_48 : decode cX4_prepare 48 = .ok (.return_, 1) := by decide +kernel
theorem dX4_presentAnswer_0 : decode cX4_presentAnswer 0 = .ok (.aload_n 0, 1) := by decide +kernel
theorem dX4_presentAnswer_1 : decode cX4_presentAnswer 1 = .ok (.iload_n 1, 1) := by decide +kernel
theorem dX4_presentAnswer_2 : decode cX4_presentAnswer 2 = .ok (.invokevirtual 59, 3) := by decide +kernel
theorem dX4_presentAnswer_5 : decode cX4_presentAnswer 5 = .ok (.aload_n 0, 1) := by decide +kernel
theorem dX4_presentAnswer_6 : decode cX4_presentAnswer 6 = .ok (.getfield 33, 3) := by decide +kernel
theorem dX4_presentAnswer_9 : decode cX4_presentAnswer 9 = .ok (.aload_n 0, 1) := by decide +kernel
theorem dX4_presentAnswer_10 : decode cX4_presentAnswer 10 = .ok (.getfield 9, 3) := by decide +kernel
theorem dX4_presentAnswer_13 : decode cX4_presentAnswer 13 = .ok (.aload_n 0, 1) := by decide +kernel
theorem dX4_presentAnswer_14 : decode cX4_presentAnswer 14 = .ok (.getfield 56, 3) := by decide +kernel
theorem dX4_presentAnswer_17 : decode cX4_presentAnswer 17 = .ok (.aload_n 0, 1) := by decide +kernel
theorem dX4_presentAnswer_18 : decode cX4_presentAnswer 18 = .ok (.getfield 24, 3) := by decide +kernel
theorem dX4_presentAnswer_21 : decode cX4_presentAnswer 21 = .ok (.getfield 63, 3) := by decide +kernel
theorem dX4_presentAnswer_24 : decode cX4_presentAnswer 24 = .ok (.aload_n 0, 1) := by decide +kernel
theorem dX4_presentAnswer_25 : decode cX4_presentAnswer 25 = .ok (.getfield 24, 3) := by decide +kernel
theorem dX4_presentAnswer_28 : decode cX4_presentAnswer 28 = .ok (.getfield 66, 3) := by decide +kernel
theorem dX4_presentAnswer_31 : decode cX4_presentAnswer 31 = .ok (.invokevirtual 69, 3) := by decide +kernel
theorem dX4_presentAnswer_34 : decode cX4_presentAnswer 34 = .ok (.aload_n 0, 1) := by decide +kernel
theorem dX4_presentAnswer_35 : decode cX4_presentAnswer 35 = .ok (.getfield 33, 3) := by decide +kernel
theorem dX4_presentAnswer_38 : decode cX4_presentAnswer 38 = .ok (.iload_n 2, 1) := by decide +kernel
theorem dX4_presentAnswer_39 : decode cX4_presentAnswer 39 = .ok (.iload_n 3, 1) := by decide +kernel
theorem dX4_presentAnswer_40 : decode cX4_presentAnswer 40 = .ok (.invokevirtual 73, 3) := by decide +kernel
theorem dX4_presentAnswer_43 : decode cX4_presentAnswer 43 = .ok (.ireturn, 1) := by decide +kernel
theorem dX4_noteAnswers_0 : decode cX4_noteAnswers 0 = .ok (.aload_n 0, 1) := by decide +kernel
theorem dX4_noteAnswers_1 : decode cX4_noteAnswers 1 = .ok (.getfield 33, 3) := by decide +kernel
theorem dX4_noteAnswers_4 : decode cX4_noteAnswers 4 = .ok (.aload_n 0, 1) := by decide +kernel
theorem dX4_noteAnswers_5 : decode cX4_noteAnswers 5 = .ok (.getfield 9, 3) := by decide +kernel
theorem dX4_noteAnswers_8 : decode cX4_noteAnswers 8 = .ok (.aload_n 0, 1) := by decide +kernel
theorem dX4_noteAnswers_9 : decode cX4_noteAnswers 9 = .ok (.getfield 56, 3) := by decide +kernel
theorem dX4_noteAnswers_12 : decode cX4_noteAnswers 12 = .ok (.aload_n 0, 1) := by decide +kernel
theorem dX4_noteAnswers_13 : decode cX4_noteAnswers 13 = .ok (.getfield 24, 3) := by decide +kernel
theorem dX4_noteAnswers_16 : decode cX4_noteAnswers 16 = .ok (.getfield 63, 3) := by decide +kernel
theorem dX4_noteAnswers_19 : decode cX4_noteAnswers 19 = .ok (.aload_n 0, 1) := by decide +kernel
theorem dX4_noteAnswers_20 : decode cX4_noteAnswers 20 = .ok (.getfield 24, 3) := by decide +kernel
theorem dX4_noteAnswers_23 : decode cX4_noteAnswers 23 = .ok (.getfield 66, 3) := by decide +kernel
theorem dX4_noteAnswers_26 : decode cX4_noteAnswers 26 = .ok (.invokevirtual 69, 3) := by decide +kernel
theorem dX4_noteAnswers_29 : decode cX4_noteAnswers 29 = .ok (.iconst 0, 1) := by decide +kernel
theorem dX4_noteAnswers_30 : decode cX4_noteAnswers 30 = .ok (.istore_n 1, 1) := by decide +kernel
theorem dX4_noteAnswers_31 : decode cX4_noteAnswers 31 = .ok (.iload_n 1, 1) := by decide +kernel
theorem dX4_noteAnswers_32 : decode cX4_noteAnswers 32 = .ok (.aload_n 0, 1) := by decide +kernel
theorem dX4_noteAnswers_33 : decode cX4_noteAnswers 33 = .ok (.getfield 24, 3) := by decide +kernel
theorem dX4_noteAnswers_36 : decode cX4_noteAnswers 36 = .ok (.getfield 77, 3) := by decide +kernel
theorem dX4_noteAnswers_39 : decode cX4_noteAnswers 39 = .ok (.if_icmp .ge 53, 3) := by decide +kernel
theorem dX4_noteAnswers_42 : decode cX4_noteAnswers 42 = .ok (.iconst 0, 1) := by decide +kernel
theorem dX4_noteAnswers_43 : decode cX4_noteAnswers 43 = .ok (.istore_n 2, 1) := by decide +kernel
theorem dX4_noteAnswers_44 : decode cX4_noteAnswers 44 = .ok (.iload_n 2, 1) := by decide +kernel
theorem dX4_noteAnswers_45 : decode cX4_noteAnswers 45 = .ok (.aload_n 0, 1) := by decide +kernel
theorem dX4_noteAnswers_46 : decode cX4_noteAnswers 46 = .ok (.getfield 24, 3) := by decide +kernel
theorem dX4_noteAnswers_49 : decode cX4_noteAnswers 49 = .ok (.getfield 80, 3) := by decide +kernel
theorem dX4_noteAnswers_52 : decode cX4_noteAnswers 52 = .ok (.iload_n 1, 1) := by decide +kernel
theorem dX4_noteAnswers_53 : decode cX4_noteAnswers 53 = .ok (.aaload, 1) := by decide +kernel
theorem dX4_noteAnswers_54 : decode cX4_noteAnswers 54 = .ok (.getfield 84, 3) := by decide +kernel
theorem dX4_noteAnswers_57 : decode cX4_noteAnswers 57 = .ok (.if_icmp .ge 29, 3) := by decide +kernel
theorem dX4_noteAnswers_60 : decode cX4_noteAnswers 60 = .ok (.aload_n 0, 1) := by decide +kernel
theorem dX4_noteAnswers_61 : decode cX4_noteAnswers 61 = .ok (.getfield 15, 3) := by decide +kernel
theorem dX4_noteAnswers_64 : decode cX4_noteAnswers 64 = .ok (.iload_n 1, 1) := by decide +kernel
theorem dX4_noteAnswers_65 : decode cX4_noteAnswers 65 = .ok (.bipush 6, 2) := by decide +kernel
theorem dX4_noteAnswers_67 : decode cX4_noteAnswers 67 = .ok (.imul, 1) := by decide +kernel
theorem dX4_noteAnswers_68 : decode cX4_noteAnswers 68 = .ok (.iload_n 2, 1) := by decide +kernel
theorem dX4_noteAnswers_69 : decode cX4_noteAnswers 69 = .ok (.iadd, 1) := by decide +kernel
theorem dX4_noteAnswers_70 : decode cX4_noteAnswers 70 = .ok (.aload_n 0, 1) := by decide +kernel
theorem dX4_noteAnswers_71 : decode cX4_noteAnswers 71 = .ok (.getfield 33, 3) := by decide +kernel
theorem dX4_noteAnswers_74 : decode cX4_noteAnswers 74 = .ok (.iload_n 1, 1) := by decide +kernel
theorem dX4_noteAnswers_75 : decode cX4_noteAnswers 75 = .ok (.iload_n 2, 1) := by decide +kernel
theorem dX4_noteAnswers_76 : decode cX4_noteAnswers 76 = .ok (.invokevirtual 73, 3) := by decide +kernel
theorem dX4_noteAnswers_79 : decode cX4_noteAnswers 79 = .ok (.iastore, 1) := by decide +kernel
theorem dX4_noteAnswers_80 : decode cX4_noteAnswers 80 = .ok (.iinc 2 1, 3) := by decide +kernel
theorem dX4_noteAnswers_83 : decode cX4_noteAnswers 83 = .ok (.goto (-39), 3) := by decide +kernel
theorem dX4_noteAnswers_86 : decode cX4_noteAnswers 86 = .ok (.iinc 1 1, 3) := by decide +kernel
theorem dX4_noteAnswers_89 : decode cX4_noteAnswers 89 = .ok (.goto (-58), 3) := by decide +kernel
theorem dX4_noteAnswers_92 : decode cX4_noteAnswers 92 = .ok (.return_, 1) := by decide +kernel
theorem dX4_explains_0 : decode cX4_explains 0 = .ok (.aload_n 0, 1) := by decide +kernel
theorem dX4_explains_1 : decode cX4_explains 1 = .ok (.getfield 18, 3) := by decide +kernel
theorem dX4_explains_4 : decode cX4_explains 4 = .ok (.iconst 0, 1) := by decide +kernel
theorem dX4_explains_5 : decode cX4_explains 5 = .ok (.iload_n 1, 1) := by decide +kernel
theorem dX4_explains_6 : decode cX4_explains 6 = .ok (.iastore, 1) := by decide +kernel
theorem dX4_explains_7 : decode cX4_explains 7 = .ok (.aload_n 0, 1) := by decide +kernel
theorem dX4_explains_8 : decode cX4_explains 8 = .ok (.getfield 33, 3) := by decide +kernel
theorem dX4_explains_11 : decode cX4_explains 11 = .ok (.aload_n 0, 1) := by decide +kernel
theorem dX4_explains_12 : decode cX4_explains 12 = .ok (.getfield 9, 3) := by decide +kernel
theorem dX4_explains_15 : decode cX4_explains 15 = .ok (.aload_n 0, 1) := by decide +kernel
theorem dX4_explains_16 : decode cX4_explains 16 = .ok (.getfield 56, 3) := by decide +kernel
theorem dX4_explains_19 : decode cX4_explains 19 = .ok (.aload_n 0, 1) := by decide +kernel
theorem dX4_explains_20 : decode cX4_explains 20 = .ok (.getfield 18, 3) := by decide +kernel
theorem dX4_explains_23 : decode cX4_explains 23 = .ok (.iload_n 1, 1) := by decide +kernel
theorem dX4_explains_24 : decode cX4_explains 24 = .ok (.ifCond .ne 7, 3) := by decide +kernel
theorem dX4_explains_27 : decode cX4_explains 27 = .ok (.iconst 0, 1) := by decide +kernel
theorem dX4_explains_28 : decode cX4_explains 28 = .ok (.goto 4, 3) := by decide +kernel
theorem dX4_explains_31 : decode cX4_explains 31 = .ok (.iconst 1, 1) := by decide +kernel
theorem dX4_explains_32 : decode cX4_explains 32 = .ok (.invokevirtual 69, 3) := by decide +kernel
theorem dX4_explains_35 : decode cX4_explains 35 = .ok (.iconst 0, 1) := by decide +kernel
theorem dX4_explains_36 : decode cX4_explains 36 = .ok (.istore_n 2, 1) := by decide +kernel
theorem dX4_explains_37 : decode cX4_explains 37 = .ok (.iload_n 2, 1) := by decide +kernel
theorem dX4_explains_38 : decode cX4_explains 38 = .ok (.aload_n 0, 1) := by decide +kernel
theorem dX4_explains_39 : decode cX4_explains 39 = .ok (.getfield 24, 3) := by decide +kernel
theorem dX4_explains_42 : decode cX4_explains 42 = .ok (.getfield 77, 3) := by decide +kernel
theorem dX4_explains_45 : decode cX4_explains 45 = .ok (.if_icmp .ge 73, 3) := by decide +kernel
theorem dX4_explains_48 : decode cX4_explains 48 = .ok (.aload_n 0, 1) := by decide +kernel
theorem dX4_explains_49 : decode cX4_explains 49 = .ok (.getfield 24, 3) := by decide +kernel
theorem dX4_explains_52 : decode cX4_explains 52 = .ok (.getfield 80, 3) := by decide +kernel
theorem dX4_explains_55 : decode cX4_explains 55 = .ok (.iload_n 2, 1) := by decide +kernel
theorem dX4_explains_56 : decode cX4_explains 56 = .ok (.aaload, 1) := by decide +kernel
theorem dX4_explains_57 : decode cX4_explains 57 = .ok (.astore_n 3, 1) := by decide +kernel
theorem dX4_explains_58 : decode cX4_explains 58 = .ok (.iconst 0, 1) := by decide +kernel
theorem dX4_explains_59 : decode cX4_explains 59 = .ok (.istore 4, 2) := by decide +kernel
theorem dX4_explains_61 : decode cX4_explains 61 = .ok (.iload 4, 2) := by decide +kernel
theorem dX4_explains_63 : decode cX4_explains 63 = .ok (.aload_n 3, 1) := by decide +kernel
theorem dX4_explains_64 : decode cX4_explains 64 = .ok (.getfield 84, 3) := by decide +kernel
theorem dX4_explains_67 : decode cX4_explains 67 = .ok (.if_icmp .ge 45, 3) := by decide +kernel
theorem dX4_explains_70 : decode cX4_explains 70 = .ok (.aload_n 3, 1) := by decide +kernel
theorem dX4_explains_71 : decode cX4_explains 71 = .ok (.iload 4, 2) := by decide +kernel
theorem dX4_explains_73 : decode cX4_explains 73 = .ok (.invokevirtual 89, 3) := by decide +kernel
theorem dX4_explains_76 : decode cX4_explains 76 = .ok (.ifCond .ne 30, 3) := by decide +kernel
theorem dX4_explains_79 : decode cX4_explains 79 = .ok (.aload_n 0, 1) := by decide +kernel
theorem dX4_explains_80 : decode cX4_explains 80 = .ok (.getfield 33, 3) := by decide +kernel
theorem dX4_explains_83 : decode cX4_explains 83 = .ok (.iload_n 2, 1) := by decide +kernel
theorem dX4_explains_84 : decode cX4_explains 84 = .ok (.iload 4, 2) := by decide +kernel
theorem dX4_explains_86 : decode cX4_explains 86 = .ok (.invokevirtual 73, 3) := by decide +kernel
theorem dX4_explains_89 : decode cX4_explains 89 = .ok (.aload_n 0, 1) := by decide +kernel
theorem dX4_explains_90 : decode cX4_explains 90 = .ok (.getfield 15, 3) := by decide +kernel
theorem dX4_explains_93 : decode cX4_explains 93 = .ok (.iload_n 2, 1) := by decide +kernel
theorem dX4_explains_94 : decode cX4_explains 94 = .ok (.bipush 6, 2) := by decide +kernel
theorem dX4_explains_96 : decode cX4_explains 96 = .ok (.imul, 1) := by decide +kernel
theorem dX4_explains_97 : decode cX4_explains 97 = .ok (.iload 4, 2) := by decide +kernel
theorem dX4_explains_99 : decode cX4_explains 99 = .ok (.iadd, 1) := by decide +kernel
theorem dX4_explains_100 : decode cX4_explains 100 = .ok (.iaload, 1) := by decide +kernel
theorem dX4_explains_101 : decode cX4_explains 101 = .ok (.if_icmp .eq 5, 3) := by decide +kernel
theorem dX4_explains_104 : decode cX4_explains 104 = .ok (.iconst 0, 1) := by decide +kernel
theorem dX4_explains_105 : decode cX4_explains 105 = .ok (.ireturn, 1) := by decide +kernel
theorem dX4_explains_106 : decode cX4_explains 106 = .ok (.iinc 4 1, 3) := by decide +kernel
theorem dX4_explains_109 : decode cX4_explains 109 = .ok (.goto (-48), 3) := by decide +kernel
theorem dX4_explains_112 : decode cX4_explains 112 = .ok (.iinc 2 1, 3) := by decide +kernel
theorem dX4_explains_115 : decode cX4_explains 115 = .ok (.goto (-78), 3) := by decide +kernel
theorem dX4_explains_118 : decode cX4_explains 118 = .ok (.iconst 1, 1) := by decide +kernel
theorem dX4_explains_119 : decode cX4_explains 119 = .ok (.ireturn, 1) := by decide +kernel
theorem dX4_showsFaults_0 : decode cX4_showsFaults 0 = .ok (.aload_n 0, 1) := by decide +kernel
theorem dX4_showsFaults_1 : decode cX4_showsFaults 1 = .ok (.iload_n 1, 1) := by decide +kernel
theorem dX4_showsFaults_2 : decode cX4_showsFaults 2 = .ok (.invokevirtual 59, 3) := by decide +kernel
theorem dX4_showsFaults_5 : decode cX4_showsFaults 5 = .ok (.aload_n 0, 1) := by decide +kernel
theorem dX4_showsFaults_6 : decode cX4_showsFaults 6 = .ok (.invokevirtual 93, 3) := by decide +kernel
theorem dX4_showsFaults_9 : decode cX4_showsFaults 9 = .ok (.aload_n 0, 1) := by decide +kernel
theorem dX4_showsFaults_10 : decode cX4_showsFaults 10 = .ok (.iconst 0, 1) := by decide +kernel
theorem dX4_showsFaults_11 : decode cX4_showsFaults 11 = .ok (.invokevirtual 96, 3) := by decide +kernel
theorem dX4_showsFaults_14 : decode cX4_showsFaults 14 = .ok (.ifCond .ne 7, 3) := by decide +kernel
theorem dX4_showsFaults_17 : decode cX4_showsFaults 17 = .ok (.iconst 1, 1) := by decide +kernel
theorem dX4_showsFaults_18 : decode cX4_showsFaults 18 = .ok (.goto 4, 3) := by decide +kernel
theorem dX4_showsFaults_21 : decode cX4_showsFaults 21 = .ok (.iconst 0, 1) := by decide +kernel
theorem dX4_showsFaults_22 : decode cX4_showsFaults 22 = .ok (.ireturn, 1) := by decide +kernel
theorem dX4_findSuspects_0 : decode cX4_findSuspects 0 = .ok (.aload_n 0, 1) := by decide +kernel
theorem dX4_findSuspects_1 : decode cX4_findSuspects 1 = .ok (.iload_n 1, 1) := by decide +kernel
theorem dX4_findSuspects_2 : decode cX4_findSuspects 2 = .ok (.invokevirtual 59, 3) := by decide +kernel
theorem dX4_findSuspects_5 : decode cX4_findSuspects 5 = .ok (.aload_n 0, 1) := by decide +kernel
theorem dX4_findSuspects_6 : decode cX4_findSuspects 6 = .ok (.invokevirtual 93, 3) := by decide +kernel
theorem dX4_findSuspects_9 : decode cX4_findSuspects 9 = .ok (.aload_n 0, 1) := by decide +kernel
theorem dX4_findSuspects_10 : decode cX4_findSuspects 10 = .ok (.invokevirtual 99, 3) := by decide +kernel
theorem dX4_findSuspects_13 : decode cX4_findSuspects 13 = .ok (.iconst 0, 1) := by decide +kernel
theorem dX4_findSuspects_14 : decode cX4_findSuspects 14 = .ok (.istore_n 2, 1) := by decide +kernel
theorem dX4_findSuspects_15 : decode cX4_findSuspects 15 = .ok (.iconst 0, 1) := by decide +kernel
theorem dX4_findSuspects_16 : decode cX4_findSuspects 16 = .ok (.istore_n 3, 1) := by decide +kernel
theorem dX4_findSuspects_17 : decode cX4_findSuspects 17 = .ok (.iload_n 3, 1) := by decide +kernel
theorem dX4_findSuspects_18 : decode cX4_findSuspects 18 = .ok (.aload_n 0, 1) := by decide +kernel
theorem dX4_findSuspects_19 : decode cX4_findSuspects 19 = .ok (.getfield 102, 3) := by decide +kernel
theorem dX4_findSuspects_22 : decode cX4_findSuspects 22 = .ok (.if_icmp .ge 37, 3) := by decide +kernel
theorem dX4_findSuspects_25 : decode cX4_findSuspects 25 = .ok (.aload_n 0, 1) := by decide +kernel
theorem dX4_findSuspects_26 : decode cX4_findSuspects 26 = .ok (.aload_n 0, 1) := by decide +kernel
theorem dX4_findSuspects_27 : decode cX4_findSuspects 27 = .ok (.getfield 21, 3) := by decide +kernel
theorem dX4_findSuspects_30 : decode cX4_findSuspects 30 = .ok (.iload_n 3, 1) := by decide +kernel
theorem dX4_findSuspects_31 : decode cX4_findSuspects 31 = .ok (.iaload, 1) := by decide +kernel
theorem dX4_findSuspects_32 : decode cX4_findSuspects 32 = .ok (.invokevirtual 96, 3) := by decide +kernel
theorem dX4_findSuspects_35 : decode cX4_findSuspects 35 = .ok (.ifCond .eq 18, 3) := by decide +kernel
theorem dX4_findSuspects_38 : decode cX4_findSuspects 38 = .ok (.aload_n 0, 1) := by decide +kernel
theorem dX4_findSuspects_39 : decode cX4_findSuspects 39 = .ok (.getfield 21, 3) := by decide +kernel
theorem dX4_findSuspects_42 : decode cX4_findSuspects 42 = .ok (.iload_n 2, 1) := by decide +kernel
theorem dX4_findSuspects_43 : decode cX4_findSuspects 43 = .ok (.aload_n 0, 1) := by decide +kernel
theorem dX4_findSuspects_44 : decode cX4_findSuspects 44 = .ok (.getfield 21, 3) := by decide +kernel
theorem dX4_findSuspects_47 : decode cX4_findSuspects 47 = .ok (.iload_n 3, 1) := by decide +kernel
theorem dX4_findSuspects_48 : decode cX4_findSuspects 48 = .ok (.iaload, 1) := by decide +kernel
theorem dX4_findSuspects_49 : decode cX4_findSuspects 49 = .ok (.iastore, 1) := by decide +kernel
theorem dX4_findSuspects_50 : decode cX4_findSuspects 50 = .ok (.iinc 2 1, 3) := by decide +kernel
theorem dX4_findSuspects_53 : decode cX4_findSuspects 53 = .ok (.iinc 3 1, 3) := by decide +kernel
theorem dX4_findSuspects_56 : decode cX4_findSuspects 56 = .ok (.goto (-39), 3) := by decide +kernel
theorem dX4_findSuspects_59 : decode cX4_findSuspects 59 = .ok (.iload_n 2, 1) := by decide +kernel
theorem dX4_findSuspects_60 : decode cX4_findSuspects 60 = .ok (.ireturn, 1) := by decide +kernel
theorem dX4_listCandidates_0 : decode cX4_listCandidates 0 = .ok (.aload_n 0, 1) := by decide +kernel
theorem dX4_listCandidates_1 : decode cX4_listCandidates 1 = .ok (.getfield 24, 3) := by decide +kernel
theorem dX4_listCandidates_4 : decode cX4_listCandidates 4 = .ok (.getfield 105, 3) := by decide +kernel
theorem dX4_listCandidates_7 : decode cX4_listCandidates 7 = .ok (.istore_n 1, 1) := by decide +kernel
theorem dX4_listCandidates_8 : decode cX4_listCandidates 8 = .ok (.aload_n 0, 1) := by decide +kernel
theorem dX4_listCandidates_9 : decode cX4_listCandidates 9 = .ok (.iconst 0, 1) := by decide +kernel
theorem dX4_listCandidates_10 : decode cX4_listCandidates 10 = .ok (.putfield 102, 3) := by decide +kernel
theorem dX4_listCandidates_13 : decode cX4_listCandidates 13 = .ok (.aload_n 0, 1) := by decide +kernel
theorem dX4_listCandidates_14 : decode cX4_listCandidates 14 = .ok (.iconst 0, 1) := by decide +kernel
theorem dX4_listCandidates_15 : decode cX4_listCandidates 15 = .ok (.invokevirtual 108, 3) := by decide +kernel
theorem dX4_listCandidates_18 : decode cX4_listCandidates 18 = .ok (.aload_n 0, 1) := by decide +kernel
theorem dX4_listCandidates_19 : decode cX4_listCandidates 19 = .ok (.invokevirtual 111, 3) := by decide +kernel
theorem dX4_listCandidates_22 : decode cX4_listCandidates 22 = .ok (.aload_n 0, 1) := by decide +kernel
theorem dX4_listCandidates_23 : decode cX4_listCandidates 23 = .ok (.iload_n 1, 1) := by decide +kernel
theorem dX4_listCandidates_24 : decode cX4_listCandidates 24 = .ok (.invokevirtual 114, 3) := by decide +kernel
theorem dX4_listCandidates_27 : decode cX4_listCandidates 27 = .ok (.aload_n 0, 1) := by decide +kernel
theorem dX4_listCandidates_28 : decode cX4_listCandidates 28 = .ok (.iconst 3, 1) := by decide +kernel
theorem dX4_listCandidates_29 : decode cX4_listCandidates 29 = .ok (.iload_n 1, 1) := by decide +kernel
theorem dX4_listCandidates_30 : decode cX4_listCandidates 30 = .ok (.invokevirtual 117, 3) := by decide +kernel
theorem dX4_listCandidates_33 : decode cX4_listCandidates 33 = .ok (.aload_n 0, 1) := by decide +kernel
theorem dX4_listCandidates_34 : decode cX4_listCandidates 34 = .ok (.iconst 4, 1) := by decide +kernel
theorem dX4_listCandidates_35 : decode cX4_listCandidates 35 = .ok (.iload_n 1, 1) := by decide +kernel
theorem dX4_listCandidates_36 : decode cX4_listCandidates 36 = .ok (.invokevirtual 117, 3) := by decide +kernel
theorem dX4_listCandidates_39 : decode cX4_listCandidates 39 = .ok (.return_, 1) := by decide +kernel
theorem dX4_list_0 : decode cX4_list 0 = .ok (.aload_n 0, 1) := by decide +kernel
theorem dX4_list_1 : decode cX4_list 1 = .ok (.getfield 102, 3) := by decide +kernel
theorem dX4_list_4 : decode cX4_list 4 = .ok (.bipush 97, 2) := by decide +kernel
theorem dX4_list_6 : decode cX4_list 6 = .ok (.if_icmp .ge 23, 3) := by decide +kernel
theorem dX4_list_9 : decode cX4_list 9 = .ok (.aload_n 0, 1) := by decide +kernel
theorem dX4_list_10 : decode cX4_list 10 = .ok (.getfield 21, 3) := by decide +kernel
theorem dX4_list_13 : decode cX4_list 13 = .ok (.aload_n 0, 1) := by decide +kernel
theorem dX4_list_14 : decode cX4_list 14 = .ok (.getfield 102, 3) := by decide +kernel
theorem dX4_list_17 : decode cX4_list 17 = .ok (.iload_n 1, 1) := by decide +kernel
theorem dX4_list_18 : decode cX4_list 18 = .ok (.iastore, 1) := by decide +kernel
theorem dX4_list_19 : decode cX4_list 19 = .ok (.aload_n 0, 1) := by decide +kernel
theorem dX4_list_20 : decode cX4_list 20 = .ok (.dup, 1) := by decide +kernel
theorem dX4_list_21 : decode cX4_list 21 = .ok (.getfield 102, 3) := by decide +kernel
theorem dX4_list_24 : decode cX4_list 24 = .ok (.iconst 1, 1) := by decide +kernel
theorem dX4_list_25 : decode cX4_list 25 = .ok (.iadd, 1) := by decide +kernel
theorem dX4_list_26 : decode cX4_list 26 = .ok (.putfield 102, 3) := by decide +kernel
theorem dX4_list_29 : decode cX4_list 29 = .ok (.return_, 1) := by decide +kernel
theorem dX4_listOpenCells_0 : decode cX4_listOpenCells 0 = .ok (.iconst 0, 1) := by decide +kernel
theorem dX4_listOpenCells_1 : decode cX4_listOpenCells 1 = .ok (.istore_n 1, 1) := by decide +kernel
theorem dX4_listOpenCells_2 : decode cX4_listOpenCells 2 = .ok (.iload_n 1, 1) := by decide +kernel
theorem dX4_listOpenCells_3 : decode cX4_listOpenCells 3 = .ok (.aload_n 0, 1) := by decide +kernel
theorem dX4_listOpenCells_4 : decode cX4_listOpenCells 4 = .ok (.getfield 24, 3) := by decide +kernel
theorem dX4_listOpenCells_7 : decode cX4_listOpenCells 7 = .ok (.getfield 77, 3) := by decide +kernel
theorem dX4_listOpenCells_10 : decode cX4_listOpenCells 10 = .ok (.if_icmp .ge 43, 3) := by decide +kernel
theorem dX4_listOpenCells_13 : decode cX4_listOpenCells 13 = .ok (.iconst 0, 1) := by decide +kernel
theorem dX4_listOpenCells_14 : decode cX4_listOpenCells 14 = .ok (.istore_n 2, 1) := by decide +kernel
theorem dX4_listOpenCells_15 : decode cX4_listOpenCells 15 = .ok (.iload_n 2, 1) := by decide +kernel
theorem dX4_listOpenCells_16 : decode cX4_listOpenCells 16 = .ok (.aload_n 0, 1) := by decide +kernel
theorem dX4_listOpenCells_17 : decode cX4_listOpenCells 17 = .ok (.getfield 24, 3) := by decide +kernel
theorem dX4_listOpenCells_20 : decode cX4_listOpenCells 20 = .ok (.getfield 80, 3) := by decide +kernel
theorem dX4_listOpenCells_23 : decode cX4_listOpenCells 23 = .ok (.iload_n 1, 1) := by decide +kernel
theorem dX4_listOpenCells_24 : decode cX4_listOpenCells 24 = .ok (.aaload, 1) := by decide +kernel
theorem dX4_listOpenCells_25 : decode cX4_listOpenCells 25 = .ok (.getfield 84, 3) := by decide +kernel
theorem dX4_listOpenCells_28 : decode cX4_listOpenCells 28 = .ok (.if_icmp .ge 19, 3) := by decide +kernel
theorem dX4_listOpenCells_31 : decode cX4_listOpenCells 31 = .ok (.aload_n 0, 1) := by decide +kernel
theorem dX4_listOpenCells_32 : decode cX4_listOpenCells 32 = .ok (.iconst 1, 1) := by decide +kernel
theorem dX4_listOpenCells_33 : decode cX4_listOpenCells 33 = .ok (.iload_n 1, 1) := by decide +kernel
theorem dX4_listOpenCells_34 : decode cX4_listOpenCells 34 = .ok (.iload_n 2, 1) := by decide +kernel
theorem dX4_listOpenCells_35 : decode cX4_listOpenCells 35 = .ok (.invokestatic 121, 3) := by decide +kernel
theorem dX4_listOpenCells_38 : decode cX4_listOpenCells 38 = .ok (.invokevirtual 108, 3) := by decide +kernel
theorem dX4_listOpenCells_41 : decode cX4_listOpenCells 41 = .ok (.iinc 2 1, 3) := by decide +kernel
theorem dX4_listOpenCells_44 : decode cX4_listOpenCells 44 = .ok (.goto (-29), 3) := by decide +kernel
theorem dX4_listOpenCells_47 : decode cX4_listOpenCells 47 = .ok (.iinc 1 1, 3) := by decide +kernel
theorem dX4_listOpenCells_50 : decode cX4_listOpenCells 50 = .ok (.goto (-48), 3) := by decide +kernel
theorem dX4_listOpenCells_53 : decode cX4_listOpenCells 53 = .ok (.return_, 1) := by decide +kernel
theorem dX4_listStuckNets_0 : decode cX4_listStuckNets 0 = .ok (.iconst 0, 1) := by decide +kernel
theorem dX4_listStuckNets_1 : decode cX4_listStuckNets 1 = .ok (.istore_n 2, 1) := by decide +kernel
theorem dX4_listStuckNets_2 : decode cX4_listStuckNets 2 = .ok (.iload_n 2, 1) := by decide +kernel
theorem dX4_listStuckNets_3 : decode cX4_listStuckNets 3 = .ok (.bipush 8, 2) := by decide +kernel
theorem dX4_listStuckNets_5 : decode cX4_listStuckNets 5 = .ok (.if_icmp .ge 37, 3) := by decide +kernel
theorem dX4_listStuckNets_8 : decode cX4_listStuckNets 8 = .ok (.iload_n 1, 1) := by decide +kernel
theorem dX4_listStuckNets_9 : decode cX4_listStuckNets 9 = .ok (.iload_n 2, 1) := by decide +kernel
theorem dX4_listStuckNets_10 : decode cX4_listStuckNets 10 = .ok (.invokestatic 124, 3) := by decide +kernel
theorem dX4_listStuckNets_13 : decode cX4_listStuckNets 13 = .ok (.ifCond .eq 23, 3) := by decide +kernel
theorem dX4_listStuckNets_16 : decode cX4_listStuckNets 16 = .ok (.aload_n 0, 1) := by decide +kernel
theorem dX4_listStuckNets_17 : decode cX4_listStuckNets 17 = .ok (.iconst 2, 1) := by decide +kernel
theorem dX4_listStuckNets_18 : decode cX4_listStuckNets 18 = .ok (.iload_n 2, 1) := by decide +kernel
theorem dX4_listStuckNets_19 : decode cX4_listStuckNets 19 = .ok (.iconst 0, 1) := by decide +kernel
theorem dX4_listStuckNets_20 : decode cX4_listStuckNets 20 = .ok (.invokestatic 121, 3) := by decide +kernel
theorem dX4_listStuckNets_23 : decode cX4_listStuckNets 23 = .ok (.invokevirtual 108, 3) := by decide +kernel
theorem dX4_listStuckNets_26 : decode cX4_listStuckNets 26 = .ok (.aload_n 0, 1) := by decide +kernel
theorem dX4_listStuckNets_27 : decode cX4_listStuckNets 27 = .ok (.iconst 2, 1) := by decide +kernel
theorem dX4_listStuckNets_28 : decode cX4_listStuckNets 28 = .ok (.iload_n 2, 1) := by decide +kernel
theorem dX4_listStuckNets_29 : decode cX4_listStuckNets 29 = .ok (.iconst 1, 1) := by decide +kernel
theorem dX4_listStuckNets_30 : decode cX4_listStuckNets 30 = .ok (.invokestatic 121, 3) := by decide +kernel
theorem dX4_listStuckNets_33 : decode cX4_listStuckNets 33 = .ok (.invokevirtual 108, 3) := by decide +kernel
theorem dX4_listStuckNets_36 : decode cX4_listStuckNets 36 = .ok (.iinc 2 1, 3) := by decide +kernel
theorem dX4_listStuckNets_39 : decode cX4_listStuckNets 39 = .ok (.goto (-37), 3) := by decide +kernel
theorem dX4_listStuckNets_42 : decode cX4_listStuckNets 42 = .ok (.return_, 1) := by decide +kernel
theorem dX4_listShorts_0 : decode cX4_listShorts 0 = .ok (.iconst 0, 1) := by decide +kernel
theorem dX4_listShorts_1 : decode cX4_listShorts 1 = .ok (.istore_n 3, 1) := by decide +kernel
theorem dX4_listShorts_2 : decode cX4_listShorts 2 = .ok (.iload_n 3, 1) := by decide +kernel
theorem dX4_listShorts_3 : decode cX4_listShorts 3 = .ok (.bipush 8, 2) := by decide +kernel
theorem dX4_listShorts_5 : decode cX4_listShorts 5 = .ok (.if_icmp .ge 55, 3) := by decide +kernel
theorem dX4_listShorts_8 : decode cX4_listShorts 8 = .ok (.iload_n 3, 1) := by decide +kernel
theorem dX4_listShorts_9 : decode cX4_listShorts 9 = .ok (.iconst 1, 1) := by decide +kernel
theorem dX4_listShorts_10 : decode cX4_listShorts 10 = .ok (.iadd, 1) := by decide +kernel
theorem dX4_listShorts_11 : decode cX4_listShorts 11 = .ok (.istore 4, 2) := by decide +kernel
theorem dX4_listShorts_13 : decode cX4_listShorts 13 = .ok (.iload 4, 2) := by decide +kernel
theorem dX4_listShorts_15 : decode cX4_listShorts 15 = .ok (.bipush 8, 2) := by decide +kernel
theorem dX4_listShorts_17 : decode cX4_listShorts 17 = .ok (.if_icmp .ge 37, 3) := by decide +kernel
theorem dX4_listShorts_20 : decode cX4_listShorts 20 = .ok (.iload_n 2, 1) := by decide +kernel
theorem dX4_listShorts_21 : decode cX4_listShorts 21 = .ok (.iload_n 3, 1) := by decide +kernel
theorem dX4_listShorts_22 : decode cX4_listShorts 22 = .ok (.invokestatic 124, 3) := by decide +kernel
theorem dX4_listShorts_25 : decode cX4_listShorts 25 = .ok (.ifCond .eq 23, 3) := by decide +kernel
theorem dX4_listShorts_28 : decode cX4_listShorts 28 = .ok (.iload_n 2, 1) := by decide +kernel
theorem dX4_listShorts_29 : decode cX4_listShorts 29 = .ok (.iload 4, 2) := by decide +kernel
theorem dX4_listShorts_31 : decode cX4_listShorts 31 = .ok (.invokestatic 124, 3) := by decide +kernel
theorem dX4_listShorts_34 : decode cX4_listShorts 34 = .ok (.ifCond .eq 14, 3) := by decide +kernel
theorem dX4_listShorts_37 : decode cX4_listShorts 37 = .ok (.aload_n 0, 1) := by decide +kernel
theorem dX4_listShorts_38 : decode cX4_listShorts 38 = .ok (.iload_n 1, 1) := by decide +kernel
theorem dX4_listShorts_39 : decode cX4_listShorts 39 = .ok (.iload_n 3, 1) := by decide +kernel
theorem dX4_listShorts_40 : decode cX4_listShorts 40 = .ok (.iload 4, 2) := by decide +kernel
theorem dX4_listShorts_42 : decode cX4_listShorts 42 = .ok (.invokestatic 121, 3) := by decide +kernel
theorem dX4_listShorts_45 : decode cX4_listShorts 45 = .ok (.invokevirtual 108, 3) := by decide +kernel
theorem dX4_listShorts_48 : decode cX4_listShorts 48 = .ok (.iinc 4 1, 3) := by decide +kernel
theorem dX4_listShorts_51 : decode cX4_listShorts 51 = .ok (.goto (-38), 3) := by decide +kernel
theorem dX4_listShorts_54 : decode cX4_listShorts 54 = .ok (.iinc 3 1, 3) := by decide +kernel
theorem dX4_listShorts_57 : decode cX4_listShorts 57 = .ok (.goto (-55), 3) := by decide +kernel
theorem dX4_listShorts_60 : decode cX4_listShorts 60 = .ok (.return_, 1) := by decide +kernel
theorem dX5_init_0 : decode cX5_init 0 = .ok (.aload_n 0, 1) := by decide +kernel
theorem dX5_init_1 : decode cX5_init 1 = .ok (.invokespecial 3, 3) := by decide +kernel
theorem dX5_init_4 : decode cX5_init 4 = .ok (.aload_n 0, 1) := by decide +kernel
theorem dX5_init_5 : decode cX5_init 5 = .ok (.bipush 120, 2) := by decide +kernel
theorem dX5_init_7 : decode cX5_init 7 = .ok (.newarray .byte, 2) := by decide +kernel
theorem dX5_init_9 : decode cX5_init 9 = .ok (.putfield 9, 3) := by decide +kernel
theorem dX5_init_12 : decode cX5_init 12 = .ok (.aload_n 0, 1) := by decide +kernel
theorem dX5_init_13 : decode cX5_init 13 = .ok (.bipush 60, 2) := by decide +kernel
theorem dX5_init_15 : decode cX5_init 15 = .ok (.newarray .byte, 2) := by decide +kernel
theorem dX5_init_17 : decode cX5_init 17 = .ok (.putfield 15, 3) := by decide +kernel
theorem dX5_init_20 : decode cX5_init 20 = .ok (.aload_n 0, 1) := by decide +kernel
theorem dX5_init_21 : decode cX5_init 21 = .ok (.sipush 180, 3) := by decide +kernel
theorem dX5_init_24 : decode cX5_init 24 = .ok (.newarray .int, 2) := by decide +kernel
theorem dX5_init_26 : decode cX5_init 26 = .ok (.putfield 18, 3) := by decide +kernel
theorem dX5_init_29 : decode cX5_init 29 = .ok (.return_, 1) := by decide +kernel
theorem dX5_append_0 : decode cX5_append 0 = .ok (.iload_n 1, 1) := by decide +kernel
theorem dX5_append_1 : decode cX5_append 1 = .ok (.ifCond .lt 9, 3) := by decide +kernel
theorem dX5_append_4 : decode cX5_append 4 = .ok (.iload_n 1, 1) := by decide +kernel
theorem dX5_append_5 : decode cX5_append 5 = .ok (.bipush 127, 2) := by decide +kernel
theorem dX5_append_7 : decode cX5_append 7 = .ok (.if_icmp .le 6, 3) := by decide +kernel
theorem dX5_append_10 : decode cX5_append 10 = .ok (.bipush (-2), 2) := by decide +kernel
theorem dX5_append_12 : decode cX5_append 12 = .ok (.ireturn, 1) := by decide +kernel
theorem dX5_append_13 : decode cX5_append 13 = .ok (.aload_n 0, 1) := by decide +kernel
theorem dX5_append_14 : decode cX5_append 14 = .ok (.getfield 22, 3) := by decide +kernel
theorem dX5_append_17 : decode cX5_append 17 = .ok (.bipush 120, 2) := by decide +kernel
theorem dX5_append_19 : decode cX5_append 19 = .ok (.if_icmp .lt 6, 3) := by decide +kernel
theorem dX5_append_22 : decode cX5_append 22 = .ok (.bipush (-4), 2) := by decide +kernel
theorem dX5_append_24 : decode cX5_append 24 = .ok (.ireturn, 1) := by decide +kernel
theorem dX5_append_25 : decode cX5_append 25 = .ok (.aload_n 0, 1) := by decide +kernel
theorem dX5_append_26 : decode cX5_append 26 = .ok (.getfield 9, 3) := by decide +kernel
theorem dX5_append_29 : decode cX5_append 29 = .ok (.aload_n 0, 1) := by decide +kernel
theorem dX5_append_30 : decode cX5_append 30 = .ok (.getfield 22, 3) := by decide +kernel
theorem dX5_append_33 : decode cX5_append 33 = .ok (.iload_n 1, 1) := by decide +kernel
theorem dX5_append_34 : decode cX5_append 34 = .ok (.i2b, 1) := by decide +kernel
theorem dX5_append_35 : decode cX5_append 35 = .ok (.bastore, 1) := by decide +kernel
theorem dX5_append_36 : decode cX5_append 36 = .ok (.aload_n 0, 1) := by decide +kernel
theorem dX5_append_37 : decode cX5_append 37 = .ok (.dup, 1) := by decide +kernel
theorem dX5_append_38 : decode cX5_append 38 = .ok (.getfield 22, 3) := by decide +kernel
theorem dX5_append_41 : decode cX5_append 41 = .ok (.iconst 1, 1) := by decide +kernel
theorem dX5_append_42 : decode cX5_append 42 = .ok (.iadd, 1) := by decide +kernel
theorem dX5_append_43 : decode cX5_append 43 = .ok (.putfield 22, 3) := by decide +kernel
theorem dX5_append_46 : decode cX5_append 46 = .ok (.aload_n 0, 1) := by decide +kernel
theorem dX5_append_47 : decode cX5_append 47 = .ok (.getfield 22, 3) := by decide +kernel
theorem dX5_append_50 : decode cX5_append 50 = .ok (.ireturn, 1) := by decide +kernel
theorem dX5_drop_0 : decode cX5_drop 0 = .ok (.aload_n 0, 1) := by decide +kernel
theorem dX5_drop_1 : decode cX5_drop 1 = .ok (.getfield 22, 3) := by decide +kernel
theorem dX5_drop_4 : decode cX5_drop 4 = .ok (.istore_n 1, 1) := by decide +kernel
theorem dX5_drop_5 : decode cX5_drop 5 = .ok (.aload_n 0, 1) := by decide +kernel
theorem dX5_drop_6 : decode cX5_drop 6 = .ok (.iconst 0, 1) := by decide +kernel
theorem dX5_drop_7 : decode cX5_drop 7 = .ok (.putfield 22, 3) := by decide +kernel
theorem dX5_drop_10 : decode cX5_drop 10 = .ok (.iload_n 1, 1) := by decide +kernel
theorem dX5_drop_11 : decode cX5_drop 11 = .ok (.ireturn, 1) := by decide +kernel
theorem dX5_parse_0 : decode cX5_parse 0 = .ok (.aload_n 0, 1) := by decide +kernel
theorem dX5_parse_1 : decode cX5_parse 1 = .ok (.iconst 0, 1) := by decide +kernel
theorem dX5_parse_2 : decode cX5_parse 2 = .ok (.putfield 26, 3) := by decide +kernel
theorem dX5_parse_5 : decode cX5_parse 5 = .ok (.aload_n 0, 1) := by decide +kernel
theorem dX5_parse_6 : decode cX5_parse 6 = .ok (.iconst 0, 1) := by decide +kernel
theorem dX5_parse_7 : decode cX5_parse 7 = .ok (.putfield 29, 3) := by decide +kernel
theorem dX5_parse_10 : decode cX5_parse 10 = .ok (.iconst 0, 1) := by decide +kernel
theorem dX5_parse_11 : decode cX5_parse 11 = .ok (.istore_n 1, 1) := by decide +kernel
theorem dX5_parse_12 : decode cX5_parse 12 = .ok (.iload_n 1, 1) := by decide +kernel
theorem dX5_parse_13 : decode cX5_parse 13 = .ok (.aload_n 0, 1) := by decide +kernel
theorem dX5_parse_14 : decode cX5_parse 14 = .ok (.getfield 22, 3) := by decide +kernel
theorem dX5_parse_17 : decode cX5_parse 17 = .ok (.if_icmp .ge 24, 3) := by decide +kernel
theorem dX5_parse_20 : decode cX5_parse 20 = .ok (.aload_n 0, 1) := by decide +kernel
theorem dX5_parse_21 : decode cX5_parse 21 = .ok (.aload_n 0, 1) := by decide +kernel
theorem dX5_parse_22 : decode cX5_parse 22 = .ok (.getfield 9, 3) := by decide +kernel
theorem dX5_parse_25 : decode cX5_parse 25 = .ok (.iload_n 1, 1) := by decide +kernel
theorem dX5_parse_26 : decode cX5_parse 26 = .ok (.baload, 1) := by decide +kernel
theorem dX5_parse_27 : decode cX5_parse 27 = .ok (.invokevirtual 33, 3) := by decide +kernel
theorem dX5_parse_30 : decode cX5_parse 30 = .ok (.ifCond .ne 5, 3) := by decide +kernel
theorem dX5_parse_33 : decode cX5_parse 33 = .ok (.iload_n 1, 1) := by decide +kernel
theorem dX5_parse_34 : decode cX5_parse 34 = .ok (.ireturn, 1) := by decide +kernel
theorem dX5_parse_35 : decode cX5_parse 35 = .ok (.iinc 1 1, 3) := by decide +kernel
theorem dX5_parse_38 : decode cX5_parse 38 = .ok (.goto (-26), 3) := by decide +kernel
theorem dX5_parse_41 : decode cX5_parse 41 = .ok (.aload_n 0, 1) := by decide +kernel
theorem dX5_parse_42 : decode cX5_parse 42 = .ok (.getfield 29, 3) := by decide +kernel
theorem dX5_parse_45 : decode cX5_parse 45 = .ok (.ifCond .ne 10, 3) := by decide +kernel
theorem dX5_parse_48 : decode cX5_parse 48 = .ok (.aload_n 0, 1) := by decide +kernel
theorem dX5_parse_49 : decode cX5_parse 49 = .ok (.getfield 26, 3) := by decide +kernel
theorem dX5_parse_52 : decode cX5_parse 52 = .ok (.ifCond .ne 10, 3) := by decide +kernel
theorem dX5_parse_55 : decode cX5_parse 55 = .ok (.aload_n 0, 1) := by decide +kernel
theorem dX5_parse_56 : decode cX5_parse 56 = .ok (.getfield 22, 3) := by decide +kernel
theorem dX5_parse_59 : decode cX5_parse 59 = .ok (.goto 4, 3) := by decide +kernel
theorem dX5_parse_62 : decode cX5_parse 62 = .ok (.iconst (-1), 1) := by decide +kernel
theorem dX5_parse_63 : decode cX5_parse 63 = .ok (.ireturn, 1) := by decide +kernel
theorem dX5_takes_0 : decode cX5_takes 0 = .ok (.iload_n 1, 1) := by decide +kernel
theorem dX5_takes_1 : decode cX5_takes 1 = .ok (.bipush 32, 2) := by decide +kernel
theorem dX5_takes_3 : decode cX5_takes 3 = .ok (.if_icmp .ne 10, 3) := by decide +kernel
theorem dX5_takes_6 : decode cX5_takes 6 = .ok (.aload_n 0, 1) := by decide +kernel
theorem dX5_takes_7 : decode cX5_takes 7 = .ok (.iconst 0, 1) := by decide +kernel
theorem dX5_takes_8 : decode cX5_takes 8 = .ok (.putfield 37, 3) := by decide +kernel
theorem dX5_takes_11 : decode cX5_takes 11 = .ok (.iconst 1, 1) := by decide +kernel
theorem dX5_takes_12 : decode cX5_takes 12 = .ok (.ireturn, 1) := by decide +kernel
theorem dX5_takes_13 : decode cX5_takes 13 = .ok (.aload_n 0, 1) := by decide +kernel
theorem dX5_takes_14 : decode cX5_takes 14 = .ok (.getfield 29, 3) := by decide +kernel
theorem dX5_takes_17 : decode cX5_takes 17 = .ok (.ifCond .ne 9, 3) := by decide +kernel
theorem dX5_takes_20 : decode cX5_takes 20 = .ok (.aload_n 0, 1) := by decide +kernel
theorem dX5_takes_21 : decode cX5_takes 21 = .ok (.iload_n 1, 1) := by decide +kernel
theorem dX5_takes_22 : decode cX5_takes 22 = .ok (.invokevirtual 40, 3) := by decide +kernel
theorem dX5_takes_25 : decode cX5_takes 25 = .ok (.ireturn, 1) := by decide +kernel
theorem dX5_takes_26 : decode cX5_takes 26 = .ok (.iload_n 1, 1) := by decide +kernel
theorem dX5_takes_27 : decode cX5_takes 27 = .ok (.bipush 59, 2) := by decide +kernel
theorem dX5_takes_29 : decode cX5_takes 29 = .ok (.if_icmp .ne 8, 3) := by decide +kernel
theorem dX5_takes_32 : decode cX5_takes 32 = .ok (.aload_n 0, 1) := by decide +kernel
theorem dX5_takes_33 : decode cX5_takes 33 = .ok (.invokevirtual 43, 3) := by decide +kernel
theorem dX5_takes_36 : decode cX5_takes 36 = .ok (.ireturn, 1) := by decide +kernel
theorem dX5_takes_37 : decode cX5_takes 37 = .ok (.iload_n 1, 1) := by decide +kernel
theorem dX5_takes_38 : decode cX5_takes 38 = .ok (.bipush 48, 2) := by decide +kernel
theorem dX5_takes_40 : decode cX5_takes 40 = .ok (.if_icmp .lt 24, 3) := by decide +kernel
theorem dX5_takes_43 : decode cX5_takes 43 = .ok (.iload_n 1, 1) := by decide +kernel
theorem dX5_takes_44 : decode cX5_takes 44 = .ok (.bipush 57, 2) := by decide +kernel
theorem dX5_takes_46 : decode cX5_takes 46 = .ok (.if_icmp .gt 18, 3) := by decide +kernel
theorem dX5_takes_49 : decode cX5_takes 49 = .ok (.aload_n 0, 1) := by decide +kernel
theorem dX5_takes_50 : decode cX5_takes 50 = .ok (.iload_n 1, 1) := by decide +kernel
theorem dX5_takes_51 : decode cX5_takes 51 = .ok (.bipush 48, 2) := by decide +kernel
theorem dX5_takes_53 : decode cX5_takes 53 = .ok (.isub, 1) := by decide +kernel
theorem dX5_takes_54 : decode cX5_takes 54 = .ok (.invokevirtual 47, 3) := by decide +kernel
theorem dX5_takes_57 : decode cX5_takes 57 = .ok (.ifCond .eq 7, 3) := by decide +kernel
theorem dX5_takes_60 : decode cX5_takes 60 = .ok (.iconst 1, 1) := by decide +kernel
theorem dX5_takes_61 : decode cX5_takes 61 = .ok (.goto 4, 3) := by decide +kernel
theorem dX5_takes_64 : decode cX5_takes 64 = .ok (.iconst 0, 1) := by decide +kernel
theorem dX5_takes_65 : decode cX5_takes 65 = .ok (.ireturn, 1) := by decide +kernel
theorem dX5_takesLetter_0 : decode cX5_takesLetter 0 = .ok (.aload_n 0, 1) := by decide +kernel
theorem dX5_takesLetter_1 : decode cX5_takesLetter 1 = .ok (.iload_n 1, 1) := by decide +kernel
theorem dX5_takesLetter_2 : decode cX5_takesLetter 2 = .ok (.invokestatic 50, 3) := by decide +kernel
theorem dX5_takesLetter_5 : decode cX5_takesLetter 5 = .ok (.putfield 54, 3) := by decide +kernel
theorem dX5_takesLetter_8 : decode cX5_takesLetter 8 = .ok (.aload_n 0, 1) := by decide +kernel
theorem dX5_takesLetter_9 : decode cX5_takesLetter 9 = .ok (.getfield 54, 3) := by decide +kernel
theorem dX5_takesLetter_12 : decode cX5_takesLetter 12 = .ok (.iconst (-1), 1) := by decide +kernel
theorem dX5_takesLetter_13 : decode cX5_takesLetter 13 = .ok (.if_icmp .eq 12, 3) := by decide +kernel
theorem dX5_takesLetter_16 : decode cX5_takesLetter 16 = .ok (.aload_n 0, 1) := by decide +kernel
theorem dX5_takesLetter_17 : decode cX5_takesLetter 17 = .ok (.getfield 26, 3) := by decide +kernel
theorem dX5_takesLetter_20 : decode cX5_takesLetter 20 = .ok (.bipush 60, 2) := by decide +kernel
theorem dX5_takesLetter_22 : decode cX5_takesLetter 22 = .ok (.if_icmp .lt 5, 3) := by decide +kernel
theorem dX5_takesLetter_25 : decode cX5_takesLetter 25 = .ok (.iconst 0, 1) := by decide +kernel
theorem dX5_takesLetter_26 : decode cX5_takesLetter 26 = .ok (.ireturn, 1) := by decide +kernel
theorem dX5_takesLetter_27 : decode cX5_takesLetter 27 = .ok (.aload_n 0, 1) := by decide +kernel
theorem dX5_takesLetter_28 : decode cX5_takesLetter 28 = .ok (.getfield 15, 3) := by decide +kernel
theorem dX5_takesLetter_31 : decode cX5_takesLetter 31 = .ok (.aload_n 0, 1) := by decide +kernel
theorem dX5_takesLetter_32 : decode cX5_takesLetter 32 = .ok (.getfield 26, 3) := by decide +kernel
theorem dX5_takesLetter_35 : decode cX5_takesLetter 35 = .ok (.iload_n 1, 1) := by decide +kernel
theorem dX5_takesLetter_36 : decode cX5_takesLetter 36 = .ok (.i2b, 1) := by decide +kernel
theorem dX5_takesLetter_37 : decode cX5_takesLetter 37 = .ok (.bastore, 1) := by decide +kernel
theorem dX5_takesLetter_38 : decode cX5_takesLetter 38 = .ok (.iconst 0, 1) := by decide +kernel
theorem dX5_takesLetter_39 : decode cX5_takesLetter 39 = .ok (.istore_n 2, 1) := by decide +kernel
theorem dX5_takesLetter_40 : decode cX5_takesLetter 40 = .ok (.iload_n 2, 1) := by decide +kernel
theorem dX5_takesLetter_41 : decode cX5_takesLetter 41 = .ok (.iconst 3, 1) := by decide +kernel
theorem dX5_takesLetter_42 : decode cX5_takesLetter 42 = .ok (.if_icmp .ge 23, 3) := by decide +kernel
theorem dX5_takesLetter_45 : decode cX5_takesLetter 45 = .ok (.aload_n 0, 1) := by decide +kernel
theorem dX5_takesLetter_46 : decode cX5_takesLetter 46 = .ok (.getfield 18, 3) := by decide +kernel
theorem dX5_takesLetter_49 : decode cX5_takesLetter 49 = .ok (.aload_n 0, 1) := by decide +kernel
theorem dX5_takesLetter_50 : decode cX5_takesLetter 50 = .ok (.getfield 26, 3) := by decide +kernel
theorem dX5_takesLetter_53 : decode cX5_takesLetter 53 = .ok (.iconst 3, 1) := by decide +kernel
theorem dX5_takesLetter_54 : decode cX5_takesLetter 54 = .ok (.imul, 1) := by decide +kernel
theorem dX5_takesLetter_55 : decode cX5_takesLetter 55 = .ok (.iload_n 2, 1) := by decide +kernel
theorem dX5_takesLetter_56 : decode cX5_takesLetter 56 = .ok (.iadd, 1) := by decide +kernel
theorem dX5_takesLetter_57 : decode cX5_takesLetter 57 = .ok (.iconst 0, 1) := by decide +kernel
theorem dX5_takesLetter_58 : decode cX5_takesLetter 58 = .ok (.iastore, 1) := by decide +kernel
theorem dX5_takesLetter_59 : decode cX5_takesLetter 59 = .ok (.iinc 2 1, 3) := by decide +kernel
theorem dX5_takesLetter_62 : decode cX5_takesLetter 62 = .ok (.goto (-22), 3) := by decide +kernel
theorem dX5_takesLetter_65 : decode cX5_takesLetter 65 = .ok (.aload_n 0, 1) := by decide +kernel
theorem dX5_takesLetter_66 : decode cX5_takesLetter 66 = .ok (.iconst 1, 1) := by decide +kernel
theorem dX5_takesLetter_67 : decode cX5_takesLetter 67 = .ok (.putfield 29, 3) := by decide +kernel
theorem dX5_takesLetter_70 : decode cX5_takesLetter 70 = .ok (.aload_n 0, 1) := by decide +kernel
theorem dX5_takesLetter_71 : decode cX5_takesLetter 71 = .ok (.iconst 0, 1) := by decide +kernel
theorem dX5_takesLetter_72 : decode cX5_takesLetter 72 = .ok (.putfield 57, 3) := by decide +kernel
theorem dX5_takesLetter_75 : decode cX5_takesLetter 75 = .ok (.aload_n 0, 1) := by decide +kernel
theorem dX5_takesLetter_76 : decode cX5_takesLetter 76 = .ok (.iconst 0, 1) := by decide +kernel
theorem dX5_takesLetter_77 : decode cX5_takesLetter 77 = .ok (.putfield 37, 3) := by decide +kernel
theorem dX5_takesLetter_80 : decode cX5_takesLetter 80 = .ok (.iconst 1, 1) := by decide +kernel
theorem dX5_takesLetter_81 : decode cX5_takesLetter 81 = .ok (.ireturn, 1) := by decide +kernel
theorem dX5_numbersOf_0 : decode cX5_numbersOf 0 = .ok (.iload_n 0, 1) := by decide +kernel
theorem dX5_numbersOf_1 : decode cX5_numbersOf 1 = .ok (.tableswitch 97 99 117 #[93, 97, 97, 97, 97, 91, 97, 97, 93, 97, 97, 97, 93, 95, 97, 97, 95, 97, 93], 91) := by decide +kernel
theorem dX5_numbersOf_92 : decode cX5_numbersOf 92 = .ok (.iconst 0, 1) := by decide +kernel
theorem dX5_numbersOf_93 : decode cX5_numbersOf 93 = .ok (.ireturn, 1) := by decide +kernel
theorem dX5_numbersOf_94 : decode cX5_numbersOf 94 = .ok (.iconst 2, 1) := by decide +kernel
theorem dX5_numbersOf_95 : decode cX5_numbersOf 95 = .ok (.ireturn, 1) := by decide +kernel
theorem dX5_numbersOf_96 : decode cX5_numbersOf 96 = .ok (.iconst 3, 1) := by decide +kernel
theorem dX5_numbersOf_97 : decode cX5_numbersOf 97 = .ok (.ireturn, 1) := by decide +kernel
theorem dX5_numbersOf_98 : decode cX5_numbersOf 98 = .ok (.iconst (-1), 1) := by decide +kernel
theorem dX5_numbersOf_99 : decode cX5_numbersOf 99 = .ok (.ireturn, 1) := by decide +kernel
theorem dX5_takesEnd_0 : decode cX5_takesEnd 0 = .ok (.aload_n 0, 1) := by decide +kernel
theorem dX5_takesEnd_1 : decode cX5_takesEnd 1 = .ok (.getfield 57, 3) := by decide +kernel
theorem dX5_takesEnd_4 : decode cX5_takesEnd 4 = .ok (.aload_n 0, 1) := by decide +kernel
theorem dX5_takesEnd_5 : decode cX5_takesEnd 5 = .ok (.getfield 54, 3) := by decide +kernel
theorem dX5_takesEnd_8 : decode cX5_takesEnd 8 = .ok (.if_icmp .eq 5, 3) := by decide +kernel
theorem dX5_takesEnd_11 : decode cX5_takesEnd 11 = .ok (.iconst 0, 1) := by decide +kernel
theorem dX5_takesEnd_12 : decode cX5_takesEnd 12 = .ok (.ireturn, 1) := by decide +kernel
theorem dX5_takesEnd_13 : decode cX5_takesEnd 13 = .ok (.aload_n 0, 1) := by decide +kernel
theorem dX5_takesEnd_14 : decode cX5_takesEnd 14 = .ok (.dup, 1) := by decide +kernel
theorem dX5_takesEnd_15 : decode cX5_takesEnd 15 = .ok (.getfield 26, 3) := by decide +kernel
theorem dX5_takesEnd_18 : decode cX5_takesEnd 18 = .ok (.iconst 1, 1) := by decide +kernel
theorem dX5_takesEnd_19 : decode cX5_takesEnd 19 = .ok (.iadd, 1) := by decide +kernel
theorem dX5_takesEnd_20 : decode cX5_takesEnd 20 = .ok (.putfield 26, 3) := by decide +kernel
theorem dX5_takesEnd_23 : decode cX5_takesEnd 23 = .ok (.aload_n 0, 1) := by decide +kernel
theorem dX5_takesEnd_24 : decode cX5_takesEnd 24 = .ok (.iconst 0, 1) := by decide +kernel
theorem dX5_takesEnd_25 : decode cX5_takesEnd 25 = .ok (.putfield 29, 3) := by decide +kernel
theorem dX5_takesEnd_28 : decode cX5_takesEnd 28 = .ok (.iconst 1, 1) := by decide +kernel
theorem dX5_takesEnd_29 : decode cX5_takesEnd 29 = .ok (.ireturn, 1) := by decide +kernel
theorem dX5_takesDigit_0 : decode cX5_takesDigit 0 = .ok (.aload_n 0, 1) := by decide +kernel
theorem dX5_takesDigit_1 : decode cX5_takesDigit 1 = .ok (.getfield 37, 3) := by decide +kernel
theorem dX5_takesDigit_4 : decode cX5_takesDigit 4 = .ok (.ifCond .ne 29, 3) := by decide +kernel
theorem dX5_takesDigit_7 : decode cX5_takesDigit 7 = .ok (.aload_n 0, 1) := by decide +kernel
theorem dX5_takesDigit_8 : decode cX5_takesDigit 8 = .ok (.getfield 57, 3) := by decide +kernel
theorem dX5_takesDigit_11 : decode cX5_takesDigit 11 = .ok (.aload_n 0, 1) := by decide +kernel
theorem dX5_takesDigit_12 : decode cX5_takesDigit 12 = .ok (.getfield 54, 3) := by decide +kernel
theorem dX5_takesDigit_15 : decode cX5_takesDigit 15 = .ok (.if_icmp .ne 5, 3) := by decide +kernel
theorem dX5_takesDigit_18 : decode cX5_takesDigit 18 = .ok (.iconst 0, 1) := by decide +kernel
theorem dX5_takesDigit_19 : decode cX5_takesDigit 19 = .ok (.ireturn, 1) := by decide +kernel
theorem dX5_takesDigit_20 : decode cX5_takesDigit 20 = .ok (.aload_n 0, 1) := by decide +kernel
theorem dX5_takesDigit_21 : decode cX5_takesDigit 21 = .ok (.dup, 1) := by decide +kernel
theorem dX5_takesDigit_22 : decode cX5_takesDigit 22 = .ok (.getfield 57, 3) := by decide +kernel
theorem dX5_takesDigit_25 : decode cX5_takesDigit 25 = .ok (.iconst 1, 1) := by decide +kernel
theorem dX5_takesDigit_26 : decode cX5_takesDigit 26 = .ok (.iadd, 1) := by decide +kernel
theorem dX5_takesDigit_27 : decode cX5_takesDigit 27 = .ok (.putfield 57, 3) := by decide +kernel
theorem dX5_takesDigit_30 : decode cX5_takesDigit 30 = .ok (.goto 13, 3) := by decide +kernel
theorem dX5_takesDigit_33 : decode cX5_takesDigit 33 = .ok (.aload_n 0, 1) := by decide +kernel
theorem dX5_takesDigit_34 : decode cX5_takesDigit 34 = .ok (.getfield 37, 3) := by decide +kernel
theorem dX5_takesDigit_37 : decode cX5_takesDigit 37 = .ok (.iconst 3, 1) := by decide +kernel
theorem dX5_takesDigit_38 : decode cX5_takesDigit 38 = .ok (.if_icmp .ne 5, 3) := by decide +kernel
theorem dX5_takesDigit_41 : decode cX5_takesDigit 41 = .ok (.iconst 0, 1) := by decide +kernel
theorem dX5_takesDigit_42 : decode cX5_takesDigit 42 = .ok (.ireturn, 1) := by decide +kernel
theorem dX5_takesDigit_43 : decode cX5_takesDigit 43 = .ok (.aload_n 0, 1) := by decide +kernel
theorem dX5_takesDigit_44 : decode cX5_takesDigit 44 = .ok (.getfield 26, 3) := by decide +kernel
theorem dX5_takesDigit_47 : decode cX5_takesDigit 47 = .ok (.iconst 3, 1) := by decide +kernel
theorem dX5_takesDigit_48 : decode cX5_takesDigit 48 = .ok (.imul, 1) := by decide +kernel
theorem dX5_takesDigit_49 : decode cX5_takesDigit 49 = .ok (.aload_n 0, 1) := by decide +kernel
theorem dX5_takesDigit_50 : decode cX5_takesDigit 50 = .ok (.getfield 57, 3) := by decide +kernel
theorem dX5_takesDigit_53 : decode cX5_takesDigit 53 = .ok (.iadd, 1) := by decide +kernel
theorem dX5_takesDigit_54 : decode cX5_takesDigit 54 = .ok (.iconst 1, 1) := by decide +kernel
theorem dX5_takesDigit_55 : decode cX5_takesDigit 55 = .ok (.isub, 1) := by decide +kernel
theorem dX5_takesDigit_56 : decode cX5_takesDigit 56 = .ok (.istore_n 2, 1) := by decide +kernel
theorem dX5_takesDigit_57 : decode cX5_takesDigit 57 = .ok (.aload_n 0, 1) := by decide +kernel
theorem dX5_takesDigit_58 : decode cX5_takesDigit 58 = .ok (.getfield 18, 3) := by decide +kernel
theorem dX5_takesDigit_61 : decode cX5_takesDigit 61 = .ok (.iload_n 2, 1) := by decide +kernel
theorem dX5_takesDigit_62 : decode cX5_takesDigit 62 = .ok (.bipush 10, 2) := by decide +kernel
theorem dX5_takesDigit_64 : decode cX5_takesDigit 64 = .ok (.aload_n 0, 1) := by decide +kernel
theorem dX5_takesDigit_65 : decode cX5_takesDigit 65 = .ok (.getfield 18, 3) := by decide +kernel
theorem dX5_takesDigit_68 : decode cX5_takesDigit 68 = .ok (.iload_n 2, 1) := by decide +kernel
theorem dX5_takesDigit_69 : decode cX5_takesDigit 69 = .ok (.iaload, 1) := by decide +kernel
theorem dX5_takesDigit_70 : decode cX5_takesDigit 70 = .ok (.imul, 1) := by decide +kernel
theorem dX5_takesDigit_71 : decode cX5_takesDigit 71 = .ok (.iload_n 1, 1) := by decide +kernel
theorem dX5_takesDigit_72 : decode cX5_takesDigit 72 = .ok (.iadd, 1) := by decide +kernel
theorem dX5_takesDigit_73 : decode cX5_takesDigit 73 = .ok (.iastore, 1) := by decide +kernel
theorem dX5_takesDigit_74 : decode cX5_takesDigit 74 = .ok (.aload_n 0, 1) := by decide +kernel
theorem dX5_takesDigit_75 : decode cX5_takesDigit 75 = .ok (.dup, 1) := by decide +kernel
theorem dX5_takesDigit_76 : decode cX5_takesDigit 76 = .ok (.getfield 37, 3) := by decide +kernel
theorem dX5_takesDigit_79 : decode cX5_takesDigit 79 = .ok (.iconst 1, 1) := by decide +kernel
theorem dX5_takesDigit_80 : decode cX5_takesDigit 80 = .ok (.iadd, 1) := by decide +kernel
theorem dX5_takesDigit_81 : decode cX5_takesDigit 81 = .ok (.putfield 37, 3) := by decide +kernel
theorem dX5_takesDigit_84 : decode cX5_takesDigit 84 = .ok (.iconst 1, 1) := by decide +kernel
theorem dX5_takesDigit_85 : decode cX5_takesDigit 85 = .ok (.ireturn, 1) := by decide +kernel
theorem dX6_init_0 : decode cX6_init 0 = .ok (.aload_n 0, 1) := by decide +kernel
theorem dX6_init_1 : decode cX6_init 1 = .ok (.invokespecial 3, 3) := by decide +kernel
theorem dX6_init_4 : decode cX6_init 4 = .ok (.new 9, 3) := by decide +kernel
theorem dX6_init_7 : decode cX6_init 7 = .ok (.dup, 1) := by decide +kernel
theorem dX6_init_8 : decode cX6_init 8 = .ok (.invokespecial 11, 3) := by decide +kernel
theorem dX6_init_11 : decode cX6_init 11 = .ok (.astore_n 1, 1) := by decide +kernel
theorem dX6_init_12 : decode cX6_init 12 = .ok (.aload_n 0, 1) := by decide +kernel
theorem dX6_init_13 : decode cX6_init 13 = .ok (.aload_n 1, 1) := by decide +kernel
theorem dX6_init_14 : decode cX6_init 14 = .ok (.putfield 12, 3) := by decide +kernel
theorem dX6_init_17 : decode cX6_init 17 = .ok (.aload_n 0, 1) := by decide +kernel
theorem dX6_init_18 : decode cX6_init 18 = .ok (.new 16, 3) := by decide +kernel
theorem dX6_init_21 : decode cX6_init 21 = .ok (.dup, 1) := by decide +kernel
theorem dX6_init_22 : decode cX6_init 22 = .ok (.aload_n 1, 1) := by decide +kernel
theorem dX6_init_23 : decode cX6_init 23 = .ok (.invokespecial 18, 3) := by decide +kernel
theorem dX6_init_26 : decode cX6_init 26 = .ok (.putfield 21, 3) := by decide +kernel
theorem dX6_init_29 : decode cX6_init 29 = .ok (.aload_n 0, 1) := by decide +kernel
theorem dX6_init_30 : decode cX6_init 30 = .ok (.new 25, 3) := by decide +kernel
theorem dX6_init_33 : decode cX6_init 33 = .ok (.dup, 1) := by decide +kernel
theorem dX6_init_34 : decode cX6_init 34 = .ok (.aload_n 1, 1) := by decide +kernel
theorem dX6_init_35 : decode cX6_init 35 = .ok (.invokespecial 27, 3) := by decide +kernel
theorem dX6_init_38 : decode cX6_init 38 = .ok (.putfield 28, 3) := by decide +kernel
theorem dX6_init_41 : decode cX6_init 41 = .ok (.aload_n 0, 1) := by decide +kernel
theorem dX6_init_42 : decode cX6_init 42 = .ok (.new 32, 3) := by decide +kernel
theorem dX6_init_45 : decode cX6_init 45 = .ok (.dup, 1) := by decide +kernel
theorem dX6_init_46 : decode cX6_init 46 = .ok (.invokespecial 34, 3) := by decide +kernel
theorem dX6_init_49 : decode cX6_init 49 = .ok (.putfield 35, 3) := by decide +kernel
theorem dX6_init_52 : decode cX6_init 52 = .ok (.aload_n 0, 1) := by decide +kernel
theorem dX6_init_53 : decode cX6_init 53 = .ok (.new 39, 3) := by decide +kernel
theorem dX6_init_56 : decode cX6_init 56 = .ok (.dup, 1) := by decide +kernel
theorem dX6_init_57 : decode cX6_init 57 = .ok (.invokespecial 41, 3) := by decide +kernel
theorem dX6_init_60 : decode cX6_init 60 = .ok (.putfield 42, 3) := by decide +kernel
theorem dX6_init_63 : decode cX6_init 63 = .ok (.return_, 1) := by decide +kernel
theorem dX6_chip_0 : decode cX6_chip 0 = .ok (.aload_n 0, 1) := by decide +kernel
theorem dX6_chip_1 : decode cX6_chip 1 = .ok (.getfield 35, 3) := by decide +kernel
theorem dX6_chip_4 : decode cX6_chip 4 = .ok (.aload_n 0, 1) := by decide +kernel
theorem dX6_chip_5 : decode cX6_chip 5 = .ok (.getfield 12, 3) := by decide +kernel
theorem dX6_chip_8 : decode cX6_chip 8 = .ok (.invokevirtual 46, 3) := by decide +kernel
theorem dX6_chip_11 : decode cX6_chip 11 = .ok (.aload_n 0, 1) := by decide +kernel
theorem dX6_chip_12 : decode cX6_chip 12 = .ok (.aload_n 0, 1) := by decide +kernel
theorem dX6_chip_13 : decode cX6_chip 13 = .ok (.getfield 12, 3) := by decide +kernel
theorem dX6_chip_16 : decode cX6_chip 16 = .ok (.iload_n 1, 1) := by decide +kernel
theorem dX6_chip_17 : decode cX6_chip 17 = .ok (.iload_n 2, 1) := by decide +kernel
theorem dX6_chip_18 : decode cX6_chip 18 = .ok (.invokevirtual 49, 3) := by decide +kernel
theorem dX6_chip_21 : decode cX6_chip 21 = .ok (.invokevirtual 53, 3) := by decide +kernel
theorem dX6_chip_24 : decode cX6_chip 24 = .ok (.ireturn, 1) := by decide +kernel
theorem dX6_cell_0 : decode cX6_cell 0 = .ok (.aload_n 0, 1) := by decide +kernel
theorem dX6_cell_1 : decode cX6_cell 1 = .ok (.getfield 35, 3) := by decide +kernel
theorem dX6_cell_4 : decode cX6_cell 4 = .ok (.aload_n 0, 1) := by decide +kernel
theorem dX6_cell_5 : decode cX6_cell 5 = .ok (.getfield 12, 3) := by decide +kernel
theorem dX6_cell_8 : decode cX6_cell 8 = .ok (.invokevirtual 46, 3) := by decide +kernel
theorem dX6_cell_11 : decode cX6_cell 11 = .ok (.aload_n 0, 1) := by decide +kernel
theorem dX6_cell_12 : decode cX6_cell 12 = .ok (.aload_n 0, 1) := by decide +kernel
theorem dX6_cell_13 : decode cX6_cell 13 = .ok (.getfield 12, 3) := by decide +kernel
theorem dX6_cell_16 : decode cX6_cell 16 = .ok (.iload_n 1, 1) := by decide +kernel
theorem dX6_cell_17 : decode cX6_cell 17 = .ok (.iload_n 2, 1) := by decide +kernel
theorem dX6_cell_18 : decode cX6_cell 18 = .ok (.iload_n 3, 1) := by decide +kernel
theorem dX6_cell_19 : decode cX6_cell 19 = .ok (.invokevirtual 57, 3) := by decide +kernel
theorem dX6_cell_22 : decode cX6_cell 22 = .ok (.invokevirtual 53, 3) := by decide +kernel
theorem dX6_cell_25 : decode cX6_cell 25 = .ok (.ireturn, 1) := by decide +kernel
theorem dX6_opens_0 : decode cX6_opens 0 = .ok (.aload_n 0, 1) := by decide +kernel
theorem dX6_opens_1 : decode cX6_opens 1 = .ok (.getfield 35, 3) := by decide +kernel
theorem dX6_opens_4 : decode cX6_opens 4 = .ok (.aload_n 0, 1) := by decide +kernel
theorem dX6_opens_5 : decode cX6_opens 5 = .ok (.getfield 12, 3) := by decide +kernel
theorem dX6_opens_8 : decode cX6_opens 8 = .ok (.invokevirtual 46, 3) := by decide +kernel
theorem dX6_opens_11 : decode cX6_opens 11 = .ok (.aload_n 0, 1) := by decide +kernel
theorem dX6_opens_12 : decode cX6_opens 12 = .ok (.aload_n 0, 1) := by decide +kernel
theorem dX6_opens_13 : decode cX6_opens 13 = .ok (.getfield 12, 3) := by decide +kernel
theorem dX6_opens_16 : decode cX6_opens 16 = .ok (.iload_n 1, 1) := by decide +kernel
theorem dX6_opens_17 : decode cX6_opens 17 = .ok (.iload_n 2, 1) := by decide +kernel
theorem dX6_opens_18 : decode cX6_opens 18 = .ok (.invokevirtual 61, 3) := by decide +kernel
theorem dX6_opens_21 : decode cX6_opens 21 = .ok (.invokevirtual 53, 3) := by decide +kernel
theorem dX6_opens_24 : decode cX6_opens 24 = .ok (.ireturn, 1) := by decide +kernel
theorem dX6_sticks_0 : decode cX6_sticks 0 = .ok (.aload_n 0, 1) := by decide +kernel
theorem dX6_sticks_1 : decode cX6_sticks 1 = .ok (.getfield 35, 3) := by decide +kernel
theorem dX6_sticks_4 : decode cX6_sticks 4 = .ok (.aload_n 0, 1) := by decide +kernel
theorem dX6_sticks_5 : decode cX6_sticks 5 = .ok (.getfield 12, 3) := by decide +kernel
theorem dX6_sticks_8 : decode cX6_sticks 8 = .ok (.invokevirtual 46, 3) := by decide +kernel
theorem dX6_sticks_11 : decode cX6_sticks 11 = .ok (.aload_n 0, 1) := by decide +kernel
theorem dX6_sticks_12 : decode cX6_sticks 12 = .ok (.aload_n 0, 1) := by decide +kernel
theorem dX6_sticks_13 : decode cX6_sticks 13 = .ok (.getfield 12, 3) := by decide +kernel
theorem dX6_sticks_16 : decode cX6_sticks 16 = .ok (.iload_n 1, 1) := by decide +kernel
theorem dX6_sticks_17 : decode cX6_sticks 17 = .ok (.iload_n 2, 1) := by decide +kernel
theorem dX6_sticks_18 : decode cX6_sticks 18 = .ok (.invokevirtual 64, 3) := by decide +kernel
theorem dX6_sticks_21 : decode cX6_sticks 21 = .ok (.invokevirtual 53, 3) := by decide +kernel
theorem dX6_sticks_24 : decode cX6_sticks 24 = .ok (.ireturn, 1) := by decide +kernel
theorem dX6_shorts_0 : decode cX6_shorts 0 = .ok (.aload_n 0, 1) := by decide +kernel
theorem dX6_shorts_1 : decode cX6_shorts 1 = .ok (.getfield 35, 3) := by decide +kernel
theorem dX6_shorts_4 : decode cX6_shorts 4 = .ok (.aload_n 0, 1) := by decide +kernel
theorem dX6_shorts_5 : decode cX6_shorts 5 = .ok (.getfield 12, 3) := by decide +kernel
theorem dX6_shorts_8 : decode cX6_shorts 8 = .ok (.invokevirtual 46, 3) := by decide +kernel
theorem dX6_shorts_11 : decode cX6_shorts 11 = .ok (.aload_n 0, 1) := by decide +kernel
theorem dX6_shorts_12 : decode cX6_shorts 12 = .ok (.aload_n 0, 1) := by decide +kernel
theorem dX6_shorts_13 : decode cX6_shorts 13 = .ok (.getfield 12, 3) := by decide +kernel
theorem dX6_shorts_16 : decode cX6_shorts 16 = .ok (.iload_n 1, 1) := by decide +kernel
theorem dX6_shorts_17 : decode cX6_shorts 17 = .ok (.iload_n 2, 1) := by decide +kernel
theorem dX6_shorts_18 : decode cX6_shorts 18 = .ok (.iload_n 3, 1) := by decide +kernel
theorem dX6_shorts_19 : decode cX6_shorts 19 = .ok (.invokevirtual 67, 3) := by decide +kernel
theorem dX6_shorts_22 : decode cX6_shorts 22 = .ok (.invokevirtual 53, 3) := by decide +kernel
theorem dX6_shorts_25 : decode cX6_shorts 25 = .ok (.ireturn, 1) := by decide +kernel
theorem dX6_heals_0 : decode cX6_heals 0 = .ok (.aload_n 0, 1) := by decide +kernel
theorem dX6_heals_1 : decode cX6_heals 1 = .ok (.getfield 35, 3) := by decide +kernel
theorem dX6_heals_4 : decode cX6_heals 4 = .ok (.aload_n 0, 1) := by decide +kernel
theorem dX6_heals_5 : decode cX6_heals 5 = .ok (.getfield 12, 3) := by decide +kernel
theorem dX6_heals_8 : decode cX6_heals 8 = .ok (.invokevirtual 46, 3) := by decide +kernel
theorem dX6_heals_11 : decode cX6_heals 11 = .ok (.aload_n 0, 1) := by decide +kernel
theorem dX6_heals_12 : decode cX6_heals 12 = .ok (.aload_n 0, 1) := by decide +kernel
theorem dX6_heals_13 : decode cX6_heals 13 = .ok (.getfield 12, 3) := by decide +kernel
theorem dX6_heals_16 : decode cX6_heals 16 = .ok (.invokevirtual 70, 3) := by decide +kernel
theorem dX6_heals_19 : decode cX6_heals 19 = .ok (.invokevirtual 53, 3) := by decide +kernel
theorem dX6_heals_22 : decode cX6_heals 22 = .ok (.ireturn, 1) := by decide +kernel
theorem dX6_clock_0 : decode cX6_clock 0 = .ok (.aload_n 0, 1) := by decide +kernel
theorem dX6_clock_1 : decode cX6_clock 1 = .ok (.getfield 35, 3) := by decide +kernel
theorem dX6_clock_4 : decode cX6_clock 4 = .ok (.aload_n 0, 1) := by decide +kernel
theorem dX6_clock_5 : decode cX6_clock 5 = .ok (.getfield 12, 3) := by decide +kernel
theorem dX6_clock_8 : decode cX6_clock 8 = .ok (.invokevirtual 46, 3) := by decide +kernel
theorem dX6_clock_11 : decode cX6_clock 11 = .ok (.aload_n 0, 1) := by decide +kernel
theorem dX6_clock_12 : decode cX6_clock 12 = .ok (.aload_n 0, 1) := by decide +kernel
theorem dX6_clock_13 : decode cX6_clock 13 = .ok (.getfield 12, 3) := by decide +kernel
theorem dX6_clock_16 : decode cX6_clock 16 = .ok (.iload_n 1, 1) := by decide +kernel
theorem dX6_clock_17 : decode cX6_clock 17 = .ok (.iload_n 2, 1) := by decide +kernel
theorem dX6_clock_18 : decode cX6_clock 18 = .ok (.aload_n 0, 1) := by decide +kernel
theorem dX6_clock_19 : decode cX6_clock 19 = .ok (.getfield 21, 3) := by decide +kernel
theorem dX6_clock_22 : decode cX6_clock 22 = .ok (.invokevirtual 74, 3) := by decide +kernel
theorem dX6_clock_25 : decode cX6_clock 25 = .ok (.invokevirtual 53, 3) := by decide +kernel
theorem dX6_clock_28 : decode cX6_clock 28 = .ok (.ireturn, 1) := by decide +kernel
theorem dX6_clocks_0 : decode cX6_clocks 0 = .ok (.aload_n 0, 1) := by decide +kernel
theorem dX6_clocks_1 : decode cX6_clocks 1 = .ok (.getfield 35, 3) := by decide +kernel
theorem dX6_clocks_4 : decode cX6_clocks 4 = .ok (.aload_n 0, 1) := by decide +kernel
theorem dX6_clocks_5 : decode cX6_clocks 5 = .ok (.getfield 12, 3) := by decide +kernel
theorem dX6_clocks_8 : decode cX6_clocks 8 = .ok (.invokevirtual 46, 3) := by decide +kernel
theorem dX6_clocks_11 : decode cX6_clocks 11 = .ok (.aload_n 0, 1) := by decide +kernel
theorem dX6_clocks_12 : decode cX6_clocks 12 = .ok (.aload_n 0, 1) := by decide +kernel
theorem dX6_clocks_13 : decode cX6_clocks 13 = .ok (.iload_n 1, 1) := by decide +kernel
theorem dX6_clocks_14 : decode cX6_clocks 14 = .ok (.iload_n 2, 1) := by decide +kernel
theorem dX6_clocks_15 : decode cX6_clocks 15 = .ok (.iload_n 3, 1) := by decide +kernel
theorem dX6_clocks_16 : decode cX6_clocks 16 = .ok (.invokevirtual 78, 3) := by decide +kernel
theorem dX6_clocks_19 : decode cX6_clocks 19 = .ok (.invokevirtual 53, 3) := by decide +kernel
theorem dX6_clocks_22 : decode cX6_clocks 22 = .ok (.ireturn, 1) := by decide +kernel
theorem dX6_port_0 : decode cX6_port 0 = .ok (.aload_n 0, 1) := by decide +kernel
theorem dX6_port_1 : decode cX6_port 1 = .ok (.aload_n 0, 1) := by decide +kernel
theorem dX6_port_2 : decode cX6_port 2 = .ok (.iload_n 1, 1) := by decide +kernel
theorem dX6_port_3 : decode cX6_port 3 = .ok (.invokevirtual 81, 3) := by decide +kernel
theorem dX6_port_6 : decode cX6_port 6 = .ok (.invokevirtual 84, 3) := by decide +kernel
theorem dX6_port_9 : decode cX6_port 9 = .ok (.ireturn, 1) := by decide +kernel
theorem dX6_of_0 : decode cX6_of 0 = .ok (.aload_n 0, 1) := by decide +kernel
theorem dX6_of_1 : decode cX6_of 1 = .ok (.getfield 12, 3) := by decide +kernel
theorem dX6_of_4 : decode cX6_of 4 = .ok (.iload_n 1, 1) := by decide +kernel
theorem dX6_of_5 : decode cX6_of 5 = .ok (.invokevirtual 87, 3) := by decide +kernel
theorem dX6_of_8 : decode cX6_of 8 = .ok (.ifCond .ne 10, 3) := by decide +kernel
theorem dX6_of_11 : decode cX6_of 11 = .ok (.aload_n 0, 1) := by decide +kernel
theorem dX6_of_12 : decode cX6_of 12 = .ok (.bipush (-2), 2) := by decide +kernel
theorem dX6_of_14 : decode cX6_of 14 = .ok (.invokevirtual 84, 3) := by decide +kernel
theorem dX6_of_17 : decode cX6_of 17 = .ok (.ireturn, 1) := by decide +kernel
theorem dX6_of_18 : decode cX6_of 18 = .ok (.aload_n 0, 1) := by decide +kernel
theorem dX6_of_19 : decode cX6_of 19 = .ok (.aload_n 0, 1) := by decide +kernel
theorem dX6_of_20 : decode cX6_of 20 = .ok (.getfield 12, 3) := by decide +kernel
theorem dX6_of_23 : decode cX6_of 23 = .ok (.getfield 91, 3) := by decide +kernel
theorem dX6_of_26 : decode cX6_of 26 = .ok (.iload_n 1, 1) := by decide +kernel
theorem dX6_of_27 : decode cX6_of 27 = .ok (.aaload, 1) := by decide +kernel
theorem dX6_of_28 : decode cX6_of 28 = .ok (.iload_n 2, 1) := by decide +kernel
theorem dX6_of_29 : decode cX6_of 29 = .ok (.invokevirtual 95, 3) := by decide +kernel
theorem dX6_of_32 : decode cX6_of 32 = .ok (.invokevirtual 84, 3) := by decide +kernel
theorem dX6_of_35 : decode cX6_of 35 = .ok (.ireturn, 1) := by decide +kernel
theorem dX6_about_0 : decode cX6_about 0 = .ok (.aload_n 0, 1) := by decide +kernel
theorem dX6_about_1 : decode cX6_about 1 = .ok (.getfield 12, 3) := by decide +kernel
theorem dX6_about_4 : decode cX6_about 4 = .ok (.iload_n 1, 1) := by decide +kernel
theorem dX6_about_5 : decode cX6_about 5 = .ok (.iload_n 2, 1) := by decide +kernel
theorem dX6_about_6 : decode cX6_about 6 = .ok (.invokevirtual 100, 3) := by decide +kernel
theorem dX6_about_9 : decode cX6_about 9 = .ok (.ifCond .ne 10, 3) := by decide +kernel
theorem dX6_about_12 : decode cX6_about 12 = .ok (.aload_n 0, 1) := by decide +kernel
theorem dX6_about_13 : decode cX6_about 13 = .ok (.bipush (-2), 2) := by decide +kernel
theorem dX6_about_15 : decode cX6_about 15 = .ok (.invokevirtual 84, 3) := by decide +kernel
theorem dX6_about_18 : decode cX6_about 18 = .ok (.ireturn, 1) := by decide +kernel
theorem dX6_about_19 : decode cX6_about 19 = .ok (.aload_n 0, 1) := by decide +kernel
theorem dX6_about_20 : decode cX6_about 20 = .ok (.aload_n 0, 1) := by decide +kernel
theorem dX6_about_21 : decode cX6_about 21 = .ok (.iload_n 1, 1) := by decide +kernel
theorem dX6_about_22 : decode cX6_about 22 = .ok (.iload_n 2, 1) := by decide +kernel
theorem dX6_about_23 : decode cX6_about 23 = .ok (.iload_n 3, 1) := by decide +kernel
theorem dX6_about_24 : decode cX6_about 24 = .ok (.invokevirtual 104, 3) := by decide +kernel
theorem dX6_about_27 : decode cX6_about 27 = .ok (.invokevirtual 84, 3) := by decide +kernel
theorem dX6_about_30 : decode cX6_about 30 = .ok (.ireturn, 1) := by decide +kernel
theorem dX6_count_0 : decode cX6_count 0 = .ok (.aload_n 0, 1) := by decide +kernel
theorem dX6_count_1 : decode cX6_count 1 = .ok (.aload_n 0, 1) := by decide +kernel
theorem dX6_count_2 : decode cX6_count 2 = .ok (.getfield 12, 3) := by decide +kernel
theorem dX6_count_5 : decode cX6_count 5 = .ok (.iload_n 1, 1) := by decide +kernel
theorem dX6_count_6 : decode cX6_count 6 = .ok (.invokevirtual 107, 3) := by decide +kernel
theorem dX6_count_9 : decode cX6_count 9 = .ok (.invokevirtual 84, 3) := by decide +kernel
theorem dX6_count_12 : decode cX6_count 12 = .ok (.ireturn, 1) := by decide +kernel
theorem dX6_fault_0 : decode cX6_fault 0 = .ok (.iload_n 1, 1) := by decide +kernel
theorem dX6_fault_1 : decode cX6_fault 1 = .ok (.ifCond .ge 10, 3) := by decide +kernel
theorem dX6_fault_4 : decode cX6_fault 4 = .ok (.aload_n 0, 1) := by decide +kernel
theorem dX6_fault_5 : decode cX6_fault 5 = .ok (.bipush (-2), 2) := by decide +kernel
theorem dX6_fault_7 : decode cX6_fault 7 = .ok (.invokevirtual 84, 3) := by decide +kernel
theorem dX6_fault_10 : decode cX6_fault 10 = .ok (.ireturn, 1) := by decide +kernel
theorem dX6_fault_11 : decode cX6_fault 11 = .ok (.iload_n 1, 1) := by decide +kernel
theorem dX6_fault_12 : decode cX6_fault 12 = .ok (.aload_n 0, 1) := by decide +kernel
theorem dX6_fault_13 : decode cX6_fault 13 = .ok (.getfield 12, 3) := by decide +kernel
theorem dX6_fault_16 : decode cX6_fault 16 = .ok (.getfield 108, 3) := by decide +kernel
theorem dX6_fault_19 : decode cX6_fault 19 = .ok (.if_icmp .ge 15, 3) := by decide +kernel
theorem dX6_fault_22 : decode cX6_fault 22 = .ok (.aload_n 0, 1) := by decide +kernel
theorem dX6_fault_23 : decode cX6_fault 23 = .ok (.getfield 12, 3) := by decide +kernel
theorem dX6_fault_26 : decode cX6_fault 26 = .ok (.getfield 112, 3) := by decide +kernel
theorem dX6_fault_29 : decode cX6_fault 29 = .ok (.iload_n 1, 1) := by decide +kernel
theorem dX6_fault_30 : decode cX6_fault 30 = .ok (.iaload, 1) := by decide +kernel
theorem dX6_fault_31 : decode cX6_fault 31 = .ok (.goto 4, 3) := by decide +kernel
theorem dX6_fault_34 : decode cX6_fault 34 = .ok (.iconst (-1), 1) := by decide +kernel
theorem dX6_fault_35 : decode cX6_fault 35 = .ok (.ireturn, 1) := by decide +kernel
theorem dX6_patterns_0 : decode cX6_patterns 0 = .ok (.iload_n 1, 1) := by decide +kernel
theorem dX6_patterns_1 : decode cX6_patterns 1 = .ok (.invokestatic 116, 3) := by decide +kernel
theorem dX6_patterns_4 : decode cX6_patterns 4 = .ok (.ifCond .eq 14, 3) := by decide +kernel
theorem dX6_patterns_7 : decode cX6_patterns 7 = .ok (.aload_n 0, 1) := by decide +kernel
theorem dX6_patterns_8 : decode cX6_patterns 8 = .ok (.getfield 28, 3) := by decide +kernel
theorem dX6_patterns_11 : decode cX6_patterns 11 = .ok (.iload_n 1, 1) := by decide +kernel
theorem dX6_patterns_12 : decode cX6_patterns 12 = .ok (.invokevirtual 119, 3) := by decide +kernel
theorem dX6_patterns_15 : decode cX6_patterns 15 = .ok (.goto 9, 3) := by decide +kernel
theorem dX6_patterns_18 : decode cX6_patterns 18 = .ok (.aload_n 0, 1) := by decide +kernel
theorem dX6_patterns_19 : decode cX6_patterns 19 = .ok (.bipush (-2), 2) := by decide +kernel
theorem dX6_patterns_21 : decode cX6_patterns 21 = .ok (.invokevirtual 84, 3) := by decide +kernel
theorem dX6_patterns_24 : decode cX6_patterns 24 = .ok (.ireturn, 1) := by decide +kernel
theorem dX6_pattern_0 : decode cX6_pattern 0 = .ok (.iload_n 1, 1) := by decide +kernel
theorem dX6_pattern_1 : decode cX6_pattern 1 = .ok (.invokestatic 116, 3) := by decide +kernel
theorem dX6_pattern_4 : decode cX6_pattern 4 = .ok (.ifCond .eq 26, 3) := by decide +kernel
theorem dX6_pattern_7 : decode cX6_pattern 7 = .ok (.iload_n 3, 1) := by decide +kernel
theorem dX6_pattern_8 : decode cX6_pattern 8 = .ok (.invokestatic 122, 3) := by decide +kernel
theorem dX6_pattern_11 : decode cX6_pattern 11 = .ok (.ifCond .eq 19, 3) := by decide +kernel
theorem dX6_pattern_14 : decode cX6_pattern 14 = .ok (.iload_n 2, 1) := by decide +kernel
theorem dX6_pattern_15 : decode cX6_pattern 15 = .ok (.ifCond .lt 15, 3) := by decide +kernel
theorem dX6_pattern_18 : decode cX6_pattern 18 = .ok (.iload_n 2, 1) := by decide +kernel
theorem dX6_pattern_19 : decode cX6_pattern 19 = .ok (.aload_n 0, 1) := by decide +kernel
theorem dX6_pattern_20 : decode cX6_pattern 20 = .ok (.getfield 28, 3) := by decide +kernel
theorem dX6_pattern_23 : decode cX6_pattern 23 = .ok (.iload_n 1, 1) := by decide +kernel
theorem dX6_pattern_24 : decode cX6_pattern 24 = .ok (.invokevirtual 119, 3) := by decide +kernel
theorem dX6_pattern_27 : decode cX6_pattern 27 = .ok (.if_icmp .lt 10, 3) := by decide +kernel
theorem dX6_pattern_30 : decode cX6_pattern 30 = .ok (.aload_n 0, 1) := by decide +kernel
theorem dX6_pattern_31 : decode cX6_pattern 31 = .ok (.bipush (-2), 2) := by decide +kernel
theorem dX6_pattern_33 : decode cX6_pattern 33 = .ok (.invokevirtual 84, 3) := by decide +kernel
theorem dX6_pattern_36 : decode cX6_pattern 36 = .ok (.ireturn, 1) := by decide +kernel
theorem dX6_pattern_37 : decode cX6_pattern 37 = .ok (.aload_n 0, 1) := by decide +kernel
theorem dX6_pattern_38 : decode cX6_pattern 38 = .ok (.getfield 12, 3) := by decide +kernel
theorem dX6_pattern_41 : decode cX6_pattern 41 = .ok (.getfield 125, 3) := by decide +kernel
theorem dX6_pattern_44 : decode cX6_pattern 44 = .ok (.iload_n 3, 1) := by decide +kernel
theorem dX6_pattern_45 : decode cX6_pattern 45 = .ok (.invokestatic 128, 3) := by decide +kernel
theorem dX6_pattern_48 : decode cX6_pattern 48 = .ok (.ifCond .ne 5, 3) := by decide +kernel
theorem dX6_pattern_51 : decode cX6_pattern 51 = .ok (.iconst (-1), 1) := by decide +kernel
theorem dX6_pattern_52 : decode cX6_pattern 52 = .ok (.ireturn, 1) := by decide +kernel
theorem dX6_pattern_53 : decode cX6_pattern 53 = .ok (.aload_n 0, 1) := by decide +kernel
theorem dX6_pattern_54 : decode cX6_pattern 54 = .ok (.getfield 28, 3) := by decide +kernel
theorem dX6_pattern_57 : decode cX6_pattern 57 = .ok (.iload_n 1, 1) := by decide +kernel
theorem dX6_pattern_58 : decode cX6_pattern 58 = .ok (.iload_n 3, 1) := by decide +kernel
theorem dX6_pattern_59 : decode cX6_pattern 59 = .ok (.invokevirtual 131, 3) := by decide +kernel
theorem dX6_pattern_62 : decode cX6_pattern 62 = .ok (.iload_n 2, 1) := by decide +kernel
theorem dX6_pattern_63 : decode cX6_pattern 63 = .ok (.ishr, 1) := by decide +kernel
theorem dX6_pattern_64 : decode cX6_pattern 64 = .ok (.iconst 1, 1) := by decide +kernel
theorem dX6_pattern_65 : decode cX6_pattern 65 = .ok (.iand, 1) := by decide +kernel
theorem dX6_pattern_66 : decode cX6_pattern 66 = .ok (.ireturn, 1) := by decide +kernel
theorem dX6_answer_0 : decode cX6_answer 0 = .ok (.iload_n 1, 1) := by decide +kernel
theorem dX6_answer_1 : decode cX6_answer 1 = .ok (.invokestatic 116, 3) := by decide +kernel
theorem dX6_answer_4 : decode cX6_answer 4 = .ok (.ifCond .eq 31, 3) := by decide +kernel
theorem dX6_answer_7 : decode cX6_answer 7 = .ok (.aload_n 0, 1) := by decide +kernel
theorem dX6_answer_8 : decode cX6_answer 8 = .ok (.getfield 12, 3) := by decide +kernel
theorem dX6_answer_11 : decode cX6_answer 11 = .ok (.iload_n 2, 1) := by decide +kernel
theorem dX6_answer_12 : decode cX6_answer 12 = .ok (.iload_n 3, 1) := by decide +kernel
theorem dX6_answer_13 : decode cX6_answer 13 = .ok (.invokevirtual 100, 3) := by decide +kernel
theorem dX6_answer_16 : decode cX6_answer 16 = .ok (.ifCond .eq 19, 3) := by decide +kernel
theorem dX6_answer_19 : decode cX6_answer 19 = .ok (.aload_n 0, 1) := by decide +kernel
theorem dX6_answer_20 : decode cX6_answer 20 = .ok (.getfield 12, 3) := by decide +kernel
theorem dX6_answer_23 : decode cX6_answer 23 = .ok (.getfield 91, 3) := by decide +kernel
theorem dX6_answer_26 : decode cX6_answer 26 = .ok (.iload_n 2, 1) := by decide +kernel
theorem dX6_answer_27 : decode cX6_answer 27 = .ok (.aaload, 1) := by decide +kernel
theorem dX6_answer_28 : decode cX6_answer 28 = .ok (.iload_n 3, 1) := by decide +kernel
theorem dX6_answer_29 : decode cX6_answer 29 = .ok (.invokevirtual 134, 3) := by decide +kernel
theorem dX6_answer_32 : decode cX6_answer 32 = .ok (.ifCond .eq 10, 3) := by decide +kernel
theorem dX6_answer_35 : decode cX6_answer 35 = .ok (.aload_n 0, 1) := by decide +kernel
theorem dX6_answer_36 : decode cX6_answer 36 = .ok (.bipush (-2), 2) := by decide +kernel
theorem dX6_answer_38 : decode cX6_answer 38 = .ok (.invokevirtual 84, 3) := by decide +kernel
theorem dX6_answer_41 : decode cX6_answer 41 = .ok (.ireturn, 1) := by decide +kernel
theorem dX6_answer_42 : decode cX6_answer 42 = .ok (.aload_n 0, 1) := by decide +kernel
theorem dX6_answer_43 : decode cX6_answer 43 = .ok (.getfield 28, 3) := by decide +kernel
theorem dX6_answer_46 : decode cX6_answer 46 = .ok (.iload_n 1, 1) := by decide +kernel
theorem dX6_answer_47 : decode cX6_answer 47 = .ok (.iload_n 2, 1) := by decide +kernel
theorem dX6_answer_48 : decode cX6_answer 48 = .ok (.iload_n 3, 1) := by decide +kernel
theorem dX6_answer_49 : decode cX6_answer 49 = .ok (.invokevirtual 137, 3) := by decide +kernel
theorem dX6_answer_52 : decode cX6_answer 52 = .ok (.ireturn, 1) := by decide +kernel
theorem dX6_seen_0 : decode cX6_seen 0 = .ok (.iload_n 1, 1) := by decide +kernel
theorem dX6_seen_1 : decode cX6_seen 1 = .ok (.invokestatic 116, 3) := by decide +kernel
theorem dX6_seen_4 : decode cX6_seen 4 = .ok (.ifCond .ne 10, 3) := by decide +kernel
theorem dX6_seen_7 : decode cX6_seen 7 = .ok (.aload_n 0, 1) := by decide +kernel
theorem dX6_seen_8 : decode cX6_seen 8 = .ok (.bipush (-2), 2) := by decide +kernel
theorem dX6_seen_10 : decode cX6_seen 10 = .ok (.invokevirtual 84, 3) := by decide +kernel
theorem dX6_seen_13 : decode cX6_seen 13 = .ok (.ireturn, 1) := by decide +kernel
theorem dX6_seen_14 : decode cX6_seen 14 = .ok (.aload_n 0, 1) := by decide +kernel
theorem dX6_seen_15 : decode cX6_seen 15 = .ok (.getfield 28, 3) := by decide +kernel
theorem dX6_seen_18 : decode cX6_seen 18 = .ok (.iload_n 1, 1) := by decide +kernel
theorem dX6_seen_19 : decode cX6_seen 19 = .ok (.invokevirtual 140, 3) := by decide +kernel
theorem dX6_seen_22 : decode cX6_seen 22 = .ok (.ifCond .eq 7, 3) := by decide +kernel
theorem dX6_seen_25 : decode cX6_seen 25 = .ok (.iconst 1, 1) := by decide +kernel
theorem dX6_seen_26 : decode cX6_seen 26 = .ok (.goto 4, 3) := by decide +kernel
theorem dX6_seen_29 : decode cX6_seen 29 = .ok (.iconst 0, 1) := by decide +kernel
theorem dX6_seen_30 : decode cX6_seen 30 = .ok (.ireturn, 1) := by decide +kernel
theorem dX6_suspects_0 : decode cX6_suspects 0 = .ok (.iload_n 1, 1) := by decide +kernel
theorem dX6_suspects_1 : decode cX6_suspects 1 = .ok (.invokestatic 116, 3) := by decide +kernel
theorem dX6_suspects_4 : decode cX6_suspects 4 = .ok (.ifCond .eq 8, 3) := by decide +kernel
theorem dX6_suspects_7 : decode cX6_suspects 7 = .ok (.iload_n 2, 1) := by decide +kernel
theorem dX6_suspects_8 : decode cX6_suspects 8 = .ok (.iconst (-1), 1) := by decide +kernel
theorem dX6_suspects_9 : decode cX6_suspects 9 = .ok (.if_icmp .ge 10, 3) := by decide +kernel
theorem dX6_suspects_12 : decode cX6_suspects 12 = .ok (.aload_n 0, 1) := by decide +kernel
theorem dX6_suspects_13 : decode cX6_suspects 13 = .ok (.bipush (-2), 2) := by decide +kernel
theorem dX6_suspects_15 : decode cX6_suspects 15 = .ok (.invokevirtual 84, 3) := by decide +kernel
theorem dX6_suspects_18 : decode cX6_suspects 18 = .ok (.ireturn, 1) := by decide +kernel
theorem dX6_suspects_19 : decode cX6_suspects 19 = .ok (.aload_n 0, 1) := by decide +kernel
theorem dX6_suspects_20 : decode cX6_suspects 20 = .ok (.getfield 28, 3) := by decide +kernel
theorem dX6_suspects_23 : decode cX6_suspects 23 = .ok (.iload_n 1, 1) := by decide +kernel
theorem dX6_suspects_24 : decode cX6_suspects 24 = .ok (.invokevirtual 143, 3) := by decide +kernel
theorem dX6_suspects_27 : decode cX6_suspects 27 = .ok (.istore_n 3, 1) := by decide +kernel
theorem dX6_suspects_28 : decode cX6_suspects 28 = .ok (.iload_n 2, 1) := by decide +kernel
theorem dX6_suspects_29 : decode cX6_suspects 29 = .ok (.iconst (-1), 1) := by decide +kernel
theorem dX6_suspects_30 : decode cX6_suspects 30 = .ok (.if_icmp .ne 5, 3) := by decide +kernel
theorem dX6_suspects_33 : decode cX6_suspects 33 = .ok (.iload_n 3, 1) := by decide +kernel
theorem dX6_suspects_34 : decode cX6_suspects 34 = .ok (.ireturn, 1) := by decide +kernel
theorem dX6_suspects_35 : decode cX6_suspects 35 = .ok (.iload_n 2, 1) := by decide +kernel
theorem dX6_suspects_36 : decode cX6_suspects 36 = .ok (.iload_n 3, 1) := by decide +kernel
theorem dX6_suspects_37 : decode cX6_suspects 37 = .ok (.if_icmp .ge 15, 3) := by decide +kernel
theorem dX6_suspects_40 : decode cX6_suspects 40 = .ok (.aload_n 0, 1) := by decide +kernel
theorem dX6_suspects_41 : decode cX6_suspects 41 = .ok (.getfield 28, 3) := by decide +kernel
theorem dX6_suspects_44 : decode cX6_suspects 44 = .ok (.getfield 146, 3) := by decide +kernel
theorem dX6_suspects_47 : decode cX6_suspects 47 = .ok (.iload_n 2, 1) := by decide +kernel
theorem dX6_suspects_48 : decode cX6_suspects 48 = .ok (.iaload, 1) := by decide +kernel
theorem dX6_suspects_49 : decode cX6_suspects 49 = .ok (.goto 5, 3) := by decide +kernel
theorem dX6_suspects_52 : decode cX6_suspects 52 = .ok (.bipush (-5), 2) := by decide +kernel
theorem dX6_suspects_54 : decode cX6_suspects 54 = .ok (.ireturn, 1) := by decide +kernel
theorem dX6_type_0 : decode cX6_type 0 = .ok (.aload_n 0, 1) := by decide +kernel
theorem dX6_type_1 : decode cX6_type 1 = .ok (.aload_n 0, 1) := by decide +kernel
theorem dX6_type_2 : decode cX6_type 2 = .ok (.getfield 42, 3) := by decide +kernel
theorem dX6_type_5 : decode cX6_type 5 = .ok (.iload_n 1, 1) := by decide +kernel
theorem dX6_type_6 : decode cX6_type 6 = .ok (.invokevirtual 149, 3) := by decide +kernel
theorem dX6_type_9 : decode cX6_type 9 = .ok (.invokevirtual 84, 3) := by decide +kernel
theorem dX6_type_12 : decode cX6_type 12 = .ok (.ireturn, 1) := by decide +kernel
theorem dX6_clear_0 : decode cX6_clear 0 = .ok (.aload_n 0, 1) := by decide +kernel
theorem dX6_clear_1 : decode cX6_clear 1 = .ok (.getfield 42, 3) := by decide +kernel
theorem dX6_clear_4 : decode cX6_clear 4 = .ok (.invokevirtual 152, 3) := by decide +kernel
theorem dX6_clear_7 : decode cX6_clear 7 = .ok (.ireturn, 1) := by decide +kernel
theorem dX6_does_0 : decode cX6_does 0 = .ok (.aload_n 0, 1) := by decide +kernel
theorem dX6_does_1 : decode cX6_does 1 = .ok (.getfield 42, 3) := by decide +kernel
theorem dX6_does_4 : decode cX6_does 4 = .ok (.invokevirtual 155, 3) := by decide +kernel
theorem dX6_does_7 : decode cX6_does 7 = .ok (.istore_n 1, 1) := by decide +kernel
theorem dX6_does_8 : decode cX6_does 8 = .ok (.iload_n 1, 1) := by decide +kernel
theorem dX6_does_9 : decode cX6_does 9 = .ok (.iconst (-1), 1) := by decide +kernel
theorem dX6_does_10 : decode cX6_does 10 = .ok (.if_icmp .eq 8, 3) := by decide +kernel
theorem dX6_does_13 : decode cX6_does 13 = .ok (.bipush (-10), 2) := by decide +kernel
theorem dX6_does_15 : decode cX6_does 15 = .ok (.iload_n 1, 1) := by decide +kernel
theorem dX6_does_16 : decode cX6_does 16 = .ok (.isub, 1) := by decide +kernel
theorem dX6_does_17 : decode cX6_does 17 = .ok (.ireturn, 1) := by decide +kernel
theorem dX6_does_18 : decode cX6_does 18 = .ok (.aload_n 0, 1) := by decide +kernel
theorem dX6_does_19 : decode cX6_does 19 = .ok (.getfield 35, 3) := by decide +kernel
theorem dX6_does_22 : decode cX6_does 22 = .ok (.aload_n 0, 1) := by decide +kernel
theorem dX6_does_23 : decode cX6_does 23 = .ok (.getfield 12, 3) := by decide +kernel
theorem dX6_does_26 : decode cX6_does 26 = .ok (.invokevirtual 46, 3) := by decide +kernel
theorem dX6_does_29 : decode cX6_does 29 = .ok (.iconst 0, 1) := by decide +kernel
theorem dX6_does_30 : decode cX6_does 30 = .ok (.istore_n 2, 1) := by decide +kernel
theorem dX6_does_31 : decode cX6_does 31 = .ok (.iload_n 2, 1) := by decide +kernel
theorem dX6_does_32 : decode cX6_does 32 = .ok (.aload_n 0, 1) := by decide +kernel
theorem dX6_does_33 : decode cX6_does 33 = .ok (.getfield 42, 3) := by decide +kernel
theorem dX6_does_36 : decode cX6_does 36 = .ok (.getfield 158, 3) := by decide +kernel
theorem dX6_does_39 : decode cX6_does 39 = .ok (.if_icmp .ge 45, 3) := by decide +kernel
theorem dX6_does_42 : decode cX6_does 42 = .ok (.aload_n 0, 1) := by decide +kernel
theorem dX6_does_43 : decode cX6_does 43 = .ok (.aload_n 0, 1) := by decide +kernel
theorem dX6_does_44 : decode cX6_does 44 = .ok (.getfield 42, 3) := by decide +kernel
theorem dX6_does_47 : decode cX6_does 47 = .ok (.getfield 161, 3) := by decide +kernel
theorem dX6_does_50 : decode cX6_does 50 = .ok (.iload_n 2, 1) := by decide +kernel
theorem dX6_does_51 : decode cX6_does 51 = .ok (.baload, 1) := by decide +kernel
theorem dX6_does_52 : decode cX6_does 52 = .ok (.iload_n 2, 1) := by decide +kernel
theorem dX6_does_53 : decode cX6_does 53 = .ok (.iconst 3, 1) := by decide +kernel
theorem dX6_does_54 : decode cX6_does 54 = .ok (.imul, 1) := by decide +kernel
theorem dX6_does_55 : decode cX6_does 55 = .ok (.invokevirtual 165, 3) := by decide +kernel
theorem dX6_does_58 : decode cX6_does 58 = .ok (.ifCond .ge 20, 3) := by decide +kernel
theorem dX6_does_61 : decode cX6_does 61 = .ok (.aload_n 0, 1) := by decide +kernel
theorem dX6_does_62 : decode cX6_does 62 = .ok (.getfield 35, 3) := by decide +kernel
theorem dX6_does_65 : decode cX6_does 65 = .ok (.aload_n 0, 1) := by decide +kernel
theorem dX6_does_66 : decode cX6_does 66 = .ok (.getfield 12, 3) := by decide +kernel
theorem dX6_does_69 : decode cX6_does 69 = .ok (.invokevirtual 168, 3) := by decide +kernel
theorem dX6_does_72 : decode cX6_does 72 = .ok (.sipush (-1000), 3) := by decide +kernel
theorem dX6_does_75 : decode cX6_does 75 = .ok (.iload_n 2, 1) := by decide +kernel
theorem dX6_does_76 : decode cX6_does 76 = .ok (.isub, 1) := by decide +kernel
theorem dX6_does_77 : decode cX6_does 77 = .ok (.ireturn, 1) := by decide +kernel
theorem dX6_does_78 : decode cX6_does 78 = .ok (.iinc 2 1, 3) := by decide +kernel
theorem dX6_does_81 : decode cX6_does 81 = .ok (.goto (-50), 3) := by decide +kernel
theorem dX6_does_84 : decode cX6_does 84 = .ok (.aload_n 0, 1) := by decide +kernel
theorem dX6_does_85 : decode cX6_does 85 = .ok (.getfield 35, 3) := by decide +kernel
theorem dX6_does_88 : decode cX6_does 88 = .ok (.invokevirtual 171, 3) := by decide +kernel
theorem dX6_does_91 : decode cX6_does 91 = .ok (.aload_n 0, 1) := by decide +kernel
theorem dX6_does_92 : decode cX6_does 92 = .ok (.getfield 42, 3) := by decide +kernel
theorem dX6_does_95 : decode cX6_does 95 = .ok (.getfield 158, 3) := by decide +kernel
theorem dX6_does_98 : decode cX6_does 98 = .ok (.ireturn, 1) := by decide +kernel
theorem dX6_back_0 : decode cX6_back 0 = .ok (.aload_n 0, 1) := by decide +kernel
theorem dX6_back_1 : decode cX6_back 1 = .ok (.aload_n 0, 1) := by decide +kernel
theorem dX6_back_2 : decode cX6_back 2 = .ok (.getfield 35, 3) := by decide +kernel
theorem dX6_back_5 : decode cX6_back 5 = .ok (.aload_n 0, 1) := by decide +kernel
theorem dX6_back_6 : decode cX6_back 6 = .ok (.getfield 12, 3) := by decide +kernel
theorem dX6_back_9 : decode cX6_back 9 = .ok (.invokevirtual 174, 3) := by decide +kernel
theorem dX6_back_12 : decode cX6_back 12 = .ok (.invokevirtual 84, 3) := by decide +kernel
theorem dX6_back_15 : decode cX6_back 15 = .ok (.ireturn, 1) := by decide +kernel
theorem dX6_told_0 : decode cX6_told 0 = .ok (.iload_n 1, 1) := by decide +kernel
theorem dX6_told_1 : decode cX6_told 1 = .ok (.tableswitch 66 0 4 #[35, 40, 45, 50, 58], 35) := by decide +kernel
theorem dX6_told_36 : decode cX6_told 36 = .ok (.aload_n 0, 1) := by decide +kernel
theorem dX6_told_37 : decode cX6_told 37 = .ok (.getfield 178, 3) := by decide +kernel
theorem dX6_told_40 : decode cX6_told 40 = .ok (.ireturn, 1) := by decide +kernel
theorem dX6_told_41 : decode cX6_told 41 = .ok (.aload_n 0, 1) := by decide +kernel
theorem dX6_told_42 : decode cX6_told 42 = .ok (.getfield 181, 3) := by decide +kernel
theorem dX6_told_45 : decode cX6_told 45 = .ok (.ireturn, 1) := by decide +kernel
theorem dX6_told_46 : decode cX6_told 46 = .ok (.aload_n 0, 1) := by decide +kernel
theorem dX6_told_47 : decode cX6_told 47 = .ok (.getfield 184, 3) := by decide +kernel
theorem dX6_told_50 : decode cX6_told 50 = .ok (.ireturn, 1) := by decide +kernel
theorem dX6_told_51 : decode cX6_told 51 = .ok (.aload_n 0, 1) := by decide +kernel
theorem dX6_told_52 : decode cX6_told 52 = .ok (.getfield 42, 3) := by decide +kernel
theorem dX6_told_55 : decode cX6_told 55 = .ok (.getfield 187, 3) := by decide +kernel
theorem dX6_told_58 : decode cX6_told 58 = .ok (.ireturn, 1) := by decide +kernel
theorem dX6_told_59 : decode cX6_told 59 = .ok (.aload_n 0, 1) := by decide +kernel
theorem dX6_told_60 : decode cX6_told 60 = .ok (.getfield 35, 3) := by decide +kernel
theorem dX6_told_63 : decode cX6_told 63 = .ok (.getfield 190, 3) := by decide +kernel
theorem dX6_told_66 : decode cX6_told 66 = .ok (.ireturn, 1) := by decide +kernel
theorem dX6_told_67 : decode cX6_told 67 = .ok (.aload_n 0, 1) := by decide +kernel
theorem dX6_told_68 : decode cX6_told 68 = .ok (.bipush (-2), 2) := by decide +kernel
theorem dX6_told_70 : decode cX6_told 70 = .ok (.invokevirtual 84, 3) := by decide +kernel
theorem dX6_told_73 : decode cX6_told 73 = .ok (.ireturn, 1) := by decide +kernel
theorem dX6_digest_0 : decode cX6_digest 0 = .ok (.ldc2_w 193, 3) := by decide +kernel
theorem dX6_digest_3 : decode cX6_digest 3 = .ok (.lstore_n 1, 1) := by decide +kernel
theorem dX6_digest_4 : decode cX6_digest 4 = .ok (.iconst 0, 1) := by decide +kernel
theorem dX6_digest_5 : decode cX6_digest 5 = .ok (.istore_n 3, 1) := by decide +kernel
theorem dX6_digest_6 : decode cX6_digest 6 = .ok (.iload_n 3, 1) := by decide +kernel
theorem dX6_digest_7 : decode cX6_digest 7 = .ok (.iconst 5, 1) := by decide +kernel
theorem dX6_digest_8 : decode cX6_digest 8 = .ok (.if_icmp .ge 19, 3) := by decide +kernel
theorem dX6_digest_11 : decode cX6_digest 11 = .ok (.lload_n 1, 1) := by decide +kernel
theorem dX6_digest_12 : decode cX6_digest 12 = .ok (.aload_n 0, 1) := by decide +kernel
theorem dX6_digest_13 : decode cX6_digest 13 = .ok (.iload_n 3, 1) := by decide +kernel
theorem dX6_digest_14 : decode cX6_digest 14 = .ok (.invokevirtual 195, 3) := by decide +kernel
theorem dX6_digest_17 : decode cX6_digest 17 = .ok (.invokestatic 198, 3) := by decide +kernel
theorem dX6_digest_20 : decode cX6_digest 20 = .ok (.lstore_n 1, 1) := by decide +kernel
theorem dX6_digest_21 : decode cX6_digest 21 = .ok (.iinc 3 1, 3) := by decide +kernel
theorem dX6_digest_24 : decode cX6_digest 24 = .ok (.goto (-18), 3) := by decide +kernel
theorem dX6_digest_27 : decode cX6_digest 27 = .ok (.iconst 0, 1) := by decide +kernel
theorem dX6_digest_28 : decode cX6_digest 28 = .ok (.istore_n 3, 1) := by decide +kernel
theorem dX6_digest_29 : decode cX6_digest 29 = .ok (.iload_n 3, 1) := by decide +kernel
theorem dX6_digest_30 : decode cX6_digest 30 = .ok (.iconst 5, 1) := by decide +kernel
theorem dX6_digest_31 : decode cX6_digest 31 = .ok (.if_icmp .ge 19, 3) := by decide +kernel
theorem dX6_digest_34 : decode cX6_digest 34 = .ok (.lload_n 1, 1) := by decide +kernel
theorem dX6_digest_35 : decode cX6_digest 35 = .ok (.aload_n 0, 1) := by decide +kernel
theorem dX6_digest_36 : decode cX6_digest 36 = .ok (.iload_n 3, 1) := by decide +kernel
theorem dX6_digest_37 : decode cX6_digest 37 = .ok (.invokevirtual 202, 3) := by decide +kernel
theorem dX6_digest_40 : decode cX6_digest 40 = .ok (.invokestatic 198, 3) := by decide +kernel
theorem dX6_digest_43 : decode cX6_digest 43 = .ok (.lstore_n 1, 1) := by decide +kernel
theorem dX6_digest_44 : decode cX6_digest 44 = .ok (.iinc 3 1, 3) := by decide +kernel
theorem dX6_digest_47 : decode cX6_digest 47 = .ok (.goto (-18), 3) := by decide +kernel
theorem dX6_digest_50 : decode cX6_digest 50 = .ok (.iconst 0, 1) := by decide +kernel
theorem dX6_digest_51 : decode cX6_digest 51 = .ok (.istore_n 3, 1) := by decide +kernel
theorem dX6_digest_52 : decode cX6_digest 52 = .ok (.iload_n 3, 1) := by decide +kernel
theorem dX6_digest_53 : decode cX6_digest 53 = .ok (.iconst 5, 1) := by decide +kernel
theorem dX6_digest_54 : decode cX6_digest 54 = .ok (.if_icmp .ge 19, 3) := by decide +kernel
theorem dX6_digest_57 : decode cX6_digest 57 = .ok (.lload_n 1, 1) := by decide +kernel
theorem dX6_digest_58 : decode cX6_digest 58 = .ok (.aload_n 0, 1) := by decide +kernel
theorem dX6_digest_59 : decode cX6_digest 59 = .ok (.iload_n 3, 1) := by decide +kernel
theorem dX6_digest_60 : decode cX6_digest 60 = .ok (.invokevirtual 205, 3) := by decide +kernel
theorem dX6_digest_63 : decode cX6_digest 63 = .ok (.invokestatic 198, 3) := by decide +kernel
theorem dX6_digest_66 : decode cX6_digest 66 = .ok (.lstore_n 1, 1) := by decide +kernel
theorem dX6_digest_67 : decode cX6_digest 67 = .ok (.iinc 3 1, 3) := by decide +kernel
theorem dX6_digest_70 : decode cX6_digest 70 = .ok (.goto (-18), 3) := by decide +kernel
theorem dX6_digest_73 : decode cX6_digest 73 = .ok (.aload_n 0, 1) := by decide +kernel
theorem dX6_digest_74 : decode cX6_digest 74 = .ok (.lload_n 1, 1) := by decide +kernel
theorem dX6_digest_75 : decode cX6_digest 75 = .ok (.invokevirtual 208, 3) := by decide +kernel
theorem dX6_digest_78 : decode cX6_digest 78 = .ok (.lstore_n 1, 1) := by decide +kernel
theorem dX6_digest_79 : decode cX6_digest 79 = .ok (.iconst 0, 1) := by decide +kernel
theorem dX6_digest_80 : decode cX6_digest 80 = .ok (.istore_n 3, 1) := by decide +kernel
theorem dX6_digest_81 : decode cX6_digest 81 = .ok (.iload_n 3, 1) := by decide +kernel
theorem dX6_digest_82 : decode cX6_digest 82 = .ok (.aload_n 0, 1) := by decide +kernel
theorem dX6_digest_83 : decode cX6_digest 83 = .ok (.getfield 12, 3) := by decide +kernel
theorem dX6_digest_86 : decode cX6_digest 86 = .ok (.getfield 108, 3) := by decide +kernel
theorem dX6_digest_89 : decode cX6_digest 89 = .ok (.if_icmp .ge 23, 3) := by decide +kernel
theorem dX6_digest_92 : decode cX6_digest 92 = .ok (.lload_n 1, 1) := by decide +kernel
theorem dX6_digest_93 : decode cX6_digest 93 = .ok (.aload_n 0, 1) := by decide +kernel
theorem dX6_digest_94 : decode cX6_digest 94 = .ok (.getfield 12, 3) := by decide +kernel
theorem dX6_digest_97 : decode cX6_digest 97 = .ok (.getfield 112, 3) := by decide +kernel
theorem dX6_digest_100 : decode cX6_digest 100 = .ok (.iload_n 3, 1) := by decide +kernel
theorem dX6_digest_101 : decode cX6_digest 101 = .ok (.iaload, 1) := by decide +kernel
theorem dX6_digest_102 : decode cX6_digest 102 = .ok (.invokestatic 198, 3) := by decide +kernel
theorem dX6_digest_105 : decode cX6_digest 105 = .ok (.lstore_n 1, 1) := by decide +kernel
theorem dX6_digest_106 : decode cX6_digest 106 = .ok (.iinc 3 1, 3) := by decide +kernel
theorem dX6_digest_109 : decode cX6_digest 109 = .ok (.goto (-28), 3) := by decide +kernel
theorem dX6_digest_112 : decode cX6_digest 112 = .ok (.lload_n 1, 1) := by decide +kernel
theorem dX6_digest_113 : decode cX6_digest 113 = .ok (.aload_n 0, 1) := by decide +kernel
theorem dX6_digest_114 : decode cX6_digest 114 = .ok (.iconst 0, 1) := by decide +kernel
theorem dX6_digest_115 : decode cX6_digest 115 = .ok (.invokevirtual 212, 3) := by decide +kernel
theorem dX6_digest_118 : decode cX6_digest 118 = .ok (.invokestatic 198, 3) := by decide +kernel
theorem dX6_digest_121 : decode cX6_digest 121 = .ok (.lstore_n 1, 1) := by decide +kernel
theorem dX6_digest_122 : decode cX6_digest 122 = .ok (.lload_n 1, 1) := by decide +kernel
theorem dX6_digest_123 : decode cX6_digest 123 = .ok (.aload_n 0, 1) := by decide +kernel
theorem dX6_digest_124 : decode cX6_digest 124 = .ok (.iconst 0, 1) := by decide +kernel
theorem dX6_digest_125 : decode cX6_digest 125 = .ok (.invokevirtual 215, 3) := by decide +kernel
theorem dX6_digest_128 : decode cX6_digest 128 = .ok (.invokestatic 198, 3) := by decide +kernel
theorem dX6_digest_131 : decode cX6_digest 131 = .ok (.lstore_n 1, 1) := by decide +kernel
theorem dX6_digest_132 : decode cX6_digest 132 = .ok (.lload_n 1, 1) := by decide +kernel
theorem dX6_digest_133 : decode cX6_digest 133 = .ok (.aload_n 0, 1) := by decide +kernel
theorem dX6_digest_134 : decode cX6_digest 134 = .ok (.iconst 1, 1) := by decide +kernel
theorem dX6_digest_135 : decode cX6_digest 135 = .ok (.invokevirtual 215, 3) := by decide +kernel
theorem dX6_digest_138 : decode cX6_digest 138 = .ok (.invokestatic 198, 3) := by decide +kernel
theorem dX6_digest_141 : decode cX6_digest 141 = .ok (.lstore_n 1, 1) := by decide +kernel
theorem dX6_digest_142 : decode cX6_digest 142 = .ok (.lload_n 1, 1) := by decide +kernel
theorem dX6_digest_143 : decode cX6_digest 143 = .ok (.aload_n 0, 1) := by decide +kernel
theorem dX6_digest_144 : decode cX6_digest 144 = .ok (.iconst 0, 1) := by decide +kernel
theorem dX6_digest_145 : decode cX6_digest 145 = .ok (.iconst (-1), 1) := by decide +kernel
theorem dX6_digest_146 : decode cX6_digest 146 = .ok (.invokevirtual 218, 3) := by decide +kernel
theorem dX6_digest_149 : decode cX6_digest 149 = .ok (.invokestatic 198, 3) := by decide +kernel
theorem dX6_digest_152 : decode cX6_digest 152 = .ok (.lstore_n 1, 1) := by decide +kernel
theorem dX6_digest_153 : decode cX6_digest 153 = .ok (.lload_n 1, 1) := by decide +kernel
theorem dX6_digest_154 : decode cX6_digest 154 = .ok (.aload_n 0, 1) := by decide +kernel
theorem dX6_digest_155 : decode cX6_digest 155 = .ok (.iconst 1, 1) := by decide +kernel
theorem dX6_digest_156 : decode cX6_digest 156 = .ok (.iconst (-1), 1) := by decide +kernel
theorem dX6_digest_157 : decode cX6_digest 157 = .ok (.invokevirtual 218, 3) := by decide +kernel
theorem dX6_digest_160 : decode cX6_digest 160 = .ok (.invokestatic 198, 3) := by decide +kernel
theorem dX6_digest_163 : decode cX6_digest 163 = .ok (.lreturn, 1) := by decide +kernel
theorem dX6_isBit_0 : decode cX6_isBit 0 = .ok (.iload_n 0, 1) := by decide +kernel
theorem dX6_isBit_1 : decode cX6_isBit 1 = .ok (.ifCond .eq 8, 3) := by decide +kernel
theorem dX6_isBit_4 : decode cX6_isBit 4 = .ok (.iload_n 0, 1) := by decide +kernel
theorem dX6_isBit_5 : decode cX6_isBit 5 = .ok (.iconst 1, 1) := by decide +kernel
theorem dX6_isBit_6 : decode cX6_isBit 6 = .ok (.if_icmp .ne 7, 3) := by decide +kernel
theorem dX6_isBit_9 : decode cX6_isBit 9 = .ok (.iconst 1, 1) := by decide +kernel
theorem dX6_isBit_10 : decode cX6_isBit 10 = .ok (.goto 4, 3) := by decide +kernel
theorem dX6_isBit_13 : decode cX6_isBit 13 = .ok (.iconst 0, 1) := by decide +kernel
theorem dX6_isBit_14 : decode cX6_isBit 14 = .ok (.ireturn, 1) := by decide +kernel
theorem dX6_isNet_0 : decode cX6_isNet 0 = .ok (.iload_n 0, 1) := by decide +kernel
theorem dX6_isNet_1 : decode cX6_isNet 1 = .ok (.ifCond .lt 13, 3) := by decide +kernel
theorem dX6_isNet_4 : decode cX6_isNet 4 = .ok (.iload_n 0, 1) := by decide +kernel
theorem dX6_isNet_5 : decode cX6_isNet 5 = .ok (.bipush 8, 2) := by decide +kernel
theorem dX6_isNet_7 : decode cX6_isNet 7 = .ok (.if_icmp .ge 7, 3) := by decide +kernel
theorem dX6_isNet_10 : decode cX6_isNet 10 = .ok (.iconst 1, 1) := by decide +kernel
theorem dX6_isNet_11 : decode cX6_isNet 11 = .ok (.goto 4, 3) := by decide +kernel
theorem dX6_isNet_14 : decode cX6_isNet 14 = .ok (.iconst 0, 1) := by decide +kernel
theorem dX6_isNet_15 : decode cX6_isNet 15 = .ok (.ireturn, 1) := by decide +kernel
theorem dX6_isMember_0 : decode cX6_isMember 0 = .ok (.iload_n 0, 1) := by decide +kernel
theorem dX6_isMember_1 : decode cX6_isMember 1 = .ok (.iload_n 1, 1) := by decide +kernel
theorem dX6_isMember_2 : decode cX6_isMember 2 = .ok (.ishr, 1) := by decide +kernel
theorem dX6_isMember_3 : decode cX6_isMember 3 = .ok (.iconst 1, 1) := by decide +kernel
theorem dX6_isMember_4 : decode cX6_isMember 4 = .ok (.iand, 1) := by decide +kernel
theorem dX6_isMember_5 : decode cX6_isMember 5 = .ok (.iconst 1, 1) := by decide +kernel
theorem dX6_isMember_6 : decode cX6_isMember 6 = .ok (.if_icmp .ne 7, 3) := by decide +kernel
theorem dX6_isMember_9 : decode cX6_isMember 9 = .ok (.iconst 1, 1) := by decide +kernel
theorem dX6_isMember_10 : decode cX6_isMember 10 = .ok (.goto 4, 3) := by decide +kernel
theorem dX6_isMember_13 : decode cX6_isMember 13 = .ok (.iconst 0, 1) := by decide +kernel
theorem dX6_isMember_14 : decode cX6_isMember 14 = .ok (.ireturn, 1) := by decide +kernel
theorem dX6_faultCode_0 : decode cX6_faultCode 0 = .ok (.sipush 1000, 3) := by decide +kernel
theorem dX6_faultCode_3 : decode cX6_faultCode 3 = .ok (.iload_n 0, 1) := by decide +kernel
theorem dX6_faultCode_4 : decode cX6_faultCode 4 = .ok (.imul, 1) := by decide +kernel
theorem dX6_faultCode_5 : decode cX6_faultCode 5 = .ok (.bipush 10, 2) := by decide +kernel
theorem dX6_faultCode_7 : decode cX6_faultCode 7 = .ok (.iload_n 1, 1) := by decide +kernel
theorem dX6_faultCode_8 : decode cX6_faultCode 8 = .ok (.imul, 1) := by decide +kernel
theorem dX6_faultCode_9 : decode cX6_faultCode 9 = .ok (.iadd, 1) := by decide +kernel
theorem dX6_faultCode_10 : decode cX6_faultCode 10 = .ok (.iload_n 2, 1) := by decide +kernel
theorem dX6_faultCode_11 : decode cX6_faultCode 11 = .ok (.iadd, 1) := by decide +kernel
theorem dX6_faultCode_12 : decode cX6_faultCode 12 = .ok (.ireturn, 1) := by decide +kernel
theorem dX6_kindOf_0 : decode cX6_kindOf 0 = .ok (.iload_n 0, 1) := by decide +kernel
theorem dX6_kindOf_1 : decode cX6_kindOf 1 = .ok (.sipush 1000, 3) := by decide +kernel
theorem dX6_kindOf_4 : decode cX6_kindOf 4 = .ok (.idiv, 1) := by decide +kernel
theorem dX6_kindOf_5 : decode cX6_kindOf 5 = .ok (.ireturn, 1) := by decide +kernel
theorem dX6_tensOf_0 : decode cX6_tensOf 0 = .ok (.iload_n 0, 1) := by decide +kernel
theorem dX6_tensOf_1 : decode cX6_tensOf 1 = .ok (.bipush 10, 2) := by decide +kernel
theorem dX6_tensOf_3 : decode cX6_tensOf 3 = .ok (.idiv, 1) := by decide +kernel
theorem dX6_tensOf_4 : decode cX6_tensOf 4 = .ok (.bipush 10, 2) := by decide +kernel
theorem dX6_tensOf_6 : decode cX6_tensOf 6 = .ok (.irem, 1) := by decide +kernel
theorem dX6_tensOf_7 : decode cX6_tensOf 7 = .ok (.ireturn, 1) := by decide +kernel
theorem dX6_onesOf_0 : decode cX6_onesOf 0 = .ok (.iload_n 0, 1) := by decide +kernel
theorem dX6_onesOf_1 : decode cX6_onesOf 1 = .ok (.bipush 10, 2) := by decide +kernel
theorem dX6_onesOf_3 : decode cX6_onesOf 3 = .ok (.irem, 1) := by decide +kernel
theorem dX6_onesOf_4 : decode cX6_onesOf 4 = .ok (.ireturn, 1) := by decide +kernel
theorem dX6_mixed_0 : decode cX6_mixed 0 = .ok (.ldc2_w 221, 3) := by decide +kernel
theorem dX6_mixed_3 : decode cX6_mixed 3 = .ok (.lload_n 0, 1) := by decide +kernel
theorem dX6_mixed_4 : decode cX6_mixed 4 = .ok (.lmul, 1) := by decide +kernel
theorem dX6_mixed_5 : decode cX6_mixed 5 = .ok (.iload_n 2, 1) := by decide +kernel
theorem dX6_mixed_6 : decode cX6_mixed 6 = .ok (.i2l, 1) := by decide +kernel
theorem dX6_mixed_7 : decode cX6_mixed 7 = .ok (.ladd, 1) := by decide +kernel
theorem dX6_mixed_8 : decode cX6_mixed 8 = .ok (.lreturn, 1) := by decide +kernel
theorem dX6_counted_0 : decode cX6_counted 0 = .ok (.iload_n 1, 1) := by decide +kernel
theorem dX6_counted_1 : decode cX6_counted 1 = .ok (.bipush (-2), 2) := by decide +kernel
theorem dX6_counted_3 : decode cX6_counted 3 = .ok (.if_icmp .ne 16, 3) := by decide +kernel
theorem dX6_counted_6 : decode cX6_counted 6 = .ok (.aload_n 0, 1) := by decide +kernel
theorem dX6_counted_7 : decode cX6_counted 7 = .ok (.dup, 1) := by decide +kernel
theorem dX6_counted_8 : decode cX6_counted 8 = .ok (.getfield 178, 3) := by decide +kernel
theorem dX6_counted_11 : decode cX6_counted 11 = .ok (.iconst 1, 1) := by decide +kernel
theorem dX6_counted_12 : decode cX6_counted 12 = .ok (.iadd, 1) := by decide +kernel
theorem dX6_counted_13 : decode cX6_counted 13 = .ok (.putfield 178, 3) := by decide +kernel
theorem dX6_counted_16 : decode cX6_counted 16 = .ok (.goto 38, 3) := by decide +kernel
theorem dX6_counted_19 : decode cX6_counted 19 = .ok (.iload_n 1, 1) := by decide +kernel
theorem dX6_counted_20 : decode cX6_counted 20 = .ok (.bipush (-3), 2) := by decide +kernel
theorem dX6_counted_22 : decode cX6_counted 22 = .ok (.if_icmp .ne 16, 3) := by decide +kernel
theorem dX6_counted_25 : decode cX6_counted 25 = .ok (.aload_n 0, 1) := by decide +kernel
theorem dX6_counted_26 : decode cX6_counted 26 = .ok (.dup, 1) := by decide +kernel
theorem dX6_counted_27 : decode cX6_counted 27 = .ok (.getfield 181, 3) := by decide +kernel
theorem dX6_counted_30 : decode cX6_counted 30 = .ok (.iconst 1, 1) := by decide +kernel
theorem dX6_counted_31 : decode cX6_counted 31 = .ok (.iadd, 1) := by decide +kernel
theorem dX6_counted_32 : decode cX6_counted 32 = .ok (.putfield 181, 3) := by decide +kernel
theorem dX6_counted_35 : decode cX6_counted 35 = .ok (.goto 19, 3) := by decide +kernel
theorem dX6_counted_38 : decode cX6_counted 38 = .ok (.iload_n 1, 1) := by decide +kernel
theorem dX6_counted_39 : decode cX6_counted 39 = .ok (.bipush (-4), 2) := by decide +kernel
theorem dX6_counted_41 : decode cX6_counted 41 = .ok (.if_icmp .ne 13, 3) := by decide +kernel
theorem dX6_counted_44 : decode cX6_counted 44 = .ok (.aload_n 0, 1) := by decide +kernel
theorem dX6_counted_45 : decode cX6_counted 45 = .ok (.dup, 1) := by decide +kernel
theorem dX6_counted_46 : decode cX6_counted 46 = .ok (.getfield 184, 3) := by decide +kernel
theorem dX6_counted_49 : decode cX6_counted 49 = .ok (.iconst 1, 1) := by decide +kernel
theorem dX6_counted_50 : decode cX6_counted 50 = .ok (.iadd, 1) := by decide +kernel
theorem dX6_counted_51 : decode cX6_counted 51 = .ok (.putfield 184, 3) := by decide +kernel
theorem dX6_counted_54 : decode cX6_counted 54 = .ok (.iload_n 1, 1) := by decide +kernel
theorem dX6_counted_55 : decode cX6_counted 55 = .ok (.ireturn, 1) := by decide +kernel
theorem dX6_actEnded_0 : decode cX6_actEnded 0 = .ok (.iload_n 1, 1) := by decide +kernel
theorem dX6_actEnded_1 : decode cX6_actEnded 1 = .ok (.ifCond .lt 10, 3) := by decide +kernel
theorem dX6_actEnded_4 : decode cX6_actEnded 4 = .ok (.aload_n 0, 1) := by decide +kernel
theorem dX6_actEnded_5 : decode cX6_actEnded 5 = .ok (.getfield 35, 3) := by decide +kernel
theorem dX6_actEnded_8 : decode cX6_actEnded 8 = .ok (.invokevirtual 171, 3) := by decide +kernel
theorem dX6_actEnded_11 : decode cX6_actEnded 11 = .ok (.aload_n 0, 1) := by decide +kernel
theorem dX6_actEnded_12 : decode cX6_actEnded 12 = .ok (.iload_n 1, 1) := by decide +kernel
theorem dX6_actEnded_13 : decode cX6_actEnded 13 = .ok (.invokevirtual 84, 3) := by decide +kernel
theorem dX6_actEnded_16 : decode cX6_actEnded 16 = .ok (.ireturn, 1) := by decide +kernel
theorem dX6_manyClocks_0 : decode cX6_manyClocks 0 = .ok (.iload_n 1, 1) := by decide +kernel
theorem dX6_manyClocks_1 : decode cX6_manyClocks 1 = .ok (.iconst 1, 1) := by decide +kernel
theorem dX6_manyClocks_2 : decode cX6_manyClocks 2 = .ok (.if_icmp .lt 29, 3) := by decide +kernel
theorem dX6_manyClocks_5 : decode cX6_manyClocks 5 = .ok (.iload_n 1, 1) := by decide +kernel
theorem dX6_manyClocks_6 : decode cX6_manyClocks 6 = .ok (.bipush 16, 2) := by decide +kernel
theorem dX6_manyClocks_8 : decode cX6_manyClocks 8 = .ok (.if_icmp .gt 23, 3) := by decide +kernel
theorem dX6_manyClocks_11 : decode cX6_manyClocks 11 = .ok (.iload_n 2, 1) := by decide +kernel
theorem dX6_manyClocks_12 : decode cX6_manyClocks 12 = .ok (.ifCond .lt 19, 3) := by decide +kernel
theorem dX6_manyClocks_15 : decode cX6_manyClocks 15 = .ok (.iload_n 2, 1) := by decide +kernel
theorem dX6_manyClocks_16 : decode cX6_manyClocks 16 = .ok (.ldc 223, 2) := by decide +kernel
theorem dX6_manyClocks_18 : decode cX6_manyClocks 18 = .ok (.if_icmp .gt 13, 3) := by decide +kernel
theorem dX6_manyClocks_21 : decode cX6_manyClocks 21 = .ok (.iload_n 3, 1) := by decide +kernel
theorem dX6_manyClocks_22 : decode cX6_manyClocks 22 = .ok (.ifCond .lt 9, 3) := by decide +kernel
theorem dX6_manyClocks_25 : decode cX6_manyClocks 25 = .ok (.iload_n 3, 1) := by decide +kernel
theorem dX6_manyClocks_26 : decode cX6_manyClocks 26 = .ok (.ldc 223, 2) := by decide +kernel
theorem dX6_manyClocks_28 : decode cX6_manyClocks 28 = .ok (.if_icmp .le 6, 3) := by decide +kernel
theorem dX6_manyClocks_31 : decode cX6_manyClocks 31 = .ok (.bipush (-2), 2) := by decide +kernel
theorem dX6_manyClocks_33 : decode cX6_manyClocks 33 = .ok (.ireturn, 1) := by decide +kernel
theorem dX6_manyClocks_34 : decode cX6_manyClocks 34 = .ok (.iconst 0, 1) := by decide +kernel
theorem dX6_manyClocks_35 : decode cX6_manyClocks 35 = .ok (.istore 4, 2) := by decide +kernel
theorem dX6_manyClocks_37 : decode cX6_manyClocks 37 = .ok (.iconst 0, 1) := by decide +kernel
theorem dX6_manyClocks_38 : decode cX6_manyClocks 38 = .ok (.istore 5, 2) := by decide +kernel
theorem dX6_manyClocks_40 : decode cX6_manyClocks 40 = .ok (.iconst 0, 1) := by decide +kernel
theorem dX6_manyClocks_41 : decode cX6_manyClocks 41 = .ok (.istore 6, 2) := by decide +kernel
theorem dX6_manyClocks_43 : decode cX6_manyClocks 43 = .ok (.iload 6, 2) := by decide +kernel
theorem dX6_manyClocks_45 : decode cX6_manyClocks 45 = .ok (.iload_n 1, 1) := by decide +kernel
theorem dX6_manyClocks_46 : decode cX6_manyClocks 46 = .ok (.if_icmp .ge 53, 3) := by decide +kernel
theorem dX6_manyClocks_49 : decode cX6_manyClocks 49 = .ok (.aload_n 0, 1) := by decide +kernel
theorem dX6_manyClocks_50 : decode cX6_manyClocks 50 = .ok (.getfield 12, 3) := by decide +kernel
theorem dX6_manyClocks_53 : decode cX6_manyClocks 53 = .ok (.iload_n 2, 1) := by decide +kernel
theorem dX6_manyClocks_54 : decode cX6_manyClocks 54 = .ok (.iload 6, 2) := by decide +kernel
theorem dX6_manyClocks_56 : decode cX6_manyClocks 56 = .ok (.ishr, 1) := by decide +kernel
theorem dX6_manyClocks_57 : decode cX6_manyClocks 57 = .ok (.iconst 1, 1) := by decide +kernel
theorem dX6_manyClocks_58 : decode cX6_manyClocks 58 = .ok (.iand, 1) := by decide +kernel
theorem dX6_manyClocks_59 : decode cX6_manyClocks 59 = .ok (.iload_n 3, 1) := by decide +kernel
theorem dX6_manyClocks_60 : decode cX6_manyClocks 60 = .ok (.iload 6, 2) := by decide +kernel
theorem dX6_manyClocks_62 : decode cX6_manyClocks 62 = .ok (.ishr, 1) := by decide +kernel
theorem dX6_manyClocks_63 : decode cX6_manyClocks 63 = .ok (.iconst 1, 1) := by decide +kernel
theorem dX6_manyClocks_64 : decode cX6_manyClocks 64 = .ok (.iand, 1) := by decide +kernel
theorem dX6_manyClocks_65 : decode cX6_manyClocks 65 = .ok (.aload_n 0, 1) := by decide +kernel
theorem dX6_manyClocks_66 : decode cX6_manyClocks 66 = .ok (.getfield 21, 3) := by decide +kernel
theorem dX6_manyClocks_69 : decode cX6_manyClocks 69 = .ok (.invokevirtual 74, 3) := by decide +kernel
theorem dX6_manyClocks_72 : decode cX6_manyClocks 72 = .ok (.istore 7, 2) := by decide +kernel
theorem dX6_manyClocks_74 : decode cX6_manyClocks 74 = .ok (.iload 7, 2) := by decide +kernel
theorem dX6_manyClocks_76 : decode cX6_manyClocks 76 = .ok (.iconst 2, 1) := by decide +kernel
theorem dX6_manyClocks_77 : decode cX6_manyClocks 77 = .ok (.if_icmp .eq 16, 3) := by decide +kernel
theorem dX6_manyClocks_80 : decode cX6_manyClocks 80 = .ok (.iload 4, 2) := by decide +kernel
theorem dX6_manyClocks_82 : decode cX6_manyClocks 82 = .ok (.iload 7, 2) := by decide +kernel
theorem dX6_manyClocks_84 : decode cX6_manyClocks 84 = .ok (.iload 5, 2) := by decide +kernel
theorem dX6_manyClocks_86 : decode cX6_manyClocks 86 = .ok (.ishl, 1) := by decide +kernel
theorem dX6_manyClocks_87 : decode cX6_manyClocks 87 = .ok (.ior, 1) := by decide +kernel
theorem dX6_manyClocks_88 : decode cX6_manyClocks 88 = .ok (.istore 4, 2) := by decide +kernel
theorem dX6_manyClocks_90 : decode cX6_manyClocks 90 = .ok (.iinc 5 1, 3) := by decide +kernel
theorem dX6_manyClocks_93 : decode cX6_manyClocks 93 = .ok (.iinc 6 1, 3) := by decide +kernel
theorem dX6_manyClocks_96 : decode cX6_manyClocks 96 = .ok (.goto (-53), 3) := by decide +kernel
theorem dX6_manyClocks_99 : decode cX6_manyClocks 99 = .ok (.iload 4, 2) := by decide +kernel
theorem dX6_manyClocks_101 : decode cX6_manyClocks 101 = .ok (.ireturn, 1) := by decide +kernel
theorem dX6_portNumber_0 : decode cX6_portNumber 0 = .ok (.iload_n 1, 1) := by decide +kernel
theorem dX6_portNumber_1 : decode cX6_portNumber 1 = .ok (.tableswitch 89 0 4 #[35, 43, 51, 59, 74], 35) := by decide +kernel
theorem dX6_portNumber_36 : decode cX6_portNumber 36 = .ok (.aload_n 0, 1) := by decide +kernel
theorem dX6_portNumber_37 : decode cX6_portNumber 37 = .ok (.getfield 12, 3) := by decide +kernel
theorem dX6_portNumber_40 : decode cX6_portNumber 40 = .ok (.getfield 224, 3) := by decide +kernel
theorem dX6_portNumber_43 : decode cX6_portNumber 43 = .ok (.ireturn, 1) := by decide +kernel
theorem dX6_portNumber_44 : decode cX6_portNumber 44 = .ok (.aload_n 0, 1) := by decide +kernel
theorem dX6_portNumber_45 : decode cX6_portNumber 45 = .ok (.getfield 12, 3) := by decide +kernel
theorem dX6_portNumber_48 : decode cX6_portNumber 48 = .ok (.invokevirtual 227, 3) := by decide +kernel
theorem dX6_portNumber_51 : decode cX6_portNumber 51 = .ok (.ireturn, 1) := by decide +kernel
theorem dX6_portNumber_52 : decode cX6_portNumber 52 = .ok (.aload_n 0, 1) := by decide +kernel
theorem dX6_portNumber_53 : decode cX6_portNumber 53 = .ok (.getfield 12, 3) := by decide +kernel
theorem dX6_portNumber_56 : decode cX6_portNumber 56 = .ok (.invokevirtual 230, 3) := by decide +kernel
theorem dX6_portNumber_59 : decode cX6_portNumber 59 = .ok (.ireturn, 1) := by decide +kernel
theorem dX6_portNumber_60 : decode cX6_portNumber 60 = .ok (.aload_n 0, 1) := by decide +kernel
theorem dX6_portNumber_61 : decode cX6_portNumber 61 = .ok (.getfield 21, 3) := by decide +kernel
theorem dX6_portNumber_64 : decode cX6_portNumber 64 = .ok (.invokevirtual 233, 3) := by decide +kernel
theorem dX6_portNumber_67 : decode cX6_portNumber 67 = .ok (.aload_n 0, 1) := by decide +kernel
theorem dX6_portNumber_68 : decode cX6_portNumber 68 = .ok (.getfield 21, 3) := by decide +kernel
theorem dX6_portNumber_71 : decode cX6_portNumber 71 = .ok (.getfield 236, 3) := by decide +kernel
theorem dX6_portNumber_74 : decode cX6_portNumber 74 = .ok (.ireturn, 1) := by decide +kernel
theorem dX6_portNumber_75 : decode cX6_portNumber 75 = .ok (.aload_n 0, 1) := by decide +kernel
theorem dX6_portNumber_76 : decode cX6_portNumber 76 = .ok (.getfield 21, 3) := by decide +kernel
theorem dX6_portNumber_79 : decode cX6_portNumber 79 = .ok (.invokevirtual 233, 3) := by decide +kernel
theorem dX6_portNumber_82 : decode cX6_portNumber 82 = .ok (.aload_n 0, 1) := by decide +kernel
theorem dX6_portNumber_83 : decode cX6_portNumber 83 = .ok (.getfield 21, 3) := by decide +kernel
theorem dX6_portNumber_86 : decode cX6_portNumber 86 = .ok (.invokevirtual 239, 3) := by decide +kernel
theorem dX6_portNumber_89 : decode cX6_portNumber 89 = .ok (.ireturn, 1) := by decide +kernel
theorem dX6_portNumber_90 : decode cX6_portNumber 90 = .ok (.bipush (-2), 2) := by decide +kernel
theorem dX6_portNumber_92 : decode cX6_portNumber 92 = .ok (.ireturn, 1) := by decide +kernel
theorem dX6_cellNumber_0 : decode cX6_cellNumber 0 = .ok (.aload_n 0, 1) := by decide +kernel
theorem dX6_cellNumber_1 : decode cX6_cellNumber 1 = .ok (.getfield 12, 3) := by decide +kernel
theorem dX6_cellNumber_4 : decode cX6_cellNumber 4 = .ok (.getfield 91, 3) := by decide +kernel
theorem dX6_cellNumber_7 : decode cX6_cellNumber 7 = .ok (.iload_n 1, 1) := by decide +kernel
theorem dX6_cellNumber_8 : decode cX6_cellNumber 8 = .ok (.aaload, 1) := by decide +kernel
theorem dX6_cellNumber_9 : decode cX6_cellNumber 9 = .ok (.astore 4, 2) := by decide +kernel
theorem dX6_cellNumber_11 : decode cX6_cellNumber 11 = .ok (.iload_n 3, 1) := by decide +kernel
theorem dX6_cellNumber_12 : decode cX6_cellNumber 12 = .ok (.tableswitch 87 0 2 #[28, 43, 51], 28) := by decide +kernel
theorem dX6_cellNumber_40 : decode cX6_cellNumber 40 = .ok (.aload 4, 2) := by decide +kernel
theorem dX6_cellNumber_42 : decode cX6_cellNumber 42 = .ok (.iload_n 2, 1) := by decide +kernel
theorem dX6_cellNumber_43 : decode cX6_cellNumber 43 = .ok (.invokevirtual 134, 3) := by decide +kernel
theorem dX6_cellNumber_46 : decode cX6_cellNumber 46 = .ok (.ifCond .eq 7, 3) := by decide +kernel
theorem dX6_cellNumber_49 : decode cX6_cellNumber 49 = .ok (.iconst 1, 1) := by decide +kernel
theorem dX6_cellNumber_50 : decode cX6_cellNumber 50 = .ok (.goto 4, 3) := by decide +kernel
theorem dX6_cellNumber_53 : decode cX6_cellNumber 53 = .ok (.iconst 0, 1) := by decide +kernel
theorem dX6_cellNumber_54 : decode cX6_cellNumber 54 = .ok (.ireturn, 1) := by decide +kernel
theorem dX6_cellNumber_55 : decode cX6_cellNumber 55 = .ok (.aload 4, 2) := by decide +kernel
theorem dX6_cellNumber_57 : decode cX6_cellNumber 57 = .ok (.getfield 242, 3) := by decide +kernel
theorem dX6_cellNumber_60 : decode cX6_cellNumber 60 = .ok (.iload_n 2, 1) := by decide +kernel
theorem dX6_cellNumber_61 : decode cX6_cellNumber 61 = .ok (.iaload, 1) := by decide +kernel
theorem dX6_cellNumber_62 : decode cX6_cellNumber 62 = .ok (.ireturn, 1) := by decide +kernel
theorem dX6_cellNumber_63 : decode cX6_cellNumber 63 = .ok (.aload 4, 2) := by decide +kernel
theorem dX6_cellNumber_65 : decode cX6_cellNumber 65 = .ok (.iload_n 2, 1) := by decide +kernel
theorem dX6_cellNumber_66 : decode cX6_cellNumber 66 = .ok (.invokevirtual 134, 3) := by decide +kernel
theorem dX6_cellNumber_69 : decode cX6_cellNumber 69 = .ok (.ifCond .eq 13, 3) := by decide +kernel
theorem dX6_cellNumber_72 : decode cX6_cellNumber 72 = .ok (.aload 4, 2) := by decide +kernel
theorem dX6_cellNumber_74 : decode cX6_cellNumber 74 = .ok (.getfield 245, 3) := by decide +kernel
theorem dX6_cellNumber_77 : decode cX6_cellNumber 77 = .ok (.iload_n 2, 1) := by decide +kernel
theorem dX6_cellNumber_78 : decode cX6_cellNumber 78 = .ok (.ishr, 1) := by decide +kernel
theorem dX6_cellNumber_79 : decode cX6_cellNumber 79 = .ok (.iconst 1, 1) := by decide +kernel
theorem dX6_cellNumber_80 : decode cX6_cellNumber 80 = .ok (.iand, 1) := by decide +kernel
theorem dX6_cellNumber_81 : decode cX6_cellNumber 81 = .ok (.ireturn, 1) := by decide +kernel
theorem dX6_cellNumber_82 : decode cX6_cellNumber 82 = .ok (.aload_n 0, 1) := by decide +kernel
theorem dX6_cellNumber_83 : decode cX6_cellNumber 83 = .ok (.getfield 21, 3) := by decide +kernel
theorem dX6_cellNumber_86 : decode cX6_cellNumber 86 = .ok (.invokevirtual 233, 3) := by decide +kernel
theorem dX6_cellNumber_89 : decode cX6_cellNumber 89 = .ok (.aload_n 0, 1) := by decide +kernel
theorem dX6_cellNumber_90 : decode cX6_cellNumber 90 = .ok (.getfield 21, 3) := by decide +kernel
theorem dX6_cellNumber_93 : decode cX6_cellNumber 93 = .ok (.iload_n 1, 1) := by decide +kernel
theorem dX6_cellNumber_94 : decode cX6_cellNumber 94 = .ok (.iload_n 2, 1) := by decide +kernel
theorem dX6_cellNumber_95 : decode cX6_cellNumber 95 = .ok (.invokevirtual 248, 3) := by decide +kernel
theorem dX6_cellNumber_98 : decode cX6_cellNumber 98 = .ok (.ireturn, 1) := by decide +kernel
theorem dX6_cellNumber_99 : decode cX6_cellNumber 99 = .ok (.bipush (-2), 2) := by decide +kernel
theorem dX6_cellNumber_101 : decode cX6_cellNumber 101 = .ok (.ireturn, 1) := by decide +kernel
theorem dX6_carryOut_0 : decode cX6_carryOut 0 = .ok (.aload_n 0, 1) := by decide +kernel
theorem dX6_carryOut_1 : decode cX6_carryOut 1 = .ok (.getfield 42, 3) := by decide +kernel
theorem dX6_carryOut_4 : decode cX6_carryOut 4 = .ok (.getfield 251, 3) := by decide +kernel
theorem dX6_carryOut_7 : decode cX6_carryOut 7 = .ok (.iload_n 2, 1) := by decide +kernel
theorem dX6_carryOut_8 : decode cX6_carryOut 8 = .ok (.iaload, 1) := by decide +kernel
theorem dX6_carryOut_9 : decode cX6_carryOut 9 = .ok (.istore_n 3, 1) := by decide +kernel
theorem dX6_carryOut_10 : decode cX6_carryOut 10 = .ok (.aload_n 0, 1) := by decide +kernel
theorem dX6_carryOut_11 : decode cX6_carryOut 11 = .ok (.getfield 42, 3) := by decide +kernel
theorem dX6_carryOut_14 : decode cX6_carryOut 14 = .ok (.getfield 251, 3) := by decide +kernel
theorem dX6_carryOut_17 : decode cX6_carryOut 17 = .ok (.iload_n 2, 1) := by decide +kernel
theorem dX6_carryOut_18 : decode cX6_carryOut 18 = .ok (.iconst 1, 1) := by decide +kernel
theorem dX6_carryOut_19 : decode cX6_carryOut 19 = .ok (.iadd, 1) := by decide +kernel
theorem dX6_carryOut_20 : decode cX6_carryOut 20 = .ok (.iaload, 1) := by decide +kernel
theorem dX6_carryOut_21 : decode cX6_carryOut 21 = .ok (.istore 4, 2) := by decide +kernel
theorem dX6_carryOut_23 : decode cX6_carryOut 23 = .ok (.aload_n 0, 1) := by decide +kernel
theorem dX6_carryOut_24 : decode cX6_carryOut 24 = .ok (.getfield 42, 3) := by decide +kernel
theorem dX6_carryOut_27 : decode cX6_carryOut 27 = .ok (.getfield 251, 3) := by decide +kernel
theorem dX6_carryOut_30 : decode cX6_carryOut 30 = .ok (.iload_n 2, 1) := by decide +kernel
theorem dX6_carryOut_31 : decode cX6_carryOut 31 = .ok (.iconst 2, 1) := by decide +kernel
theorem dX6_carryOut_32 : decode cX6_carryOut 32 = .ok (.iadd, 1) := by decide +kernel
theorem dX6_carryOut_33 : decode cX6_carryOut 33 = .ok (.iaload, 1) := by decide +kernel
theorem dX6_carryOut_34 : decode cX6_carryOut 34 = .ok (.istore 5, 2) := by decide +kernel
theorem dX6_carryOut_36 : decode cX6_carryOut 36 = .ok (.iload_n 1, 1) := by decide +kernel
theorem dX6_carryOut_37 : decode cX6_carryOut 37 = .ok (.tableswitch 173 99 117 #[91, 173, 173, 173, 173, 165, 173, 173, 115, 173, 173, 173, 130, 102, 173, 173, 152, 173, 141], 91) := by decide +kernel
theorem dX6_carryOut_128 : decode cX6_carryOut 128 = .ok (.aload_n 0, 1) := by decide +kernel
theorem dX6_carryOut_129 : decode cX6_carryOut 129 = .ok (.getfield 12, 3) := by decide +kernel
theorem dX6_carryOut_132 : decode cX6_carryOut 132 = .ok (.iload_n 3, 1) := by decide +kernel
theorem dX6_carryOut_133 : decode cX6_carryOut 133 = .ok (.iload 4, 2) := by decide +kernel
theorem dX6_carryOut_135 : decode cX6_carryOut 135 = .ok (.invokevirtual 49, 3) := by decide +kernel
theorem dX6_carryOut_138 : decode cX6_carryOut 138 = .ok (.ireturn, 1) := by decide +kernel
theorem dX6_carryOut_139 : decode cX6_carryOut 139 = .ok (.aload_n 0, 1) := by decide +kernel
theorem dX6_carryOut_140 : decode cX6_carryOut 140 = .ok (.getfield 12, 3) := by decide +kernel
theorem dX6_carryOut_143 : decode cX6_carryOut 143 = .ok (.iload_n 3, 1) := by decide +kernel
theorem dX6_carryOut_144 : decode cX6_carryOut 144 = .ok (.iload 4, 2) := by decide +kernel
theorem dX6_carryOut_146 : decode cX6_carryOut 146 = .ok (.iload 5, 2) := by decide +kernel
theorem dX6_carryOut_148 : decode cX6_carryOut 148 = .ok (.invokevirtual 57, 3) := by decide +kernel
theorem dX6_carryOut_151 : decode cX6_carryOut 151 = .ok (.ireturn, 1) := by decide +kernel
theorem dX6_carryOut_152 : decode cX6_carryOut 152 = .ok (.aload_n 0, 1) := by decide +kernel
theorem dX6_carryOut_153 : decode cX6_carryOut 153 = .ok (.getfield 12, 3) := by decide +kernel
theorem dX6_carryOut_156 : decode cX6_carryOut 156 = .ok (.iload_n 3, 1) := by decide +kernel
theorem dX6_carryOut_157 : decode cX6_carryOut 157 = .ok (.iload 4, 2) := by decide +kernel
theorem dX6_carryOut_159 : decode cX6_carryOut 159 = .ok (.aload_n 0, 1) := by decide +kernel
theorem dX6_carryOut_160 : decode cX6_carryOut 160 = .ok (.getfield 21, 3) := by decide +kernel
theorem dX6_carryOut_163 : decode cX6_carryOut 163 = .ok (.invokevirtual 74, 3) := by decide +kernel
theorem dX6_carryOut_166 : decode cX6_carryOut 166 = .ok (.ireturn, 1) := by decide +kernel
theorem dX6_carryOut_167 : decode cX6_carryOut 167 = .ok (.aload_n 0, 1) := by decide +kernel
theorem dX6_carryOut_168 : decode cX6_carryOut 168 = .ok (.getfield 12, 3) := by decide +kernel
theorem dX6_carryOut_171 : decode cX6_carryOut 171 = .ok (.iload_n 3, 1) := by decide +kernel
theorem dX6_carryOut_172 : decode cX6_carryOut 172 = .ok (.iload 4, 2) := by decide +kernel
theorem dX6_carryOut_174 : decode cX6_carryOut 174 = .ok (.invokevirtual 61, 3) := by decide +kernel
theorem dX6_carryOut_177 : decode cX6_carryOut 177 = .ok (.ireturn, 1) := by decide +kernel
theorem dX6_carryOut_178 : decode cX6_carryOut 178 = .ok (.aload_n 0, 1) := by decide +kernel
theorem dX6_carryOut_179 : decode cX6_carryOut 179 = .ok (.getfield 12, 3) := by decide +kernel
theorem dX6_carryOut_182 : decode cX6_carryOut 182 = .ok (.iload_n 3, 1) := by decide +kernel
theorem dX6_carryOut_183 : decode cX6_carryOut 183 = .ok (.iload 4, 2) := by decide +kernel
theorem dX6_carryOut_185 : decode cX6_carryOut 185 = .ok (.invokevirtual 64, 3) := by decide +kernel
theorem dX6_carryOut_188 : decode cX6_carryOut 188 = .ok (.ireturn, 1) := by decide +kernel
theorem dX6_carryOut_189 : decode cX6_carryOut 189 = .ok (.aload_n 0, 1) := by decide +kernel
theorem dX6_carryOut_190 : decode cX6_carryOut 190 = .ok (.getfield 12, 3) := by decide +kernel
theorem dX6_carryOut_193 : decode cX6_carryOut 193 = .ok (.iload_n 3, 1) := by decide +kernel
theorem dX6_carryOut_194 : decode cX6_carryOut 194 = .ok (.iload 4, 2) := by decide +kernel
theorem dX6_carryOut_196 : decode cX6_carryOut 196 = .ok (.iload 5, 2) := by decide +kernel
theorem dX6_carryOut_198 : decode cX6_carryOut 198 = .ok (.invokevirtual 67, 3) := by decide +kernel
theorem dX6_carryOut_201 : decode cX6_carryOut 201 = .ok (.ireturn, 1) := by decide +kernel
theorem dX6_carryOut_202 : decode cX6_carryOut 202 = .ok (.aload_n 0, 1) := by decide +kernel
theorem dX6_carryOut_203 : decode cX6_carryOut 203 = .ok (.getfield 12, 3) := by decide +kernel
theorem dX6_carryOut_206 : decode cX6_carryOut 206 = .ok (.invokevirtual 70, 3) := by decide +kernel
theorem dX6_carryOut_209 : decode cX6_carryOut 209 = .ok (.ireturn, 1) := by decide +kernel
theorem dX6_carryOut_210 : decode cX6_carryOut 210 = .ok (.bipush (-2), 2) := by decide +kernel
theorem dX6_carryOut_212 : decode cX6_carryOut 212 = .ok (.ireturn, 1) := by decide +kernel
theorem dX6_mixedChips_0 : decode cX6_mixedChips 0 = .ok (.lload_n 1, 1) := by decide +kernel
theorem dX6_mixedChips_1 : decode cX6_mixedChips 1 = .ok (.lstore_n 3, 1) := by decide +kernel
theorem dX6_mixedChips_2 : decode cX6_mixedChips 2 = .ok (.iconst 0, 1) := by decide +kernel
theorem dX6_mixedChips_3 : decode cX6_mixedChips 3 = .ok (.istore 5, 2) := by decide +kernel
theorem dX6_mixedChips_5 : decode cX6_mixedChips 5 = .ok (.iload 5, 2) := by decide +kernel
theorem dX6_mixedChips_7 : decode cX6_mixedChips 7 = .ok (.aload_n 0, 1) := by decide +kernel
theorem dX6_mixedChips_8 : decode cX6_mixedChips 8 = .ok (.getfield 12, 3) := by decide +kernel
theorem dX6_mixedChips_11 : decode cX6_mixedChips 11 = .ok (.getfield 254, 3) := by decide +kernel
theorem dX6_mixedChips_14 : decode cX6_mixedChips 14 = .ok (.if_icmp .ge 99, 3) := by decide +kernel
theorem dX6_mixedChips_17 : decode cX6_mixedChips 17 = .ok (.iconst 0, 1) := by decide +kernel
theorem dX6_mixedChips_18 : decode cX6_mixedChips 18 = .ok (.istore 6, 2) := by decide +kernel
theorem dX6_mixedChips_20 : decode cX6_mixedChips 20 = .ok (.iload 6, 2) := by decide +kernel
theorem dX6_mixedChips_22 : decode cX6_mixedChips 22 = .ok (.bipush 8, 2) := by decide +kernel
theorem dX6_mixedChips_24 : decode cX6_mixedChips 24 = .ok (.if_icmp .ge 22, 3) := by decide +kernel
theorem dX6_mixedChips_27 : decode cX6_mixedChips 27 = .ok (.lload_n 3, 1) := by decide +kernel
theorem dX6_mixedChips_28 : decode cX6_mixedChips 28 = .ok (.aload_n 0, 1) := by decide +kernel
theorem dX6_mixedChips_29 : decode cX6_mixedChips 29 = .ok (.iload 5, 2) := by decide +kernel
theorem dX6_mixedChips_31 : decode cX6_mixedChips 31 = .ok (.iload 6, 2) := by decide +kernel
theorem dX6_mixedChips_33 : decode cX6_mixedChips 33 = .ok (.invokevirtual 257, 3) := by decide +kernel
theorem dX6_mixedChips_36 : decode cX6_mixedChips 36 = .ok (.invokestatic 198, 3) := by decide +kernel
theorem dX6_mixedChips_39 : decode cX6_mixedChips 39 = .ok (.lstore_n 3, 1) := by decide +kernel
theorem dX6_mixedChips_40 : decode cX6_mixedChips 40 = .ok (.iinc 6 1, 3) := by decide +kernel
theorem dX6_mixedChips_43 : decode cX6_mixedChips 43 = .ok (.goto (-23), 3) := by decide +kernel
theorem dX6_mixedChips_46 : decode cX6_mixedChips 46 = .ok (.aload_n 0, 1) := by decide +kernel
theorem dX6_mixedChips_47 : decode cX6_mixedChips 47 = .ok (.getfield 12, 3) := by decide +kernel
theorem dX6_mixedChips_50 : decode cX6_mixedChips 50 = .ok (.getfield 91, 3) := by decide +kernel
theorem dX6_mixedChips_53 : decode cX6_mixedChips 53 = .ok (.iload 5, 2) := by decide +kernel
theorem dX6_mixedChips_55 : decode cX6_mixedChips 55 = .ok (.aaload, 1) := by decide +kernel
theorem dX6_mixedChips_56 : decode cX6_mixedChips 56 = .ok (.getfield 260, 3) := by decide +kernel
theorem dX6_mixedChips_59 : decode cX6_mixedChips 59 = .ok (.istore 6, 2) := by decide +kernel
theorem dX6_mixedChips_61 : decode cX6_mixedChips 61 = .ok (.iconst 0, 1) := by decide +kernel
theorem dX6_mixedChips_62 : decode cX6_mixedChips 62 = .ok (.istore 7, 2) := by decide +kernel
theorem dX6_mixedChips_64 : decode cX6_mixedChips 64 = .ok (.iload 7, 2) := by decide +kernel
theorem dX6_mixedChips_66 : decode cX6_mixedChips 66 = .ok (.iload 6, 2) := by decide +kernel
theorem dX6_mixedChips_68 : decode cX6_mixedChips 68 = .ok (.if_icmp .ge 39, 3) := by decide +kernel
theorem dX6_mixedChips_71 : decode cX6_mixedChips 71 = .ok (.iconst 0, 1) := by decide +kernel
theorem dX6_mixedChips_72 : decode cX6_mixedChips 72 = .ok (.istore 8, 2) := by decide +kernel
theorem dX6_mixedChips_74 : decode cX6_mixedChips 74 = .ok (.iload 8, 2) := by decide +kernel
theorem dX6_mixedChips_76 : decode cX6_mixedChips 76 = .ok (.iconst 3, 1) := by decide +kernel
theorem dX6_mixedChips_77 : decode cX6_mixedChips 77 = .ok (.if_icmp .ge 24, 3) := by decide +kernel
theorem dX6_mixedChips_80 : decode cX6_mixedChips 80 = .ok (.lload_n 3, 1) := by decide +kernel
theorem dX6_mixedChips_81 : decode cX6_mixedChips 81 = .ok (.aload_n 0, 1) := by decide +kernel
theorem dX6_mixedChips_82 : decode cX6_mixedChips 82 = .ok (.iload 5, 2) := by decide +kernel
theorem dX6_mixedChips_84 : decode cX6_mixedChips 84 = .ok (.iload 7, 2) := by decide +kernel
theorem dX6_mixedChips_86 : decode cX6_mixedChips 86 = .ok (.iload 8, 2) := by decide +kernel
theorem dX6_mixedChips_88 : decode cX6_mixedChips 88 = .ok (.invokevirtual 263, 3) := by decide +kernel
theorem dX6_mixedChips_91 : decode cX6_mixedChips 91 = .ok (.invokestatic 198, 3) := by decide +kernel
theorem dX6_mixedChips_94 : decode cX6_mixedChips 94 = .ok (.lstore_n 3, 1) := by decide +kernel
theorem dX6_mixedChips_95 : decode cX6_mixedChips 95 = .ok (.iinc 8 1, 3) := by decide +kernel
theorem dX6_mixedChips_98 : decode cX6_mixedChips 98 = .ok (.goto (-24), 3) := by decide +kernel
theorem dX6_mixedChips_101 : decode cX6_mixedChips 101 = .ok (.iinc 7 1, 3) := by decide +kernel
theorem dX6_mixedChips_104 : decode cX6_mixedChips 104 = .ok (.goto (-40), 3) := by decide +kernel
theorem dX6_mixedChips_107 : decode cX6_mixedChips 107 = .ok (.iinc 5 1, 3) := by decide +kernel
theorem dX6_mixedChips_110 : decode cX6_mixedChips 110 = .ok (.goto (-105), 3) := by decide +kernel
theorem dX6_mixedChips_113 : decode cX6_mixedChips 113 = .ok (.lload_n 3, 1) := by decide +kernel
theorem dX6_mixedChips_114 : decode cX6_mixedChips 114 = .ok (.lreturn, 1) := by decide +kernel
theorem dJ6_bitCount_0f7a4_0 : decode cJ6_bitCount_0f7a4 0 = .ok (.iload_n 0, 1) := by decide +kernel
theorem dJ6_bitCount_0f7a4_1 : decode cJ6_bitCount_0f7a4 1 = .ok (.iload_n 0, 1) := by decide +kernel
theorem dJ6_bitCount_0f7a4_2 : decode cJ6_bitCount_0f7a4 2 = .ok (.iconst 1, 1) := by decide +kernel
theorem dJ6_bitCount_0f7a4_3 : decode cJ6_bitCount_0f7a4 3 = .ok (.iushr, 1) := by decide +kernel
theorem dJ6_bitCount_0f7a4_4 : decode cJ6_bitCount_0f7a4 4 = .ok (.ldc_w 265, 3) := by decide +kernel
theorem dJ6_bitCount_0f7a4_7 : decode cJ6_bitCount_0f7a4 7 = .ok (.iand, 1) := by decide +kernel
theorem dJ6_bitCount_0f7a4_8 : decode cJ6_bitCount_0f7a4 8 = .ok (.isub, 1) := by decide +kernel
theorem dJ6_bitCount_0f7a4_9 : decode cJ6_bitCount_0f7a4 9 = .ok (.istore_n 0, 1) := by decide +kernel
theorem dJ6_bitCount_0f7a4_10 : decode cJ6_bitCount_0f7a4 10 = .ok (.iload_n 0, 1) := by decide +kernel
theorem dJ6_bitCount_0f7a4_11 : decode cJ6_bitCount_0f7a4 11 = .ok (.ldc_w 266, 3) := by decide +kernel
theorem dJ6_bitCount_0f7a4_14 : decode cJ6_bitCount_0f7a4 14 = .ok (.iand, 1) := by decide +kernel
theorem dJ6_bitCount_0f7a4_15 : decode cJ6_bitCount_0f7a4 15 = .ok (.iload_n 0, 1) := by decide +kernel
theorem dJ6_bitCount_0f7a4_16 : decode cJ6_bitCount_0f7a4 16 = .ok (.iconst 2, 1) := by decide +kernel
theorem dJ6_bitCount_0f7a4_17 : decode cJ6_bitCount_0f7a4 17 = .ok (.iushr, 1) := by decide +kernel
theorem dJ6_bitCount_0f7a4_18 : decode cJ6_bitCount_0f7a4 18 = .ok (.ldc_w 266, 3) := by decide +kernel
theorem dJ6_bitCount_0f7a4_21 : decode cJ6_bitCount_0f7a4 21 = .ok (.iand, 1) := by decide +kernel
theorem dJ6_bitCount_0f7a4_22 : decode cJ6_bitCount_0f7a4 22 = .ok (.iadd, 1) := by decide +kernel
theorem dJ6_bitCount_0f7a4_23 : decode cJ6_bitCount_0f7a4 23 = .ok (.istore_n 0, 1) := by decide +kernel
theorem dJ6_bitCount_0f7a4_24 : decode cJ6_bitCount_0f7a4 24 = .ok (.iload_n 0, 1) := by decide +kernel
theorem dJ6_bitCount_0f7a4_25 : decode cJ6_bitCount_0f7a4 25 = .ok (.iload_n 0, 1) := by decide +kernel
theorem dJ6_bitCount_0f7a4_26 : decode cJ6_bitCount_0f7a4 26 = .ok (.iconst 4, 1) := by decide +kernel
theorem dJ6_bitCount_0f7a4_27 : decode cJ6_bitCount_0f7a4 27 = .ok (.iushr, 1) := by decide +kernel
theorem dJ6_bitCount_0f7a4_28 : decode cJ6_bitCount_0f7a4 28 = .ok (.iadd, 1) := by decide +kernel
theorem dJ6_bitCount_0f7a4_29 : decode cJ6_bitCount_0f7a4 29 = .ok (.ldc_w 267, 3) := by decide +kernel
theorem dJ6_bitCount_0f7a4_32 : decode cJ6_bitCount_0f7a4 32 = .ok (.iand, 1) := by decide +kernel
theorem dJ6_bitCount_0f7a4_33 : decode cJ6_bitCount_0f7a4 33 = .ok (.istore_n 0, 1) := by decide +kernel
theorem dJ6_bitCount_0f7a4_34 : decode cJ6_bitCount_0f7a4 34 = .ok (.iload_n 0, 1) := by decide +kernel
theorem dJ6_bitCount_0f7a4_35 : decode cJ6_bitCount_0f7a4 35 = .ok (.iload_n 0, 1) := by decide +kernel
theorem dJ6_bitCount_0f7a4_36 : decode cJ6_bitCount_0f7a4 36 = .ok (.bipush 8, 2) := by decide +kernel
theorem dJ6_bitCount_0f7a4_38 : decode cJ6_bitCount_0f7a4 38 = .ok (.iushr, 1) := by decide +kernel
theorem dJ6_bitCount_0f7a4_39 : decode cJ6_bitCount_0f7a4 39 = .ok (.iadd, 1) := by decide +kernel
theorem dJ6_bitCount_0f7a4_40 : decode cJ6_bitCount_0f7a4 40 = .ok (.istore_n 0, 1) := by decide +kernel
theorem dJ6_bitCount_0f7a4_41 : decode cJ6_bitCount_0f7a4 41 = .ok (.iload_n 0, 1) := by decide +kernel
theorem dJ6_bitCount_0f7a4_42 : decode cJ6_bitCount_0f7a4 42 = .ok (.iload_n 0, 1) := by decide +kernel
theorem dJ6_bitCount_0f7a4_43 : decode cJ6_bitCount_0f7a4 43 = .ok (.bipush 16, 2) := by decide +kernel
theorem dJ6_bitCount_0f7a4_45 : decode cJ6_bitCount_0f7a4 45 = .ok (.iushr, 1) := by decide +kernel
theorem dJ6_bitCount_0f7a4_46 : decode cJ6_bitCount_0f7a4 46 = .ok (.iadd, 1) := by decide +kernel
theorem dJ6_bitCount_0f7a4_47 : decode cJ6_bitCount_0f7a4 47 = .ok (.istore_n 0, 1) := by decide +kernel
theorem dJ6_bitCount_0f7a4_48 : decode cJ6_bitCount_0f7a4 48 = .ok (.iload_n 0, 1) := by decide +kernel
theorem dJ6_bitCount_0f7a4_49 : decode cJ6_bitCount_0f7a4 49 = .ok (.bipush 63, 2) := by decide +kernel
theorem dJ6_bitCount_0f7a4_51 : decode cJ6_bitCount_0f7a4 51 = .ok (.iand, 1) := by decide +kernel
theorem dJ6_bitCount_0f7a4_52 : decode cJ6_bitCount_0f7a4 52 = .ok (.ireturn, 1) := by decide +kernel
theorem dJ9_max_7cf53_0 : decode cJ9_max_7cf53 0 = .ok (.iload_n 0, 1) := by decide +kernel
theorem dJ9_max_7cf53_1 : decode cJ9_max_7cf53 1 = .ok (.iload_n 1, 1) := by decide +kernel
theorem dJ9_max_7cf53_2 : decode cJ9_max_7cf53 2 = .ok (.if_icmp .lt 7, 3) := by decide +kernel
theorem dJ9_max_7cf53_5 : decode cJ9_max_7cf53 5 = .ok (.iload_n 0, 1) := by decide +kernel
theorem dJ9_max_7cf53_6 : decode cJ9_max_7cf53 6 = .ok (.goto 4, 3) := by decide +kernel
theorem dJ9_max_7cf53_9 : decode cJ9_max_7cf53 9 = .ok (.iload_n 1, 1) := by decide +kernel
theorem dJ9_max_7cf53_10 : decode cJ9_max_7cf53 10 = .ok (.ireturn, 1) := by decide +kernel
theorem dJ9_min_7cf53_0 : decode cJ9_min_7cf53 0 = .ok (.iload_n 0, 1) := by decide +kernel
theorem dJ9_min_7cf53_1 : decode cJ9_min_7cf53 1 = .ok (.iload_n 1, 1) := by decide +kernel
theorem dJ9_min_7cf53_2 : decode cJ9_min_7cf53 2 = .ok (.if_icmp .gt 7, 3) := by decide +kernel
theorem dJ9_min_7cf53_5 : decode cJ9_min_7cf53 5 = .ok (.iload_n 0, 1) := by decide +kernel
theorem dJ9_min_7cf53_6 : decode cJ9_min_7cf53 6 = .ok (.goto 4, 3) := by decide +kernel
theorem dJ9_min_7cf53_9 : decode cJ9_min_7cf53 9 = .ok (.iload_n 1, 1) := by decide +kernel
theorem dJ9_min_7cf53_10 : decode cJ9_min_7cf53 10 = .ok (.ireturn, 1) := by decide +kernel
