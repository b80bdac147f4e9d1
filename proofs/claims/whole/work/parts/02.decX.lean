theorem dX0_init_0 : decode cX0_init 0 = .ok (.aload_n 0, 1) := by decide +kernel
theorem dX0_init_1 : decode cX0_init 1 = .ok (.invokespecial 3, 3) := by decide +kernel
theorem dX0_init_4 : decode cX0_init 4 = .ok (.aload_n 0, 1) := by decide +kernel
theorem dX0_init_5 : decode cX0_init 5 = .ok (.iconst 0, 1) := by decide +kernel
theorem dX0_init_6 : decode cX0_init 6 = .ok (.putfield 9, 3) := by decide +kernel
theorem dX0_init_9 : decode cX0_init 9 = .ok (.aload_n 0, 1) := by decide +kernel
theorem dX0_init_10 : decode cX0_init 10 = .ok (.bipush 7, 2) := by decide +kernel
theorem dX0_init_12 : decode cX0_init 12 = .ok (.newarray .int, 2) := by decide +kernel
theorem dX0_init_14 : decode cX0_init 14 = .ok (.putfield 15, 3) := by decide +kernel
theorem dX0_init_17 : decode cX0_init 17 = .ok (.aload_n 0, 1) := by decide +kernel
theorem dX0_init_18 : decode cX0_init 18 = .ok (.bipush 7, 2) := by decide +kernel
theorem dX0_init_20 : decode cX0_init 20 = .ok (.newarray .int, 2) := by decide +kernel
theorem dX0_init_22 : decode cX0_init 22 = .ok (.putfield 19, 3) := by decide +kernel
theorem dX0_init_25 : decode cX0_init 25 = .ok (.aload_n 0, 1) := by decide +kernel
theorem dX0_init_26 : decode cX0_init 26 = .ok (.bipush 7, 2) := by decide +kernel
theorem dX0_init_28 : decode cX0_init 28 = .ok (.newarray .int, 2) := by decide +kernel
theorem dX0_init_30 : decode cX0_init 30 = .ok (.putfield 22, 3) := by decide +kernel
theorem dX0_init_33 : decode cX0_init 33 = .ok (.aload_n 0, 1) := by decide +kernel
theorem dX0_init_34 : decode cX0_init 34 = .ok (.bipush 7, 2) := by decide +kernel
theorem dX0_init_36 : decode cX0_init 36 = .ok (.iconst 4, 1) := by decide +kernel
theorem dX0_init_37 : decode cX0_init 37 = .ok (.multianewarray 25 2, 4) := by decide +kernel
theorem dX0_init_41 : decode cX0_init 41 = .ok (.putfield 27, 3) := by decide +kernel
theorem dX0_init_44 : decode cX0_init 44 = .ok (.aload_n 0, 1) := by decide +kernel
theorem dX0_init_45 : decode cX0_init 45 = .ok (.bipush 7, 2) := by decide +kernel
theorem dX0_init_47 : decode cX0_init 47 = .ok (.newarray .int, 2) := by decide +kernel
theorem dX0_init_49 : decode cX0_init 49 = .ok (.putfield 30, 3) := by decide +kernel
theorem dX0_init_52 : decode cX0_init 52 = .ok (.aload_n 0, 1) := by decide +kernel
theorem dX0_init_53 : decode cX0_init 53 = .ok (.aload_n 1, 1) := by decide +kernel
theorem dX0_init_54 : decode cX0_init 54 = .ok (.putfield 33, 3) := by decide +kernel
theorem dX0_init_57 : decode cX0_init 57 = .ok (.return_, 1) := by decide +kernel
theorem dX0_add_0 : decode cX0_add 0 = .ok (.aload_n 0, 1) := by decide +kernel
theorem dX0_add_1 : decode cX0_add 1 = .ok (.getfield 9, 3) := by decide +kernel
theorem dX0_add_4 : decode cX0_add 4 = .ok (.bipush 7, 2) := by decide +kernel
theorem dX0_add_6 : decode cX0_add 6 = .ok (.if_icmp .lt 6, 3) := by decide +kernel
theorem dX0_add_9 : decode cX0_add 9 = .ok (.bipush (-2), 2) := by decide +kernel
theorem dX0_add_11 : decode cX0_add 11 = .ok (.ireturn, 1) := by decide +kernel
theorem dX0_add_12 : decode cX0_add 12 = .ok (.aload_n 0, 1) := by decide +kernel
theorem dX0_add_13 : decode cX0_add 13 = .ok (.getfield 15, 3) := by decide +kernel
theorem dX0_add_16 : decode cX0_add 16 = .ok (.aload_n 0, 1) := by decide +kernel
theorem dX0_add_17 : decode cX0_add 17 = .ok (.getfield 9, 3) := by decide +kernel
theorem dX0_add_20 : decode cX0_add 20 = .ok (.iload_n 1, 1) := by decide +kernel
theorem dX0_add_21 : decode cX0_add 21 = .ok (.iastore, 1) := by decide +kernel
theorem dX0_add_22 : decode cX0_add 22 = .ok (.aload_n 0, 1) := by decide +kernel
theorem dX0_add_23 : decode cX0_add 23 = .ok (.getfield 19, 3) := by decide +kernel
theorem dX0_add_26 : decode cX0_add 26 = .ok (.aload_n 0, 1) := by decide +kernel
theorem dX0_add_27 : decode cX0_add 27 = .ok (.getfield 9, 3) := by decide +kernel
theorem dX0_add_30 : decode cX0_add 30 = .ok (.bipush 99, 2) := by decide +kernel
theorem dX0_add_32 : decode cX0_add 32 = .ok (.iastore, 1) := by decide +kernel
theorem dX0_add_33 : decode cX0_add 33 = .ok (.aload_n 0, 1) := by decide +kernel
theorem dX0_add_34 : decode cX0_add 34 = .ok (.getfield 30, 3) := by decide +kernel
theorem dX0_add_37 : decode cX0_add 37 = .ok (.aload_n 0, 1) := by decide +kernel
theorem dX0_add_38 : decode cX0_add 38 = .ok (.getfield 9, 3) := by decide +kernel
theorem dX0_add_41 : decode cX0_add 41 = .ok (.aload_n 0, 1) := by decide +kernel
theorem dX0_add_42 : decode cX0_add 42 = .ok (.getfield 9, 3) := by decide +kernel
theorem dX0_add_45 : decode cX0_add 45 = .ok (.iastore, 1) := by decide +kernel
theorem dX0_add_46 : decode cX0_add 46 = .ok (.aload_n 0, 1) := by decide +kernel
theorem dX0_add_47 : decode cX0_add 47 = .ok (.dup, 1) := by decide +kernel
theorem dX0_add_48 : decode cX0_add 48 = .ok (.getfield 9, 3) := by decide +kernel
theorem dX0_add_51 : decode cX0_add 51 = .ok (.iconst 1, 1) := by decide +kernel
theorem dX0_add_52 : decode cX0_add 52 = .ok (.iadd, 1) := by decide +kernel
theorem dX0_add_53 : decode cX0_add 53 = .ok (.putfield 9, 3) := by decide +kernel
theorem dX0_add_56 : decode cX0_add 56 = .ok (.aload_n 0, 1) := by decide +kernel
theorem dX0_add_57 : decode cX0_add 57 = .ok (.getfield 9, 3) := by decide +kernel
theorem dX0_add_60 : decode cX0_add 60 = .ok (.iconst 1, 1) := by decide +kernel
theorem dX0_add_61 : decode cX0_add 61 = .ok (.isub, 1) := by decide +kernel
theorem dX0_add_62 : decode cX0_add 62 = .ok (.ireturn, 1) := by decide +kernel
theorem dX0_permitBit_0 : decode cX0_permitBit 0 = .ok (.iconst 1, 1) := by decide +kernel
theorem dX0_permitBit_1 : decode cX0_permitBit 1 = .ok (.iload_n 1, 1) := by decide +kernel
theorem dX0_permitBit_2 : decode cX0_permitBit 2 = .ok (.iconst 3, 1) := by decide +kernel
theorem dX0_permitBit_3 : decode cX0_permitBit 3 = .ok (.imul, 1) := by decide +kernel
theorem dX0_permitBit_4 : decode cX0_permitBit 4 = .ok (.iload_n 0, 1) := by decide +kernel
theorem dX0_permitBit_5 : decode cX0_permitBit 5 = .ok (.iadd, 1) := by decide +kernel
theorem dX0_permitBit_6 : decode cX0_permitBit 6 = .ok (.ishl, 1) := by decide +kernel
theorem dX0_permitBit_7 : decode cX0_permitBit 7 = .ok (.ireturn, 1) := by decide +kernel
theorem dX0_hasPermit_0 : decode cX0_hasPermit 0 = .ok (.aload_n 0, 1) := by decide +kernel
theorem dX0_hasPermit_1 : decode cX0_hasPermit 1 = .ok (.getfield 22, 3) := by decide +kernel
theorem dX0_hasPermit_4 : decode cX0_hasPermit 4 = .ok (.iload_n 1, 1) := by decide +kernel
theorem dX0_hasPermit_5 : decode cX0_hasPermit 5 = .ok (.iaload, 1) := by decide +kernel
theorem dX0_hasPermit_6 : decode cX0_hasPermit 6 = .ok (.iload_n 2, 1) := by decide +kernel
theorem dX0_hasPermit_7 : decode cX0_hasPermit 7 = .ok (.iload_n 3, 1) := by decide +kernel
theorem dX0_hasPermit_8 : decode cX0_hasPermit 8 = .ok (.invokestatic 37, 3) := by decide +kernel
theorem dX0_hasPermit_11 : decode cX0_hasPermit 11 = .ok (.iand, 1) := by decide +kernel
theorem dX0_hasPermit_12 : decode cX0_hasPermit 12 = .ok (.ifCond .eq 7, 3) := by decide +kernel
theorem dX0_hasPermit_15 : decode cX0_hasPermit 15 = .ok (.iconst 1, 1) := by decide +kernel
theorem dX0_hasPermit_16 : decode cX0_hasPermit 16 = .ok (.goto 4, 3) := by decide +kernel
theorem dX0_hasPermit_19 : decode cX0_hasPermit 19 = .ok (.iconst 0, 1) := by decide +kernel
theorem dX0_hasPermit_20 : decode cX0_hasPermit 20 = .ok (.ireturn, 1) := by decide +kernel
theorem dX0_setPermit_0 : decode cX0_setPermit 0 = .ok (.aload_n 0, 1) := by decide +kernel
theorem dX0_setPermit_1 : decode cX0_setPermit 1 = .ok (.iload_n 1, 1) := by decide +kernel
theorem dX0_setPermit_2 : decode cX0_setPermit 2 = .ok (.iload_n 2, 1) := by decide +kernel
theorem dX0_setPermit_3 : decode cX0_setPermit 3 = .ok (.iload_n 3, 1) := by decide +kernel
theorem dX0_setPermit_4 : decode cX0_setPermit 4 = .ok (.invokevirtual 41, 3) := by decide +kernel
theorem dX0_setPermit_7 : decode cX0_setPermit 7 = .ok (.iload 4, 2) := by decide +kernel
theorem dX0_setPermit_9 : decode cX0_setPermit 9 = .ok (.if_icmp .ne 5, 3) := by decide +kernel
theorem dX0_setPermit_12 : decode cX0_setPermit 12 = .ok (.iconst 0, 1) := by decide +kernel
theorem dX0_setPermit_13 : decode cX0_setPermit 13 = .ok (.ireturn, 1) := by decide +kernel
theorem dX0_setPermit_14 : decode cX0_setPermit 14 = .ok (.aload_n 0, 1) := by decide +kernel
theorem dX0_setPermit_15 : decode cX0_setPermit 15 = .ok (.getfield 22, 3) := by decide +kernel
theorem dX0_setPermit_18 : decode cX0_setPermit 18 = .ok (.iload_n 1, 1) := by decide +kernel
theorem dX0_setPermit_19 : decode cX0_setPermit 19 = .ok (.dup2, 1) := by decide +kernel
theorem dX0_setPermit_20 : decode cX0_setPermit 20 = .ok (.iaload, 1) := by decide +kernel
theorem dX0_setPermit_21 : decode cX0_setPermit 21 = .ok (.iload_n 2, 1) := by decide +kernel
theorem dX0_setPermit_22 : decode cX0_setPermit 22 = .ok (.iload_n 3, 1) := by decide +kernel
theorem dX0_setPermit_23 : decode cX0_setPermit 23 = .ok (.invokestatic 37, 3) := by decide +kernel
theorem dX0_setPermit_26 : decode cX0_setPermit 26 = .ok (.ixor, 1) := by decide +kernel
theorem dX0_setPermit_27 : decode cX0_setPermit 27 = .ok (.iastore, 1) := by decide +kernel
theorem dX0_setPermit_28 : decode cX0_setPermit 28 = .ok (.iconst 1, 1) := by decide +kernel
theorem dX0_setPermit_29 : decode cX0_setPermit 29 = .ok (.ireturn, 1) := by decide +kernel
theorem dX0_right_0 : decode cX0_right 0 = .ok (.aload_n 0, 1) := by decide +kernel
theorem dX0_right_1 : decode cX0_right 1 = .ok (.getfield 33, 3) := by decide +kernel
theorem dX0_right_4 : decode cX0_right 4 = .ok (.iload_n 2, 1) := by decide +kernel
theorem dX0_right_5 : decode cX0_right 5 = .ok (.iload_n 3, 1) := by decide +kernel
theorem dX0_right_6 : decode cX0_right 6 = .ok (.invokevirtual 45, 3) := by decide +kernel
theorem dX0_right_9 : decode cX0_right 9 = .ok (.ifCond .ne 5, 3) := by decide +kernel
theorem dX0_right_12 : decode cX0_right 12 = .ok (.iconst 2, 1) := by decide +kernel
theorem dX0_right_13 : decode cX0_right 13 = .ok (.ireturn, 1) := by decide +kernel
theorem dX0_right_14 : decode cX0_right 14 = .ok (.iconst 0, 1) := by decide +kernel
theorem dX0_right_15 : decode cX0_right 15 = .ok (.istore 4, 2) := by decide +kernel
theorem dX0_right_17 : decode cX0_right 17 = .ok (.iload 4, 2) := by decide +kernel
theorem dX0_right_19 : decode cX0_right 19 = .ok (.iconst 3, 1) := by decide +kernel
theorem dX0_right_20 : decode cX0_right 20 = .ok (.if_icmp .ge 36, 3) := by decide +kernel
theorem dX0_right_23 : decode cX0_right 23 = .ok (.aload_n 0, 1) := by decide +kernel
theorem dX0_right_24 : decode cX0_right 24 = .ok (.iload_n 1, 1) := by decide +kernel
theorem dX0_right_25 : decode cX0_right 25 = .ok (.iload 4, 2) := by decide +kernel
theorem dX0_right_27 : decode cX0_right 27 = .ok (.iload_n 2, 1) := by decide +kernel
theorem dX0_right_28 : decode cX0_right 28 = .ok (.invokevirtual 41, 3) := by decide +kernel
theorem dX0_right_31 : decode cX0_right 31 = .ok (.ifCond .eq 19, 3) := by decide +kernel
theorem dX0_right_34 : decode cX0_right 34 = .ok (.aload_n 0, 1) := by decide +kernel
theorem dX0_right_35 : decode cX0_right 35 = .ok (.getfield 33, 3) := by decide +kernel
theorem dX0_right_38 : decode cX0_right 38 = .ok (.iload_n 2, 1) := by decide +kernel
theorem dX0_right_39 : decode cX0_right 39 = .ok (.iload 4, 2) := by decide +kernel
theorem dX0_right_41 : decode cX0_right 41 = .ok (.iload_n 3, 1) := by decide +kernel
theorem dX0_right_42 : decode cX0_right 42 = .ok (.invokevirtual 51, 3) := by decide +kernel
theorem dX0_right_45 : decode cX0_right 45 = .ok (.ifCond .eq 5, 3) := by decide +kernel
theorem dX0_right_48 : decode cX0_right 48 = .ok (.iconst 2, 1) := by decide +kernel
theorem dX0_right_49 : decode cX0_right 49 = .ok (.ireturn, 1) := by decide +kernel
theorem dX0_right_50 : decode cX0_right 50 = .ok (.iinc 4 1, 3) := by decide +kernel
theorem dX0_right_53 : decode cX0_right 53 = .ok (.goto (-36), 3) := by decide +kernel
theorem dX0_right_56 : decode cX0_right 56 = .ok (.aload_n 0, 1) := by decide +kernel
theorem dX0_right_57 : decode cX0_right 57 = .ok (.getfield 27, 3) := by decide +kernel
theorem dX0_right_60 : decode cX0_right 60 = .ok (.iload_n 1, 1) := by decide +kernel
theorem dX0_right_61 : decode cX0_right 61 = .ok (.aaload, 1) := by decide +kernel
theorem dX0_right_62 : decode cX0_right 62 = .ok (.iload_n 2, 1) := by decide +kernel
theorem dX0_right_63 : decode cX0_right 63 = .ok (.iaload, 1) := by decide +kernel
theorem dX0_right_64 : decode cX0_right 64 = .ok (.ifCond .le 7, 3) := by decide +kernel
theorem dX0_right_67 : decode cX0_right 67 = .ok (.iconst 1, 1) := by decide +kernel
theorem dX0_right_68 : decode cX0_right 68 = .ok (.goto 4, 3) := by decide +kernel
theorem dX0_right_71 : decode cX0_right 71 = .ok (.iconst 0, 1) := by decide +kernel
theorem dX0_right_72 : decode cX0_right 72 = .ok (.ireturn, 1) := by decide +kernel
theorem dX0_putLast_0 : decode cX0_putLast 0 = .ok (.iconst 0, 1) := by decide +kernel
theorem dX0_putLast_1 : decode cX0_putLast 1 = .ok (.istore_n 2, 1) := by decide +kernel
theorem dX0_putLast_2 : decode cX0_putLast 2 = .ok (.iconst 0, 1) := by decide +kernel
theorem dX0_putLast_3 : decode cX0_putLast 3 = .ok (.istore_n 3, 1) := by decide +kernel
theorem dX0_putLast_4 : decode cX0_putLast 4 = .ok (.iconst 0, 1) := by decide +kernel
theorem dX0_putLast_5 : decode cX0_putLast 5 = .ok (.istore 4, 2) := by decide +kernel
theorem dX0_putLast_7 : decode cX0_putLast 7 = .ok (.iload 4, 2) := by decide +kernel
theorem dX0_putLast_9 : decode cX0_putLast 9 = .ok (.aload_n 0, 1) := by decide +kernel
theorem dX0_putLast_10 : decode cX0_putLast 10 = .ok (.getfield 9, 3) := by decide +kernel
theorem dX0_putLast_13 : decode cX0_putLast 13 = .ok (.if_icmp .ge 52, 3) := by decide +kernel
theorem dX0_putLast_16 : decode cX0_putLast 16 = .ok (.iload_n 3, 1) := by decide +kernel
theorem dX0_putLast_17 : decode cX0_putLast 17 = .ok (.ifCond .eq 25, 3) := by decide +kernel
theorem dX0_putLast_20 : decode cX0_putLast 20 = .ok (.aload_n 0, 1) := by decide +kernel
theorem dX0_putLast_21 : decode cX0_putLast 21 = .ok (.getfield 30, 3) := by decide +kernel
theorem dX0_putLast_24 : decode cX0_putLast 24 = .ok (.iload 4, 2) := by decide +kernel
theorem dX0_putLast_26 : decode cX0_putLast 26 = .ok (.iconst 1, 1) := by decide +kernel
theorem dX0_putLast_27 : decode cX0_putLast 27 = .ok (.isub, 1) := by decide +kernel
theorem dX0_putLast_28 : decode cX0_putLast 28 = .ok (.aload_n 0, 1) := by decide +kernel
theorem dX0_putLast_29 : decode cX0_putLast 29 = .ok (.getfield 30, 3) := by decide +kernel
theorem dX0_putLast_32 : decode cX0_putLast 32 = .ok (.iload 4, 2) := by decide +kernel
theorem dX0_putLast_34 : decode cX0_putLast 34 = .ok (.iaload, 1) := by decide +kernel
theorem dX0_putLast_35 : decode cX0_putLast 35 = .ok (.iastore, 1) := by decide +kernel
theorem dX0_putLast_36 : decode cX0_putLast 36 = .ok (.iinc 2 1, 3) := by decide +kernel
theorem dX0_putLast_39 : decode cX0_putLast 39 = .ok (.goto 20, 3) := by decide +kernel
theorem dX0_putLast_42 : decode cX0_putLast 42 = .ok (.aload_n 0, 1) := by decide +kernel
theorem dX0_putLast_43 : decode cX0_putLast 43 = .ok (.getfield 30, 3) := by decide +kernel
theorem dX0_putLast_46 : decode cX0_putLast 46 = .ok (.iload 4, 2) := by decide +kernel
theorem dX0_putLast_48 : decode cX0_putLast 48 = .ok (.iaload, 1) := by decide +kernel
theorem dX0_putLast_49 : decode cX0_putLast 49 = .ok (.iload_n 1, 1) := by decide +kernel
theorem dX0_putLast_50 : decode cX0_putLast 50 = .ok (.if_icmp .ne 7, 3) := by decide +kernel
theorem dX0_putLast_53 : decode cX0_putLast 53 = .ok (.iconst 1, 1) := by decide +kernel
theorem dX0_putLast_54 : decode cX0_putLast 54 = .ok (.goto 4, 3) := by decide +kernel
theorem dX0_putLast_57 : decode cX0_putLast 57 = .ok (.iconst 0, 1) := by decide +kernel
theorem dX0_putLast_58 : decode cX0_putLast 58 = .ok (.istore_n 3, 1) := by decide +kernel
theorem dX0_putLast_59 : decode cX0_putLast 59 = .ok (.iinc 4 1, 3) := by decide +kernel
theorem dX0_putLast_62 : decode cX0_putLast 62 = .ok (.goto (-55), 3) := by decide +kernel
theorem dX0_putLast_65 : decode cX0_putLast 65 = .ok (.aload_n 0, 1) := by decide +kernel
theorem dX0_putLast_66 : decode cX0_putLast 66 = .ok (.getfield 30, 3) := by decide +kernel
theorem dX0_putLast_69 : decode cX0_putLast 69 = .ok (.aload_n 0, 1) := by decide +kernel
theorem dX0_putLast_70 : decode cX0_putLast 70 = .ok (.getfield 9, 3) := by decide +kernel
theorem dX0_putLast_73 : decode cX0_putLast 73 = .ok (.iconst 1, 1) := by decide +kernel
theorem dX0_putLast_74 : decode cX0_putLast 74 = .ok (.isub, 1) := by decide +kernel
theorem dX0_putLast_75 : decode cX0_putLast 75 = .ok (.iload_n 1, 1) := by decide +kernel
theorem dX0_putLast_76 : decode cX0_putLast 76 = .ok (.iastore, 1) := by decide +kernel
theorem dX0_putLast_77 : decode cX0_putLast 77 = .ok (.iload_n 2, 1) := by decide +kernel
theorem dX0_putLast_78 : decode cX0_putLast 78 = .ok (.ireturn, 1) := by decide +kernel
theorem dX0_countCards_0 : decode cX0_countCards 0 = .ok (.iconst 0, 1) := by decide +kernel
theorem dX0_countCards_1 : decode cX0_countCards 1 = .ok (.istore_n 1, 1) := by decide +kernel
theorem dX0_countCards_2 : decode cX0_countCards 2 = .ok (.iconst 0, 1) := by decide +kernel
theorem dX0_countCards_3 : decode cX0_countCards 3 = .ok (.istore_n 2, 1) := by decide +kernel
theorem dX0_countCards_4 : decode cX0_countCards 4 = .ok (.iload_n 2, 1) := by decide +kernel
theorem dX0_countCards_5 : decode cX0_countCards 5 = .ok (.aload_n 0, 1) := by decide +kernel
theorem dX0_countCards_6 : decode cX0_countCards 6 = .ok (.getfield 9, 3) := by decide +kernel
theorem dX0_countCards_9 : decode cX0_countCards 9 = .ok (.if_icmp .ge 33, 3) := by decide +kernel
theorem dX0_countCards_12 : decode cX0_countCards 12 = .ok (.iconst 0, 1) := by decide +kernel
theorem dX0_countCards_13 : decode cX0_countCards 13 = .ok (.istore_n 3, 1) := by decide +kernel
theorem dX0_countCards_14 : decode cX0_countCards 14 = .ok (.iload_n 3, 1) := by decide +kernel
theorem dX0_countCards_15 : decode cX0_countCards 15 = .ok (.iconst 4, 1) := by decide +kernel
theorem dX0_countCards_16 : decode cX0_countCards 16 = .ok (.if_icmp .ge 20, 3) := by decide +kernel
theorem dX0_countCards_19 : decode cX0_countCards 19 = .ok (.iload_n 1, 1) := by decide +kernel
theorem dX0_countCards_20 : decode cX0_countCards 20 = .ok (.aload_n 0, 1) := by decide +kernel
theorem dX0_countCards_21 : decode cX0_countCards 21 = .ok (.getfield 27, 3) := by decide +kernel
theorem dX0_countCards_24 : decode cX0_countCards 24 = .ok (.iload_n 2, 1) := by decide +kernel
theorem dX0_countCards_25 : decode cX0_countCards 25 = .ok (.aaload, 1) := by decide +kernel
theorem dX0_countCards_26 : decode cX0_countCards 26 = .ok (.iload_n 3, 1) := by decide +kernel
theorem dX0_countCards_27 : decode cX0_countCards 27 = .ok (.iaload, 1) := by decide +kernel
theorem dX0_countCards_28 : decode cX0_countCards 28 = .ok (.iadd, 1) := by decide +kernel
theorem dX0_countCards_29 : decode cX0_countCards 29 = .ok (.istore_n 1, 1) := by decide +kernel
theorem dX0_countCards_30 : decode cX0_countCards 30 = .ok (.iinc 3 1, 3) := by decide +kernel
theorem dX0_countCards_33 : decode cX0_countCards 33 = .ok (.goto (-19), 3) := by decide +kernel
theorem dX0_countCards_36 : decode cX0_countCards 36 = .ok (.iinc 2 1, 3) := by decide +kernel
theorem dX0_countCards_39 : decode cX0_countCards 39 = .ok (.goto (-35), 3) := by decide +kernel
theorem dX0_countCards_42 : decode cX0_countCards 42 = .ok (.iload_n 1, 1) := by decide +kernel
theorem dX0_countCards_43 : decode cX0_countCards 43 = .ok (.ireturn, 1) := by decide +kernel
theorem dX1_init_0 : decode cX1_init 0 = .ok (.aload_n 0, 1) := by decide +kernel
theorem dX1_init_1 : decode cX1_init 1 = .ok (.invokespecial 5, 3) := by decide +kernel
theorem dX1_init_4 : decode cX1_init 4 = .ok (.aload_n 0, 1) := by decide +kernel
theorem dX1_init_5 : decode cX1_init 5 = .ok (.bipush 7, 2) := by decide +kernel
theorem dX1_init_7 : decode cX1_init 7 = .ok (.bipush 6, 2) := by decide +kernel
theorem dX1_init_9 : decode cX1_init 9 = .ok (.multianewarray 11 2, 4) := by decide +kernel
theorem dX1_init_13 : decode cX1_init 13 = .ok (.putfield 13, 3) := by decide +kernel
theorem dX1_init_16 : decode cX1_init 16 = .ok (.aload_n 0, 1) := by decide +kernel
theorem dX1_init_17 : decode cX1_init 17 = .ok (.bipush 6, 2) := by decide +kernel
theorem dX1_init_19 : decode cX1_init 19 = .ok (.newarray .long, 2) := by decide +kernel
theorem dX1_init_21 : decode cX1_init 21 = .ok (.putfield 16, 3) := by decide +kernel
theorem dX1_init_24 : decode cX1_init 24 = .ok (.aload_n 0, 1) := by decide +kernel
theorem dX1_init_25 : decode cX1_init 25 = .ok (.bipush 6, 2) := by decide +kernel
theorem dX1_init_27 : decode cX1_init 27 = .ok (.newarray .int, 2) := by decide +kernel
theorem dX1_init_29 : decode cX1_init 29 = .ok (.putfield 20, 3) := by decide +kernel
theorem dX1_init_32 : decode cX1_init 32 = .ok (.return_, 1) := by decide +kernel
theorem dX1_setPrice_0 : decode cX1_setPrice 0 = .ok (.aload_n 0, 1) := by decide +kernel
theorem dX1_setPrice_1 : decode cX1_setPrice 1 = .ok (.getfield 13, 3) := by decide +kernel
theorem dX1_setPrice_4 : decode cX1_setPrice 4 = .ok (.iload_n 1, 1) := by decide +kernel
theorem dX1_setPrice_5 : decode cX1_setPrice 5 = .ok (.aaload, 1) := by decide +kernel
theorem dX1_setPrice_6 : decode cX1_setPrice 6 = .ok (.iload_n 2, 1) := by decide +kernel
theorem dX1_setPrice_7 : decode cX1_setPrice 7 = .ok (.iload_n 3, 1) := by decide +kernel
theorem dX1_setPrice_8 : decode cX1_setPrice 8 = .ok (.i2l, 1) := by decide +kernel
theorem dX1_setPrice_9 : decode cX1_setPrice 9 = .ok (.ldc2_w 24, 3) := by decide +kernel
theorem dX1_setPrice_12 : decode cX1_setPrice 12 = .ok (.lmul, 1) := by decide +kernel
theorem dX1_setPrice_13 : decode cX1_setPrice 13 = .ok (.iload_n 2, 1) := by decide +kernel
theorem dX1_setPrice_14 : decode cX1_setPrice 14 = .ok (.i2l, 1) := by decide +kernel
theorem dX1_setPrice_15 : decode cX1_setPrice 15 = .ok (.getstatic 26, 3) := by decide +kernel
theorem dX1_setPrice_18 : decode cX1_setPrice 18 = .ok (.iload_n 1, 1) := by decide +kernel
theorem dX1_setPrice_19 : decode cX1_setPrice 19 = .ok (.iaload, 1) := by decide +kernel
theorem dX1_setPrice_20 : decode cX1_setPrice 20 = .ok (.i2l, 1) := by decide +kernel
theorem dX1_setPrice_21 : decode cX1_setPrice 21 = .ok (.lmul, 1) := by decide +kernel
theorem dX1_setPrice_22 : decode cX1_setPrice 22 = .ok (.ladd, 1) := by decide +kernel
theorem dX1_setPrice_23 : decode cX1_setPrice 23 = .ok (.lastore, 1) := by decide +kernel
theorem dX1_setPrice_24 : decode cX1_setPrice 24 = .ok (.return_, 1) := by decide +kernel
theorem dX1_setPriceOut_0 : decode cX1_setPriceOut 0 = .ok (.aload_n 0, 1) := by decide +kernel
theorem dX1_setPriceOut_1 : decode cX1_setPriceOut 1 = .ok (.getfield 13, 3) := by decide +kernel
theorem dX1_setPriceOut_4 : decode cX1_setPriceOut 4 = .ok (.iload_n 1, 1) := by decide +kernel
theorem dX1_setPriceOut_5 : decode cX1_setPriceOut 5 = .ok (.aaload, 1) := by decide +kernel
theorem dX1_setPriceOut_6 : decode cX1_setPriceOut 6 = .ok (.iconst 5, 1) := by decide +kernel
theorem dX1_setPriceOut_7 : decode cX1_setPriceOut 7 = .ok (.ldc2_w 29, 3) := by decide +kernel
theorem dX1_setPriceOut_10 : decode cX1_setPriceOut 10 = .ok (.ldc2_w 31, 3) := by decide +kernel
theorem dX1_setPriceOut_13 : decode cX1_setPriceOut 13 = .ok (.getstatic 26, 3) := by decide +kernel
theorem dX1_setPriceOut_16 : decode cX1_setPriceOut 16 = .ok (.iload_n 1, 1) := by decide +kernel
theorem dX1_setPriceOut_17 : decode cX1_setPriceOut 17 = .ok (.iaload, 1) := by decide +kernel
theorem dX1_setPriceOut_18 : decode cX1_setPriceOut 18 = .ok (.i2l, 1) := by decide +kernel
theorem dX1_setPriceOut_19 : decode cX1_setPriceOut 19 = .ok (.lmul, 1) := by decide +kernel
theorem dX1_setPriceOut_20 : decode cX1_setPriceOut 20 = .ok (.ladd, 1) := by decide +kernel
theorem dX1_setPriceOut_21 : decode cX1_setPriceOut 21 = .ok (.lastore, 1) := by decide +kernel
theorem dX1_setPriceOut_22 : decode cX1_setPriceOut 22 = .ok (.return_, 1) := by decide +kernel
theorem dX1_forbid_0 : decode cX1_forbid 0 = .ok (.aload_n 0, 1) := by decide +kernel
theorem dX1_forbid_1 : decode cX1_forbid 1 = .ok (.getfield 13, 3) := by decide +kernel
theorem dX1_forbid_4 : decode cX1_forbid 4 = .ok (.iload_n 1, 1) := by decide +kernel
theorem dX1_forbid_5 : decode cX1_forbid 5 = .ok (.aaload, 1) := by decide +kernel
theorem dX1_forbid_6 : decode cX1_forbid 6 = .ok (.iload_n 2, 1) := by decide +kernel
theorem dX1_forbid_7 : decode cX1_forbid 7 = .ok (.ldc2_w 33, 3) := by decide +kernel
theorem dX1_forbid_10 : decode cX1_forbid 10 = .ok (.lastore, 1) := by decide +kernel
theorem dX1_forbid_11 : decode cX1_forbid 11 = .ok (.return_, 1) := by decide +kernel
theorem dX1_add_0 : decode cX1_add 0 = .ok (.aload_n 0, 1) := by decide +kernel
theorem dX1_add_1 : decode cX1_add 1 = .ok (.iload_n 1, 1) := by decide +kernel
theorem dX1_add_2 : decode cX1_add 2 = .ok (.invokevirtual 35, 3) := by decide +kernel
theorem dX1_add_5 : decode cX1_add 5 = .ok (.iconst 1, 1) := by decide +kernel
theorem dX1_add_6 : decode cX1_add 6 = .ok (.istore 4, 2) := by decide +kernel
theorem dX1_add_8 : decode cX1_add 8 = .ok (.iconst 0, 1) := by decide +kernel
theorem dX1_add_9 : decode cX1_add 9 = .ok (.istore 5, 2) := by decide +kernel
theorem dX1_add_11 : decode cX1_add 11 = .ok (.iload 4, 2) := by decide +kernel
theorem dX1_add_13 : decode cX1_add 13 = .ok (.ifCond .eq 50, 3) := by decide +kernel
theorem dX1_add_16 : decode cX1_add 16 = .ok (.iload 5, 2) := by decide +kernel
theorem dX1_add_18 : decode cX1_add 18 = .ok (.bipush 6, 2) := by decide +kernel
theorem dX1_add_20 : decode cX1_add 20 = .ok (.if_icmp .ge 43, 3) := by decide +kernel
theorem dX1_add_23 : decode cX1_add 23 = .ok (.iconst 0, 1) := by decide +kernel
theorem dX1_add_24 : decode cX1_add 24 = .ok (.istore 4, 2) := by decide +kernel
theorem dX1_add_26 : decode cX1_add 26 = .ok (.iconst 0, 1) := by decide +kernel
theorem dX1_add_27 : decode cX1_add 27 = .ok (.istore 6, 2) := by decide +kernel
theorem dX1_add_29 : decode cX1_add 29 = .ok (.iload 6, 2) := by decide +kernel
theorem dX1_add_31 : decode cX1_add 31 = .ok (.iload_n 1, 1) := by decide +kernel
theorem dX1_add_32 : decode cX1_add 32 = .ok (.if_icmp .ge 25, 3) := by decide +kernel
theorem dX1_add_35 : decode cX1_add 35 = .ok (.aload_n 0, 1) := by decide +kernel
theorem dX1_add_36 : decode cX1_add 36 = .ok (.iload 6, 2) := by decide +kernel
theorem dX1_add_38 : decode cX1_add 38 = .ok (.aload_n 2, 1) := by decide +kernel
theorem dX1_add_39 : decode cX1_add 39 = .ok (.iload 6, 2) := by decide +kernel
theorem dX1_add_41 : decode cX1_add 41 = .ok (.iaload, 1) := by decide +kernel
theorem dX1_add_42 : decode cX1_add 42 = .ok (.invokevirtual 39, 3) := by decide +kernel
theorem dX1_add_45 : decode cX1_add 45 = .ok (.ifCond .eq 6, 3) := by decide +kernel
theorem dX1_add_48 : decode cX1_add 48 = .ok (.iconst 1, 1) := by decide +kernel
theorem dX1_add_49 : decode cX1_add 49 = .ok (.istore 4, 2) := by decide +kernel
theorem dX1_add_51 : decode cX1_add 51 = .ok (.iinc 6 1, 3) := by decide +kernel
theorem dX1_add_54 : decode cX1_add 54 = .ok (.goto (-25), 3) := by decide +kernel
theorem dX1_add_57 : decode cX1_add 57 = .ok (.iinc 5 1, 3) := by decide +kernel
theorem dX1_add_60 : decode cX1_add 60 = .ok (.goto (-49), 3) := by decide +kernel
theorem dX1_add_63 : decode cX1_add 63 = .ok (.aload_n 0, 1) := by decide +kernel
theorem dX1_add_64 : decode cX1_add 64 = .ok (.aload_n 3, 1) := by decide +kernel
theorem dX1_add_65 : decode cX1_add 65 = .ok (.invokevirtual 43, 3) := by decide +kernel
theorem dX1_add_68 : decode cX1_add 68 = .ok (.istore 5, 2) := by decide +kernel
theorem dX1_add_70 : decode cX1_add 70 = .ok (.aload_n 3, 1) := by decide +kernel
theorem dX1_add_71 : decode cX1_add 71 = .ok (.iload 5, 2) := by decide +kernel
theorem dX1_add_73 : decode cX1_add 73 = .ok (.dup2, 1) := by decide +kernel
theorem dX1_add_74 : decode cX1_add 74 = .ok (.iaload, 1) := by decide +kernel
theorem dX1_add_75 : decode cX1_add 75 = .ok (.iconst 1, 1) := by decide +kernel
theorem dX1_add_76 : decode cX1_add 76 = .ok (.isub, 1) := by decide +kernel
theorem dX1_add_77 : decode cX1_add 77 = .ok (.iastore, 1) := by decide +kernel
theorem dX1_add_78 : decode cX1_add 78 = .ok (.aload_n 0, 1) := by decide +kernel
theorem dX1_add_79 : decode cX1_add 79 = .ok (.iload_n 1, 1) := by decide +kernel
theorem dX1_add_80 : decode cX1_add 80 = .ok (.iload 5, 2) := by decide +kernel
theorem dX1_add_82 : decode cX1_add 82 = .ok (.aload_n 2, 1) := by decide +kernel
theorem dX1_add_83 : decode cX1_add 83 = .ok (.invokevirtual 47, 3) := by decide +kernel
theorem dX1_add_86 : decode cX1_add 86 = .ok (.return_, 1) := by decide +kernel
theorem dX1_startAt_0 : decode cX1_startAt 0 = .ok (.iconst 0, 1) := by decide +kernel
theorem dX1_startAt_1 : decode cX1_startAt 1 = .ok (.istore_n 2, 1) := by decide +kernel
theorem dX1_startAt_2 : decode cX1_startAt 2 = .ok (.iload_n 2, 1) := by decide +kernel
theorem dX1_startAt_3 : decode cX1_startAt 3 = .ok (.bipush 6, 2) := by decide +kernel
theorem dX1_startAt_5 : decode cX1_startAt 5 = .ok (.if_icmp .ge 51, 3) := by decide +kernel
theorem dX1_startAt_8 : decode cX1_startAt 8 = .ok (.aload_n 0, 1) := by decide +kernel
theorem dX1_startAt_9 : decode cX1_startAt 9 = .ok (.getfield 16, 3) := by decide +kernel
theorem dX1_startAt_12 : decode cX1_startAt 12 = .ok (.iload_n 2, 1) := by decide +kernel
theorem dX1_startAt_13 : decode cX1_startAt 13 = .ok (.aload_n 0, 1) := by decide +kernel
theorem dX1_startAt_14 : decode cX1_startAt 14 = .ok (.getfield 13, 3) := by decide +kernel
theorem dX1_startAt_17 : decode cX1_startAt 17 = .ok (.iload_n 1, 1) := by decide +kernel
theorem dX1_startAt_18 : decode cX1_startAt 18 = .ok (.aaload, 1) := by decide +kernel
theorem dX1_startAt_19 : decode cX1_startAt 19 = .ok (.iload_n 2, 1) := by decide +kernel
theorem dX1_startAt_20 : decode cX1_startAt 20 = .ok (.laload, 1) := by decide +kernel
theorem dX1_startAt_21 : decode cX1_startAt 21 = .ok (.ldc2_w 33, 3) := by decide +kernel
theorem dX1_startAt_24 : decode cX1_startAt 24 = .ok (.lcmp, 1) := by decide +kernel
theorem dX1_startAt_25 : decode cX1_startAt 25 = .ok (.ifCond .ne 9, 3) := by decide +kernel
theorem dX1_startAt_28 : decode cX1_startAt 28 = .ok (.ldc2_w 51, 3) := by decide +kernel
theorem dX1_startAt_31 : decode cX1_startAt 31 = .ok (.goto 11, 3) := by decide +kernel
theorem dX1_startAt_34 : decode cX1_startAt 34 = .ok (.aload_n 0, 1) := by decide +kernel
theorem dX1_startAt_35 : decode cX1_startAt 35 = .ok (.getfield 13, 3) := by decide +kernel
theorem dX1_startAt_38 : decode cX1_startAt 38 = .ok (.iload_n 1, 1) := by decide +kernel
theorem dX1_startAt_39 : decode cX1_startAt 39 = .ok (.aaload, 1) := by decide +kernel
theorem dX1_startAt_40 : decode cX1_startAt 40 = .ok (.iload_n 2, 1) := by decide +kernel
theorem dX1_startAt_41 : decode cX1_startAt 41 = .ok (.laload, 1) := by decide +kernel
theorem dX1_startAt_42 : decode cX1_startAt 42 = .ok (.lastore, 1) := by decide +kernel
theorem dX1_startAt_43 : decode cX1_startAt 43 = .ok (.aload_n 0, 1) := by decide +kernel
theorem dX1_startAt_44 : decode cX1_startAt 44 = .ok (.getfield 20, 3) := by decide +kernel
theorem dX1_startAt_47 : decode cX1_startAt 47 = .ok (.iload_n 2, 1) := by decide +kernel
theorem dX1_startAt_48 : decode cX1_startAt 48 = .ok (.iload_n 1, 1) := by decide +kernel
theorem dX1_startAt_49 : decode cX1_startAt 49 = .ok (.iastore, 1) := by decide +kernel
theorem dX1_startAt_50 : decode cX1_startAt 50 = .ok (.iinc 2 1, 3) := by decide +kernel
theorem dX1_startAt_53 : decode cX1_startAt 53 = .ok (.goto (-51), 3) := by decide +kernel
theorem dX1_startAt_56 : decode cX1_startAt 56 = .ok (.return_, 1) := by decide +kernel
theorem dX1_passOn_0 : decode cX1_passOn 0 = .ok (.aload_n 0, 1) := by decide +kernel
theorem dX1_passOn_1 : decode cX1_passOn 1 = .ok (.getfield 16, 3) := by decide +kernel
theorem dX1_passOn_4 : decode cX1_passOn 4 = .ok (.iload_n 2, 1) := by decide +kernel
theorem dX1_passOn_5 : decode cX1_passOn 5 = .ok (.laload, 1) := by decide +kernel
theorem dX1_passOn_6 : decode cX1_passOn 6 = .ok (.ldc2_w 51, 3) := by decide +kernel
theorem dX1_passOn_9 : decode cX1_passOn 9 = .ok (.lcmp, 1) := by decide +kernel
theorem dX1_passOn_10 : decode cX1_passOn 10 = .ok (.ifCond .ne 5, 3) := by decide +kernel
theorem dX1_passOn_13 : decode cX1_passOn 13 = .ok (.iconst 0, 1) := by decide +kernel
theorem dX1_passOn_14 : decode cX1_passOn 14 = .ok (.ireturn, 1) := by decide +kernel
theorem dX1_passOn_15 : decode cX1_passOn 15 = .ok (.iconst 0, 1) := by decide +kernel
theorem dX1_passOn_16 : decode cX1_passOn 16 = .ok (.istore_n 3, 1) := by decide +kernel
theorem dX1_passOn_17 : decode cX1_passOn 17 = .ok (.iconst 0, 1) := by decide +kernel
theorem dX1_passOn_18 : decode cX1_passOn 18 = .ok (.istore 4, 2) := by decide +kernel
theorem dX1_passOn_20 : decode cX1_passOn 20 = .ok (.iload 4, 2) := by decide +kernel
theorem dX1_passOn_22 : decode cX1_passOn 22 = .ok (.bipush 6, 2) := by decide +kernel
theorem dX1_passOn_24 : decode cX1_passOn 24 = .ok (.if_icmp .ge 84, 3) := by decide +kernel
theorem dX1_passOn_27 : decode cX1_passOn 27 = .ok (.aload_n 0, 1) := by decide +kernel
theorem dX1_passOn_28 : decode cX1_passOn 28 = .ok (.getfield 16, 3) := by decide +kernel
theorem dX1_passOn_31 : decode cX1_passOn 31 = .ok (.iload_n 2, 1) := by decide +kernel
theorem dX1_passOn_32 : decode cX1_passOn 32 = .ok (.laload, 1) := by decide +kernel
theorem dX1_passOn_33 : decode cX1_passOn 33 = .ok (.aload_n 0, 1) := by decide +kernel
theorem dX1_passOn_34 : decode cX1_passOn 34 = .ok (.getfield 13, 3) := by decide +kernel
theorem dX1_passOn_37 : decode cX1_passOn 37 = .ok (.iload_n 1, 1) := by decide +kernel
theorem dX1_passOn_38 : decode cX1_passOn 38 = .ok (.aaload, 1) := by decide +kernel
theorem dX1_passOn_39 : decode cX1_passOn 39 = .ok (.iload_n 2, 1) := by decide +kernel
theorem dX1_passOn_40 : decode cX1_passOn 40 = .ok (.laload, 1) := by decide +kernel
theorem dX1_passOn_41 : decode cX1_passOn 41 = .ok (.lsub, 1) := by decide +kernel
theorem dX1_passOn_42 : decode cX1_passOn 42 = .ok (.aload_n 0, 1) := by decide +kernel
theorem dX1_passOn_43 : decode cX1_passOn 43 = .ok (.getfield 13, 3) := by decide +kernel
theorem dX1_passOn_46 : decode cX1_passOn 46 = .ok (.iload_n 1, 1) := by decide +kernel
theorem dX1_passOn_47 : decode cX1_passOn 47 = .ok (.aaload, 1) := by decide +kernel
theorem dX1_passOn_48 : decode cX1_passOn 48 = .ok (.iload 4, 2) := by decide +kernel
theorem dX1_passOn_50 : decode cX1_passOn 50 = .ok (.laload, 1) := by decide +kernel
theorem dX1_passOn_51 : decode cX1_passOn 51 = .ok (.ladd, 1) := by decide +kernel
theorem dX1_passOn_52 : decode cX1_passOn 52 = .ok (.lstore 5, 2) := by decide +kernel
theorem dX1_passOn_54 : decode cX1_passOn 54 = .ok (.aload_n 0, 1) := by decide +kernel
theorem dX1_passOn_55 : decode cX1_passOn 55 = .ok (.getfield 13, 3) := by decide +kernel
theorem dX1_passOn_58 : decode cX1_passOn 58 = .ok (.iload_n 1, 1) := by decide +kernel
theorem dX1_passOn_59 : decode cX1_passOn 59 = .ok (.aaload, 1) := by decide +kernel
theorem dX1_passOn_60 : decode cX1_passOn 60 = .ok (.iload 4, 2) := by decide +kernel
theorem dX1_passOn_62 : decode cX1_passOn 62 = .ok (.laload, 1) := by decide +kernel
theorem dX1_passOn_63 : decode cX1_passOn 63 = .ok (.ldc2_w 33, 3) := by decide +kernel
theorem dX1_passOn_66 : decode cX1_passOn 66 = .ok (.lcmp, 1) := by decide +kernel
theorem dX1_passOn_67 : decode cX1_passOn 67 = .ok (.ifCond .eq 35, 3) := by decide +kernel
theorem dX1_passOn_70 : decode cX1_passOn 70 = .ok (.lload 5, 2) := by decide +kernel
theorem dX1_passOn_72 : decode cX1_passOn 72 = .ok (.aload_n 0, 1) := by decide +kernel
theorem dX1_passOn_73 : decode cX1_passOn 73 = .ok (.getfield 16, 3) := by decide +kernel
theorem dX1_passOn_76 : decode cX1_passOn 76 = .ok (.iload 4, 2) := by decide +kernel
theorem dX1_passOn_78 : decode cX1_passOn 78 = .ok (.laload, 1) := by decide +kernel
theorem dX1_passOn_79 : decode cX1_passOn 79 = .ok (.lcmp, 1) := by decide +kernel
theorem dX1_passOn_80 : decode cX1_passOn 80 = .ok (.ifCond .ge 22, 3) := by decide +kernel
theorem dX1_passOn_83 : decode cX1_passOn 83 = .ok (.aload_n 0, 1) := by decide +kernel
theorem dX1_passOn_84 : decode cX1_passOn 84 = .ok (.getfield 16, 3) := by decide +kernel
theorem dX1_passOn_87 : decode cX1_passOn 87 = .ok (.iload 4, 2) := by decide +kernel
theorem dX1_passOn_89 : decode cX1_passOn 89 = .ok (.lload 5, 2) := by decide +kernel
theorem dX1_passOn_91 : decode cX1_passOn 91 = .ok (.lastore, 1) := by decide +kernel
theorem dX1_passOn_92 : decode cX1_passOn 92 = .ok (.aload_n 0, 1) := by decide +kernel
theorem dX1_passOn_93 : decode cX1_passOn 93 = .ok (.getfield 20, 3) := by decide +kernel
theorem dX1_passOn_96 : decode cX1_passOn 96 = .ok (.iload 4, 2) := by decide +kernel
theorem dX1_passOn_98 : decode cX1_passOn 98 = .ok (.iload_n 1, 1) := by decide +kernel
theorem dX1_passOn_99 : decode cX1_passOn 99 = .ok (.iastore, 1) := by decide +kernel
theorem dX1_passOn_100 : decode cX1_passOn 100 = .ok (.iconst 1, 1) := by decide +kernel
theorem dX1_passOn_101 : decode cX1_passOn 101 = .ok (.istore_n 3, 1) := by decide +kernel
theorem dX1_passOn_102 : decode cX1_passOn 102 = .ok (.iinc 4 1, 3) := by decide +kernel
theorem dX1_passOn_105 : decode cX1_passOn 105 = .ok (.goto (-85), 3) := by decide +kernel
theorem dX1_passOn_108 : decode cX1_passOn 108 = .ok (.iload_n 3, 1) := by decide +kernel
theorem dX1_passOn_109 : decode cX1_passOn 109 = .ok (.ireturn, 1) := by decide +kernel
theorem dX1_cheapestEnd_0 : decode cX1_cheapestEnd 0 = .ok (.iconst 5, 1) := by decide +kernel
theorem dX1_cheapestEnd_1 : decode cX1_cheapestEnd 1 = .ok (.istore_n 2, 1) := by decide +kernel
theorem dX1_cheapestEnd_2 : decode cX1_cheapestEnd 2 = .ok (.iconst 0, 1) := by decide +kernel
theorem dX1_cheapestEnd_3 : decode cX1_cheapestEnd 3 = .ok (.istore_n 3, 1) := by decide +kernel
theorem dX1_cheapestEnd_4 : decode cX1_cheapestEnd 4 = .ok (.iload_n 3, 1) := by decide +kernel
theorem dX1_cheapestEnd_5 : decode cX1_cheapestEnd 5 = .ok (.iconst 5, 1) := by decide +kernel
theorem dX1_cheapestEnd_6 : decode cX1_cheapestEnd 6 = .ok (.if_icmp .ge 33, 3) := by decide +kernel
theorem dX1_cheapestEnd_9 : decode cX1_cheapestEnd 9 = .ok (.aload_n 1, 1) := by decide +kernel
theorem dX1_cheapestEnd_10 : decode cX1_cheapestEnd 10 = .ok (.iload_n 3, 1) := by decide +kernel
theorem dX1_cheapestEnd_11 : decode cX1_cheapestEnd 11 = .ok (.iaload, 1) := by decide +kernel
theorem dX1_cheapestEnd_12 : decode cX1_cheapestEnd 12 = .ok (.ifCond .le 21, 3) := by decide +kernel
theorem dX1_cheapestEnd_15 : decode cX1_cheapestEnd 15 = .ok (.aload_n 0, 1) := by decide +kernel
theorem dX1_cheapestEnd_16 : decode cX1_cheapestEnd 16 = .ok (.getfield 16, 3) := by decide +kernel
theorem dX1_cheapestEnd_19 : decode cX1_cheapestEnd 19 = .ok (.iload_n 3, 1) := by decide +kernel
theorem dX1_cheapestEnd_20 : decode cX1_cheapestEnd 20 = .ok (.laload, 1) := by decide +kernel
theorem dX1_cheapestEnd_21 : decode cX1_cheapestEnd 21 = .ok (.aload_n 0, 1) := by decide +kernel
theorem dX1_cheapestEnd_22 : decode cX1_cheapestEnd 22 = .ok (.getfield 16, 3) := by decide +kernel
theorem dX1_cheapestEnd_25 : decode cX1_cheapestEnd 25 = .ok (.iload_n 2, 1) := by decide +kernel
theorem dX1_cheapestEnd_26 : decode cX1_cheapestEnd 26 = .ok (.laload, 1) := by decide +kernel
theorem dX1_cheapestEnd_27 : decode cX1_cheapestEnd 27 = .ok (.lcmp, 1) := by decide +kernel
theorem dX1_cheapestEnd_28 : decode cX1_cheapestEnd 28 = .ok (.ifCond .ge 5, 3) := by decide +kernel
theorem dX1_cheapestEnd_31 : decode cX1_cheapestEnd 31 = .ok (.iload_n 3, 1) := by decide +kernel
theorem dX1_cheapestEnd_32 : decode cX1_cheapestEnd 32 = .ok (.istore_n 2, 1) := by decide +kernel
theorem dX1_cheapestEnd_33 : decode cX1_cheapestEnd 33 = .ok (.iinc 3 1, 3) := by decide +kernel
theorem dX1_cheapestEnd_36 : decode cX1_cheapestEnd 36 = .ok (.goto (-32), 3) := by decide +kernel
theorem dX1_cheapestEnd_39 : decode cX1_cheapestEnd 39 = .ok (.iload_n 2, 1) := by decide +kernel
theorem dX1_cheapestEnd_40 : decode cX1_cheapestEnd 40 = .ok (.ireturn, 1) := by decide +kernel
theorem dX1_shift_0 : decode cX1_shift 0 = .ok (.iload_n 2, 1) := by decide +kernel
theorem dX1_shift_1 : decode cX1_shift 1 = .ok (.istore 4, 2) := by decide +kernel
theorem dX1_shift_3 : decode cX1_shift 3 = .ok (.iconst 0, 1) := by decide +kernel
theorem dX1_shift_4 : decode cX1_shift 4 = .ok (.istore 5, 2) := by decide +kernel
theorem dX1_shift_6 : decode cX1_shift 6 = .ok (.iload 5, 2) := by decide +kernel
theorem dX1_shift_8 : decode cX1_shift 8 = .ok (.bipush 6, 2) := by decide +kernel
theorem dX1_shift_10 : decode cX1_shift 10 = .ok (.if_icmp .ge 46, 3) := by decide +kernel
theorem dX1_shift_13 : decode cX1_shift 13 = .ok (.aload_n 0, 1) := by decide +kernel
theorem dX1_shift_14 : decode cX1_shift 14 = .ok (.getfield 20, 3) := by decide +kernel
theorem dX1_shift_17 : decode cX1_shift 17 = .ok (.iload 4, 2) := by decide +kernel
theorem dX1_shift_19 : decode cX1_shift 19 = .ok (.iaload, 1) := by decide +kernel
theorem dX1_shift_20 : decode cX1_shift 20 = .ok (.iload_n 1, 1) := by decide +kernel
theorem dX1_shift_21 : decode cX1_shift 21 = .ok (.if_icmp .eq 35, 3) := by decide +kernel
theorem dX1_shift_24 : decode cX1_shift 24 = .ok (.aload_n 3, 1) := by decide +kernel
theorem dX1_shift_25 : decode cX1_shift 25 = .ok (.aload_n 0, 1) := by decide +kernel
theorem dX1_shift_26 : decode cX1_shift 26 = .ok (.getfield 20, 3) := by decide +kernel
theorem dX1_shift_29 : decode cX1_shift 29 = .ok (.iload 4, 2) := by decide +kernel
theorem dX1_shift_31 : decode cX1_shift 31 = .ok (.iaload, 1) := by decide +kernel
theorem dX1_shift_32 : decode cX1_shift 32 = .ok (.iaload, 1) := by decide +kernel
theorem dX1_shift_33 : decode cX1_shift 33 = .ok (.istore 6, 2) := by decide +kernel
theorem dX1_shift_35 : decode cX1_shift 35 = .ok (.aload_n 3, 1) := by decide +kernel
theorem dX1_shift_36 : decode cX1_shift 36 = .ok (.aload_n 0, 1) := by decide +kernel
theorem dX1_shift_37 : decode cX1_shift 37 = .ok (.getfield 20, 3) := by decide +kernel
theorem dX1_shift_40 : decode cX1_shift 40 = .ok (.iload 4, 2) := by decide +kernel
theorem dX1_shift_42 : decode cX1_shift 42 = .ok (.iaload, 1) := by decide +kernel
theorem dX1_shift_43 : decode cX1_shift 43 = .ok (.iload 4, 2) := by decide +kernel
theorem dX1_shift_45 : decode cX1_shift 45 = .ok (.iastore, 1) := by decide +kernel
theorem dX1_shift_46 : decode cX1_shift 46 = .ok (.iload 6, 2) := by decide +kernel
theorem dX1_shift_48 : decode cX1_shift 48 = .ok (.istore 4, 2) := by decide +kernel
theorem dX1_shift_50 : decode cX1_shift 50 = .ok (.iinc 5 1, 3) := by decide +kernel
theorem dX1_shift_53 : decode cX1_shift 53 = .ok (.goto (-47), 3) := by decide +kernel
theorem dX1_shift_56 : decode cX1_shift 56 = .ok (.aload_n 3, 1) := by decide +kernel
theorem dX1_shift_57 : decode cX1_shift 57 = .ok (.iload_n 1, 1) := by decide +kernel
theorem dX1_shift_58 : decode cX1_shift 58 = .ok (.iload 4, 2) := by decide +kernel
theorem dX1_shift_60 : decode cX1_shift 60 = .ok (.iastore, 1) := by decide +kernel
theorem dX1_shift_61 : decode cX1_shift 61 = .ok (.return_, 1) := by decide +kernel
theorem dX2_init_0 : decode cX2_init 0 = .ok (.aload_n 0, 1) := by decide +kernel
theorem dX2_init_1 : decode cX2_init 1 = .ok (.invokespecial 3, 3) := by decide +kernel
theorem dX2_init_4 : decode cX2_init 4 = .ok (.aload_n 0, 1) := by decide +kernel
theorem dX2_init_5 : decode cX2_init 5 = .ok (.bipush 7, 2) := by decide +kernel
theorem dX2_init_7 : decode cX2_init 7 = .ok (.newarray .int, 2) := by decide +kernel
theorem dX2_init_9 : decode cX2_init 9 = .ok (.putfield 9, 3) := by decide +kernel
theorem dX2_init_12 : decode cX2_init 12 = .ok (.aload_n 0, 1) := by decide +kernel
theorem dX2_init_13 : decode cX2_init 13 = .ok (.bipush 7, 2) := by decide +kernel
theorem dX2_init_15 : decode cX2_init 15 = .ok (.iconst 5, 1) := by decide +kernel
theorem dX2_init_16 : decode cX2_init 16 = .ok (.multianewarray 15 2, 4) := by decide +kernel
theorem dX2_init_20 : decode cX2_init 20 = .ok (.putfield 17, 3) := by decide +kernel
theorem dX2_init_23 : decode cX2_init 23 = .ok (.aload_n 0, 1) := by decide +kernel
theorem dX2_init_24 : decode cX2_init 24 = .ok (.bipush 6, 2) := by decide +kernel
theorem dX2_init_26 : decode cX2_init 26 = .ok (.newarray .int, 2) := by decide +kernel
theorem dX2_init_28 : decode cX2_init 28 = .ok (.putfield 20, 3) := by decide +kernel
theorem dX2_init_31 : decode cX2_init 31 = .ok (.aload_n 0, 1) := by decide +kernel
theorem dX2_init_32 : decode cX2_init 32 = .ok (.new 23, 3) := by decide +kernel
theorem dX2_init_35 : decode cX2_init 35 = .ok (.dup, 1) := by decide +kernel
theorem dX2_init_36 : decode cX2_init 36 = .ok (.invokespecial 25, 3) := by decide +kernel
theorem dX2_init_39 : decode cX2_init 39 = .ok (.putfield 26, 3) := by decide +kernel
theorem dX2_init_42 : decode cX2_init 42 = .ok (.aload_n 0, 1) := by decide +kernel
theorem dX2_init_43 : decode cX2_init 43 = .ok (.aload_n 1, 1) := by decide +kernel
theorem dX2_init_44 : decode cX2_init 44 = .ok (.putfield 30, 3) := by decide +kernel
theorem dX2_init_47 : decode cX2_init 47 = .ok (.aload_n 0, 1) := by decide +kernel
theorem dX2_init_48 : decode cX2_init 48 = .ok (.aload_n 2, 1) := by decide +kernel
theorem dX2_init_49 : decode cX2_init 49 = .ok (.putfield 34, 3) := by decide +kernel
theorem dX2_init_52 : decode cX2_init 52 = .ok (.return_, 1) := by decide +kernel
theorem dX2_lay_0 : decode cX2_lay 0 = .ok (.aload_n 0, 1) := by decide +kernel
theorem dX2_lay_1 : decode cX2_lay 1 = .ok (.iload_n 1, 1) := by decide +kernel
theorem dX2_lay_2 : decode cX2_lay 2 = .ok (.invokevirtual 38, 3) := by decide +kernel
theorem dX2_lay_5 : decode cX2_lay 5 = .ok (.aload_n 0, 1) := by decide +kernel
theorem dX2_lay_6 : decode cX2_lay 6 = .ok (.iload_n 2, 1) := by decide +kernel
theorem dX2_lay_7 : decode cX2_lay 7 = .ok (.invokevirtual 42, 3) := by decide +kernel
theorem dX2_lay_10 : decode cX2_lay 10 = .ok (.iload_n 3, 1) := by decide +kernel
theorem dX2_lay_11 : decode cX2_lay 11 = .ok (.ifCond .eq 10, 3) := by decide +kernel
theorem dX2_lay_14 : decode cX2_lay 14 = .ok (.aload_n 0, 1) := by decide +kernel
theorem dX2_lay_15 : decode cX2_lay 15 = .ok (.invokevirtual 45, 3) := by decide +kernel
theorem dX2_lay_18 : decode cX2_lay 18 = .ok (.goto 7, 3) := by decide +kernel
theorem dX2_lay_21 : decode cX2_lay 21 = .ok (.aload_n 0, 1) := by decide +kernel
theorem dX2_lay_22 : decode cX2_lay 22 = .ok (.invokevirtual 48, 3) := by decide +kernel
theorem dX2_lay_25 : decode cX2_lay 25 = .ok (.return_, 1) := by decide +kernel
theorem dX2_openBays_0 : decode cX2_openBays 0 = .ok (.iconst 0, 1) := by decide +kernel
theorem dX2_openBays_1 : decode cX2_openBays 1 = .ok (.istore_n 2, 1) := by decide +kernel
theorem dX2_openBays_2 : decode cX2_openBays 2 = .ok (.iload_n 2, 1) := by decide +kernel
theorem dX2_openBays_3 : decode cX2_openBays 3 = .ok (.aload_n 0, 1) := by decide +kernel
theorem dX2_openBays_4 : decode cX2_openBays 4 = .ok (.getfield 30, 3) := by decide +kernel
theorem dX2_openBays_7 : decode cX2_openBays 7 = .ok (.getfield 51, 3) := by decide +kernel
theorem dX2_openBays_10 : decode cX2_openBays 10 = .ok (.if_icmp .ge 36, 3) := by decide +kernel
theorem dX2_openBays_13 : decode cX2_openBays 13 = .ok (.aload_n 0, 1) := by decide +kernel
theorem dX2_openBays_14 : decode cX2_openBays 14 = .ok (.getfield 20, 3) := by decide +kernel
theorem dX2_openBays_17 : decode cX2_openBays 17 = .ok (.iload_n 2, 1) := by decide +kernel
theorem dX2_openBays_18 : decode cX2_openBays 18 = .ok (.aload_n 0, 1) := by decide +kernel
theorem dX2_openBays_19 : decode cX2_openBays 19 = .ok (.getfield 30, 3) := by decide +kernel
theorem dX2_openBays_22 : decode cX2_openBays 22 = .ok (.getfield 57, 3) := by decide +kernel
theorem dX2_openBays_25 : decode cX2_openBays 25 = .ok (.iload_n 2, 1) := by decide +kernel
theorem dX2_openBays_26 : decode cX2_openBays 26 = .ok (.iaload, 1) := by decide +kernel
theorem dX2_openBays_27 : decode cX2_openBays 27 = .ok (.aload_n 0, 1) := by decide +kernel
theorem dX2_openBays_28 : decode cX2_openBays 28 = .ok (.getfield 30, 3) := by decide +kernel
theorem dX2_openBays_31 : decode cX2_openBays 31 = .ok (.getfield 60, 3) := by decide +kernel
theorem dX2_openBays_34 : decode cX2_openBays 34 = .ok (.iload_n 2, 1) := by decide +kernel
theorem dX2_openBays_35 : decode cX2_openBays 35 = .ok (.aaload, 1) := by decide +kernel
theorem dX2_openBays_36 : decode cX2_openBays 36 = .ok (.iload_n 1, 1) := by decide +kernel
theorem dX2_openBays_37 : decode cX2_openBays 37 = .ok (.iaload, 1) := by decide +kernel
theorem dX2_openBays_38 : decode cX2_openBays 38 = .ok (.isub, 1) := by decide +kernel
theorem dX2_openBays_39 : decode cX2_openBays 39 = .ok (.iastore, 1) := by decide +kernel
theorem dX2_openBays_40 : decode cX2_openBays 40 = .ok (.iinc 2 1, 3) := by decide +kernel
theorem dX2_openBays_43 : decode cX2_openBays 43 = .ok (.goto (-41), 3) := by decide +kernel
theorem dX2_openBays_46 : decode cX2_openBays 46 = .ok (.aload_n 0, 1) := by decide +kernel
theorem dX2_openBays_47 : decode cX2_openBays 47 = .ok (.getfield 20, 3) := by decide +kernel
theorem dX2_openBays_50 : decode cX2_openBays 50 = .ok (.iconst 5, 1) := by decide +kernel
theorem dX2_openBays_51 : decode cX2_openBays 51 = .ok (.bipush 7, 2) := by decide +kernel
theorem dX2_openBays_53 : decode cX2_openBays 53 = .ok (.iastore, 1) := by decide +kernel
theorem dX2_openBays_54 : decode cX2_openBays 54 = .ok (.return_, 1) := by decide +kernel
theorem dX2_readRights_0 : decode cX2_readRights 0 = .ok (.iconst 0, 1) := by decide +kernel
theorem dX2_readRights_1 : decode cX2_readRights 1 = .ok (.istore_n 2, 1) := by decide +kernel
theorem dX2_readRights_2 : decode cX2_readRights 2 = .ok (.iload_n 2, 1) := by decide +kernel
theorem dX2_readRights_3 : decode cX2_readRights 3 = .ok (.aload_n 0, 1) := by decide +kernel
theorem dX2_readRights_4 : decode cX2_readRights 4 = .ok (.getfield 34, 3) := by decide +kernel
theorem dX2_readRights_7 : decode cX2_readRights 7 = .ok (.getfield 63, 3) := by decide +kernel
theorem dX2_readRights_10 : decode cX2_readRights 10 = .ok (.if_icmp .ge 54, 3) := by decide +kernel
theorem dX2_readRights_13 : decode cX2_readRights 13 = .ok (.iconst 0, 1) := by decide +kernel
theorem dX2_readRights_14 : decode cX2_readRights 14 = .ok (.istore_n 3, 1) := by decide +kernel
theorem dX2_readRights_15 : decode cX2_readRights 15 = .ok (.iload_n 3, 1) := by decide +kernel
theorem dX2_readRights_16 : decode cX2_readRights 16 = .ok (.aload_n 0, 1) := by decide +kernel
theorem dX2_readRights_17 : decode cX2_readRights 17 = .ok (.getfield 30, 3) := by decide +kernel
theorem dX2_readRights_20 : decode cX2_readRights 20 = .ok (.getfield 51, 3) := by decide +kernel
theorem dX2_readRights_23 : decode cX2_readRights 23 = .ok (.if_icmp .ge 35, 3) := by decide +kernel
theorem dX2_readRights_26 : decode cX2_readRights 26 = .ok (.aload_n 0, 1) := by decide +kernel
theorem dX2_readRights_27 : decode cX2_readRights 27 = .ok (.getfield 17, 3) := by decide +kernel
theorem dX2_readRights_30 : decode cX2_readRights 30 = .ok (.iload_n 2, 1) := by decide +kernel
theorem dX2_readRights_31 : decode cX2_readRights 31 = .ok (.aaload, 1) := by decide +kernel
theorem dX2_readRights_32 : decode cX2_readRights 32 = .ok (.iload_n 3, 1) := by decide +kernel
theorem dX2_readRights_33 : decode cX2_readRights 33 = .ok (.aload_n 0, 1) := by decide +kernel
theorem dX2_readRights_34 : decode cX2_readRights 34 = .ok (.getfield 34, 3) := by decide +kernel
theorem dX2_readRights_37 : decode cX2_readRights 37 = .ok (.iload_n 2, 1) := by decide +kernel
theorem dX2_readRights_38 : decode cX2_readRights 38 = .ok (.aload_n 0, 1) := by decide +kernel
theorem dX2_readRights_39 : decode cX2_readRights 39 = .ok (.getfield 30, 3) := by decide +kernel
theorem dX2_readRights_42 : decode cX2_readRights 42 = .ok (.getfield 66, 3) := by decide +kernel
theorem dX2_readRights_45 : decode cX2_readRights 45 = .ok (.iload_n 3, 1) := by decide +kernel
theorem dX2_readRights_46 : decode cX2_readRights 46 = .ok (.iaload, 1) := by decide +kernel
theorem dX2_readRights_47 : decode cX2_readRights 47 = .ok (.iload_n 1, 1) := by decide +kernel
theorem dX2_readRights_48 : decode cX2_readRights 48 = .ok (.invokevirtual 69, 3) := by decide +kernel
theorem dX2_readRights_51 : decode cX2_readRights 51 = .ok (.iastore, 1) := by decide +kernel
theorem dX2_readRights_52 : decode cX2_readRights 52 = .ok (.iinc 3 1, 3) := by decide +kernel
theorem dX2_readRights_55 : decode cX2_readRights 55 = .ok (.goto (-40), 3) := by decide +kernel
theorem dX2_readRights_58 : decode cX2_readRights 58 = .ok (.iinc 2 1, 3) := by decide +kernel
theorem dX2_readRights_61 : decode cX2_readRights 61 = .ok (.goto (-59), 3) := by decide +kernel
theorem dX2_readRights_64 : decode cX2_readRights 64 = .ok (.return_, 1) := by decide +kernel
theorem dX2_comeHome_0 : decode cX2_comeHome 0 = .ok (.iconst 0, 1) := by decide +kernel
theorem dX2_comeHome_1 : decode cX2_comeHome 1 = .ok (.istore_n 1, 1) := by decide +kernel
theorem dX2_comeHome_2 : decode cX2_comeHome 2 = .ok (.iload_n 1, 1) := by decide +kernel
theorem dX2_comeHome_3 : decode cX2_comeHome 3 = .ok (.aload_n 0, 1) := by decide +kernel
theorem dX2_comeHome_4 : decode cX2_comeHome 4 = .ok (.getfield 34, 3) := by decide +kernel
theorem dX2_comeHome_7 : decode cX2_comeHome 7 = .ok (.getfield 63, 3) := by decide +kernel
theorem dX2_comeHome_10 : decode cX2_comeHome 10 = .ok (.if_icmp .ge 45, 3) := by decide +kernel
theorem dX2_comeHome_13 : decode cX2_comeHome 13 = .ok (.aload_n 0, 1) := by decide +kernel
theorem dX2_comeHome_14 : decode cX2_comeHome 14 = .ok (.getfield 34, 3) := by decide +kernel
theorem dX2_comeHome_17 : decode cX2_comeHome 17 = .ok (.getfield 72, 3) := by decide +kernel
theorem dX2_comeHome_20 : decode cX2_comeHome 20 = .ok (.iload_n 1, 1) := by decide +kernel
theorem dX2_comeHome_21 : decode cX2_comeHome 21 = .ok (.iaload, 1) := by decide +kernel
theorem dX2_comeHome_22 : decode cX2_comeHome 22 = .ok (.istore_n 2, 1) := by decide +kernel
theorem dX2_comeHome_23 : decode cX2_comeHome 23 = .ok (.aload_n 0, 1) := by decide +kernel
theorem dX2_comeHome_24 : decode cX2_comeHome 24 = .ok (.getfield 9, 3) := by decide +kernel
theorem dX2_comeHome_27 : decode cX2_comeHome 27 = .ok (.iload_n 2, 1) := by decide +kernel
theorem dX2_comeHome_28 : decode cX2_comeHome 28 = .ok (.aload_n 0, 1) := by decide +kernel
theorem dX2_comeHome_29 : decode cX2_comeHome 29 = .ok (.iload_n 2, 1) := by decide +kernel
theorem dX2_comeHome_30 : decode cX2_comeHome 30 = .ok (.invokevirtual 75, 3) := by decide +kernel
theorem dX2_comeHome_33 : decode cX2_comeHome 33 = .ok (.iastore, 1) := by decide +kernel
theorem dX2_comeHome_34 : decode cX2_comeHome 34 = .ok (.aload_n 0, 1) := by decide +kernel
theorem dX2_comeHome_35 : decode cX2_comeHome 35 = .ok (.getfield 20, 3) := by decide +kernel
theorem dX2_comeHome_38 : decode cX2_comeHome 38 = .ok (.aload_n 0, 1) := by decide +kernel
theorem dX2_comeHome_39 : decode cX2_comeHome 39 = .ok (.getfield 9, 3) := by decide +kernel
theorem dX2_comeHome_42 : decode cX2_comeHome 42 = .ok (.iload_n 2, 1) := by decide +kernel
theorem dX2_comeHome_43 : decode cX2_comeHome 43 = .ok (.iaload, 1) := by decide +kernel
theorem dX2_comeHome_44 : decode cX2_comeHome 44 = .ok (.dup2, 1) := by decide +kernel
theorem dX2_comeHome_45 : decode cX2_comeHome 45 = .ok (.iaload, 1) := by decide +kernel
theorem dX2_comeHome_46 : decode cX2_comeHome 46 = .ok (.iconst 1, 1) := by decide +kernel
theorem dX2_comeHome_47 : decode cX2_comeHome 47 = .ok (.isub, 1) := by decide +kernel
theorem dX2_comeHome_48 : decode cX2_comeHome 48 = .ok (.iastore, 1) := by decide +kernel
theorem dX2_comeHome_49 : decode cX2_comeHome 49 = .ok (.iinc 1 1, 3) := by decide +kernel
theorem dX2_comeHome_52 : decode cX2_comeHome 52 = .ok (.goto (-50), 3) := by decide +kernel
theorem dX2_comeHome_55 : decode cX2_comeHome 55 = .ok (.return_, 1) := by decide +kernel
theorem dX2_choose_0 : decode cX2_choose 0 = .ok (.iconst 5, 1) := by decide +kernel
theorem dX2_choose_1 : decode cX2_choose 1 = .ok (.istore_n 2, 1) := by decide +kernel
theorem dX2_choose_2 : decode cX2_choose 2 = .ok (.iconst 0, 1) := by decide +kernel
theorem dX2_choose_3 : decode cX2_choose 3 = .ok (.istore_n 3, 1) := by decide +kernel
theorem dX2_choose_4 : decode cX2_choose 4 = .ok (.iload_n 3, 1) := by decide +kernel
theorem dX2_choose_5 : decode cX2_choose 5 = .ok (.iconst 5, 1) := by decide +kernel
theorem dX2_choose_6 : decode cX2_choose 6 = .ok (.if_icmp .ge 44, 3) := by decide +kernel
theorem dX2_choose_9 : decode cX2_choose 9 = .ok (.aload_n 0, 1) := by decide +kernel
theorem dX2_choose_10 : decode cX2_choose 10 = .ok (.getfield 20, 3) := by decide +kernel
theorem dX2_choose_13 : decode cX2_choose 13 = .ok (.iload_n 3, 1) := by decide +kernel
theorem dX2_choose_14 : decode cX2_choose 14 = .ok (.iaload, 1) := by decide +kernel
theorem dX2_choose_15 : decode cX2_choose 15 = .ok (.ifCond .le 29, 3) := by decide +kernel
theorem dX2_choose_18 : decode cX2_choose 18 = .ok (.aload_n 0, 1) := by decide +kernel
theorem dX2_choose_19 : decode cX2_choose 19 = .ok (.iload_n 1, 1) := by decide +kernel
theorem dX2_choose_20 : decode cX2_choose 20 = .ok (.iload_n 3, 1) := by decide +kernel
theorem dX2_choose_21 : decode cX2_choose 21 = .ok (.invokevirtual 79, 3) := by decide +kernel
theorem dX2_choose_24 : decode cX2_choose 24 = .ok (.ifCond .eq 20, 3) := by decide +kernel
theorem dX2_choose_27 : decode cX2_choose 27 = .ok (.iload_n 2, 1) := by decide +kernel
theorem dX2_choose_28 : decode cX2_choose 28 = .ok (.iconst 5, 1) := by decide +kernel
theorem dX2_choose_29 : decode cX2_choose 29 = .ok (.if_icmp .eq 13, 3) := by decide +kernel
theorem dX2_choose_32 : decode cX2_choose 32 = .ok (.aload_n 0, 1) := by decide +kernel
theorem dX2_choose_33 : decode cX2_choose 33 = .ok (.iload_n 1, 1) := by decide +kernel
theorem dX2_choose_34 : decode cX2_choose 34 = .ok (.iload_n 3, 1) := by decide +kernel
theorem dX2_choose_35 : decode cX2_choose 35 = .ok (.iload_n 2, 1) := by decide +kernel
theorem dX2_choose_36 : decode cX2_choose 36 = .ok (.invokevirtual 83, 3) := by decide +kernel
theorem dX2_choose_39 : decode cX2_choose 39 = .ok (.ifCond .eq 5, 3) := by decide +kernel
theorem dX2_choose_42 : decode cX2_choose 42 = .ok (.iload_n 3, 1) := by decide +kernel
theorem dX2_choose_43 : decode cX2_choose 43 = .ok (.istore_n 2, 1) := by decide +kernel
theorem dX2_choose_44 : decode cX2_choose 44 = .ok (.iinc 3 1, 3) := by decide +kernel
theorem dX2_choose_47 : decode cX2_choose 47 = .ok (.goto (-43), 3) := by decide +kernel
theorem dX2_choose_50 : decode cX2_choose 50 = .ok (.iload_n 2, 1) := by decide +kernel
theorem dX2_choose_51 : decode cX2_choose 51 = .ok (.ireturn, 1) := by decide +kernel
theorem dX2_isBetter_0 : decode cX2_isBetter 0 = .ok (.aload_n 0, 1) := by decide +kernel
theorem dX2_isBetter_1 : decode cX2_isBetter 1 = .ok (.iload_n 1, 1) := by decide +kernel
theorem dX2_isBetter_2 : decode cX2_isBetter 2 = .ok (.iload_n 2, 1) := by decide +kernel
theorem dX2_isBetter_3 : decode cX2_isBetter 3 = .ok (.invokevirtual 87, 3) := by decide +kernel
theorem dX2_isBetter_6 : decode cX2_isBetter 6 = .ok (.istore 4, 2) := by decide +kernel
theorem dX2_isBetter_8 : decode cX2_isBetter 8 = .ok (.aload_n 0, 1) := by decide +kernel
theorem dX2_isBetter_9 : decode cX2_isBetter 9 = .ok (.iload_n 1, 1) := by decide +kernel
theorem dX2_isBetter_10 : decode cX2_isBetter 10 = .ok (.iload_n 3, 1) := by decide +kernel
theorem dX2_isBetter_11 : decode cX2_isBetter 11 = .ok (.invokevirtual 87, 3) := by decide +kernel
theorem dX2_isBetter_14 : decode cX2_isBetter 14 = .ok (.istore 5, 2) := by decide +kernel
theorem dX2_isBetter_16 : decode cX2_isBetter 16 = .ok (.iload 4, 2) := by decide +kernel
theorem dX2_isBetter_18 : decode cX2_isBetter 18 = .ok (.iload 5, 2) := by decide +kernel
theorem dX2_isBetter_20 : decode cX2_isBetter 20 = .ok (.if_icmp .lt 29, 3) := by decide +kernel
theorem dX2_isBetter_23 : decode cX2_isBetter 23 = .ok (.iload 4, 2) := by decide +kernel
theorem dX2_isBetter_25 : decode cX2_isBetter 25 = .ok (.iload 5, 2) := by decide +kernel
theorem dX2_isBetter_27 : decode cX2_isBetter 27 = .ok (.if_icmp .ne 26, 3) := by decide +kernel
theorem dX2_isBetter_30 : decode cX2_isBetter 30 = .ok (.aload_n 0, 1) := by decide +kernel
theorem dX2_isBetter_31 : decode cX2_isBetter 31 = .ok (.getfield 17, 3) := by decide +kernel
theorem dX2_isBetter_34 : decode cX2_isBetter 34 = .ok (.iload_n 1, 1) := by decide +kernel
theorem dX2_isBetter_35 : decode cX2_isBetter 35 = .ok (.aaload, 1) := by decide +kernel
theorem dX2_isBetter_36 : decode cX2_isBetter 36 = .ok (.iload_n 2, 1) := by decide +kernel
theorem dX2_isBetter_37 : decode cX2_isBetter 37 = .ok (.iaload, 1) := by decide +kernel
theorem dX2_isBetter_38 : decode cX2_isBetter 38 = .ok (.aload_n 0, 1) := by decide +kernel
theorem dX2_isBetter_39 : decode cX2_isBetter 39 = .ok (.getfield 17, 3) := by decide +kernel
theorem dX2_isBetter_42 : decode cX2_isBetter 42 = .ok (.iload_n 1, 1) := by decide +kernel
theorem dX2_isBetter_43 : decode cX2_isBetter 43 = .ok (.aaload, 1) := by decide +kernel
theorem dX2_isBetter_44 : decode cX2_isBetter 44 = .ok (.iload_n 3, 1) := by decide +kernel
theorem dX2_isBetter_45 : decode cX2_isBetter 45 = .ok (.iaload, 1) := by decide +kernel
theorem dX2_isBetter_46 : decode cX2_isBetter 46 = .ok (.if_icmp .le 7, 3) := by decide +kernel
theorem dX2_isBetter_49 : decode cX2_isBetter 49 = .ok (.iconst 1, 1) := by decide +kernel
theorem dX2_isBetter_50 : decode cX2_isBetter 50 = .ok (.goto 4, 3) := by decide +kernel
theorem dX2_isBetter_53 : decode cX2_isBetter 53 = .ok (.iconst 0, 1) := by decide +kernel
theorem dX2_isBetter_54 : decode cX2_isBetter 54 = .ok (.ireturn, 1) := by decide +kernel
theorem dX2_isWithin_0 : decode cX2_isWithin 0 = .ok (.aload_n 0, 1) := by decide +kernel
theorem dX2_isWithin_1 : decode cX2_isWithin 1 = .ok (.getfield 17, 3) := by decide +kernel
theorem dX2_isWithin_4 : decode cX2_isWithin 4 = .ok (.iload_n 1, 1) := by decide +kernel
theorem dX2_isWithin_5 : decode cX2_isWithin 5 = .ok (.aaload, 1) := by decide +kernel
theorem dX2_isWithin_6 : decode cX2_isWithin 6 = .ok (.iload_n 2, 1) := by decide +kernel
theorem dX2_isWithin_7 : decode cX2_isWithin 7 = .ok (.iaload, 1) := by decide +kernel
theorem dX2_isWithin_8 : decode cX2_isWithin 8 = .ok (.ifCond .eq 25, 3) := by decide +kernel
theorem dX2_isWithin_11 : decode cX2_isWithin 11 = .ok (.aload_n 0, 1) := by decide +kernel
theorem dX2_isWithin_12 : decode cX2_isWithin 12 = .ok (.iload_n 1, 1) := by decide +kernel
theorem dX2_isWithin_13 : decode cX2_isWithin 13 = .ok (.iload_n 2, 1) := by decide +kernel
theorem dX2_isWithin_14 : decode cX2_isWithin 14 = .ok (.invokevirtual 87, 3) := by decide +kernel
theorem dX2_isWithin_17 : decode cX2_isWithin 17 = .ok (.aload_n 0, 1) := by decide +kernel
theorem dX2_isWithin_18 : decode cX2_isWithin 18 = .ok (.getfield 34, 3) := by decide +kernel
theorem dX2_isWithin_21 : decode cX2_isWithin 21 = .ok (.getfield 91, 3) := by decide +kernel
theorem dX2_isWithin_24 : decode cX2_isWithin 24 = .ok (.iload_n 1, 1) := by decide +kernel
theorem dX2_isWithin_25 : decode cX2_isWithin 25 = .ok (.iaload, 1) := by decide +kernel
theorem dX2_isWithin_26 : decode cX2_isWithin 26 = .ok (.if_icmp .gt 7, 3) := by decide +kernel
theorem dX2_isWithin_29 : decode cX2_isWithin 29 = .ok (.iconst 1, 1) := by decide +kernel
theorem dX2_isWithin_30 : decode cX2_isWithin 30 = .ok (.goto 4, 3) := by decide +kernel
theorem dX2_isWithin_33 : decode cX2_isWithin 33 = .ok (.iconst 0, 1) := by decide +kernel
theorem dX2_isWithin_34 : decode cX2_isWithin 34 = .ok (.ireturn, 1) := by decide +kernel
theorem dX2_walkTo_0 : decode cX2_walkTo 0 = .ok (.aload_n 0, 1) := by decide +kernel
theorem dX2_walkTo_1 : decode cX2_walkTo 1 = .ok (.getfield 30, 3) := by decide +kernel
theorem dX2_walkTo_4 : decode cX2_walkTo 4 = .ok (.getfield 94, 3) := by decide +kernel
theorem dX2_walkTo_7 : decode cX2_walkTo 7 = .ok (.aload_n 0, 1) := by decide +kernel
theorem dX2_walkTo_8 : decode cX2_walkTo 8 = .ok (.getfield 34, 3) := by decide +kernel
theorem dX2_walkTo_11 : decode cX2_walkTo 11 = .ok (.getfield 97, 3) := by decide +kernel
theorem dX2_walkTo_14 : decode cX2_walkTo 14 = .ok (.iload_n 1, 1) := by decide +kernel
theorem dX2_walkTo_15 : decode cX2_walkTo 15 = .ok (.iaload, 1) := by decide +kernel
theorem dX2_walkTo_16 : decode cX2_walkTo 16 = .ok (.aaload, 1) := by decide +kernel
theorem dX2_walkTo_17 : decode cX2_walkTo 17 = .ok (.iload_n 2, 1) := by decide +kernel
theorem dX2_walkTo_18 : decode cX2_walkTo 18 = .ok (.iaload, 1) := by decide +kernel
theorem dX2_walkTo_19 : decode cX2_walkTo 19 = .ok (.ireturn, 1) := by decide +kernel
theorem dX2_layLeast_0 : decode cX2_layLeast 0 = .ok (.iconst 0, 1) := by decide +kernel
theorem dX2_layLeast_1 : decode cX2_layLeast 1 = .ok (.istore_n 1, 1) := by decide +kernel
theorem dX2_layLeast_2 : decode cX2_layLeast 2 = .ok (.iload_n 1, 1) := by decide +kernel
theorem dX2_layLeast_3 : decode cX2_layLeast 3 = .ok (.aload_n 0, 1) := by decide +kernel
theorem dX2_layLeast_4 : decode cX2_layLeast 4 = .ok (.getfield 34, 3) := by decide +kernel
theorem dX2_layLeast_7 : decode cX2_layLeast 7 = .ok (.getfield 63, 3) := by decide +kernel
theorem dX2_layLeast_10 : decode cX2_layLeast 10 = .ok (.if_icmp .ge 82, 3) := by decide +kernel
theorem dX2_layLeast_13 : decode cX2_layLeast 13 = .ok (.iconst 0, 1) := by decide +kernel
theorem dX2_layLeast_14 : decode cX2_layLeast 14 = .ok (.istore_n 2, 1) := by decide +kernel
theorem dX2_layLeast_15 : decode cX2_layLeast 15 = .ok (.iload_n 2, 1) := by decide +kernel
theorem dX2_layLeast_16 : decode cX2_layLeast 16 = .ok (.iconst 5, 1) := by decide +kernel
theorem dX2_layLeast_17 : decode cX2_layLeast 17 = .ok (.if_icmp .ge 45, 3) := by decide +kernel
theorem dX2_layLeast_20 : decode cX2_layLeast 20 = .ok (.aload_n 0, 1) := by decide +kernel
theorem dX2_layLeast_21 : decode cX2_layLeast 21 = .ok (.iload_n 1, 1) := by decide +kernel
theorem dX2_layLeast_22 : decode cX2_layLeast 22 = .ok (.iload_n 2, 1) := by decide +kernel
theorem dX2_layLeast_23 : decode cX2_layLeast 23 = .ok (.invokevirtual 79, 3) := by decide +kernel
theorem dX2_layLeast_26 : decode cX2_layLeast 26 = .ok (.ifCond .eq 21, 3) := by decide +kernel
theorem dX2_layLeast_29 : decode cX2_layLeast 29 = .ok (.aload_n 0, 1) := by decide +kernel
theorem dX2_layLeast_30 : decode cX2_layLeast 30 = .ok (.getfield 26, 3) := by decide +kernel
theorem dX2_layLeast_33 : decode cX2_layLeast 33 = .ok (.iload_n 1, 1) := by decide +kernel
theorem dX2_layLeast_34 : decode cX2_layLeast 34 = .ok (.iload_n 2, 1) := by decide +kernel
theorem dX2_layLeast_35 : decode cX2_layLeast 35 = .ok (.aload_n 0, 1) := by decide +kernel
theorem dX2_layLeast_36 : decode cX2_layLeast 36 = .ok (.iload_n 1, 1) := by decide +kernel
theorem dX2_layLeast_37 : decode cX2_layLeast 37 = .ok (.iload_n 2, 1) := by decide +kernel
theorem dX2_layLeast_38 : decode cX2_layLeast 38 = .ok (.invokevirtual 87, 3) := by decide +kernel
theorem dX2_layLeast_41 : decode cX2_layLeast 41 = .ok (.invokevirtual 100, 3) := by decide +kernel
theorem dX2_layLeast_44 : decode cX2_layLeast 44 = .ok (.goto 12, 3) := by decide +kernel
theorem dX2_layLeast_47 : decode cX2_layLeast 47 = .ok (.aload_n 0, 1) := by decide +kernel
theorem dX2_layLeast_48 : decode cX2_layLeast 48 = .ok (.getfield 26, 3) := by decide +kernel
theorem dX2_layLeast_51 : decode cX2_layLeast 51 = .ok (.iload_n 1, 1) := by decide +kernel
theorem dX2_layLeast_52 : decode cX2_layLeast 52 = .ok (.iload_n 2, 1) := by decide +kernel
theorem dX2_layLeast_53 : decode cX2_layLeast 53 = .ok (.invokevirtual 104, 3) := by decide +kernel
theorem dX2_layLeast_56 : decode cX2_layLeast 56 = .ok (.iinc 2 1, 3) := by decide +kernel
theorem dX2_layLeast_59 : decode cX2_layLeast 59 = .ok (.goto (-44), 3) := by decide +kernel
theorem dX2_layLeast_62 : decode cX2_layLeast 62 = .ok (.aload_n 0, 1) := by decide +kernel
theorem dX2_layLeast_63 : decode cX2_layLeast 63 = .ok (.getfield 26, 3) := by decide +kernel
theorem dX2_layLeast_66 : decode cX2_layLeast 66 = .ok (.iload_n 1, 1) := by decide +kernel
theorem dX2_layLeast_67 : decode cX2_layLeast 67 = .ok (.invokevirtual 108, 3) := by decide +kernel
theorem dX2_layLeast_70 : decode cX2_layLeast 70 = .ok (.aload_n 0, 1) := by decide +kernel
theorem dX2_layLeast_71 : decode cX2_layLeast 71 = .ok (.getfield 26, 3) := by decide +kernel
theorem dX2_layLeast_74 : decode cX2_layLeast 74 = .ok (.iload_n 1, 1) := by decide +kernel
theorem dX2_layLeast_75 : decode cX2_layLeast 75 = .ok (.aload_n 0, 1) := by decide +kernel
theorem dX2_layLeast_76 : decode cX2_layLeast 76 = .ok (.getfield 9, 3) := by decide +kernel
theorem dX2_layLeast_79 : decode cX2_layLeast 79 = .ok (.aload_n 0, 1) := by decide +kernel
theorem dX2_layLeast_80 : decode cX2_layLeast 80 = .ok (.getfield 20, 3) := by decide +kernel
theorem dX2_layLeast_83 : decode cX2_layLeast 83 = .ok (.invokevirtual 111, 3) := by decide +kernel
theorem dX2_layLeast_86 : decode cX2_layLeast 86 = .ok (.iinc 1 1, 3) := by decide +kernel
theorem dX2_layLeast_89 : decode cX2_layLeast 89 = .ok (.goto (-87), 3) := by decide +kernel
theorem dX2_layLeast_92 : decode cX2_layLeast 92 = .ok (.return_, 1) := by decide +kernel
theorem dX2_tell_0 : decode cX2_tell 0 = .ok (.iconst 0, 1) := by decide +kernel
theorem dX2_tell_1 : decode cX2_tell 1 = .ok (.istore_n 2, 1) := by decide +kernel
theorem dX2_tell_2 : decode cX2_tell 2 = .ok (.iconst 0, 1) := by decide +kernel
theorem dX2_tell_3 : decode cX2_tell 3 = .ok (.istore_n 3, 1) := by decide +kernel
theorem dX2_tell_4 : decode cX2_tell 4 = .ok (.iload_n 3, 1) := by decide +kernel
theorem dX2_tell_5 : decode cX2_tell 5 = .ok (.aload_n 0, 1) := by decide +kernel
theorem dX2_tell_6 : decode cX2_tell 6 = .ok (.getfield 34, 3) := by decide +kernel
theorem dX2_tell_9 : decode cX2_tell 9 = .ok (.getfield 63, 3) := by decide +kernel
theorem dX2_tell_12 : decode cX2_tell 12 = .ok (.if_icmp .ge 18, 3) := by decide +kernel
theorem dX2_tell_15 : decode cX2_tell 15 = .ok (.iload_n 2, 1) := by decide +kernel
theorem dX2_tell_16 : decode cX2_tell 16 = .ok (.aload_n 0, 1) := by decide +kernel
theorem dX2_tell_17 : decode cX2_tell 17 = .ok (.iload_n 1, 1) := by decide +kernel
theorem dX2_tell_18 : decode cX2_tell 18 = .ok (.iload_n 3, 1) := by decide +kernel
theorem dX2_tell_19 : decode cX2_tell 19 = .ok (.invokevirtual 115, 3) := by decide +kernel
theorem dX2_tell_22 : decode cX2_tell 22 = .ok (.iadd, 1) := by decide +kernel
theorem dX2_tell_23 : decode cX2_tell 23 = .ok (.istore_n 2, 1) := by decide +kernel
theorem dX2_tell_24 : decode cX2_tell 24 = .ok (.iinc 3 1, 3) := by decide +kernel
theorem dX2_tell_27 : decode cX2_tell 27 = .ok (.goto (-23), 3) := by decide +kernel
theorem dX2_tell_30 : decode cX2_tell 30 = .ok (.iload_n 2, 1) := by decide +kernel
theorem dX2_tell_31 : decode cX2_tell 31 = .ok (.ireturn, 1) := by decide +kernel
theorem dX2_tellOne_0 : decode cX2_tellOne 0 = .ok (.aload_n 0, 1) := by decide +kernel
theorem dX2_tellOne_1 : decode cX2_tellOne 1 = .ok (.getfield 9, 3) := by decide +kernel
theorem dX2_tellOne_4 : decode cX2_tellOne 4 = .ok (.iload_n 2, 1) := by decide +kernel
theorem dX2_tellOne_5 : decode cX2_tellOne 5 = .ok (.iaload, 1) := by decide +kernel
theorem dX2_tellOne_6 : decode cX2_tellOne 6 = .ok (.iconst 5, 1) := by decide +kernel
theorem dX2_tellOne_7 : decode cX2_tellOne 7 = .ok (.if_icmp .ne 14, 3) := by decide +kernel
theorem dX2_tellOne_10 : decode cX2_tellOne 10 = .ok (.iload_n 1, 1) := by decide +kernel
theorem dX2_tellOne_11 : decode cX2_tellOne 11 = .ok (.iconst 1, 1) := by decide +kernel
theorem dX2_tellOne_12 : decode cX2_tellOne 12 = .ok (.if_icmp .ne 7, 3) := by decide +kernel
theorem dX2_tellOne_15 : decode cX2_tellOne 15 = .ok (.iconst 1, 1) := by decide +kernel
theorem dX2_tellOne_16 : decode cX2_tellOne 16 = .ok (.goto 4, 3) := by decide +kernel
theorem dX2_tellOne_19 : decode cX2_tellOne 19 = .ok (.iconst 0, 1) := by decide +kernel
theorem dX2_tellOne_20 : decode cX2_tellOne 20 = .ok (.ireturn, 1) := by decide +kernel
theorem dX2_tellOne_21 : decode cX2_tellOne 21 = .ok (.iload_n 1, 1) := by decide +kernel
theorem dX2_tellOne_22 : decode cX2_tellOne 22 = .ok (.ifCond .ne 15, 3) := by decide +kernel
theorem dX2_tellOne_25 : decode cX2_tellOne 25 = .ok (.aload_n 0, 1) := by decide +kernel
theorem dX2_tellOne_26 : decode cX2_tellOne 26 = .ok (.iload_n 2, 1) := by decide +kernel
theorem dX2_tellOne_27 : decode cX2_tellOne 27 = .ok (.aload_n 0, 1) := by decide +kernel
theorem dX2_tellOne_28 : decode cX2_tellOne 28 = .ok (.getfield 9, 3) := by decide +kernel
theorem dX2_tellOne_31 : decode cX2_tellOne 31 = .ok (.iload_n 2, 1) := by decide +kernel
theorem dX2_tellOne_32 : decode cX2_tellOne 32 = .ok (.iaload, 1) := by decide +kernel
theorem dX2_tellOne_33 : decode cX2_tellOne 33 = .ok (.invokevirtual 87, 3) := by decide +kernel
theorem dX2_tellOne_36 : decode cX2_tellOne 36 = .ok (.ireturn, 1) := by decide +kernel
theorem dX2_tellOne_37 : decode cX2_tellOne 37 = .ok (.iload_n 1, 1) := by decide +kernel
theorem dX2_tellOne_38 : decode cX2_tellOne 38 = .ok (.iconst 2, 1) := by decide +kernel
theorem dX2_tellOne_39 : decode cX2_tellOne 39 = .ok (.if_icmp .ne 15, 3) := by decide +kernel
theorem dX2_tellOne_42 : decode cX2_tellOne 42 = .ok (.aload_n 0, 1) := by decide +kernel
theorem dX2_tellOne_43 : decode cX2_tellOne 43 = .ok (.iload_n 2, 1) := by decide +kernel
theorem dX2_tellOne_44 : decode cX2_tellOne 44 = .ok (.invokevirtual 118, 3) := by decide +kernel
theorem dX2_tellOne_47 : decode cX2_tellOne 47 = .ok (.ifCond .eq 7, 3) := by decide +kernel
theorem dX2_tellOne_50 : decode cX2_tellOne 50 = .ok (.iconst 1, 1) := by decide +kernel
theorem dX2_tellOne_51 : decode cX2_tellOne 51 = .ok (.goto 4, 3) := by decide +kernel
theorem dX2_tellOne_54 : decode cX2_tellOne 54 = .ok (.iconst 0, 1) := by decide +kernel
theorem dX2_tellOne_55 : decode cX2_tellOne 55 = .ok (.ireturn, 1) := by decide +kernel
theorem dX2_standsByCard_0 : decode cX2_standsByCard 0 = .ok (.aload_n 0, 1) := by decide +kernel
theorem dX2_standsByCard_1 : decode cX2_standsByCard 1 = .ok (.getfield 9, 3) := by decide +kernel
theorem dX2_standsByCard_4 : decode cX2_standsByCard 4 = .ok (.iload_n 1, 1) := by decide +kernel
theorem dX2_standsByCard_5 : decode cX2_standsByCard 5 = .ok (.iaload, 1) := by decide +kernel
theorem dX2_standsByCard_6 : decode cX2_standsByCard 6 = .ok (.iconst 5, 1) := by decide +kernel
theorem dX2_standsByCard_7 : decode cX2_standsByCard 7 = .ok (.if_icmp .eq 24, 3) := by decide +kernel
theorem dX2_standsByCard_10 : decode cX2_standsByCard 10 = .ok (.aload_n 0, 1) := by decide +kernel
theorem dX2_standsByCard_11 : decode cX2_standsByCard 11 = .ok (.getfield 17, 3) := by decide +kernel
theorem dX2_standsByCard_14 : decode cX2_standsByCard 14 = .ok (.iload_n 1, 1) := by decide +kernel
theorem dX2_standsByCard_15 : decode cX2_standsByCard 15 = .ok (.aaload, 1) := by decide +kernel
theorem dX2_standsByCard_16 : decode cX2_standsByCard 16 = .ok (.aload_n 0, 1) := by decide +kernel
theorem dX2_standsByCard_17 : decode cX2_standsByCard 17 = .ok (.getfield 9, 3) := by decide +kernel
theorem dX2_standsByCard_20 : decode cX2_standsByCard 20 = .ok (.iload_n 1, 1) := by decide +kernel
theorem dX2_standsByCard_21 : decode cX2_standsByCard 21 = .ok (.iaload, 1) := by decide +kernel
theorem dX2_standsByCard_22 : decode cX2_standsByCard 22 = .ok (.iaload, 1) := by decide +kernel
theorem dX2_standsByCard_23 : decode cX2_standsByCard 23 = .ok (.iconst 1, 1) := by decide +kernel
theorem dX2_standsByCard_24 : decode cX2_standsByCard 24 = .ok (.if_icmp .ne 7, 3) := by decide +kernel
theorem dX2_standsByCard_27 : decode cX2_standsByCard 27 = .ok (.iconst 1, 1) := by decide +kernel
theorem dX2_standsByCard_28 : decode cX2_standsByCard 28 = .ok (.goto 4, 3) := by decide +kernel
theorem dX2_standsByCard_31 : decode cX2_standsByCard 31 = .ok (.iconst 0, 1) := by decide +kernel
theorem dX2_standsByCard_32 : decode cX2_standsByCard 32 = .ok (.ireturn, 1) := by decide +kernel
theorem dX2_useCards_0 : decode cX2_useCards 0 = .ok (.iconst 0, 1) := by decide +kernel
theorem dX2_useCards_1 : decode cX2_useCards 1 = .ok (.istore_n 1, 1) := by decide +kernel
theorem dX2_useCards_2 : decode cX2_useCards 2 = .ok (.iconst 0, 1) := by decide +kernel
theorem dX2_useCards_3 : decode cX2_useCards 3 = .ok (.istore_n 2, 1) := by decide +kernel
theorem dX2_useCards_4 : decode cX2_useCards 4 = .ok (.iload_n 2, 1) := by decide +kernel
theorem dX2_useCards_5 : decode cX2_useCards 5 = .ok (.aload_n 0, 1) := by decide +kernel
theorem dX2_useCards_6 : decode cX2_useCards 6 = .ok (.getfield 34, 3) := by decide +kernel
theorem dX2_useCards_9 : decode cX2_useCards 9 = .ok (.getfield 63, 3) := by decide +kernel
theorem dX2_useCards_12 : decode cX2_useCards 12 = .ok (.if_icmp .ge 48, 3) := by decide +kernel
theorem dX2_useCards_15 : decode cX2_useCards 15 = .ok (.aload_n 0, 1) := by decide +kernel
theorem dX2_useCards_16 : decode cX2_useCards 16 = .ok (.iload_n 2, 1) := by decide +kernel
theorem dX2_useCards_17 : decode cX2_useCards 17 = .ok (.invokevirtual 118, 3) := by decide +kernel
theorem dX2_useCards_20 : decode cX2_useCards 20 = .ok (.ifCond .eq 34, 3) := by decide +kernel
theorem dX2_useCards_23 : decode cX2_useCards 23 = .ok (.aload_n 0, 1) := by decide +kernel
theorem dX2_useCards_24 : decode cX2_useCards 24 = .ok (.getfield 34, 3) := by decide +kernel
theorem dX2_useCards_27 : decode cX2_useCards 27 = .ok (.getfield 122, 3) := by decide +kernel
theorem dX2_useCards_30 : decode cX2_useCards 30 = .ok (.iload_n 2, 1) := by decide +kernel
theorem dX2_useCards_31 : decode cX2_useCards 31 = .ok (.aaload, 1) := by decide +kernel
theorem dX2_useCards_32 : decode cX2_useCards 32 = .ok (.aload_n 0, 1) := by decide +kernel
theorem dX2_useCards_33 : decode cX2_useCards 33 = .ok (.getfield 30, 3) := by decide +kernel
theorem dX2_useCards_36 : decode cX2_useCards 36 = .ok (.getfield 66, 3) := by decide +kernel
theorem dX2_useCards_39 : decode cX2_useCards 39 = .ok (.aload_n 0, 1) := by decide +kernel
theorem dX2_useCards_40 : decode cX2_useCards 40 = .ok (.getfield 9, 3) := by decide +kernel
theorem dX2_useCards_43 : decode cX2_useCards 43 = .ok (.iload_n 2, 1) := by decide +kernel
theorem dX2_useCards_44 : decode cX2_useCards 44 = .ok (.iaload, 1) := by decide +kernel
theorem dX2_useCards_45 : decode cX2_useCards 45 = .ok (.iaload, 1) := by decide +kernel
theorem dX2_useCards_46 : decode cX2_useCards 46 = .ok (.dup2, 1) := by decide +kernel
theorem dX2_useCards_47 : decode cX2_useCards 47 = .ok (.iaload, 1) := by decide +kernel
theorem dX2_useCards_48 : decode cX2_useCards 48 = .ok (.iconst 1, 1) := by decide +kernel
theorem dX2_useCards_49 : decode cX2_useCards 49 = .ok (.isub, 1) := by decide +kernel
theorem dX2_useCards_50 : decode cX2_useCards 50 = .ok (.iastore, 1) := by decide +kernel
theorem dX2_useCards_51 : decode cX2_useCards 51 = .ok (.iinc 1 1, 3) := by decide +kernel
theorem dX2_useCards_54 : decode cX2_useCards 54 = .ok (.iinc 2 1, 3) := by decide +kernel
theorem dX2_useCards_57 : decode cX2_useCards 57 = .ok (.goto (-53), 3) := by decide +kernel
theorem dX2_useCards_60 : decode cX2_useCards 60 = .ok (.iload_n 1, 1) := by decide +kernel
theorem dX2_useCards_61 : decode cX2_useCards 61 = .ok (.ireturn, 1) := by decide +kernel
theorem dX3_init_0 : decode cX3_init 0 = .ok (.aload_n 0, 1) := by decide +kernel
theorem dX3_init_1 : decode cX3_init 1 = .ok (.invokespecial 1, 3) := by decide +kernel
theorem dX3_init_4 : decode cX3_init 4 = .ok (.iload_n 1, 1) := by decide +kernel
theorem dX3_init_5 : decode cX3_init 5 = .ok (.ifCond .le 15, 3) := by decide +kernel
theorem dX3_init_8 : decode cX3_init 8 = .ok (.iload_n 2, 1) := by decide +kernel
theorem dX3_init_9 : decode cX3_init 9 = .ok (.ifCond .le 11, 3) := by decide +kernel
theorem dX3_init_12 : decode cX3_init 12 = .ok (.iload_n 1, 1) := by decide +kernel
theorem dX3_init_13 : decode cX3_init 13 = .ok (.iload_n 2, 1) := by decide +kernel
theorem dX3_init_14 : decode cX3_init 14 = .ok (.invokestatic 7, 3) := by decide +kernel
theorem dX3_init_17 : decode cX3_init 17 = .ok (.goto 4, 3) := by decide +kernel
theorem dX3_init_20 : decode cX3_init 20 = .ok (.iconst 0, 1) := by decide +kernel
theorem dX3_init_21 : decode cX3_init 21 = .ok (.istore_n 3, 1) := by decide +kernel
theorem dX3_init_22 : decode cX3_init 22 = .ok (.aload_n 0, 1) := by decide +kernel
theorem dX3_init_23 : decode cX3_init 23 = .ok (.iload_n 3, 1) := by decide +kernel
theorem dX3_init_24 : decode cX3_init 24 = .ok (.ifCond .le 9, 3) := by decide +kernel
theorem dX3_init_27 : decode cX3_init 27 = .ok (.iload_n 1, 1) := by decide +kernel
theorem dX3_init_28 : decode cX3_init 28 = .ok (.iload_n 3, 1) := by decide +kernel
theorem dX3_init_29 : decode cX3_init 29 = .ok (.idiv, 1) := by decide +kernel
theorem dX3_init_30 : decode cX3_init 30 = .ok (.goto 4, 3) := by decide +kernel
theorem dX3_init_33 : decode cX3_init 33 = .ok (.iconst 0, 1) := by decide +kernel
theorem dX3_init_34 : decode cX3_init 34 = .ok (.putfield 13, 3) := by decide +kernel
theorem dX3_init_37 : decode cX3_init 37 = .ok (.aload_n 0, 1) := by decide +kernel
theorem dX3_init_38 : decode cX3_init 38 = .ok (.iload_n 3, 1) := by decide +kernel
theorem dX3_init_39 : decode cX3_init 39 = .ok (.ifCond .le 9, 3) := by decide +kernel
theorem dX3_init_42 : decode cX3_init 42 = .ok (.iload_n 2, 1) := by decide +kernel
theorem dX3_init_43 : decode cX3_init 43 = .ok (.iload_n 3, 1) := by decide +kernel
theorem dX3_init_44 : decode cX3_init 44 = .ok (.idiv, 1) := by decide +kernel
theorem dX3_init_45 : decode cX3_init 45 = .ok (.goto 4, 3) := by decide +kernel
theorem dX3_init_48 : decode cX3_init 48 = .ok (.iconst 1, 1) := by decide +kernel
theorem dX3_init_49 : decode cX3_init 49 = .ok (.putfield 17, 3) := by decide +kernel
theorem dX3_init_52 : decode cX3_init 52 = .ok (.return_, 1) := by decide +kernel
theorem dX3_commonDivisor_0 : decode cX3_commonDivisor 0 = .ok (.iload_n 0, 1) := by decide +kernel
theorem dX3_commonDivisor_1 : decode cX3_commonDivisor 1 = .ok (.istore_n 2, 1) := by decide +kernel
theorem dX3_commonDivisor_2 : decode cX3_commonDivisor 2 = .ok (.iload_n 1, 1) := by decide +kernel
theorem dX3_commonDivisor_3 : decode cX3_commonDivisor 3 = .ok (.istore_n 3, 1) := by decide +kernel
theorem dX3_commonDivisor_4 : decode cX3_commonDivisor 4 = .ok (.iconst 0, 1) := by decide +kernel
theorem dX3_commonDivisor_5 : decode cX3_commonDivisor 5 = .ok (.istore 4, 2) := by decide +kernel
theorem dX3_commonDivisor_7 : decode cX3_commonDivisor 7 = .ok (.iload 4, 2) := by decide +kernel
theorem dX3_commonDivisor_9 : decode cX3_commonDivisor 9 = .ok (.bipush 64, 2) := by decide +kernel
theorem dX3_commonDivisor_11 : decode cX3_commonDivisor 11 = .ok (.if_icmp .ge 23, 3) := by decide +kernel
theorem dX3_commonDivisor_14 : decode cX3_commonDivisor 14 = .ok (.iload_n 3, 1) := by decide +kernel
theorem dX3_commonDivisor_15 : decode cX3_commonDivisor 15 = .ok (.ifCond .eq 19, 3) := by decide +kernel
theorem dX3_commonDivisor_18 : decode cX3_commonDivisor 18 = .ok (.iload_n 2, 1) := by decide +kernel
theorem dX3_commonDivisor_19 : decode cX3_commonDivisor 19 = .ok (.iload_n 3, 1) := by decide +kernel
theorem dX3_commonDivisor_20 : decode cX3_commonDivisor 20 = .ok (.irem, 1) := by decide +kernel
theorem dX3_commonDivisor_21 : decode cX3_commonDivisor 21 = .ok (.istore 5, 2) := by decide +kernel
theorem dX3_commonDivisor_23 : decode cX3_commonDivisor 23 = .ok (.iload_n 3, 1) := by decide +kernel
theorem dX3_commonDivisor_24 : decode cX3_commonDivisor 24 = .ok (.istore_n 2, 1) := by decide +kernel
theorem dX3_commonDivisor_25 : decode cX3_commonDivisor 25 = .ok (.iload 5, 2) := by decide +kernel
theorem dX3_commonDivisor_27 : decode cX3_commonDivisor 27 = .ok (.istore_n 3, 1) := by decide +kernel
theorem dX3_commonDivisor_28 : decode cX3_commonDivisor 28 = .ok (.iinc 4 1, 3) := by decide +kernel
theorem dX3_commonDivisor_31 : decode cX3_commonDivisor 31 = .ok (.goto (-24), 3) := by decide +kernel
theorem dX3_commonDivisor_34 : decode cX3_commonDivisor 34 = .ok (.iload_n 2, 1) := by decide +kernel
theorem dX3_commonDivisor_35 : decode cX3_commonDivisor 35 = .ok (.ireturn, 1) := by decide +kernel
theorem dX3_isBelow_0 : decode cX3_isBelow 0 = .ok (.aload_n 0, 1) := by decide +kernel
theorem dX3_isBelow_1 : decode cX3_isBelow 1 = .ok (.getfield 13, 3) := by decide +kernel
theorem dX3_isBelow_4 : decode cX3_isBelow 4 = .ok (.iload_n 2, 1) := by decide +kernel
theorem dX3_isBelow_5 : decode cX3_isBelow 5 = .ok (.imul, 1) := by decide +kernel
theorem dX3_isBelow_6 : decode cX3_isBelow 6 = .ok (.iload_n 1, 1) := by decide +kernel
theorem dX3_isBelow_7 : decode cX3_isBelow 7 = .ok (.aload_n 0, 1) := by decide +kernel
theorem dX3_isBelow_8 : decode cX3_isBelow 8 = .ok (.getfield 17, 3) := by decide +kernel
theorem dX3_isBelow_11 : decode cX3_isBelow 11 = .ok (.imul, 1) := by decide +kernel
theorem dX3_isBelow_12 : decode cX3_isBelow 12 = .ok (.if_icmp .ge 7, 3) := by decide +kernel
theorem dX3_isBelow_15 : decode cX3_isBelow 15 = .ok (.iconst 1, 1) := by decide +kernel
theorem dX3_isBelow_16 : decode cX3_isBelow 16 = .ok (.goto 4, 3) := by decide +kernel
theorem dX3_isBelow_19 : decode cX3_isBelow 19 = .ok (.iconst 0, 1) := by decide +kernel
theorem dX3_isBelow_20 : decode cX3_isBelow 20 = .ok (.ireturn, 1) := by decide +kernel
theorem dX3_part_0 : decode cX3_part 0 = .ok (.iload_n 1, 1) := by decide +kernel
theorem dX3_part_1 : decode cX3_part 1 = .ok (.ifCond .ne 10, 3) := by decide +kernel
theorem dX3_part_4 : decode cX3_part 4 = .ok (.aload_n 0, 1) := by decide +kernel
theorem dX3_part_5 : decode cX3_part 5 = .ok (.getfield 13, 3) := by decide +kernel
theorem dX3_part_8 : decode cX3_part 8 = .ok (.goto 7, 3) := by decide +kernel
theorem dX3_part_11 : decode cX3_part 11 = .ok (.aload_n 0, 1) := by decide +kernel
theorem dX3_part_12 : decode cX3_part 12 = .ok (.getfield 17, 3) := by decide +kernel
theorem dX3_part_15 : decode cX3_part 15 = .ok (.ireturn, 1) := by decide +kernel
theorem dX4_init_0 : decode cX4_init 0 = .ok (.aload_n 0, 1) := by decide +kernel
theorem dX4_init_1 : decode cX4_init 1 = .ok (.invokespecial 3, 3) := by decide +kernel
theorem dX4_init_4 : decode cX4_init 4 = .ok (.aload_n 0, 1) := by decide +kernel
theorem dX4_init_5 : decode cX4_init 5 = .ok (.iconst 0, 1) := by decide +kernel
theorem dX4_init_6 : decode cX4_init 6 = .ok (.putfield 9, 3) := by decide +kernel
theorem dX4_init_9 : decode cX4_init 9 = .ok (.aload_n 0, 1) := by decide +kernel
theorem dX4_init_10 : decode cX4_init 10 = .ok (.iconst 5, 1) := by decide +kernel
theorem dX4_init_11 : decode cX4_init 11 = .ok (.newarray .int, 2) := by decide +kernel
theorem dX4_init_13 : decode cX4_init 13 = .ok (.putfield 15, 3) := by decide +kernel
theorem dX4_init_16 : decode cX4_init 16 = .ok (.aload_n 0, 1) := by decide +kernel
theorem dX4_init_17 : decode cX4_init 17 = .ok (.iconst 5, 1) := by decide +kernel
theorem dX4_init_18 : decode cX4_init 18 = .ok (.newarray .int, 2) := by decide +kernel
theorem dX4_init_20 : decode cX4_init 20 = .ok (.putfield 19, 3) := by decide +kernel
theorem dX4_init_23 : decode cX4_init 23 = .ok (.aload_n 0, 1) := by decide +kernel
theorem dX4_init_24 : decode cX4_init 24 = .ok (.iconst 5, 1) := by decide +kernel
theorem dX4_init_25 : decode cX4_init 25 = .ok (.bipush 7, 2) := by decide +kernel
theorem dX4_init_27 : decode cX4_init 27 = .ok (.multianewarray 22 2, 4) := by decide +kernel
theorem dX4_init_31 : decode cX4_init 31 = .ok (.putfield 24, 3) := by decide +kernel
theorem dX4_init_34 : decode cX4_init 34 = .ok (.aload_n 0, 1) := by decide +kernel
theorem dX4_init_35 : decode cX4_init 35 = .ok (.iconst 5, 1) := by decide +kernel
theorem dX4_init_36 : decode cX4_init 36 = .ok (.iconst 5, 1) := by decide +kernel
theorem dX4_init_37 : decode cX4_init 37 = .ok (.multianewarray 22 2, 4) := by decide +kernel
theorem dX4_init_41 : decode cX4_init 41 = .ok (.putfield 27, 3) := by decide +kernel
theorem dX4_init_44 : decode cX4_init 44 = .ok (.aload_n 0, 1) := by decide +kernel
theorem dX4_init_45 : decode cX4_init 45 = .ok (.iconst 5, 1) := by decide +kernel
theorem dX4_init_46 : decode cX4_init 46 = .ok (.newarray .int, 2) := by decide +kernel
theorem dX4_init_48 : decode cX4_init 48 = .ok (.putfield 30, 3) := by decide +kernel
theorem dX4_init_51 : decode cX4_init 51 = .ok (.iconst 0, 1) := by decide +kernel
theorem dX4_init_52 : decode cX4_init 52 = .ok (.istore_n 1, 1) := by decide +kernel
theorem dX4_init_53 : decode cX4_init 53 = .ok (.iload_n 1, 1) := by decide +kernel
theorem dX4_init_54 : decode cX4_init 54 = .ok (.iconst 5, 1) := by decide +kernel
theorem dX4_init_55 : decode cX4_init 55 = .ok (.if_icmp .ge 41, 3) := by decide +kernel
theorem dX4_init_58 : decode cX4_init 58 = .ok (.iconst 0, 1) := by decide +kernel
theorem dX4_init_59 : decode cX4_init 59 = .ok (.istore_n 2, 1) := by decide +kernel
theorem dX4_init_60 : decode cX4_init 60 = .ok (.iload_n 2, 1) := by decide +kernel
theorem dX4_init_61 : decode cX4_init 61 = .ok (.iconst 5, 1) := by decide +kernel
theorem dX4_init_62 : decode cX4_init 62 = .ok (.if_icmp .ge 28, 3) := by decide +kernel
theorem dX4_init_65 : decode cX4_init 65 = .ok (.aload_n 0, 1) := by decide +kernel
theorem dX4_init_66 : decode cX4_init 66 = .ok (.getfield 27, 3) := by decide +kernel
theorem dX4_init_69 : decode cX4_init 69 = .ok (.iload_n 1, 1) := by decide +kernel
theorem dX4_init_70 : decode cX4_init 70 = .ok (.aaload, 1) := by decide +kernel
theorem dX4_init_71 : decode cX4_init 71 = .ok (.iload_n 2, 1) := by decide +kernel
theorem dX4_init_72 : decode cX4_init 72 = .ok (.iload_n 1, 1) := by decide +kernel
theorem dX4_init_73 : decode cX4_init 73 = .ok (.iload_n 2, 1) := by decide +kernel
theorem dX4_init_74 : decode cX4_init 74 = .ok (.if_icmp .ne 7, 3) := by decide +kernel
theorem dX4_init_77 : decode cX4_init 77 = .ok (.iconst 0, 1) := by decide +kernel
theorem dX4_init_78 : decode cX4_init 78 = .ok (.goto 5, 3) := by decide +kernel
theorem dX4_init_81 : decode cX4_init 81 = .ok (.bipush 10, 2) := by decide +kernel
theorem dX4_init_83 : decode cX4_init 83 = .ok (.iastore, 1) := by decide +kernel
theorem dX4_init_84 : decode cX4_init 84 = .ok (.iinc 2 1, 3) := by decide +kernel
theorem dX4_init_87 : decode cX4_init 87 = .ok (.goto (-27), 3) := by decide +kernel
theorem dX4_init_90 : decode cX4_init 90 = .ok (.iinc 1 1, 3) := by decide +kernel
theorem dX4_init_93 : decode cX4_init 93 = .ok (.goto (-40), 3) := by decide +kernel
theorem dX4_init_96 : decode cX4_init 96 = .ok (.return_, 1) := by decide +kernel
theorem dX4_add_0 : decode cX4_add 0 = .ok (.aload_n 0, 1) := by decide +kernel
theorem dX4_add_1 : decode cX4_add 1 = .ok (.getfield 9, 3) := by decide +kernel
theorem dX4_add_4 : decode cX4_add 4 = .ok (.iconst 5, 1) := by decide +kernel
theorem dX4_add_5 : decode cX4_add 5 = .ok (.if_icmp .lt 6, 3) := by decide +kernel
theorem dX4_add_8 : decode cX4_add 8 = .ok (.bipush (-2), 2) := by decide +kernel
theorem dX4_add_10 : decode cX4_add 10 = .ok (.ireturn, 1) := by decide +kernel
theorem dX4_add_11 : decode cX4_add 11 = .ok (.aload_n 0, 1) := by decide +kernel
theorem dX4_add_12 : decode cX4_add 12 = .ok (.getfield 15, 3) := by decide +kernel
theorem dX4_add_15 : decode cX4_add 15 = .ok (.aload_n 0, 1) := by decide +kernel
theorem dX4_add_16 : decode cX4_add 16 = .ok (.getfield 9, 3) := by decide +kernel
theorem dX4_add_19 : decode cX4_add 19 = .ok (.iload_n 1, 1) := by decide +kernel
theorem dX4_add_20 : decode cX4_add 20 = .ok (.iastore, 1) := by decide +kernel
theorem dX4_add_21 : decode cX4_add 21 = .ok (.aload_n 0, 1) := by decide +kernel
theorem dX4_add_22 : decode cX4_add 22 = .ok (.getfield 19, 3) := by decide +kernel
theorem dX4_add_25 : decode cX4_add 25 = .ok (.aload_n 0, 1) := by decide +kernel
theorem dX4_add_26 : decode cX4_add 26 = .ok (.getfield 9, 3) := by decide +kernel
theorem dX4_add_29 : decode cX4_add 29 = .ok (.iload_n 2, 1) := by decide +kernel
theorem dX4_add_30 : decode cX4_add 30 = .ok (.iastore, 1) := by decide +kernel
theorem dX4_add_31 : decode cX4_add 31 = .ok (.aload_n 0, 1) := by decide +kernel
theorem dX4_add_32 : decode cX4_add 32 = .ok (.dup, 1) := by decide +kernel
theorem dX4_add_33 : decode cX4_add 33 = .ok (.getfield 9, 3) := by decide +kernel
theorem dX4_add_36 : decode cX4_add 36 = .ok (.iconst 1, 1) := by decide +kernel
theorem dX4_add_37 : decode cX4_add 37 = .ok (.iadd, 1) := by decide +kernel
theorem dX4_add_38 : decode cX4_add 38 = .ok (.putfield 9, 3) := by decide +kernel
theorem dX4_add_41 : decode cX4_add 41 = .ok (.aload_n 0, 1) := by decide +kernel
theorem dX4_add_42 : decode cX4_add 42 = .ok (.getfield 9, 3) := by decide +kernel
theorem dX4_add_45 : decode cX4_add 45 = .ok (.iconst 1, 1) := by decide +kernel
theorem dX4_add_46 : decode cX4_add 46 = .ok (.isub, 1) := by decide +kernel
theorem dX4_add_47 : decode cX4_add 47 = .ok (.ireturn, 1) := by decide +kernel
theorem dX4_countBays_0 : decode cX4_countBays 0 = .ok (.iconst 0, 1) := by decide +kernel
theorem dX4_countBays_1 : decode cX4_countBays 1 = .ok (.istore_n 1, 1) := by decide +kernel
theorem dX4_countBays_2 : decode cX4_countBays 2 = .ok (.iconst 0, 1) := by decide +kernel
theorem dX4_countBays_3 : decode cX4_countBays 3 = .ok (.istore_n 2, 1) := by decide +kernel
theorem dX4_countBays_4 : decode cX4_countBays 4 = .ok (.iload_n 2, 1) := by decide +kernel
theorem dX4_countBays_5 : decode cX4_countBays 5 = .ok (.aload_n 0, 1) := by decide +kernel
theorem dX4_countBays_6 : decode cX4_countBays 6 = .ok (.getfield 9, 3) := by decide +kernel
theorem dX4_countBays_9 : decode cX4_countBays 9 = .ok (.if_icmp .ge 18, 3) := by decide +kernel
theorem dX4_countBays_12 : decode cX4_countBays 12 = .ok (.iload_n 1, 1) := by decide +kernel
theorem dX4_countBays_13 : decode cX4_countBays 13 = .ok (.aload_n 0, 1) := by decide +kernel
theorem dX4_countBays_14 : decode cX4_countBays 14 = .ok (.getfield 19, 3) := by decide +kernel
theorem dX4_countBays_17 : decode cX4_countBays 17 = .ok (.iload_n 2, 1) := by decide +kernel
theorem dX4_countBays_18 : decode cX4_countBays 18 = .ok (.iaload, 1) := by decide +kernel
theorem dX4_countBays_19 : decode cX4_countBays 19 = .ok (.iadd, 1) := by decide +kernel
theorem dX4_countBays_20 : decode cX4_countBays 20 = .ok (.istore_n 1, 1) := by decide +kernel
theorem dX4_countBays_21 : decode cX4_countBays 21 = .ok (.iinc 2 1, 3) := by decide +kernel
theorem dX4_countBays_24 : decode cX4_countBays 24 = .ok (.goto (-20), 3) := by decide +kernel
theorem dX4_countBays_27 : decode cX4_countBays 27 = .ok (.iload_n 1, 1) := by decide +kernel
theorem dX4_countBays_28 : decode cX4_countBays 28 = .ok (.ireturn, 1) := by decide +kernel
theorem dX5_init_0 : decode cX5_init 0 = .ok (.aload_n 0, 1) := by decide +kernel
theorem dX5_init_1 : decode cX5_init 1 = .ok (.invokespecial 3, 3) := by decide +kernel
theorem dX5_init_4 : decode cX5_init 4 = .ok (.aload_n 0, 1) := by decide +kernel
theorem dX5_init_5 : decode cX5_init 5 = .ok (.iconst 0, 1) := by decide +kernel
theorem dX5_init_6 : decode cX5_init 6 = .ok (.putfield 9, 3) := by decide +kernel
theorem dX5_init_9 : decode cX5_init 9 = .ok (.aload_n 0, 1) := by decide +kernel
theorem dX5_init_10 : decode cX5_init 10 = .ok (.bipush 20, 2) := by decide +kernel
theorem dX5_init_12 : decode cX5_init 12 = .ok (.bipush 6, 2) := by decide +kernel
theorem dX5_init_14 : decode cX5_init 14 = .ok (.multianewarray 15 2, 4) := by decide +kernel
theorem dX5_init_18 : decode cX5_init 18 = .ok (.putfield 17, 3) := by decide +kernel
theorem dX5_init_21 : decode cX5_init 21 = .ok (.return_, 1) := by decide +kernel
theorem dX5_add_0 : decode cX5_add 0 = .ok (.aload_n 0, 1) := by decide +kernel
theorem dX5_add_1 : decode cX5_add 1 = .ok (.getfield 9, 3) := by decide +kernel
theorem dX5_add_4 : decode cX5_add 4 = .ok (.bipush 20, 2) := by decide +kernel
theorem dX5_add_6 : decode cX5_add 6 = .ok (.if_icmp .lt 6, 3) := by decide +kernel
theorem dX5_add_9 : decode cX5_add 9 = .ok (.bipush (-2), 2) := by decide +kernel
theorem dX5_add_11 : decode cX5_add 11 = .ok (.ireturn, 1) := by decide +kernel
theorem dX5_add_12 : decode cX5_add 12 = .ok (.aload_n 0, 1) := by decide +kernel
theorem dX5_add_13 : decode cX5_add 13 = .ok (.getfield 17, 3) := by decide +kernel
theorem dX5_add_16 : decode cX5_add 16 = .ok (.aload_n 0, 1) := by decide +kernel
theorem dX5_add_17 : decode cX5_add 17 = .ok (.getfield 9, 3) := by decide +kernel
theorem dX5_add_20 : decode cX5_add 20 = .ok (.aaload, 1) := by decide +kernel
theorem dX5_add_21 : decode cX5_add 21 = .ok (.iconst 0, 1) := by decide +kernel
theorem dX5_add_22 : decode cX5_add 22 = .ok (.iload_n 1, 1) := by decide +kernel
theorem dX5_add_23 : decode cX5_add 23 = .ok (.iastore, 1) := by decide +kernel
theorem dX5_add_24 : decode cX5_add 24 = .ok (.aload_n 0, 1) := by decide +kernel
theorem dX5_add_25 : decode cX5_add 25 = .ok (.getfield 17, 3) := by decide +kernel
theorem dX5_add_28 : decode cX5_add 28 = .ok (.aload_n 0, 1) := by decide +kernel
theorem dX5_add_29 : decode cX5_add 29 = .ok (.getfield 9, 3) := by decide +kernel
theorem dX5_add_32 : decode cX5_add 32 = .ok (.aaload, 1) := by decide +kernel
theorem dX5_add_33 : decode cX5_add 33 = .ok (.iconst 1, 1) := by decide +kernel
theorem dX5_add_34 : decode cX5_add 34 = .ok (.iload_n 2, 1) := by decide +kernel
theorem dX5_add_35 : decode cX5_add 35 = .ok (.iastore, 1) := by decide +kernel
theorem dX5_add_36 : decode cX5_add 36 = .ok (.aload_n 0, 1) := by decide +kernel
theorem dX5_add_37 : decode cX5_add 37 = .ok (.getfield 17, 3) := by decide +kernel
theorem dX5_add_40 : decode cX5_add 40 = .ok (.aload_n 0, 1) := by decide +kernel
theorem dX5_add_41 : decode cX5_add 41 = .ok (.getfield 9, 3) := by decide +kernel
theorem dX5_add_44 : decode cX5_add 44 = .ok (.aaload, 1) := by decide +kernel
theorem dX5_add_45 : decode cX5_add 45 = .ok (.iconst 2, 1) := by decide +kernel
theorem dX5_add_46 : decode cX5_add 46 = .ok (.iload_n 3, 1) := by decide +kernel
theorem dX5_add_47 : decode cX5_add 47 = .ok (.iastore, 1) := by decide +kernel
theorem dX5_add_48 : decode cX5_add 48 = .ok (.aload_n 0, 1) := by decide +kernel
theorem dX5_add_49 : decode cX5_add 49 = .ok (.getfield 17, 3) := by decide +kernel
theorem dX5_add_52 : decode cX5_add 52 = .ok (.aload_n 0, 1) := by decide +kernel
theorem dX5_add_53 : decode cX5_add 53 = .ok (.getfield 9, 3) := by decide +kernel
theorem dX5_add_56 : decode cX5_add 56 = .ok (.aaload, 1) := by decide +kernel
theorem dX5_add_57 : decode cX5_add 57 = .ok (.iconst 3, 1) := by decide +kernel
theorem dX5_add_58 : decode cX5_add 58 = .ok (.iload 4, 2) := by decide +kernel
theorem dX5_add_60 : decode cX5_add 60 = .ok (.iastore, 1) := by decide +kernel
theorem dX5_add_61 : decode cX5_add 61 = .ok (.aload_n 0, 1) := by decide +kernel
theorem dX5_add_62 : decode cX5_add 62 = .ok (.getfield 17, 3) := by decide +kernel
theorem dX5_add_65 : decode cX5_add 65 = .ok (.aload_n 0, 1) := by decide +kernel
theorem dX5_add_66 : decode cX5_add 66 = .ok (.getfield 9, 3) := by decide +kernel
theorem dX5_add_69 : decode cX5_add 69 = .ok (.aaload, 1) := by decide +kernel
theorem dX5_add_70 : decode cX5_add 70 = .ok (.iconst 4, 1) := by decide +kernel
theorem dX5_add_71 : decode cX5_add 71 = .ok (.iload 5, 2) := by decide +kernel
theorem dX5_add_73 : decode cX5_add 73 = .ok (.iastore, 1) := by decide +kernel
theorem dX5_add_74 : decode cX5_add 74 = .ok (.aload_n 0, 1) := by decide +kernel
theorem dX5_add_75 : decode cX5_add 75 = .ok (.getfield 17, 3) := by decide +kernel
theorem dX5_add_78 : decode cX5_add 78 = .ok (.aload_n 0, 1) := by decide +kernel
theorem dX5_add_79 : decode cX5_add 79 = .ok (.getfield 9, 3) := by decide +kernel
theorem dX5_add_82 : decode cX5_add 82 = .ok (.aaload, 1) := by decide +kernel
theorem dX5_add_83 : decode cX5_add 83 = .ok (.iconst 5, 1) := by decide +kernel
theorem dX5_add_84 : decode cX5_add 84 = .ok (.iload 6, 2) := by decide +kernel
theorem dX5_add_86 : decode cX5_add 86 = .ok (.iastore, 1) := by decide +kernel
theorem dX5_add_87 : decode cX5_add 87 = .ok (.aload_n 0, 1) := by decide +kernel
theorem dX5_add_88 : decode cX5_add 88 = .ok (.dup, 1) := by decide +kernel
theorem dX5_add_89 : decode cX5_add 89 = .ok (.getfield 9, 3) := by decide +kernel
theorem dX5_add_92 : decode cX5_add 92 = .ok (.iconst 1, 1) := by decide +kernel
theorem dX5_add_93 : decode cX5_add 93 = .ok (.iadd, 1) := by decide +kernel
theorem dX5_add_94 : decode cX5_add 94 = .ok (.putfield 9, 3) := by decide +kernel
theorem dX5_add_97 : decode cX5_add 97 = .ok (.aload_n 0, 1) := by decide +kernel
theorem dX5_add_98 : decode cX5_add 98 = .ok (.getfield 9, 3) := by decide +kernel
theorem dX5_add_101 : decode cX5_add 101 = .ok (.iconst 1, 1) := by decide +kernel
theorem dX5_add_102 : decode cX5_add 102 = .ok (.isub, 1) := by decide +kernel
theorem dX5_add_103 : decode cX5_add 103 = .ok (.ireturn, 1) := by decide +kernel
theorem dX5_judge_0 : decode cX5_judge 0 = .ok (.iload_n 0, 1) := by decide +kernel
theorem dX5_judge_1 : decode cX5_judge 1 = .ok (.ifCond .ne 7, 3) := by decide +kernel
theorem dX5_judge_4 : decode cX5_judge 4 = .ok (.iload_n 1, 1) := by decide +kernel
theorem dX5_judge_5 : decode cX5_judge 5 = .ok (.ifCond .ne 5, 3) := by decide +kernel
theorem dX5_judge_8 : decode cX5_judge 8 = .ok (.iconst 0, 1) := by decide +kernel
theorem dX5_judge_9 : decode cX5_judge 9 = .ok (.ireturn, 1) := by decide +kernel
theorem dX5_judge_10 : decode cX5_judge 10 = .ok (.iload_n 1, 1) := by decide +kernel
theorem dX5_judge_11 : decode cX5_judge 11 = .ok (.iconst 1, 1) := by decide +kernel
theorem dX5_judge_12 : decode cX5_judge 12 = .ok (.if_icmp .ne 7, 3) := by decide +kernel
theorem dX5_judge_15 : decode cX5_judge 15 = .ok (.iconst 1, 1) := by decide +kernel
theorem dX5_judge_16 : decode cX5_judge 16 = .ok (.goto 4, 3) := by decide +kernel
theorem dX5_judge_19 : decode cX5_judge 19 = .ok (.iconst 2, 1) := by decide +kernel
theorem dX5_judge_20 : decode cX5_judge 20 = .ok (.ireturn, 1) := by decide +kernel
theorem dX5_countState_0 : decode cX5_countState 0 = .ok (.iconst 0, 1) := by decide +kernel
theorem dX5_countState_1 : decode cX5_countState 1 = .ok (.istore_n 2, 1) := by decide +kernel
theorem dX5_countState_2 : decode cX5_countState 2 = .ok (.iconst 0, 1) := by decide +kernel
theorem dX5_countState_3 : decode cX5_countState 3 = .ok (.istore_n 3, 1) := by decide +kernel
theorem dX5_countState_4 : decode cX5_countState 4 = .ok (.iload_n 3, 1) := by decide +kernel
theorem dX5_countState_5 : decode cX5_countState 5 = .ok (.aload_n 0, 1) := by decide +kernel
theorem dX5_countState_6 : decode cX5_countState 6 = .ok (.getfield 9, 3) := by decide +kernel
theorem dX5_countState_9 : decode cX5_countState 9 = .ok (.if_icmp .ge 24, 3) := by decide +kernel
theorem dX5_countState_12 : decode cX5_countState 12 = .ok (.aload_n 0, 1) := by decide +kernel
theorem dX5_countState_13 : decode cX5_countState 13 = .ok (.getfield 17, 3) := by decide +kernel
theorem dX5_countState_16 : decode cX5_countState 16 = .ok (.iload_n 3, 1) := by decide +kernel
theorem dX5_countState_17 : decode cX5_countState 17 = .ok (.aaload, 1) := by decide +kernel
theorem dX5_countState_18 : decode cX5_countState 18 = .ok (.iconst 5, 1) := by decide +kernel
theorem dX5_countState_19 : decode cX5_countState 19 = .ok (.iaload, 1) := by decide +kernel
theorem dX5_countState_20 : decode cX5_countState 20 = .ok (.iload_n 1, 1) := by decide +kernel
theorem dX5_countState_21 : decode cX5_countState 21 = .ok (.if_icmp .ne 6, 3) := by decide +kernel
theorem dX5_countState_24 : decode cX5_countState 24 = .ok (.iinc 2 1, 3) := by decide +kernel
theorem dX5_countState_27 : decode cX5_countState 27 = .ok (.iinc 3 1, 3) := by decide +kernel
theorem dX5_countState_30 : decode cX5_countState 30 = .ok (.goto (-26), 3) := by decide +kernel
theorem dX5_countState_33 : decode cX5_countState 33 = .ok (.iload_n 2, 1) := by decide +kernel
theorem dX5_countState_34 : decode cX5_countState 34 = .ok (.ireturn, 1) := by decide +kernel
theorem dX5_countLikes_0 : decode cX5_countLikes 0 = .ok (.iconst 0, 1) := by decide +kernel
theorem dX5_countLikes_1 : decode cX5_countLikes 1 = .ok (.istore_n 3, 1) := by decide +kernel
theorem dX5_countLikes_2 : decode cX5_countLikes 2 = .ok (.iconst 0, 1) := by decide +kernel
theorem dX5_countLikes_3 : decode cX5_countLikes 3 = .ok (.istore 4, 2) := by decide +kernel
theorem dX5_countLikes_5 : decode cX5_countLikes 5 = .ok (.iload 4, 2) := by decide +kernel
theorem dX5_countLikes_7 : decode cX5_countLikes 7 = .ok (.aload_n 0, 1) := by decide +kernel
theorem dX5_countLikes_8 : decode cX5_countLikes 8 = .ok (.getfield 9, 3) := by decide +kernel
theorem dX5_countLikes_11 : decode cX5_countLikes 11 = .ok (.if_icmp .ge 41, 3) := by decide +kernel
theorem dX5_countLikes_14 : decode cX5_countLikes 14 = .ok (.iload 4, 2) := by decide +kernel
theorem dX5_countLikes_16 : decode cX5_countLikes 16 = .ok (.iload_n 1, 1) := by decide +kernel
theorem dX5_countLikes_17 : decode cX5_countLikes 17 = .ok (.if_icmp .eq 29, 3) := by decide +kernel
theorem dX5_countLikes_20 : decode cX5_countLikes 20 = .ok (.aload_n 0, 1) := by decide +kernel
theorem dX5_countLikes_21 : decode cX5_countLikes 21 = .ok (.getfield 17, 3) := by decide +kernel
theorem dX5_countLikes_24 : decode cX5_countLikes 24 = .ok (.iload 4, 2) := by decide +kernel
theorem dX5_countLikes_26 : decode cX5_countLikes 26 = .ok (.aaload, 1) := by decide +kernel
theorem dX5_countLikes_27 : decode cX5_countLikes 27 = .ok (.iconst 3, 1) := by decide +kernel
theorem dX5_countLikes_28 : decode cX5_countLikes 28 = .ok (.iaload, 1) := by decide +kernel
theorem dX5_countLikes_29 : decode cX5_countLikes 29 = .ok (.iload_n 2, 1) := by decide +kernel
theorem dX5_countLikes_30 : decode cX5_countLikes 30 = .ok (.if_icmp .ne 16, 3) := by decide +kernel
theorem dX5_countLikes_33 : decode cX5_countLikes 33 = .ok (.aload_n 0, 1) := by decide +kernel
theorem dX5_countLikes_34 : decode cX5_countLikes 34 = .ok (.iload_n 1, 1) := by decide +kernel
theorem dX5_countLikes_35 : decode cX5_countLikes 35 = .ok (.iload 4, 2) := by decide +kernel
theorem dX5_countLikes_37 : decode cX5_countLikes 37 = .ok (.invokevirtual 20, 3) := by decide +kernel
theorem dX5_countLikes_40 : decode cX5_countLikes 40 = .ok (.ifCond .eq 6, 3) := by decide +kernel
theorem dX5_countLikes_43 : decode cX5_countLikes 43 = .ok (.iinc 3 1, 3) := by decide +kernel
theorem dX5_countLikes_46 : decode cX5_countLikes 46 = .ok (.iinc 4 1, 3) := by decide +kernel
theorem dX5_countLikes_49 : decode cX5_countLikes 49 = .ok (.goto (-44), 3) := by decide +kernel
theorem dX5_countLikes_52 : decode cX5_countLikes 52 = .ok (.iload_n 3, 1) := by decide +kernel
theorem dX5_countLikes_53 : decode cX5_countLikes 53 = .ok (.ireturn, 1) := by decide +kernel
theorem dX5_isSameZoneAndHour_0 : decode cX5_isSameZoneAndHour 0 = .ok (.aload_n 0, 1) := by decide +kernel
theorem dX5_isSameZoneAndHour_1 : decode cX5_isSameZoneAndHour 1 = .ok (.getfield 17, 3) := by decide +kernel
theorem dX5_isSameZoneAndHour_4 : decode cX5_isSameZoneAndHour 4 = .ok (.iload_n 1, 1) := by decide +kernel
theorem dX5_isSameZoneAndHour_5 : decode cX5_isSameZoneAndHour 5 = .ok (.aaload, 1) := by decide +kernel
theorem dX5_isSameZoneAndHour_6 : decode cX5_isSameZoneAndHour 6 = .ok (.iconst 4, 1) := by decide +kernel
theorem dX5_isSameZoneAndHour_7 : decode cX5_isSameZoneAndHour 7 = .ok (.iaload, 1) := by decide +kernel
theorem dX5_isSameZoneAndHour_8 : decode cX5_isSameZoneAndHour 8 = .ok (.aload_n 0, 1) := by decide +kernel
theorem dX5_isSameZoneAndHour_9 : decode cX5_isSameZoneAndHour 9 = .ok (.getfield 17, 3) := by decide +kernel
theorem dX5_isSameZoneAndHour_12 : decode cX5_isSameZoneAndHour 12 = .ok (.iload_n 2, 1) := by decide +kernel
theorem dX5_isSameZoneAndHour_13 : decode cX5_isSameZoneAndHour 13 = .ok (.aaload, 1) := by decide +kernel
theorem dX5_isSameZoneAndHour_14 : decode cX5_isSameZoneAndHour 14 = .ok (.iconst 4, 1) := by decide +kernel
theorem dX5_isSameZoneAndHour_15 : decode cX5_isSameZoneAndHour 15 = .ok (.iaload, 1) := by decide +kernel
theorem dX5_isSameZoneAndHour_16 : decode cX5_isSameZoneAndHour 16 = .ok (.if_icmp .ne 26, 3) := by decide +kernel
theorem dX5_isSameZoneAndHour_19 : decode cX5_isSameZoneAndHour 19 = .ok (.aload_n 0, 1) := by decide +kernel
theorem dX5_isSameZoneAndHour_20 : decode cX5_isSameZoneAndHour 20 = .ok (.getfield 17, 3) := by decide +kernel
theorem dX5_isSameZoneAndHour_23 : decode cX5_isSameZoneAndHour 23 = .ok (.iload_n 1, 1) := by decide +kernel
theorem dX5_isSameZoneAndHour_24 : decode cX5_isSameZoneAndHour 24 = .ok (.aaload, 1) := by decide +kernel
theorem dX5_isSameZoneAndHour_25 : decode cX5_isSameZoneAndHour 25 = .ok (.iconst 2, 1) := by decide +kernel
theorem dX5_isSameZoneAndHour_26 : decode cX5_isSameZoneAndHour 26 = .ok (.iaload, 1) := by decide +kernel
theorem dX5_isSameZoneAndHour_27 : decode cX5_isSameZoneAndHour 27 = .ok (.aload_n 0, 1) := by decide +kernel
theorem dX5_isSameZoneAndHour_28 : decode cX5_isSameZoneAndHour 28 = .ok (.getfield 17, 3) := by decide +kernel
theorem dX5_isSameZoneAndHour_31 : decode cX5_isSameZoneAndHour 31 = .ok (.iload_n 2, 1) := by decide +kernel
theorem dX5_isSameZoneAndHour_32 : decode cX5_isSameZoneAndHour 32 = .ok (.aaload, 1) := by decide +kernel
theorem dX5_isSameZoneAndHour_33 : decode cX5_isSameZoneAndHour 33 = .ok (.iconst 2, 1) := by decide +kernel
theorem dX5_isSameZoneAndHour_34 : decode cX5_isSameZoneAndHour 34 = .ok (.iaload, 1) := by decide +kernel
theorem dX5_isSameZoneAndHour_35 : decode cX5_isSameZoneAndHour 35 = .ok (.if_icmp .ne 7, 3) := by decide +kernel
theorem dX5_isSameZoneAndHour_38 : decode cX5_isSameZoneAndHour 38 = .ok (.iconst 1, 1) := by decide +kernel
theorem dX5_isSameZoneAndHour_39 : decode cX5_isSameZoneAndHour 39 = .ok (.goto 4, 3) := by decide +kernel
theorem dX5_isSameZoneAndHour_42 : decode cX5_isSameZoneAndHour 42 = .ok (.iconst 0, 1) := by decide +kernel
theorem dX5_isSameZoneAndHour_43 : decode cX5_isSameZoneAndHour 43 = .ok (.ireturn, 1) := by decide +kernel
theorem dX5_stateByLikes_0 : decode cX5_stateByLikes 0 = .ok (.aload_n 0, 1) := by decide +kernel
theorem dX5_stateByLikes_1 : decode cX5_stateByLikes 1 = .ok (.getfield 17, 3) := by decide +kernel
theorem dX5_stateByLikes_4 : decode cX5_stateByLikes 4 = .ok (.iload_n 1, 1) := by decide +kernel
theorem dX5_stateByLikes_5 : decode cX5_stateByLikes 5 = .ok (.aaload, 1) := by decide +kernel
theorem dX5_stateByLikes_6 : decode cX5_stateByLikes 6 = .ok (.iconst 5, 1) := by decide +kernel
theorem dX5_stateByLikes_7 : decode cX5_stateByLikes 7 = .ok (.iaload, 1) := by decide +kernel
theorem dX5_stateByLikes_8 : decode cX5_stateByLikes 8 = .ok (.iconst 2, 1) := by decide +kernel
theorem dX5_stateByLikes_9 : decode cX5_stateByLikes 9 = .ok (.if_icmp .eq 12, 3) := by decide +kernel
theorem dX5_stateByLikes_12 : decode cX5_stateByLikes 12 = .ok (.aload_n 0, 1) := by decide +kernel
theorem dX5_stateByLikes_13 : decode cX5_stateByLikes 13 = .ok (.getfield 17, 3) := by decide +kernel
theorem dX5_stateByLikes_16 : decode cX5_stateByLikes 16 = .ok (.iload_n 1, 1) := by decide +kernel
theorem dX5_stateByLikes_17 : decode cX5_stateByLikes 17 = .ok (.aaload, 1) := by decide +kernel
theorem dX5_stateByLikes_18 : decode cX5_stateByLikes 18 = .ok (.iconst 5, 1) := by decide +kernel
theorem dX5_stateByLikes_19 : decode cX5_stateByLikes 19 = .ok (.iaload, 1) := by decide +kernel
theorem dX5_stateByLikes_20 : decode cX5_stateByLikes 20 = .ok (.ireturn, 1) := by decide +kernel
theorem dX5_stateByLikes_21 : decode cX5_stateByLikes 21 = .ok (.aload_n 0, 1) := by decide +kernel
theorem dX5_stateByLikes_22 : decode cX5_stateByLikes 22 = .ok (.iload_n 1, 1) := by decide +kernel
theorem dX5_stateByLikes_23 : decode cX5_stateByLikes 23 = .ok (.iconst 1, 1) := by decide +kernel
theorem dX5_stateByLikes_24 : decode cX5_stateByLikes 24 = .ok (.invokevirtual 24, 3) := by decide +kernel
theorem dX5_stateByLikes_27 : decode cX5_stateByLikes 27 = .ok (.istore_n 2, 1) := by decide +kernel
theorem dX5_stateByLikes_28 : decode cX5_stateByLikes 28 = .ok (.aload_n 0, 1) := by decide +kernel
theorem dX5_stateByLikes_29 : decode cX5_stateByLikes 29 = .ok (.iload_n 1, 1) := by decide +kernel
theorem dX5_stateByLikes_30 : decode cX5_stateByLikes 30 = .ok (.iconst 0, 1) := by decide +kernel
theorem dX5_stateByLikes_31 : decode cX5_stateByLikes 31 = .ok (.invokevirtual 24, 3) := by decide +kernel
theorem dX5_stateByLikes_34 : decode cX5_stateByLikes 34 = .ok (.istore_n 3, 1) := by decide +kernel
theorem dX5_stateByLikes_35 : decode cX5_stateByLikes 35 = .ok (.iload_n 2, 1) := by decide +kernel
theorem dX5_stateByLikes_36 : decode cX5_stateByLikes 36 = .ok (.iload_n 3, 1) := by decide +kernel
theorem dX5_stateByLikes_37 : decode cX5_stateByLikes 37 = .ok (.if_icmp .ne 5, 3) := by decide +kernel
theorem dX5_stateByLikes_40 : decode cX5_stateByLikes 40 = .ok (.iconst 2, 1) := by decide +kernel
theorem dX5_stateByLikes_41 : decode cX5_stateByLikes 41 = .ok (.ireturn, 1) := by decide +kernel
theorem dX5_stateByLikes_42 : decode cX5_stateByLikes 42 = .ok (.iload_n 2, 1) := by decide +kernel
theorem dX5_stateByLikes_43 : decode cX5_stateByLikes 43 = .ok (.iload_n 3, 1) := by decide +kernel
theorem dX5_stateByLikes_44 : decode cX5_stateByLikes 44 = .ok (.if_icmp .le 7, 3) := by decide +kernel
theorem dX5_stateByLikes_47 : decode cX5_stateByLikes 47 = .ok (.iconst 1, 1) := by decide +kernel
theorem dX5_stateByLikes_48 : decode cX5_stateByLikes 48 = .ok (.goto 4, 3) := by decide +kernel
theorem dX5_stateByLikes_51 : decode cX5_stateByLikes 51 = .ok (.iconst 0, 1) := by decide +kernel
theorem dX5_stateByLikes_52 : decode cX5_stateByLikes 52 = .ok (.ireturn, 1) := by decide +kernel
theorem dX6_init_0 : decode cX6_init 0 = .ok (.aload_n 0, 1) := by decide +kernel
theorem dX6_init_1 : decode cX6_init 1 = .ok (.invokespecial 3, 3) := by decide +kernel
theorem dX6_init_4 : decode cX6_init 4 = .ok (.aload_n 0, 1) := by decide +kernel
theorem dX6_init_5 : decode cX6_init 5 = .ok (.bipush 100, 2) := by decide +kernel
theorem dX6_init_7 : decode cX6_init 7 = .ok (.putfield 9, 3) := by decide +kernel
theorem dX6_init_10 : decode cX6_init 10 = .ok (.aload_n 0, 1) := by decide +kernel
theorem dX6_init_11 : decode cX6_init 11 = .ok (.aload_n 1, 1) := by decide +kernel
theorem dX6_init_12 : decode cX6_init 12 = .ok (.putfield 15, 3) := by decide +kernel
theorem dX6_init_15 : decode cX6_init 15 = .ok (.return_, 1) := by decide +kernel
theorem dX6_greatest_0 : decode cX6_greatest 0 = .ok (.new 19, 3) := by decide +kernel
theorem dX6_greatest_3 : decode cX6_greatest 3 = .ok (.dup, 1) := by decide +kernel
theorem dX6_greatest_4 : decode cX6_greatest 4 = .ok (.iconst 0, 1) := by decide +kernel
theorem dX6_greatest_5 : decode cX6_greatest 5 = .ok (.iconst 1, 1) := by decide +kernel
theorem dX6_greatest_6 : decode cX6_greatest 6 = .ok (.invokespecial 21, 3) := by decide +kernel
theorem dX6_greatest_9 : decode cX6_greatest 9 = .ok (.astore_n 1, 1) := by decide +kernel
theorem dX6_greatest_10 : decode cX6_greatest 10 = .ok (.iconst 0, 1) := by decide +kernel
theorem dX6_greatest_11 : decode cX6_greatest 11 = .ok (.istore_n 2, 1) := by decide +kernel
theorem dX6_greatest_12 : decode cX6_greatest 12 = .ok (.iload_n 2, 1) := by decide +kernel
theorem dX6_greatest_13 : decode cX6_greatest 13 = .ok (.aload_n 0, 1) := by decide +kernel
theorem dX6_greatest_14 : decode cX6_greatest 14 = .ok (.getfield 15, 3) := by decide +kernel
theorem dX6_greatest_17 : decode cX6_greatest 17 = .ok (.getfield 24, 3) := by decide +kernel
theorem dX6_greatest_20 : decode cX6_greatest 20 = .ok (.if_icmp .ge 104, 3) := by decide +kernel
theorem dX6_greatest_23 : decode cX6_greatest 23 = .ok (.iconst 0, 1) := by decide +kernel
theorem dX6_greatest_24 : decode cX6_greatest 24 = .ok (.istore_n 3, 1) := by decide +kernel
theorem dX6_greatest_25 : decode cX6_greatest 25 = .ok (.iconst 0, 1) := by decide +kernel
theorem dX6_greatest_26 : decode cX6_greatest 26 = .ok (.istore 4, 2) := by decide +kernel
theorem dX6_greatest_28 : decode cX6_greatest 28 = .ok (.iconst 0, 1) := by decide +kernel
theorem dX6_greatest_29 : decode cX6_greatest 29 = .ok (.istore 5, 2) := by decide +kernel
theorem dX6_greatest_31 : decode cX6_greatest 31 = .ok (.iload 5, 2) := by decide +kernel
theorem dX6_greatest_33 : decode cX6_greatest 33 = .ok (.aload_n 0, 1) := by decide +kernel
theorem dX6_greatest_34 : decode cX6_greatest 34 = .ok (.getfield 15, 3) := by decide +kernel
theorem dX6_greatest_37 : decode cX6_greatest 37 = .ok (.getfield 24, 3) := by decide +kernel
theorem dX6_greatest_40 : decode cX6_greatest 40 = .ok (.if_icmp .ge 47, 3) := by decide +kernel
theorem dX6_greatest_43 : decode cX6_greatest 43 = .ok (.aload_n 0, 1) := by decide +kernel
theorem dX6_greatest_44 : decode cX6_greatest 44 = .ok (.getfield 15, 3) := by decide +kernel
theorem dX6_greatest_47 : decode cX6_greatest 47 = .ok (.getfield 29, 3) := by decide +kernel
theorem dX6_greatest_50 : decode cX6_greatest 50 = .ok (.iload 5, 2) := by decide +kernel
theorem dX6_greatest_52 : decode cX6_greatest 52 = .ok (.iaload, 1) := by decide +kernel
theorem dX6_greatest_53 : decode cX6_greatest 53 = .ok (.aload_n 0, 1) := by decide +kernel
theorem dX6_greatest_54 : decode cX6_greatest 54 = .ok (.getfield 15, 3) := by decide +kernel
theorem dX6_greatest_57 : decode cX6_greatest 57 = .ok (.getfield 29, 3) := by decide +kernel
theorem dX6_greatest_60 : decode cX6_greatest 60 = .ok (.iload_n 2, 1) := by decide +kernel
theorem dX6_greatest_61 : decode cX6_greatest 61 = .ok (.iaload, 1) := by decide +kernel
theorem dX6_greatest_62 : decode cX6_greatest 62 = .ok (.if_icmp .lt 19, 3) := by decide +kernel
theorem dX6_greatest_65 : decode cX6_greatest 65 = .ok (.iload_n 3, 1) := by decide +kernel
theorem dX6_greatest_66 : decode cX6_greatest 66 = .ok (.aload_n 0, 1) := by decide +kernel
theorem dX6_greatest_67 : decode cX6_greatest 67 = .ok (.getfield 15, 3) := by decide +kernel
theorem dX6_greatest_70 : decode cX6_greatest 70 = .ok (.getfield 29, 3) := by decide +kernel
theorem dX6_greatest_73 : decode cX6_greatest 73 = .ok (.iload 5, 2) := by decide +kernel
theorem dX6_greatest_75 : decode cX6_greatest 75 = .ok (.iaload, 1) := by decide +kernel
theorem dX6_greatest_76 : decode cX6_greatest 76 = .ok (.iadd, 1) := by decide +kernel
theorem dX6_greatest_77 : decode cX6_greatest 77 = .ok (.istore_n 3, 1) := by decide +kernel
theorem dX6_greatest_78 : decode cX6_greatest 78 = .ok (.iinc 4 1, 3) := by decide +kernel
theorem dX6_greatest_81 : decode cX6_greatest 81 = .ok (.iinc 5 1, 3) := by decide +kernel
theorem dX6_greatest_84 : decode cX6_greatest 84 = .ok (.goto (-53), 3) := by decide +kernel
theorem dX6_greatest_87 : decode cX6_greatest 87 = .ok (.aload_n 1, 1) := by decide +kernel
theorem dX6_greatest_88 : decode cX6_greatest 88 = .ok (.iload_n 3, 1) := by decide +kernel
theorem dX6_greatest_89 : decode cX6_greatest 89 = .ok (.aload_n 0, 1) := by decide +kernel
theorem dX6_greatest_90 : decode cX6_greatest 90 = .ok (.getfield 9, 3) := by decide +kernel
theorem dX6_greatest_93 : decode cX6_greatest 93 = .ok (.isub, 1) := by decide +kernel
theorem dX6_greatest_94 : decode cX6_greatest 94 = .ok (.iload 4, 2) := by decide +kernel
theorem dX6_greatest_96 : decode cX6_greatest 96 = .ok (.invokevirtual 33, 3) := by decide +kernel
theorem dX6_greatest_99 : decode cX6_greatest 99 = .ok (.ifCond .eq 19, 3) := by decide +kernel
theorem dX6_greatest_102 : decode cX6_greatest 102 = .ok (.new 19, 3) := by decide +kernel
theorem dX6_greatest_105 : decode cX6_greatest 105 = .ok (.dup, 1) := by decide +kernel
theorem dX6_greatest_106 : decode cX6_greatest 106 = .ok (.iload_n 3, 1) := by decide +kernel
theorem dX6_greatest_107 : decode cX6_greatest 107 = .ok (.aload_n 0, 1) := by decide +kernel
theorem dX6_greatest_108 : decode cX6_greatest 108 = .ok (.getfield 9, 3) := by decide +kernel
theorem dX6_greatest_111 : decode cX6_greatest 111 = .ok (.isub, 1) := by decide +kernel
theorem dX6_greatest_112 : decode cX6_greatest 112 = .ok (.iload 4, 2) := by decide +kernel
theorem dX6_greatest_114 : decode cX6_greatest 114 = .ok (.invokespecial 21, 3) := by decide +kernel
theorem dX6_greatest_117 : decode cX6_greatest 117 = .ok (.astore_n 1, 1) := by decide +kernel
theorem dX6_greatest_118 : decode cX6_greatest 118 = .ok (.iinc 2 1, 3) := by decide +kernel
theorem dX6_greatest_121 : decode cX6_greatest 121 = .ok (.goto (-109), 3) := by decide +kernel
theorem dX6_greatest_124 : decode cX6_greatest 124 = .ok (.aload_n 1, 1) := by decide +kernel
theorem dX6_greatest_125 : decode cX6_greatest 125 = .ok (.areturn, 1) := by decide +kernel
theorem dX6_chance_0 : decode cX6_chance 0 = .ok (.aload_n 0, 1) := by decide +kernel
theorem dX6_chance_1 : decode cX6_chance 1 = .ok (.invokevirtual 37, 3) := by decide +kernel
theorem dX6_chance_4 : decode cX6_chance 4 = .ok (.astore_n 2, 1) := by decide +kernel
theorem dX6_chance_5 : decode cX6_chance 5 = .ok (.new 19, 3) := by decide +kernel
theorem dX6_chance_8 : decode cX6_chance 8 = .ok (.dup, 1) := by decide +kernel
theorem dX6_chance_9 : decode cX6_chance 9 = .ok (.aload_n 0, 1) := by decide +kernel
theorem dX6_chance_10 : decode cX6_chance 10 = .ok (.getfield 15, 3) := by decide +kernel
theorem dX6_chance_13 : decode cX6_chance 13 = .ok (.getfield 29, 3) := by decide +kernel
theorem dX6_chance_16 : decode cX6_chance 16 = .ok (.iload_n 1, 1) := by decide +kernel
theorem dX6_chance_17 : decode cX6_chance 17 = .ok (.iaload, 1) := by decide +kernel
theorem dX6_chance_18 : decode cX6_chance 18 = .ok (.aload_n 2, 1) := by decide +kernel
theorem dX6_chance_19 : decode cX6_chance 19 = .ok (.getfield 41, 3) := by decide +kernel
theorem dX6_chance_22 : decode cX6_chance 22 = .ok (.imul, 1) := by decide +kernel
theorem dX6_chance_23 : decode cX6_chance 23 = .ok (.aload_n 2, 1) := by decide +kernel
theorem dX6_chance_24 : decode cX6_chance 24 = .ok (.getfield 44, 3) := by decide +kernel
theorem dX6_chance_27 : decode cX6_chance 27 = .ok (.isub, 1) := by decide +kernel
theorem dX6_chance_28 : decode cX6_chance 28 = .ok (.aload_n 2, 1) := by decide +kernel
theorem dX6_chance_29 : decode cX6_chance 29 = .ok (.getfield 41, 3) := by decide +kernel
theorem dX6_chance_32 : decode cX6_chance 32 = .ok (.aload_n 0, 1) := by decide +kernel
theorem dX6_chance_33 : decode cX6_chance 33 = .ok (.getfield 9, 3) := by decide +kernel
theorem dX6_chance_36 : decode cX6_chance 36 = .ok (.imul, 1) := by decide +kernel
theorem dX6_chance_37 : decode cX6_chance 37 = .ok (.invokespecial 21, 3) := by decide +kernel
theorem dX6_chance_40 : decode cX6_chance 40 = .ok (.areturn, 1) := by decide +kernel
theorem dX7_init_0 : decode cX7_init 0 = .ok (.aload_n 0, 1) := by decide +kernel
theorem dX7_init_1 : decode cX7_init 1 = .ok (.invokespecial 3, 3) := by decide +kernel
theorem dX7_init_4 : decode cX7_init 4 = .ok (.aload_n 0, 1) := by decide +kernel
theorem dX7_init_5 : decode cX7_init 5 = .ok (.iconst 4, 1) := by decide +kernel
theorem dX7_init_6 : decode cX7_init 6 = .ok (.newarray .int, 2) := by decide +kernel
theorem dX7_init_8 : decode cX7_init 8 = .ok (.putfield 9, 3) := by decide +kernel
theorem dX7_init_11 : decode cX7_init 11 = .ok (.aload_n 0, 1) := by decide +kernel
theorem dX7_init_12 : decode cX7_init 12 = .ok (.iconst 4, 1) := by decide +kernel
theorem dX7_init_13 : decode cX7_init 13 = .ok (.iconst 3, 1) := by decide +kernel
theorem dX7_init_14 : decode cX7_init 14 = .ok (.multianewarray 15 2, 4) := by decide +kernel
theorem dX7_init_18 : decode cX7_init 18 = .ok (.putfield 17, 3) := by decide +kernel
theorem dX7_init_21 : decode cX7_init 21 = .ok (.return_, 1) := by decide +kernel
theorem dX7_isRuled_0 : decode cX7_isRuled 0 = .ok (.aload_n 0, 1) := by decide +kernel
theorem dX7_isRuled_1 : decode cX7_isRuled 1 = .ok (.getfield 9, 3) := by decide +kernel
theorem dX7_isRuled_4 : decode cX7_isRuled 4 = .ok (.iload_n 1, 1) := by decide +kernel
theorem dX7_isRuled_5 : decode cX7_isRuled 5 = .ok (.iaload, 1) := by decide +kernel
theorem dX7_isRuled_6 : decode cX7_isRuled 6 = .ok (.iload_n 2, 1) := by decide +kernel
theorem dX7_isRuled_7 : decode cX7_isRuled 7 = .ok (.ishr, 1) := by decide +kernel
theorem dX7_isRuled_8 : decode cX7_isRuled 8 = .ok (.iconst 1, 1) := by decide +kernel
theorem dX7_isRuled_9 : decode cX7_isRuled 9 = .ok (.iand, 1) := by decide +kernel
theorem dX7_isRuled_10 : decode cX7_isRuled 10 = .ok (.iconst 1, 1) := by decide +kernel
theorem dX7_isRuled_11 : decode cX7_isRuled 11 = .ok (.if_icmp .ne 7, 3) := by decide +kernel
theorem dX7_isRuled_14 : decode cX7_isRuled 14 = .ok (.iconst 1, 1) := by decide +kernel
theorem dX7_isRuled_15 : decode cX7_isRuled 15 = .ok (.goto 4, 3) := by decide +kernel
theorem dX7_isRuled_18 : decode cX7_isRuled 18 = .ok (.iconst 0, 1) := by decide +kernel
theorem dX7_isRuled_19 : decode cX7_isRuled 19 = .ok (.ireturn, 1) := by decide +kernel
theorem dX7_isGood_0 : decode cX7_isGood 0 = .ok (.aload_n 0, 1) := by decide +kernel
theorem dX7_isGood_1 : decode cX7_isGood 1 = .ok (.getfield 17, 3) := by decide +kernel
theorem dX7_isGood_4 : decode cX7_isGood 4 = .ok (.iload_n 1, 1) := by decide +kernel
theorem dX7_isGood_5 : decode cX7_isGood 5 = .ok (.aaload, 1) := by decide +kernel
theorem dX7_isGood_6 : decode cX7_isGood 6 = .ok (.iload_n 2, 1) := by decide +kernel
theorem dX7_isGood_7 : decode cX7_isGood 7 = .ok (.iaload, 1) := by decide +kernel
theorem dX7_isGood_8 : decode cX7_isGood 8 = .ok (.iload_n 3, 1) := by decide +kernel
theorem dX7_isGood_9 : decode cX7_isGood 9 = .ok (.ishr, 1) := by decide +kernel
theorem dX7_isGood_10 : decode cX7_isGood 10 = .ok (.iconst 1, 1) := by decide +kernel
theorem dX7_isGood_11 : decode cX7_isGood 11 = .ok (.iand, 1) := by decide +kernel
theorem dX7_isGood_12 : decode cX7_isGood 12 = .ok (.iconst 1, 1) := by decide +kernel
theorem dX7_isGood_13 : decode cX7_isGood 13 = .ok (.if_icmp .ne 7, 3) := by decide +kernel
theorem dX7_isGood_16 : decode cX7_isGood 16 = .ok (.iconst 1, 1) := by decide +kernel
theorem dX7_isGood_17 : decode cX7_isGood 17 = .ok (.goto 4, 3) := by decide +kernel
theorem dX7_isGood_20 : decode cX7_isGood 20 = .ok (.iconst 0, 1) := by decide +kernel
theorem dX7_isGood_21 : decode cX7_isGood 21 = .ok (.ireturn, 1) := by decide +kernel
theorem dX8_init_0 : decode cX8_init 0 = .ok (.aload_n 0, 1) := by decide +kernel
theorem dX8_init_1 : decode cX8_init 1 = .ok (.invokespecial 3, 3) := by decide +kernel
theorem dX8_init_4 : decode cX8_init 4 = .ok (.aload_n 0, 1) := by decide +kernel
theorem dX8_init_5 : decode cX8_init 5 = .ok (.new 9, 3) := by decide +kernel
theorem dX8_init_8 : decode cX8_init 8 = .ok (.dup, 1) := by decide +kernel
theorem dX8_init_9 : decode cX8_init 9 = .ok (.invokespecial 11, 3) := by decide +kernel
theorem dX8_init_12 : decode cX8_init 12 = .ok (.putfield 12, 3) := by decide +kernel
theorem dX8_init_15 : decode cX8_init 15 = .ok (.aload_n 0, 1) := by decide +kernel
theorem dX8_init_16 : decode cX8_init 16 = .ok (.new 16, 3) := by decide +kernel
theorem dX8_init_19 : decode cX8_init 19 = .ok (.dup, 1) := by decide +kernel
theorem dX8_init_20 : decode cX8_init 20 = .ok (.invokespecial 18, 3) := by decide +kernel
theorem dX8_init_23 : decode cX8_init 23 = .ok (.putfield 19, 3) := by decide +kernel
theorem dX8_init_26 : decode cX8_init 26 = .ok (.aload_n 0, 1) := by decide +kernel
theorem dX8_init_27 : decode cX8_init 27 = .ok (.new 23, 3) := by decide +kernel
theorem dX8_init_30 : decode cX8_init 30 = .ok (.dup, 1) := by decide +kernel
theorem dX8_init_31 : decode cX8_init 31 = .ok (.aload_n 0, 1) := by decide +kernel
theorem dX8_init_32 : decode cX8_init 32 = .ok (.getfield 12, 3) := by decide +kernel
theorem dX8_init_35 : decode cX8_init 35 = .ok (.invokespecial 25, 3) := by decide +kernel
theorem dX8_init_38 : decode cX8_init 38 = .ok (.putfield 28, 3) := by decide +kernel
theorem dX8_init_41 : decode cX8_init 41 = .ok (.aload_n 0, 1) := by decide +kernel
theorem dX8_init_42 : decode cX8_init 42 = .ok (.new 32, 3) := by decide +kernel
theorem dX8_init_45 : decode cX8_init 45 = .ok (.dup, 1) := by decide +kernel
theorem dX8_init_46 : decode cX8_init 46 = .ok (.aload_n 0, 1) := by decide +kernel
theorem dX8_init_47 : decode cX8_init 47 = .ok (.getfield 19, 3) := by decide +kernel
theorem dX8_init_50 : decode cX8_init 50 = .ok (.aload_n 0, 1) := by decide +kernel
theorem dX8_init_51 : decode cX8_init 51 = .ok (.getfield 28, 3) := by decide +kernel
theorem dX8_init_54 : decode cX8_init 54 = .ok (.invokespecial 34, 3) := by decide +kernel
theorem dX8_init_57 : decode cX8_init 57 = .ok (.putfield 37, 3) := by decide +kernel
theorem dX8_init_60 : decode cX8_init 60 = .ok (.aload_n 0, 1) := by decide +kernel
theorem dX8_init_61 : decode cX8_init 61 = .ok (.new 41, 3) := by decide +kernel
theorem dX8_init_64 : decode cX8_init 64 = .ok (.dup, 1) := by decide +kernel
theorem dX8_init_65 : decode cX8_init 65 = .ok (.aload_n 0, 1) := by decide +kernel
theorem dX8_init_66 : decode cX8_init 66 = .ok (.getfield 19, 3) := by decide +kernel
theorem dX8_init_69 : decode cX8_init 69 = .ok (.invokespecial 43, 3) := by decide +kernel
theorem dX8_init_72 : decode cX8_init 72 = .ok (.putfield 46, 3) := by decide +kernel
theorem dX8_init_75 : decode cX8_init 75 = .ok (.aload_n 0, 1) := by decide +kernel
theorem dX8_init_76 : decode cX8_init 76 = .ok (.new 50, 3) := by decide +kernel
theorem dX8_init_79 : decode cX8_init 79 = .ok (.dup, 1) := by decide +kernel
theorem dX8_init_80 : decode cX8_init 80 = .ok (.invokespecial 52, 3) := by decide +kernel
theorem dX8_init_83 : decode cX8_init 83 = .ok (.putfield 53, 3) := by decide +kernel
theorem dX8_init_86 : decode cX8_init 86 = .ok (.return_, 1) := by decide +kernel
theorem dX8_street_0 : decode cX8_street 0 = .ok (.iload_n 1, 1) := by decide +kernel
theorem dX8_street_1 : decode cX8_street 1 = .ok (.invokestatic 57, 3) := by decide +kernel
theorem dX8_street_4 : decode cX8_street 4 = .ok (.ifCond .eq 11, 3) := by decide +kernel
theorem dX8_street_7 : decode cX8_street 7 = .ok (.iload_n 2, 1) := by decide +kernel
theorem dX8_street_8 : decode cX8_street 8 = .ok (.iconst 5, 1) := by decide +kernel
theorem dX8_street_9 : decode cX8_street 9 = .ok (.invokestatic 61, 3) := by decide +kernel
theorem dX8_street_12 : decode cX8_street 12 = .ok (.ifCond .ne 5, 3) := by decide +kernel
theorem dX8_street_15 : decode cX8_street 15 = .ok (.iconst (-1), 1) := by decide +kernel
theorem dX8_street_16 : decode cX8_street 16 = .ok (.ireturn, 1) := by decide +kernel
theorem dX8_street_17 : decode cX8_street 17 = .ok (.aload_n 0, 1) := by decide +kernel
theorem dX8_street_18 : decode cX8_street 18 = .ok (.getfield 19, 3) := by decide +kernel
theorem dX8_street_21 : decode cX8_street 21 = .ok (.iload_n 1, 1) := by decide +kernel
theorem dX8_street_22 : decode cX8_street 22 = .ok (.iload_n 2, 1) := by decide +kernel
theorem dX8_street_23 : decode cX8_street 23 = .ok (.invokevirtual 65, 3) := by decide +kernel
theorem dX8_street_26 : decode cX8_street 26 = .ok (.ireturn, 1) := by decide +kernel
theorem dX8_move_0 : decode cX8_move 0 = .ok (.aload_n 0, 1) := by decide +kernel
theorem dX8_move_1 : decode cX8_move 1 = .ok (.iload_n 1, 1) := by decide +kernel
theorem dX8_move_2 : decode cX8_move 2 = .ok (.invokevirtual 69, 3) := by decide +kernel
theorem dX8_move_5 : decode cX8_move 5 = .ok (.ifCond .eq 10, 3) := by decide +kernel
theorem dX8_move_8 : decode cX8_move 8 = .ok (.iload_n 2, 1) := by decide +kernel
theorem dX8_move_9 : decode cX8_move 9 = .ok (.invokestatic 57, 3) := by decide +kernel
theorem dX8_move_12 : decode cX8_move 12 = .ok (.ifCond .ne 5, 3) := by decide +kernel
theorem dX8_move_15 : decode cX8_move 15 = .ok (.iconst (-1), 1) := by decide +kernel
theorem dX8_move_16 : decode cX8_move 16 = .ok (.ireturn, 1) := by decide +kernel
theorem dX8_move_17 : decode cX8_move 17 = .ok (.aload_n 0, 1) := by decide +kernel
theorem dX8_move_18 : decode cX8_move 18 = .ok (.getfield 19, 3) := by decide +kernel
theorem dX8_move_21 : decode cX8_move 21 = .ok (.getfield 72, 3) := by decide +kernel
theorem dX8_move_24 : decode cX8_move 24 = .ok (.iload_n 1, 1) := by decide +kernel
theorem dX8_move_25 : decode cX8_move 25 = .ok (.iaload, 1) := by decide +kernel
theorem dX8_move_26 : decode cX8_move 26 = .ok (.istore_n 3, 1) := by decide +kernel
theorem dX8_move_27 : decode cX8_move 27 = .ok (.aload_n 0, 1) := by decide +kernel
theorem dX8_move_28 : decode cX8_move 28 = .ok (.getfield 19, 3) := by decide +kernel
theorem dX8_move_31 : decode cX8_move 31 = .ok (.getfield 72, 3) := by decide +kernel
theorem dX8_move_34 : decode cX8_move 34 = .ok (.iload_n 1, 1) := by decide +kernel
theorem dX8_move_35 : decode cX8_move 35 = .ok (.iload_n 2, 1) := by decide +kernel
theorem dX8_move_36 : decode cX8_move 36 = .ok (.iastore, 1) := by decide +kernel
theorem dX8_move_37 : decode cX8_move 37 = .ok (.iload_n 3, 1) := by decide +kernel
theorem dX8_move_38 : decode cX8_move 38 = .ok (.ireturn, 1) := by decide +kernel
theorem dX8_walk_0 : decode cX8_walk 0 = .ok (.aload_n 0, 1) := by decide +kernel
theorem dX8_walk_1 : decode cX8_walk 1 = .ok (.iload_n 1, 1) := by decide +kernel
theorem dX8_walk_2 : decode cX8_walk 2 = .ok (.invokevirtual 69, 3) := by decide +kernel
theorem dX8_walk_5 : decode cX8_walk 5 = .ok (.ifCond .eq 25, 3) := by decide +kernel
theorem dX8_walk_8 : decode cX8_walk 8 = .ok (.aload_n 0, 1) := by decide +kernel
theorem dX8_walk_9 : decode cX8_walk 9 = .ok (.iload_n 2, 1) := by decide +kernel
theorem dX8_walk_10 : decode cX8_walk 10 = .ok (.invokevirtual 69, 3) := by decide +kernel
theorem dX8_walk_13 : decode cX8_walk 13 = .ok (.ifCond .eq 17, 3) := by decide +kernel
theorem dX8_walk_16 : decode cX8_walk 16 = .ok (.iload_n 1, 1) := by decide +kernel
theorem dX8_walk_17 : decode cX8_walk 17 = .ok (.iload_n 2, 1) := by decide +kernel
theorem dX8_walk_18 : decode cX8_walk 18 = .ok (.if_icmp .eq 12, 3) := by decide +kernel
theorem dX8_walk_21 : decode cX8_walk 21 = .ok (.iload_n 3, 1) := by decide +kernel
theorem dX8_walk_22 : decode cX8_walk 22 = .ok (.bipush 50, 2) := by decide +kernel
theorem dX8_walk_24 : decode cX8_walk 24 = .ok (.invokestatic 61, 3) := by decide +kernel
theorem dX8_walk_27 : decode cX8_walk 27 = .ok (.ifCond .ne 5, 3) := by decide +kernel
theorem dX8_walk_30 : decode cX8_walk 30 = .ok (.iconst (-1), 1) := by decide +kernel
theorem dX8_walk_31 : decode cX8_walk 31 = .ok (.ireturn, 1) := by decide +kernel
theorem dX8_walk_32 : decode cX8_walk 32 = .ok (.aload_n 0, 1) := by decide +kernel
theorem dX8_walk_33 : decode cX8_walk 33 = .ok (.getfield 19, 3) := by decide +kernel
theorem dX8_walk_36 : decode cX8_walk 36 = .ok (.getfield 76, 3) := by decide +kernel
theorem dX8_walk_39 : decode cX8_walk 39 = .ok (.iload_n 1, 1) := by decide +kernel
theorem dX8_walk_40 : decode cX8_walk 40 = .ok (.aaload, 1) := by decide +kernel
theorem dX8_walk_41 : decode cX8_walk 41 = .ok (.iload_n 2, 1) := by decide +kernel
theorem dX8_walk_42 : decode cX8_walk 42 = .ok (.iaload, 1) := by decide +kernel
theorem dX8_walk_43 : decode cX8_walk 43 = .ok (.istore 4, 2) := by decide +kernel
theorem dX8_walk_45 : decode cX8_walk 45 = .ok (.aload_n 0, 1) := by decide +kernel
theorem dX8_walk_46 : decode cX8_walk 46 = .ok (.getfield 19, 3) := by decide +kernel
theorem dX8_walk_49 : decode cX8_walk 49 = .ok (.getfield 76, 3) := by decide +kernel
theorem dX8_walk_52 : decode cX8_walk 52 = .ok (.iload_n 1, 1) := by decide +kernel
theorem dX8_walk_53 : decode cX8_walk 53 = .ok (.aaload, 1) := by decide +kernel
theorem dX8_walk_54 : decode cX8_walk 54 = .ok (.iload_n 2, 1) := by decide +kernel
theorem dX8_walk_55 : decode cX8_walk 55 = .ok (.iload_n 3, 1) := by decide +kernel
theorem dX8_walk_56 : decode cX8_walk 56 = .ok (.iastore, 1) := by decide +kernel
theorem dX8_walk_57 : decode cX8_walk 57 = .ok (.aload_n 0, 1) := by decide +kernel
theorem dX8_walk_58 : decode cX8_walk 58 = .ok (.getfield 19, 3) := by decide +kernel
theorem dX8_walk_61 : decode cX8_walk 61 = .ok (.getfield 76, 3) := by decide +kernel
theorem dX8_walk_64 : decode cX8_walk 64 = .ok (.iload_n 2, 1) := by decide +kernel
theorem dX8_walk_65 : decode cX8_walk 65 = .ok (.aaload, 1) := by decide +kernel
theorem dX8_walk_66 : decode cX8_walk 66 = .ok (.iload_n 1, 1) := by decide +kernel
theorem dX8_walk_67 : decode cX8_walk 67 = .ok (.iload_n 3, 1) := by decide +kernel
theorem dX8_walk_68 : decode cX8_walk 68 = .ok (.iastore, 1) := by decide +kernel
theorem dX8_walk_69 : decode cX8_walk 69 = .ok (.iload 4, 2) := by decide +kernel
theorem dX8_walk_71 : decode cX8_walk 71 = .ok (.ireturn, 1) := by decide +kernel
theorem dX8_close_0 : decode cX8_close 0 = .ok (.aload_n 0, 1) := by decide +kernel
theorem dX8_close_1 : decode cX8_close 1 = .ok (.iload_n 1, 1) := by decide +kernel
theorem dX8_close_2 : decode cX8_close 2 = .ok (.invokevirtual 69, 3) := by decide +kernel
theorem dX8_close_5 : decode cX8_close 5 = .ok (.ifCond .eq 26, 3) := by decide +kernel
theorem dX8_close_8 : decode cX8_close 8 = .ok (.iload_n 2, 1) := by decide +kernel
theorem dX8_close_9 : decode cX8_close 9 = .ok (.invokestatic 80, 3) := by decide +kernel
theorem dX8_close_12 : decode cX8_close 12 = .ok (.ifCond .eq 19, 3) := by decide +kernel
theorem dX8_close_15 : decode cX8_close 15 = .ok (.iload_n 3, 1) := by decide +kernel
theorem dX8_close_16 : decode cX8_close 16 = .ok (.aload_n 0, 1) := by decide +kernel
theorem dX8_close_17 : decode cX8_close 17 = .ok (.getfield 19, 3) := by decide +kernel
theorem dX8_close_20 : decode cX8_close 20 = .ok (.getfield 83, 3) := by decide +kernel
theorem dX8_close_23 : decode cX8_close 23 = .ok (.iload_n 1, 1) := by decide +kernel
theorem dX8_close_24 : decode cX8_close 24 = .ok (.iaload, 1) := by decide +kernel
theorem dX8_close_25 : decode cX8_close 25 = .ok (.invokestatic 61, 3) := by decide +kernel
theorem dX8_close_28 : decode cX8_close 28 = .ok (.ifCond .ne 5, 3) := by decide +kernel
theorem dX8_close_31 : decode cX8_close 31 = .ok (.iconst (-1), 1) := by decide +kernel
theorem dX8_close_32 : decode cX8_close 32 = .ok (.ireturn, 1) := by decide +kernel
theorem dX8_close_33 : decode cX8_close 33 = .ok (.aload_n 0, 1) := by decide +kernel
theorem dX8_close_34 : decode cX8_close 34 = .ok (.getfield 19, 3) := by decide +kernel
theorem dX8_close_37 : decode cX8_close 37 = .ok (.getfield 86, 3) := by decide +kernel
theorem dX8_close_40 : decode cX8_close 40 = .ok (.iload_n 1, 1) := by decide +kernel
theorem dX8_close_41 : decode cX8_close 41 = .ok (.aaload, 1) := by decide +kernel
theorem dX8_close_42 : decode cX8_close 42 = .ok (.iload_n 2, 1) := by decide +kernel
theorem dX8_close_43 : decode cX8_close 43 = .ok (.iaload, 1) := by decide +kernel
theorem dX8_close_44 : decode cX8_close 44 = .ok (.istore 4, 2) := by decide +kernel
theorem dX8_close_46 : decode cX8_close 46 = .ok (.aload_n 0, 1) := by decide +kernel
theorem dX8_close_47 : decode cX8_close 47 = .ok (.getfield 19, 3) := by decide +kernel
theorem dX8_close_50 : decode cX8_close 50 = .ok (.getfield 86, 3) := by decide +kernel
theorem dX8_close_53 : decode cX8_close 53 = .ok (.iload_n 1, 1) := by decide +kernel
theorem dX8_close_54 : decode cX8_close 54 = .ok (.aaload, 1) := by decide +kernel
theorem dX8_close_55 : decode cX8_close 55 = .ok (.iload_n 2, 1) := by decide +kernel
theorem dX8_close_56 : decode cX8_close 56 = .ok (.iload_n 3, 1) := by decide +kernel
theorem dX8_close_57 : decode cX8_close 57 = .ok (.iastore, 1) := by decide +kernel
theorem dX8_close_58 : decode cX8_close 58 = .ok (.iload 4, 2) := by decide +kernel
theorem dX8_close_60 : decode cX8_close 60 = .ok (.ireturn, 1) := by decide +kernel
theorem dX8_rule_0 : decode cX8_rule 0 = .ok (.iload_n 1, 1) := by decide +kernel
theorem dX8_rule_1 : decode cX8_rule 1 = .ok (.invokestatic 57, 3) := by decide +kernel
theorem dX8_rule_4 : decode cX8_rule 4 = .ok (.ifCond .eq 11, 3) := by decide +kernel
theorem dX8_rule_7 : decode cX8_rule 7 = .ok (.iload_n 2, 1) := by decide +kernel
theorem dX8_rule_8 : decode cX8_rule 8 = .ok (.iload_n 3, 1) := by decide +kernel
theorem dX8_rule_9 : decode cX8_rule 9 = .ok (.invokestatic 89, 3) := by decide +kernel
theorem dX8_rule_12 : decode cX8_rule 12 = .ok (.ifCond .ne 5, 3) := by decide +kernel
theorem dX8_rule_15 : decode cX8_rule 15 = .ok (.iconst (-1), 1) := by decide +kernel
theorem dX8_rule_16 : decode cX8_rule 16 = .ok (.ireturn, 1) := by decide +kernel
theorem dX8_rule_17 : decode cX8_rule 17 = .ok (.aload_n 0, 1) := by decide +kernel
theorem dX8_rule_18 : decode cX8_rule 18 = .ok (.getfield 12, 3) := by decide +kernel
theorem dX8_rule_21 : decode cX8_rule 21 = .ok (.getfield 92, 3) := by decide +kernel
theorem dX8_rule_24 : decode cX8_rule 24 = .ok (.iload_n 1, 1) := by decide +kernel
theorem dX8_rule_25 : decode cX8_rule 25 = .ok (.iload_n 2, 1) := by decide +kernel
theorem dX8_rule_26 : decode cX8_rule 26 = .ok (.iload_n 3, 1) := by decide +kernel
theorem dX8_rule_27 : decode cX8_rule 27 = .ok (.invokestatic 95, 3) := by decide +kernel
theorem dX8_rule_30 : decode cX8_rule 30 = .ok (.iastore, 1) := by decide +kernel
theorem dX8_rule_31 : decode cX8_rule 31 = .ok (.iconst 1, 1) := by decide +kernel
theorem dX8_rule_32 : decode cX8_rule 32 = .ok (.ireturn, 1) := by decide +kernel
theorem dX8_hours_0 : decode cX8_hours 0 = .ok (.iload_n 1, 1) := by decide +kernel
theorem dX8_hours_1 : decode cX8_hours 1 = .ok (.invokestatic 57, 3) := by decide +kernel
theorem dX8_hours_4 : decode cX8_hours 4 = .ok (.ifCond .eq 19, 3) := by decide +kernel
theorem dX8_hours_7 : decode cX8_hours 7 = .ok (.iload_n 3, 1) := by decide +kernel
theorem dX8_hours_8 : decode cX8_hours 8 = .ok (.iload 4, 2) := by decide +kernel
theorem dX8_hours_10 : decode cX8_hours 10 = .ok (.invokestatic 89, 3) := by decide +kernel
theorem dX8_hours_13 : decode cX8_hours 13 = .ok (.ifCond .eq 10, 3) := by decide +kernel
theorem dX8_hours_16 : decode cX8_hours 16 = .ok (.iload_n 2, 1) := by decide +kernel
theorem dX8_hours_17 : decode cX8_hours 17 = .ok (.invokestatic 98, 3) := by decide +kernel
theorem dX8_hours_20 : decode cX8_hours 20 = .ok (.ifCond .ne 5, 3) := by decide +kernel
theorem dX8_hours_23 : decode cX8_hours 23 = .ok (.iconst (-1), 1) := by decide +kernel
theorem dX8_hours_24 : decode cX8_hours 24 = .ok (.ireturn, 1) := by decide +kernel
theorem dX8_hours_25 : decode cX8_hours 25 = .ok (.aload_n 0, 1) := by decide +kernel
theorem dX8_hours_26 : decode cX8_hours 26 = .ok (.getfield 12, 3) := by decide +kernel
theorem dX8_hours_29 : decode cX8_hours 29 = .ok (.getfield 101, 3) := by decide +kernel
theorem dX8_hours_32 : decode cX8_hours 32 = .ok (.iload_n 1, 1) := by decide +kernel
theorem dX8_hours_33 : decode cX8_hours 33 = .ok (.aaload, 1) := by decide +kernel
theorem dX8_hours_34 : decode cX8_hours 34 = .ok (.iload_n 2, 1) := by decide +kernel
theorem dX8_hours_35 : decode cX8_hours 35 = .ok (.iload_n 3, 1) := by decide +kernel
theorem dX8_hours_36 : decode cX8_hours 36 = .ok (.iload 4, 2) := by decide +kernel
theorem dX8_hours_38 : decode cX8_hours 38 = .ok (.invokestatic 95, 3) := by decide +kernel
theorem dX8_hours_41 : decode cX8_hours 41 = .ok (.iastore, 1) := by decide +kernel
theorem dX8_hours_42 : decode cX8_hours 42 = .ok (.iconst 1, 1) := by decide +kernel
theorem dX8_hours_43 : decode cX8_hours 43 = .ok (.ireturn, 1) := by decide +kernel
theorem dX8_car_0 : decode cX8_car 0 = .ok (.aload_n 0, 1) := by decide +kernel
theorem dX8_car_1 : decode cX8_car 1 = .ok (.iload_n 1, 1) := by decide +kernel
theorem dX8_car_2 : decode cX8_car 2 = .ok (.invokevirtual 69, 3) := by decide +kernel
theorem dX8_car_5 : decode cX8_car 5 = .ok (.ifCond .eq 14, 3) := by decide +kernel
theorem dX8_car_8 : decode cX8_car 8 = .ok (.aload_n 0, 1) := by decide +kernel
theorem dX8_car_9 : decode cX8_car 9 = .ok (.getfield 28, 3) := by decide +kernel
theorem dX8_car_12 : decode cX8_car 12 = .ok (.iload_n 1, 1) := by decide +kernel
theorem dX8_car_13 : decode cX8_car 13 = .ok (.invokevirtual 104, 3) := by decide +kernel
theorem dX8_car_16 : decode cX8_car 16 = .ok (.goto 4, 3) := by decide +kernel
theorem dX8_car_19 : decode cX8_car 19 = .ok (.iconst (-1), 1) := by decide +kernel
theorem dX8_car_20 : decode cX8_car 20 = .ok (.ireturn, 1) := by decide +kernel
theorem dX8_permit_0 : decode cX8_permit 0 = .ok (.aload_n 0, 1) := by decide +kernel
theorem dX8_permit_1 : decode cX8_permit 1 = .ok (.iload_n 1, 1) := by decide +kernel
theorem dX8_permit_2 : decode cX8_permit 2 = .ok (.invokevirtual 107, 3) := by decide +kernel
theorem dX8_permit_5 : decode cX8_permit 5 = .ok (.ifCond .eq 17, 3) := by decide +kernel
theorem dX8_permit_8 : decode cX8_permit 8 = .ok (.iload_n 2, 1) := by decide +kernel
theorem dX8_permit_9 : decode cX8_permit 9 = .ok (.invokestatic 98, 3) := by decide +kernel
theorem dX8_permit_12 : decode cX8_permit 12 = .ok (.ifCond .eq 10, 3) := by decide +kernel
theorem dX8_permit_15 : decode cX8_permit 15 = .ok (.iload_n 3, 1) := by decide +kernel
theorem dX8_permit_16 : decode cX8_permit 16 = .ok (.invokestatic 57, 3) := by decide +kernel
theorem dX8_permit_19 : decode cX8_permit 19 = .ok (.ifCond .ne 5, 3) := by decide +kernel
theorem dX8_permit_22 : decode cX8_permit 22 = .ok (.iconst (-1), 1) := by decide +kernel
theorem dX8_permit_23 : decode cX8_permit 23 = .ok (.ireturn, 1) := by decide +kernel
theorem dX8_permit_24 : decode cX8_permit 24 = .ok (.aload_n 0, 1) := by decide +kernel
theorem dX8_permit_25 : decode cX8_permit 25 = .ok (.getfield 28, 3) := by decide +kernel
theorem dX8_permit_28 : decode cX8_permit 28 = .ok (.iload_n 1, 1) := by decide +kernel
theorem dX8_permit_29 : decode cX8_permit 29 = .ok (.iload_n 2, 1) := by decide +kernel
theorem dX8_permit_30 : decode cX8_permit 30 = .ok (.iload_n 3, 1) := by decide +kernel
theorem dX8_permit_31 : decode cX8_permit 31 = .ok (.iload 4, 2) := by decide +kernel
theorem dX8_permit_33 : decode cX8_permit 33 = .ok (.invokevirtual 110, 3) := by decide +kernel
theorem dX8_permit_36 : decode cX8_permit 36 = .ok (.ifCond .eq 7, 3) := by decide +kernel
theorem dX8_permit_39 : decode cX8_permit 39 = .ok (.iconst 1, 1) := by decide +kernel
theorem dX8_permit_40 : decode cX8_permit 40 = .ok (.goto 4, 3) := by decide +kernel
theorem dX8_permit_43 : decode cX8_permit 43 = .ok (.iconst 0, 1) := by decide +kernel
theorem dX8_permit_44 : decode cX8_permit 44 = .ok (.ireturn, 1) := by decide +kernel
theorem dX8_cards_0 : decode cX8_cards 0 = .ok (.aload_n 0, 1) := by decide +kernel
theorem dX8_cards_1 : decode cX8_cards 1 = .ok (.iload_n 1, 1) := by decide +kernel
theorem dX8_cards_2 : decode cX8_cards 2 = .ok (.invokevirtual 107, 3) := by decide +kernel
theorem dX8_cards_5 : decode cX8_cards 5 = .ok (.ifCond .eq 19, 3) := by decide +kernel
theorem dX8_cards_8 : decode cX8_cards 8 = .ok (.iload_n 2, 1) := by decide +kernel
theorem dX8_cards_9 : decode cX8_cards 9 = .ok (.invokestatic 57, 3) := by decide +kernel
theorem dX8_cards_12 : decode cX8_cards 12 = .ok (.ifCond .eq 12, 3) := by decide +kernel
theorem dX8_cards_15 : decode cX8_cards 15 = .ok (.iload_n 3, 1) := by decide +kernel
theorem dX8_cards_16 : decode cX8_cards 16 = .ok (.bipush 9, 2) := by decide +kernel
theorem dX8_cards_18 : decode cX8_cards 18 = .ok (.invokestatic 61, 3) := by decide +kernel
theorem dX8_cards_21 : decode cX8_cards 21 = .ok (.ifCond .ne 5, 3) := by decide +kernel
theorem dX8_cards_24 : decode cX8_cards 24 = .ok (.iconst (-1), 1) := by decide +kernel
theorem dX8_cards_25 : decode cX8_cards 25 = .ok (.ireturn, 1) := by decide +kernel
theorem dX8_cards_26 : decode cX8_cards 26 = .ok (.aload_n 0, 1) := by decide +kernel
theorem dX8_cards_27 : decode cX8_cards 27 = .ok (.getfield 28, 3) := by decide +kernel
theorem dX8_cards_30 : decode cX8_cards 30 = .ok (.getfield 114, 3) := by decide +kernel
theorem dX8_cards_33 : decode cX8_cards 33 = .ok (.iload_n 1, 1) := by decide +kernel
theorem dX8_cards_34 : decode cX8_cards 34 = .ok (.aaload, 1) := by decide +kernel
theorem dX8_cards_35 : decode cX8_cards 35 = .ok (.iload_n 2, 1) := by decide +kernel
theorem dX8_cards_36 : decode cX8_cards 36 = .ok (.iaload, 1) := by decide +kernel
theorem dX8_cards_37 : decode cX8_cards 37 = .ok (.istore 4, 2) := by decide +kernel
theorem dX8_cards_39 : decode cX8_cards 39 = .ok (.aload_n 0, 1) := by decide +kernel
theorem dX8_cards_40 : decode cX8_cards 40 = .ok (.getfield 28, 3) := by decide +kernel
theorem dX8_cards_43 : decode cX8_cards 43 = .ok (.getfield 114, 3) := by decide +kernel
theorem dX8_cards_46 : decode cX8_cards 46 = .ok (.iload_n 1, 1) := by decide +kernel
theorem dX8_cards_47 : decode cX8_cards 47 = .ok (.aaload, 1) := by decide +kernel
theorem dX8_cards_48 : decode cX8_cards 48 = .ok (.iload_n 2, 1) := by decide +kernel
theorem dX8_cards_49 : decode cX8_cards 49 = .ok (.iload_n 3, 1) := by decide +kernel
theorem dX8_cards_50 : decode cX8_cards 50 = .ok (.iastore, 1) := by decide +kernel
theorem dX8_cards_51 : decode cX8_cards 51 = .ok (.iload 4, 2) := by decide +kernel
theorem dX8_cards_53 : decode cX8_cards 53 = .ok (.ireturn, 1) := by decide +kernel
theorem dX8_limit_0 : decode cX8_limit 0 = .ok (.aload_n 0, 1) := by decide +kernel
theorem dX8_limit_1 : decode cX8_limit 1 = .ok (.iload_n 1, 1) := by decide +kernel
theorem dX8_limit_2 : decode cX8_limit 2 = .ok (.invokevirtual 107, 3) := by decide +kernel
theorem dX8_limit_5 : decode cX8_limit 5 = .ok (.ifCond .eq 12, 3) := by decide +kernel
theorem dX8_limit_8 : decode cX8_limit 8 = .ok (.iload_n 2, 1) := by decide +kernel
theorem dX8_limit_9 : decode cX8_limit 9 = .ok (.bipush 99, 2) := by decide +kernel
theorem dX8_limit_11 : decode cX8_limit 11 = .ok (.invokestatic 61, 3) := by decide +kernel
theorem dX8_limit_14 : decode cX8_limit 14 = .ok (.ifCond .ne 5, 3) := by decide +kernel
theorem dX8_limit_17 : decode cX8_limit 17 = .ok (.iconst (-1), 1) := by decide +kernel
theorem dX8_limit_18 : decode cX8_limit 18 = .ok (.ireturn, 1) := by decide +kernel
theorem dX8_limit_19 : decode cX8_limit 19 = .ok (.aload_n 0, 1) := by decide +kernel
theorem dX8_limit_20 : decode cX8_limit 20 = .ok (.getfield 28, 3) := by decide +kernel
theorem dX8_limit_23 : decode cX8_limit 23 = .ok (.getfield 117, 3) := by decide +kernel
theorem dX8_limit_26 : decode cX8_limit 26 = .ok (.iload_n 1, 1) := by decide +kernel
theorem dX8_limit_27 : decode cX8_limit 27 = .ok (.iaload, 1) := by decide +kernel
theorem dX8_limit_28 : decode cX8_limit 28 = .ok (.istore_n 3, 1) := by decide +kernel
theorem dX8_limit_29 : decode cX8_limit 29 = .ok (.aload_n 0, 1) := by decide +kernel
theorem dX8_limit_30 : decode cX8_limit 30 = .ok (.getfield 28, 3) := by decide +kernel
theorem dX8_limit_33 : decode cX8_limit 33 = .ok (.getfield 117, 3) := by decide +kernel
theorem dX8_limit_36 : decode cX8_limit 36 = .ok (.iload_n 1, 1) := by decide +kernel
theorem dX8_limit_37 : decode cX8_limit 37 = .ok (.iload_n 2, 1) := by decide +kernel
theorem dX8_limit_38 : decode cX8_limit 38 = .ok (.iastore, 1) := by decide +kernel
theorem dX8_limit_39 : decode cX8_limit 39 = .ok (.iload_n 3, 1) := by decide +kernel
theorem dX8_limit_40 : decode cX8_limit 40 = .ok (.ireturn, 1) := by decide +kernel
theorem dX8_late_0 : decode cX8_late 0 = .ok (.aload_n 0, 1) := by decide +kernel
theorem dX8_late_1 : decode cX8_late 1 = .ok (.iload_n 1, 1) := by decide +kernel
theorem dX8_late_2 : decode cX8_late 2 = .ok (.invokevirtual 107, 3) := by decide +kernel
theorem dX8_late_5 : decode cX8_late 5 = .ok (.ifCond .eq 14, 3) := by decide +kernel
theorem dX8_late_8 : decode cX8_late 8 = .ok (.aload_n 0, 1) := by decide +kernel
theorem dX8_late_9 : decode cX8_late 9 = .ok (.getfield 28, 3) := by decide +kernel
theorem dX8_late_12 : decode cX8_late 12 = .ok (.iload_n 1, 1) := by decide +kernel
theorem dX8_late_13 : decode cX8_late 13 = .ok (.invokevirtual 120, 3) := by decide +kernel
theorem dX8_late_16 : decode cX8_late 16 = .ok (.goto 4, 3) := by decide +kernel
theorem dX8_late_19 : decode cX8_late 19 = .ok (.iconst (-1), 1) := by decide +kernel
theorem dX8_late_20 : decode cX8_late 20 = .ok (.ireturn, 1) := by decide +kernel
theorem dX8_may_0 : decode cX8_may 0 = .ok (.aload_n 0, 1) := by decide +kernel
theorem dX8_may_1 : decode cX8_may 1 = .ok (.iload_n 1, 1) := by decide +kernel
theorem dX8_may_2 : decode cX8_may 2 = .ok (.invokevirtual 107, 3) := by decide +kernel
theorem dX8_may_5 : decode cX8_may 5 = .ok (.ifCond .eq 18, 3) := by decide +kernel
theorem dX8_may_8 : decode cX8_may 8 = .ok (.aload_n 0, 1) := by decide +kernel
theorem dX8_may_9 : decode cX8_may 9 = .ok (.iload_n 2, 1) := by decide +kernel
theorem dX8_may_10 : decode cX8_may 10 = .ok (.invokevirtual 69, 3) := by decide +kernel
theorem dX8_may_13 : decode cX8_may 13 = .ok (.ifCond .eq 10, 3) := by decide +kernel
theorem dX8_may_16 : decode cX8_may 16 = .ok (.iload_n 3, 1) := by decide +kernel
theorem dX8_may_17 : decode cX8_may 17 = .ok (.invokestatic 123, 3) := by decide +kernel
theorem dX8_may_20 : decode cX8_may 20 = .ok (.ifCond .ne 5, 3) := by decide +kernel
theorem dX8_may_23 : decode cX8_may 23 = .ok (.iconst (-1), 1) := by decide +kernel
theorem dX8_may_24 : decode cX8_may 24 = .ok (.ireturn, 1) := by decide +kernel
theorem dX8_may_25 : decode cX8_may 25 = .ok (.aload_n 0, 1) := by decide +kernel
theorem dX8_may_26 : decode cX8_may 26 = .ok (.getfield 28, 3) := by decide +kernel
theorem dX8_may_29 : decode cX8_may 29 = .ok (.iload_n 1, 1) := by decide +kernel
theorem dX8_may_30 : decode cX8_may 30 = .ok (.aload_n 0, 1) := by decide +kernel
theorem dX8_may_31 : decode cX8_may 31 = .ok (.getfield 19, 3) := by decide +kernel
theorem dX8_may_34 : decode cX8_may 34 = .ok (.getfield 72, 3) := by decide +kernel
theorem dX8_may_37 : decode cX8_may 37 = .ok (.iload_n 2, 1) := by decide +kernel
theorem dX8_may_38 : decode cX8_may 38 = .ok (.iaload, 1) := by decide +kernel
theorem dX8_may_39 : decode cX8_may 39 = .ok (.iload_n 3, 1) := by decide +kernel
theorem dX8_may_40 : decode cX8_may 40 = .ok (.invokevirtual 126, 3) := by decide +kernel
theorem dX8_may_43 : decode cX8_may 43 = .ok (.ireturn, 1) := by decide +kernel
theorem dX8_stands_0 : decode cX8_stands 0 = .ok (.iload_n 1, 1) := by decide +kernel
theorem dX8_stands_1 : decode cX8_stands 1 = .ok (.invokestatic 80, 3) := by decide +kernel
theorem dX8_stands_4 : decode cX8_stands 4 = .ok (.ifCond .eq 18, 3) := by decide +kernel
theorem dX8_stands_7 : decode cX8_stands 7 = .ok (.iload_n 2, 1) := by decide +kernel
theorem dX8_stands_8 : decode cX8_stands 8 = .ok (.invokestatic 123, 3) := by decide +kernel
theorem dX8_stands_11 : decode cX8_stands 11 = .ok (.ifCond .eq 11, 3) := by decide +kernel
theorem dX8_stands_14 : decode cX8_stands 14 = .ok (.aload_n 0, 1) := by decide +kernel
theorem dX8_stands_15 : decode cX8_stands 15 = .ok (.iload_n 3, 1) := by decide +kernel
theorem dX8_stands_16 : decode cX8_stands 16 = .ok (.invokevirtual 107, 3) := by decide +kernel
theorem dX8_stands_19 : decode cX8_stands 19 = .ok (.ifCond .ne 5, 3) := by decide +kernel
theorem dX8_stands_22 : decode cX8_stands 22 = .ok (.iconst (-1), 1) := by decide +kernel
theorem dX8_stands_23 : decode cX8_stands 23 = .ok (.ireturn, 1) := by decide +kernel
theorem dX8_stands_24 : decode cX8_stands 24 = .ok (.aload_n 0, 1) := by decide +kernel
theorem dX8_stands_25 : decode cX8_stands 25 = .ok (.getfield 37, 3) := by decide +kernel
theorem dX8_stands_28 : decode cX8_stands 28 = .ok (.iload_n 1, 1) := by decide +kernel
theorem dX8_stands_29 : decode cX8_stands 29 = .ok (.iload_n 2, 1) := by decide +kernel
theorem dX8_stands_30 : decode cX8_stands 30 = .ok (.iload 4, 2) := by decide +kernel
theorem dX8_stands_32 : decode cX8_stands 32 = .ok (.invokevirtual 130, 3) := by decide +kernel
theorem dX8_stands_35 : decode cX8_stands 35 = .ok (.aload_n 0, 1) := by decide +kernel
theorem dX8_stands_36 : decode cX8_stands 36 = .ok (.getfield 37, 3) := by decide +kernel
theorem dX8_stands_39 : decode cX8_stands 39 = .ok (.getfield 134, 3) := by decide +kernel
theorem dX8_stands_42 : decode cX8_stands 42 = .ok (.iload_n 3, 1) := by decide +kernel
theorem dX8_stands_43 : decode cX8_stands 43 = .ok (.iaload, 1) := by decide +kernel
theorem dX8_stands_44 : decode cX8_stands 44 = .ok (.istore 5, 2) := by decide +kernel
theorem dX8_stands_46 : decode cX8_stands 46 = .ok (.iload 5, 2) := by decide +kernel
theorem dX8_stands_48 : decode cX8_stands 48 = .ok (.iconst 5, 1) := by decide +kernel
theorem dX8_stands_49 : decode cX8_stands 49 = .ok (.if_icmp .ne 8, 3) := by decide +kernel
theorem dX8_stands_52 : decode cX8_stands 52 = .ok (.bipush (-3), 2) := by decide +kernel
theorem dX8_stands_54 : decode cX8_stands 54 = .ok (.goto 5, 3) := by decide +kernel
theorem dX8_stands_57 : decode cX8_stands 57 = .ok (.iload 5, 2) := by decide +kernel
theorem dX8_stands_59 : decode cX8_stands 59 = .ok (.ireturn, 1) := by decide +kernel
theorem dX8_told_0 : decode cX8_told 0 = .ok (.iload_n 1, 1) := by decide +kernel
theorem dX8_told_1 : decode cX8_told 1 = .ok (.invokestatic 80, 3) := by decide +kernel
theorem dX8_told_4 : decode cX8_told 4 = .ok (.ifCond .eq 18, 3) := by decide +kernel
theorem dX8_told_7 : decode cX8_told 7 = .ok (.iload_n 2, 1) := by decide +kernel
theorem dX8_told_8 : decode cX8_told 8 = .ok (.invokestatic 123, 3) := by decide +kernel
theorem dX8_told_11 : decode cX8_told 11 = .ok (.ifCond .eq 11, 3) := by decide +kernel
theorem dX8_told_14 : decode cX8_told 14 = .ok (.iload_n 3, 1) := by decide +kernel
theorem dX8_told_15 : decode cX8_told 15 = .ok (.iconst 2, 1) := by decide +kernel
theorem dX8_told_16 : decode cX8_told 16 = .ok (.invokestatic 61, 3) := by decide +kernel
theorem dX8_told_19 : decode cX8_told 19 = .ok (.ifCond .ne 5, 3) := by decide +kernel
theorem dX8_told_22 : decode cX8_told 22 = .ok (.iconst (-1), 1) := by decide +kernel
theorem dX8_told_23 : decode cX8_told 23 = .ok (.ireturn, 1) := by decide +kernel
theorem dX8_told_24 : decode cX8_told 24 = .ok (.aload_n 0, 1) := by decide +kernel
theorem dX8_told_25 : decode cX8_told 25 = .ok (.getfield 37, 3) := by decide +kernel
theorem dX8_told_28 : decode cX8_told 28 = .ok (.iload_n 1, 1) := by decide +kernel
theorem dX8_told_29 : decode cX8_told 29 = .ok (.iload_n 2, 1) := by decide +kernel
theorem dX8_told_30 : decode cX8_told 30 = .ok (.iload 4, 2) := by decide +kernel
theorem dX8_told_32 : decode cX8_told 32 = .ok (.invokevirtual 130, 3) := by decide +kernel
theorem dX8_told_35 : decode cX8_told 35 = .ok (.aload_n 0, 1) := by decide +kernel
theorem dX8_told_36 : decode cX8_told 36 = .ok (.getfield 37, 3) := by decide +kernel
theorem dX8_told_39 : decode cX8_told 39 = .ok (.iload_n 3, 1) := by decide +kernel
theorem dX8_told_40 : decode cX8_told 40 = .ok (.invokevirtual 137, 3) := by decide +kernel
theorem dX8_told_43 : decode cX8_told 43 = .ok (.ireturn, 1) := by decide +kernel
theorem dX8_keep_0 : decode cX8_keep 0 = .ok (.iload_n 1, 1) := by decide +kernel
theorem dX8_keep_1 : decode cX8_keep 1 = .ok (.invokestatic 80, 3) := by decide +kernel
theorem dX8_keep_4 : decode cX8_keep 4 = .ok (.ifCond .eq 10, 3) := by decide +kernel
theorem dX8_keep_7 : decode cX8_keep 7 = .ok (.iload_n 2, 1) := by decide +kernel
theorem dX8_keep_8 : decode cX8_keep 8 = .ok (.invokestatic 123, 3) := by decide +kernel
theorem dX8_keep_11 : decode cX8_keep 11 = .ok (.ifCond .ne 5, 3) := by decide +kernel
theorem dX8_keep_14 : decode cX8_keep 14 = .ok (.iconst (-1), 1) := by decide +kernel
theorem dX8_keep_15 : decode cX8_keep 15 = .ok (.ireturn, 1) := by decide +kernel
theorem dX8_keep_16 : decode cX8_keep 16 = .ok (.aload_n 0, 1) := by decide +kernel
theorem dX8_keep_17 : decode cX8_keep 17 = .ok (.getfield 37, 3) := by decide +kernel
theorem dX8_keep_20 : decode cX8_keep 20 = .ok (.iload_n 1, 1) := by decide +kernel
theorem dX8_keep_21 : decode cX8_keep 21 = .ok (.iload_n 2, 1) := by decide +kernel
theorem dX8_keep_22 : decode cX8_keep 22 = .ok (.iconst 0, 1) := by decide +kernel
theorem dX8_keep_23 : decode cX8_keep 23 = .ok (.invokevirtual 130, 3) := by decide +kernel
theorem dX8_keep_26 : decode cX8_keep 26 = .ok (.aload_n 0, 1) := by decide +kernel
theorem dX8_keep_27 : decode cX8_keep 27 = .ok (.getfield 37, 3) := by decide +kernel
theorem dX8_keep_30 : decode cX8_keep 30 = .ok (.invokevirtual 140, 3) := by decide +kernel
theorem dX8_keep_33 : decode cX8_keep 33 = .ok (.ireturn, 1) := by decide +kernel
theorem dX8_moved_0 : decode cX8_moved 0 = .ok (.iload_n 1, 1) := by decide +kernel
theorem dX8_moved_1 : decode cX8_moved 1 = .ok (.invokestatic 80, 3) := by decide +kernel
theorem dX8_moved_4 : decode cX8_moved 4 = .ok (.ifCond .eq 35, 3) := by decide +kernel
theorem dX8_moved_7 : decode cX8_moved 7 = .ok (.iload_n 2, 1) := by decide +kernel
theorem dX8_moved_8 : decode cX8_moved 8 = .ok (.invokestatic 123, 3) := by decide +kernel
theorem dX8_moved_11 : decode cX8_moved 11 = .ok (.ifCond .eq 28, 3) := by decide +kernel
theorem dX8_moved_14 : decode cX8_moved 14 = .ok (.aload_n 0, 1) := by decide +kernel
theorem dX8_moved_15 : decode cX8_moved 15 = .ok (.iload_n 3, 1) := by decide +kernel
theorem dX8_moved_16 : decode cX8_moved 16 = .ok (.invokevirtual 69, 3) := by decide +kernel
theorem dX8_moved_19 : decode cX8_moved 19 = .ok (.ifCond .eq 20, 3) := by decide +kernel
theorem dX8_moved_22 : decode cX8_moved 22 = .ok (.iload 4, 2) := by decide +kernel
theorem dX8_moved_24 : decode cX8_moved 24 = .ok (.invokestatic 57, 3) := by decide +kernel
theorem dX8_moved_27 : decode cX8_moved 27 = .ok (.ifCond .eq 12, 3) := by decide +kernel
theorem dX8_moved_30 : decode cX8_moved 30 = .ok (.iload 5, 2) := by decide +kernel
theorem dX8_moved_32 : decode cX8_moved 32 = .ok (.iconst 1, 1) := by decide +kernel
theorem dX8_moved_33 : decode cX8_moved 33 = .ok (.invokestatic 61, 3) := by decide +kernel
theorem dX8_moved_36 : decode cX8_moved 36 = .ok (.ifCond .ne 5, 3) := by decide +kernel
theorem dX8_moved_39 : decode cX8_moved 39 = .ok (.iconst (-1), 1) := by decide +kernel
theorem dX8_moved_40 : decode cX8_moved 40 = .ok (.ireturn, 1) := by decide +kernel
theorem dX8_moved_41 : decode cX8_moved 41 = .ok (.aload_n 0, 1) := by decide +kernel
theorem dX8_moved_42 : decode cX8_moved 42 = .ok (.getfield 19, 3) := by decide +kernel
theorem dX8_moved_45 : decode cX8_moved 45 = .ok (.getfield 72, 3) := by decide +kernel
theorem dX8_moved_48 : decode cX8_moved 48 = .ok (.iload_n 3, 1) := by decide +kernel
theorem dX8_moved_49 : decode cX8_moved 49 = .ok (.iaload, 1) := by decide +kernel
theorem dX8_moved_50 : decode cX8_moved 50 = .ok (.istore 6, 2) := by decide +kernel
theorem dX8_moved_52 : decode cX8_moved 52 = .ok (.aload_n 0, 1) := by decide +kernel
theorem dX8_moved_53 : decode cX8_moved 53 = .ok (.getfield 19, 3) := by decide +kernel
theorem dX8_moved_56 : decode cX8_moved 56 = .ok (.getfield 72, 3) := by decide +kernel
theorem dX8_moved_59 : decode cX8_moved 59 = .ok (.iload_n 3, 1) := by decide +kernel
theorem dX8_moved_60 : decode cX8_moved 60 = .ok (.iload 4, 2) := by decide +kernel
theorem dX8_moved_62 : decode cX8_moved 62 = .ok (.iastore, 1) := by decide +kernel
theorem dX8_moved_63 : decode cX8_moved 63 = .ok (.aload_n 0, 1) := by decide +kernel
theorem dX8_moved_64 : decode cX8_moved 64 = .ok (.getfield 37, 3) := by decide +kernel
theorem dX8_moved_67 : decode cX8_moved 67 = .ok (.iload_n 1, 1) := by decide +kernel
theorem dX8_moved_68 : decode cX8_moved 68 = .ok (.iload_n 2, 1) := by decide +kernel
theorem dX8_moved_69 : decode cX8_moved 69 = .ok (.iconst 1, 1) := by decide +kernel
theorem dX8_moved_70 : decode cX8_moved 70 = .ok (.invokevirtual 130, 3) := by decide +kernel
theorem dX8_moved_73 : decode cX8_moved 73 = .ok (.aload_n 0, 1) := by decide +kernel
theorem dX8_moved_74 : decode cX8_moved 74 = .ok (.getfield 37, 3) := by decide +kernel
theorem dX8_moved_77 : decode cX8_moved 77 = .ok (.iload 5, 2) := by decide +kernel
theorem dX8_moved_79 : decode cX8_moved 79 = .ok (.invokevirtual 137, 3) := by decide +kernel
theorem dX8_moved_82 : decode cX8_moved 82 = .ok (.istore 7, 2) := by decide +kernel
theorem dX8_moved_84 : decode cX8_moved 84 = .ok (.aload_n 0, 1) := by decide +kernel
theorem dX8_moved_85 : decode cX8_moved 85 = .ok (.getfield 19, 3) := by decide +kernel
theorem dX8_moved_88 : decode cX8_moved 88 = .ok (.getfield 72, 3) := by decide +kernel
theorem dX8_moved_91 : decode cX8_moved 91 = .ok (.iload_n 3, 1) := by decide +kernel
theorem dX8_moved_92 : decode cX8_moved 92 = .ok (.iload 6, 2) := by decide +kernel
theorem dX8_moved_94 : decode cX8_moved 94 = .ok (.iastore, 1) := by decide +kernel
theorem dX8_moved_95 : decode cX8_moved 95 = .ok (.iload 7, 2) := by decide +kernel
theorem dX8_moved_97 : decode cX8_moved 97 = .ok (.ireturn, 1) := by decide +kernel
theorem dX8_gain_0 : decode cX8_gain 0 = .ok (.aload_n 0, 1) := by decide +kernel
theorem dX8_gain_1 : decode cX8_gain 1 = .ok (.iload_n 1, 1) := by decide +kernel
theorem dX8_gain_2 : decode cX8_gain 2 = .ok (.invokevirtual 69, 3) := by decide +kernel
theorem dX8_gain_5 : decode cX8_gain 5 = .ok (.ifCond .eq 12, 3) := by decide +kernel
theorem dX8_gain_8 : decode cX8_gain 8 = .ok (.iload_n 2, 1) := by decide +kernel
theorem dX8_gain_9 : decode cX8_gain 9 = .ok (.bipush 99, 2) := by decide +kernel
theorem dX8_gain_11 : decode cX8_gain 11 = .ok (.invokestatic 61, 3) := by decide +kernel
theorem dX8_gain_14 : decode cX8_gain 14 = .ok (.ifCond .ne 5, 3) := by decide +kernel
theorem dX8_gain_17 : decode cX8_gain 17 = .ok (.iconst (-1), 1) := by decide +kernel
theorem dX8_gain_18 : decode cX8_gain 18 = .ok (.ireturn, 1) := by decide +kernel
theorem dX8_gain_19 : decode cX8_gain 19 = .ok (.aload_n 0, 1) := by decide +kernel
theorem dX8_gain_20 : decode cX8_gain 20 = .ok (.getfield 19, 3) := by decide +kernel
theorem dX8_gain_23 : decode cX8_gain 23 = .ok (.getfield 144, 3) := by decide +kernel
theorem dX8_gain_26 : decode cX8_gain 26 = .ok (.iload_n 1, 1) := by decide +kernel
theorem dX8_gain_27 : decode cX8_gain 27 = .ok (.iaload, 1) := by decide +kernel
theorem dX8_gain_28 : decode cX8_gain 28 = .ok (.istore_n 3, 1) := by decide +kernel
theorem dX8_gain_29 : decode cX8_gain 29 = .ok (.aload_n 0, 1) := by decide +kernel
theorem dX8_gain_30 : decode cX8_gain 30 = .ok (.getfield 19, 3) := by decide +kernel
theorem dX8_gain_33 : decode cX8_gain 33 = .ok (.getfield 144, 3) := by decide +kernel
theorem dX8_gain_36 : decode cX8_gain 36 = .ok (.iload_n 1, 1) := by decide +kernel
theorem dX8_gain_37 : decode cX8_gain 37 = .ok (.iload_n 2, 1) := by decide +kernel
theorem dX8_gain_38 : decode cX8_gain 38 = .ok (.iastore, 1) := by decide +kernel
theorem dX8_gain_39 : decode cX8_gain 39 = .ok (.iload_n 3, 1) := by decide +kernel
theorem dX8_gain_40 : decode cX8_gain 40 = .ok (.ireturn, 1) := by decide +kernel
theorem dX8_fine_0 : decode cX8_fine 0 = .ok (.iload_n 1, 1) := by decide +kernel
theorem dX8_fine_1 : decode cX8_fine 1 = .ok (.iconst 1, 1) := by decide +kernel
theorem dX8_fine_2 : decode cX8_fine 2 = .ok (.if_icmp .lt 10, 3) := by decide +kernel
theorem dX8_fine_5 : decode cX8_fine 5 = .ok (.iload_n 1, 1) := by decide +kernel
theorem dX8_fine_6 : decode cX8_fine 6 = .ok (.sipush 500, 3) := by decide +kernel
theorem dX8_fine_9 : decode cX8_fine 9 = .ok (.if_icmp .le 5, 3) := by decide +kernel
theorem dX8_fine_12 : decode cX8_fine 12 = .ok (.iconst (-1), 1) := by decide +kernel
theorem dX8_fine_13 : decode cX8_fine 13 = .ok (.ireturn, 1) := by decide +kernel
theorem dX8_fine_14 : decode cX8_fine 14 = .ok (.aload_n 0, 1) := by decide +kernel
theorem dX8_fine_15 : decode cX8_fine 15 = .ok (.getfield 46, 3) := by decide +kernel
theorem dX8_fine_18 : decode cX8_fine 18 = .ok (.getfield 147, 3) := by decide +kernel
theorem dX8_fine_21 : decode cX8_fine 21 = .ok (.istore_n 2, 1) := by decide +kernel
theorem dX8_fine_22 : decode cX8_fine 22 = .ok (.aload_n 0, 1) := by decide +kernel
theorem dX8_fine_23 : decode cX8_fine 23 = .ok (.getfield 46, 3) := by decide +kernel
theorem dX8_fine_26 : decode cX8_fine 26 = .ok (.iload_n 1, 1) := by decide +kernel
theorem dX8_fine_27 : decode cX8_fine 27 = .ok (.putfield 147, 3) := by decide +kernel
theorem dX8_fine_30 : decode cX8_fine 30 = .ok (.iload_n 2, 1) := by decide +kernel
theorem dX8_fine_31 : decode cX8_fine 31 = .ok (.ireturn, 1) := by decide +kernel
theorem dX8_turn_0 : decode cX8_turn 0 = .ok (.aload_n 0, 1) := by decide +kernel
theorem dX8_turn_1 : decode cX8_turn 1 = .ok (.iload_n 1, 1) := by decide +kernel
theorem dX8_turn_2 : decode cX8_turn 2 = .ok (.invokevirtual 69, 3) := by decide +kernel
theorem dX8_turn_5 : decode cX8_turn 5 = .ok (.ifCond .eq 11, 3) := by decide +kernel
theorem dX8_turn_8 : decode cX8_turn 8 = .ok (.iload_n 2, 1) := by decide +kernel
theorem dX8_turn_9 : decode cX8_turn 9 = .ok (.iconst 1, 1) := by decide +kernel
theorem dX8_turn_10 : decode cX8_turn 10 = .ok (.invokestatic 61, 3) := by decide +kernel
theorem dX8_turn_13 : decode cX8_turn 13 = .ok (.ifCond .ne 5, 3) := by decide +kernel
theorem dX8_turn_16 : decode cX8_turn 16 = .ok (.iconst (-1), 1) := by decide +kernel
theorem dX8_turn_17 : decode cX8_turn 17 = .ok (.ireturn, 1) := by decide +kernel
theorem dX8_turn_18 : decode cX8_turn 18 = .ok (.aload_n 0, 1) := by decide +kernel
theorem dX8_turn_19 : decode cX8_turn 19 = .ok (.getfield 46, 3) := by decide +kernel
theorem dX8_turn_22 : decode cX8_turn 22 = .ok (.iload_n 1, 1) := by decide +kernel
theorem dX8_turn_23 : decode cX8_turn 23 = .ok (.invokevirtual 151, 3) := by decide +kernel
theorem dX8_turn_26 : decode cX8_turn 26 = .ok (.iload_n 2, 1) := by decide +kernel
theorem dX8_turn_27 : decode cX8_turn 27 = .ok (.invokevirtual 155, 3) := by decide +kernel
theorem dX8_turn_30 : decode cX8_turn 30 = .ok (.ireturn, 1) := by decide +kernel
theorem dX8_stake_0 : decode cX8_stake 0 = .ok (.iload_n 1, 1) := by decide +kernel
theorem dX8_stake_1 : decode cX8_stake 1 = .ok (.iconst 1, 1) := by decide +kernel
theorem dX8_stake_2 : decode cX8_stake 2 = .ok (.invokestatic 61, 3) := by decide +kernel
theorem dX8_stake_5 : decode cX8_stake 5 = .ok (.ifCond .eq 17, 3) := by decide +kernel
theorem dX8_stake_8 : decode cX8_stake 8 = .ok (.aload_n 0, 1) := by decide +kernel
theorem dX8_stake_9 : decode cX8_stake 9 = .ok (.getfield 46, 3) := by decide +kernel
theorem dX8_stake_12 : decode cX8_stake 12 = .ok (.invokevirtual 160, 3) := by decide +kernel
theorem dX8_stake_15 : decode cX8_stake 15 = .ok (.iload_n 1, 1) := by decide +kernel
theorem dX8_stake_16 : decode cX8_stake 16 = .ok (.invokevirtual 155, 3) := by decide +kernel
theorem dX8_stake_19 : decode cX8_stake 19 = .ok (.goto 4, 3) := by decide +kernel
theorem dX8_stake_22 : decode cX8_stake 22 = .ok (.iconst (-1), 1) := by decide +kernel
theorem dX8_stake_23 : decode cX8_stake 23 = .ok (.ireturn, 1) := by decide +kernel
theorem dX8_ticket_0 : decode cX8_ticket 0 = .ok (.aload_n 0, 1) := by decide +kernel
theorem dX8_ticket_1 : decode cX8_ticket 1 = .ok (.iload_n 1, 1) := by decide +kernel
theorem dX8_ticket_2 : decode cX8_ticket 2 = .ok (.invokevirtual 107, 3) := by decide +kernel
theorem dX8_ticket_5 : decode cX8_ticket 5 = .ok (.ifCond .eq 27, 3) := by decide +kernel
theorem dX8_ticket_8 : decode cX8_ticket 8 = .ok (.aload_n 0, 1) := by decide +kernel
theorem dX8_ticket_9 : decode cX8_ticket 9 = .ok (.iload_n 2, 1) := by decide +kernel
theorem dX8_ticket_10 : decode cX8_ticket 10 = .ok (.invokevirtual 69, 3) := by decide +kernel
theorem dX8_ticket_13 : decode cX8_ticket 13 = .ok (.ifCond .eq 19, 3) := by decide +kernel
theorem dX8_ticket_16 : decode cX8_ticket 16 = .ok (.iload_n 3, 1) := by decide +kernel
theorem dX8_ticket_17 : decode cX8_ticket 17 = .ok (.invokestatic 123, 3) := by decide +kernel
theorem dX8_ticket_20 : decode cX8_ticket 20 = .ok (.ifCond .eq 12, 3) := by decide +kernel
theorem dX8_ticket_23 : decode cX8_ticket 23 = .ok (.iload 4, 2) := by decide +kernel
theorem dX8_ticket_25 : decode cX8_ticket 25 = .ok (.iconst 3, 1) := by decide +kernel
theorem dX8_ticket_26 : decode cX8_ticket 26 = .ok (.invokestatic 164, 3) := by decide +kernel
theorem dX8_ticket_29 : decode cX8_ticket 29 = .ok (.ifCond .ne 5, 3) := by decide +kernel
theorem dX8_ticket_32 : decode cX8_ticket 32 = .ok (.iconst (-1), 1) := by decide +kernel
theorem dX8_ticket_33 : decode cX8_ticket 33 = .ok (.ireturn, 1) := by decide +kernel
theorem dX8_ticket_34 : decode cX8_ticket 34 = .ok (.aload_n 0, 1) := by decide +kernel
theorem dX8_ticket_35 : decode cX8_ticket 35 = .ok (.getfield 19, 3) := by decide +kernel
theorem dX8_ticket_38 : decode cX8_ticket 38 = .ok (.getfield 72, 3) := by decide +kernel
theorem dX8_ticket_41 : decode cX8_ticket 41 = .ok (.iload_n 2, 1) := by decide +kernel
theorem dX8_ticket_42 : decode cX8_ticket 42 = .ok (.iaload, 1) := by decide +kernel
theorem dX8_ticket_43 : decode cX8_ticket 43 = .ok (.istore 5, 2) := by decide +kernel
theorem dX8_ticket_45 : decode cX8_ticket 45 = .ok (.aload_n 0, 1) := by decide +kernel
theorem dX8_ticket_46 : decode cX8_ticket 46 = .ok (.getfield 28, 3) := by decide +kernel
theorem dX8_ticket_49 : decode cX8_ticket 49 = .ok (.iload_n 1, 1) := by decide +kernel
theorem dX8_ticket_50 : decode cX8_ticket 50 = .ok (.iload 5, 2) := by decide +kernel
theorem dX8_ticket_52 : decode cX8_ticket 52 = .ok (.iload_n 3, 1) := by decide +kernel
theorem dX8_ticket_53 : decode cX8_ticket 53 = .ok (.invokevirtual 126, 3) := by decide +kernel
theorem dX8_ticket_56 : decode cX8_ticket 56 = .ok (.iload 4, 2) := by decide +kernel
theorem dX8_ticket_58 : decode cX8_ticket 58 = .ok (.invokestatic 167, 3) := by decide +kernel
theorem dX8_ticket_61 : decode cX8_ticket 61 = .ok (.istore 6, 2) := by decide +kernel
theorem dX8_ticket_63 : decode cX8_ticket 63 = .ok (.aload_n 0, 1) := by decide +kernel
theorem dX8_ticket_64 : decode cX8_ticket 64 = .ok (.getfield 53, 3) := by decide +kernel
theorem dX8_ticket_67 : decode cX8_ticket 67 = .ok (.iload_n 1, 1) := by decide +kernel
theorem dX8_ticket_68 : decode cX8_ticket 68 = .ok (.iload_n 2, 1) := by decide +kernel
theorem dX8_ticket_69 : decode cX8_ticket 69 = .ok (.iload_n 3, 1) := by decide +kernel
theorem dX8_ticket_70 : decode cX8_ticket 70 = .ok (.iload 4, 2) := by decide +kernel
theorem dX8_ticket_72 : decode cX8_ticket 72 = .ok (.iload 5, 2) := by decide +kernel
theorem dX8_ticket_74 : decode cX8_ticket 74 = .ok (.iload 6, 2) := by decide +kernel
theorem dX8_ticket_76 : decode cX8_ticket 76 = .ok (.invokevirtual 170, 3) := by decide +kernel
theorem dX8_ticket_79 : decode cX8_ticket 79 = .ok (.ireturn, 1) := by decide +kernel
theorem dX8_of_0 : decode cX8_of 0 = .ok (.iload_n 1, 1) := by decide +kernel
theorem dX8_of_1 : decode cX8_of 1 = .ok (.aload_n 0, 1) := by decide +kernel
theorem dX8_of_2 : decode cX8_of 2 = .ok (.getfield 53, 3) := by decide +kernel
theorem dX8_of_5 : decode cX8_of 5 = .ok (.getfield 173, 3) := by decide +kernel
theorem dX8_of_8 : decode cX8_of 8 = .ok (.invokestatic 164, 3) := by decide +kernel
theorem dX8_of_11 : decode cX8_of 11 = .ok (.ifCond .ne 5, 3) := by decide +kernel
theorem dX8_of_14 : decode cX8_of 14 = .ok (.iconst (-1), 1) := by decide +kernel
theorem dX8_of_15 : decode cX8_of 15 = .ok (.ireturn, 1) := by decide +kernel
theorem dX8_of_16 : decode cX8_of 16 = .ok (.iload_n 2, 1) := by decide +kernel
theorem dX8_of_17 : decode cX8_of 17 = .ok (.iconst 5, 1) := by decide +kernel
theorem dX8_of_18 : decode cX8_of 18 = .ok (.invokestatic 61, 3) := by decide +kernel
theorem dX8_of_21 : decode cX8_of 21 = .ok (.ifCond .eq 15, 3) := by decide +kernel
theorem dX8_of_24 : decode cX8_of 24 = .ok (.aload_n 0, 1) := by decide +kernel
theorem dX8_of_25 : decode cX8_of 25 = .ok (.getfield 53, 3) := by decide +kernel
theorem dX8_of_28 : decode cX8_of 28 = .ok (.getfield 176, 3) := by decide +kernel
theorem dX8_of_31 : decode cX8_of 31 = .ok (.iload_n 1, 1) := by decide +kernel
theorem dX8_of_32 : decode cX8_of 32 = .ok (.aaload, 1) := by decide +kernel
theorem dX8_of_33 : decode cX8_of 33 = .ok (.iload_n 2, 1) := by decide +kernel
theorem dX8_of_34 : decode cX8_of 34 = .ok (.iaload, 1) := by decide +kernel
theorem dX8_of_35 : decode cX8_of 35 = .ok (.ireturn, 1) := by decide +kernel
theorem dX8_of_36 : decode cX8_of 36 = .ok (.iload_n 2, 1) := by decide +kernel
theorem dX8_of_37 : decode cX8_of 37 = .ok (.lookupswitch 56 #[(6, 27), (7, 36)], 27) := by decide +kernel
theorem dX8_of_64 : decode cX8_of 64 = .ok (.aload_n 0, 1) := by decide +kernel
theorem dX8_of_65 : decode cX8_of 65 = .ok (.getfield 53, 3) := by decide +kernel
theorem dX8_of_68 : decode cX8_of 68 = .ok (.iload_n 1, 1) := by decide +kernel
theorem dX8_of_69 : decode cX8_of 69 = .ok (.invokevirtual 179, 3) := by decide +kernel
theorem dX8_of_72 : decode cX8_of 72 = .ok (.ireturn, 1) := by decide +kernel
theorem dX8_of_73 : decode cX8_of 73 = .ok (.aload_n 0, 1) := by decide +kernel
theorem dX8_of_74 : decode cX8_of 74 = .ok (.getfield 53, 3) := by decide +kernel
theorem dX8_of_77 : decode cX8_of 77 = .ok (.iload_n 1, 1) := by decide +kernel
theorem dX8_of_78 : decode cX8_of 78 = .ok (.iconst 1, 1) := by decide +kernel
theorem dX8_of_79 : decode cX8_of 79 = .ok (.invokevirtual 182, 3) := by decide +kernel
theorem dX8_of_82 : decode cX8_of 82 = .ok (.aload_n 0, 1) := by decide +kernel
theorem dX8_of_83 : decode cX8_of 83 = .ok (.getfield 53, 3) := by decide +kernel
theorem dX8_of_86 : decode cX8_of 86 = .ok (.iload_n 1, 1) := by decide +kernel
theorem dX8_of_87 : decode cX8_of 87 = .ok (.iconst 0, 1) := by decide +kernel
theorem dX8_of_88 : decode cX8_of 88 = .ok (.invokevirtual 182, 3) := by decide +kernel
theorem dX8_of_91 : decode cX8_of 91 = .ok (.iadd, 1) := by decide +kernel
theorem dX8_of_92 : decode cX8_of 92 = .ok (.ireturn, 1) := by decide +kernel
theorem dX8_of_93 : decode cX8_of 93 = .ok (.iconst (-1), 1) := by decide +kernel
theorem dX8_of_94 : decode cX8_of 94 = .ok (.ireturn, 1) := by decide +kernel
theorem dX8_many_0 : decode cX8_many 0 = .ok (.iload_n 1, 1) := by decide +kernel
theorem dX8_many_1 : decode cX8_many 1 = .ok (.tableswitch 114 0 7 #[47, 55, 63, 71, 80, 89, 98, 106], 47) := by decide +kernel
theorem dX8_many_48 : decode cX8_many 48 = .ok (.aload_n 0, 1) := by decide +kernel
theorem dX8_many_49 : decode cX8_many 49 = .ok (.getfield 19, 3) := by decide +kernel
theorem dX8_many_52 : decode cX8_many 52 = .ok (.getfield 185, 3) := by decide +kernel
theorem dX8_many_55 : decode cX8_many 55 = .ok (.ireturn, 1) := by decide +kernel
theorem dX8_many_56 : decode cX8_many 56 = .ok (.aload_n 0, 1) := by decide +kernel
theorem dX8_many_57 : decode cX8_many 57 = .ok (.getfield 28, 3) := by decide +kernel
theorem dX8_many_60 : decode cX8_many 60 = .ok (.getfield 186, 3) := by decide +kernel
theorem dX8_many_63 : decode cX8_many 63 = .ok (.ireturn, 1) := by decide +kernel
theorem dX8_many_64 : decode cX8_many 64 = .ok (.aload_n 0, 1) := by decide +kernel
theorem dX8_many_65 : decode cX8_many 65 = .ok (.getfield 53, 3) := by decide +kernel
theorem dX8_many_68 : decode cX8_many 68 = .ok (.getfield 173, 3) := by decide +kernel
theorem dX8_many_71 : decode cX8_many 71 = .ok (.ireturn, 1) := by decide +kernel
theorem dX8_many_72 : decode cX8_many 72 = .ok (.aload_n 0, 1) := by decide +kernel
theorem dX8_many_73 : decode cX8_many 73 = .ok (.getfield 53, 3) := by decide +kernel
theorem dX8_many_76 : decode cX8_many 76 = .ok (.iconst 1, 1) := by decide +kernel
theorem dX8_many_77 : decode cX8_many 77 = .ok (.invokevirtual 187, 3) := by decide +kernel
theorem dX8_many_80 : decode cX8_many 80 = .ok (.ireturn, 1) := by decide +kernel
theorem dX8_many_81 : decode cX8_many 81 = .ok (.aload_n 0, 1) := by decide +kernel
theorem dX8_many_82 : decode cX8_many 82 = .ok (.getfield 53, 3) := by decide +kernel
theorem dX8_many_85 : decode cX8_many 85 = .ok (.iconst 0, 1) := by decide +kernel
theorem dX8_many_86 : decode cX8_many 86 = .ok (.invokevirtual 187, 3) := by decide +kernel
theorem dX8_many_89 : decode cX8_many 89 = .ok (.ireturn, 1) := by decide +kernel
theorem dX8_many_90 : decode cX8_many 90 = .ok (.aload_n 0, 1) := by decide +kernel
theorem dX8_many_91 : decode cX8_many 91 = .ok (.getfield 53, 3) := by decide +kernel
theorem dX8_many_94 : decode cX8_many 94 = .ok (.iconst 2, 1) := by decide +kernel
theorem dX8_many_95 : decode cX8_many 95 = .ok (.invokevirtual 187, 3) := by decide +kernel
theorem dX8_many_98 : decode cX8_many 98 = .ok (.ireturn, 1) := by decide +kernel
theorem dX8_many_99 : decode cX8_many 99 = .ok (.aload_n 0, 1) := by decide +kernel
theorem dX8_many_100 : decode cX8_many 100 = .ok (.getfield 19, 3) := by decide +kernel
theorem dX8_many_103 : decode cX8_many 103 = .ok (.invokevirtual 190, 3) := by decide +kernel
theorem dX8_many_106 : decode cX8_many 106 = .ok (.ireturn, 1) := by decide +kernel
theorem dX8_many_107 : decode cX8_many 107 = .ok (.aload_n 0, 1) := by decide +kernel
theorem dX8_many_108 : decode cX8_many 108 = .ok (.getfield 28, 3) := by decide +kernel
theorem dX8_many_111 : decode cX8_many 111 = .ok (.invokevirtual 193, 3) := by decide +kernel
theorem dX8_many_114 : decode cX8_many 114 = .ok (.ireturn, 1) := by decide +kernel
theorem dX8_many_115 : decode cX8_many 115 = .ok (.iconst (-1), 1) := by decide +kernel
theorem dX8_many_116 : decode cX8_many 116 = .ok (.ireturn, 1) := by decide +kernel
theorem dX8_isUpTo_0 : decode cX8_isUpTo 0 = .ok (.iload_n 0, 1) := by decide +kernel
theorem dX8_isUpTo_1 : decode cX8_isUpTo 1 = .ok (.ifCond .lt 12, 3) := by decide +kernel
theorem dX8_isUpTo_4 : decode cX8_isUpTo 4 = .ok (.iload_n 0, 1) := by decide +kernel
theorem dX8_isUpTo_5 : decode cX8_isUpTo 5 = .ok (.iload_n 1, 1) := by decide +kernel
theorem dX8_isUpTo_6 : decode cX8_isUpTo 6 = .ok (.if_icmp .gt 7, 3) := by decide +kernel
theorem dX8_isUpTo_9 : decode cX8_isUpTo 9 = .ok (.iconst 1, 1) := by decide +kernel
theorem dX8_isUpTo_10 : decode cX8_isUpTo 10 = .ok (.goto 4, 3) := by decide +kernel
theorem dX8_isUpTo_13 : decode cX8_isUpTo 13 = .ok (.iconst 0, 1) := by decide +kernel
theorem dX8_isUpTo_14 : decode cX8_isUpTo 14 = .ok (.ireturn, 1) := by decide +kernel
theorem dX8_isNumbered_0 : decode cX8_isNumbered 0 = .ok (.iload_n 0, 1) := by decide +kernel
theorem dX8_isNumbered_1 : decode cX8_isNumbered 1 = .ok (.ifCond .lt 12, 3) := by decide +kernel
theorem dX8_isNumbered_4 : decode cX8_isNumbered 4 = .ok (.iload_n 0, 1) := by decide +kernel
theorem dX8_isNumbered_5 : decode cX8_isNumbered 5 = .ok (.iload_n 1, 1) := by decide +kernel
theorem dX8_isNumbered_6 : decode cX8_isNumbered 6 = .ok (.if_icmp .ge 7, 3) := by decide +kernel
theorem dX8_isNumbered_9 : decode cX8_isNumbered 9 = .ok (.iconst 1, 1) := by decide +kernel
theorem dX8_isNumbered_10 : decode cX8_isNumbered 10 = .ok (.goto 4, 3) := by decide +kernel
theorem dX8_isNumbered_13 : decode cX8_isNumbered 13 = .ok (.iconst 0, 1) := by decide +kernel
theorem dX8_isNumbered_14 : decode cX8_isNumbered 14 = .ok (.ireturn, 1) := by decide +kernel
theorem dX8_isStreet_0 : decode cX8_isStreet 0 = .ok (.iload_n 1, 1) := by decide +kernel
theorem dX8_isStreet_1 : decode cX8_isStreet 1 = .ok (.aload_n 0, 1) := by decide +kernel
theorem dX8_isStreet_2 : decode cX8_isStreet 2 = .ok (.getfield 19, 3) := by decide +kernel
theorem dX8_isStreet_5 : decode cX8_isStreet 5 = .ok (.getfield 185, 3) := by decide +kernel
theorem dX8_isStreet_8 : decode cX8_isStreet 8 = .ok (.invokestatic 164, 3) := by decide +kernel
theorem dX8_isStreet_11 : decode cX8_isStreet 11 = .ok (.ireturn, 1) := by decide +kernel
theorem dX8_isCar_0 : decode cX8_isCar 0 = .ok (.iload_n 1, 1) := by decide +kernel
theorem dX8_isCar_1 : decode cX8_isCar 1 = .ok (.aload_n 0, 1) := by decide +kernel
theorem dX8_isCar_2 : decode cX8_isCar 2 = .ok (.getfield 28, 3) := by decide +kernel
theorem dX8_isCar_5 : decode cX8_isCar 5 = .ok (.getfield 186, 3) := by decide +kernel
theorem dX8_isCar_8 : decode cX8_isCar 8 = .ok (.invokestatic 164, 3) := by decide +kernel
theorem dX8_isCar_11 : decode cX8_isCar 11 = .ok (.ireturn, 1) := by decide +kernel
theorem dX8_isZone_0 : decode cX8_isZone 0 = .ok (.iload_n 0, 1) := by decide +kernel
theorem dX8_isZone_1 : decode cX8_isZone 1 = .ok (.iconst 4, 1) := by decide +kernel
theorem dX8_isZone_2 : decode cX8_isZone 2 = .ok (.invokestatic 164, 3) := by decide +kernel
theorem dX8_isZone_5 : decode cX8_isZone 5 = .ok (.ireturn, 1) := by decide +kernel
theorem dX8_isSort_0 : decode cX8_isSort 0 = .ok (.iload_n 0, 1) := by decide +kernel
theorem dX8_isSort_1 : decode cX8_isSort 1 = .ok (.iconst 3, 1) := by decide +kernel
theorem dX8_isSort_2 : decode cX8_isSort 2 = .ok (.invokestatic 164, 3) := by decide +kernel
theorem dX8_isSort_5 : decode cX8_isSort 5 = .ok (.ireturn, 1) := by decide +kernel
theorem dX8_isNight_0 : decode cX8_isNight 0 = .ok (.iload_n 0, 1) := by decide +kernel
theorem dX8_isNight_1 : decode cX8_isNight 1 = .ok (.bipush 7, 2) := by decide +kernel
theorem dX8_isNight_3 : decode cX8_isNight 3 = .ok (.invokestatic 164, 3) := by decide +kernel
theorem dX8_isNight_6 : decode cX8_isNight 6 = .ok (.ireturn, 1) := by decide +kernel
theorem dX8_isHour_0 : decode cX8_isHour 0 = .ok (.iload_n 0, 1) := by decide +kernel
theorem dX8_isHour_1 : decode cX8_isHour 1 = .ok (.bipush 24, 2) := by decide +kernel
theorem dX8_isHour_3 : decode cX8_isHour 3 = .ok (.invokestatic 164, 3) := by decide +kernel
theorem dX8_isHour_6 : decode cX8_isHour 6 = .ok (.ireturn, 1) := by decide +kernel
theorem dX8_isSpan_0 : decode cX8_isSpan 0 = .ok (.iload_n 0, 1) := by decide +kernel
theorem dX8_isSpan_1 : decode cX8_isSpan 1 = .ok (.iconst (-1), 1) := by decide +kernel
theorem dX8_isSpan_2 : decode cX8_isSpan 2 = .ok (.if_icmp .eq 17, 3) := by decide +kernel
theorem dX8_isSpan_5 : decode cX8_isSpan 5 = .ok (.iload_n 0, 1) := by decide +kernel
theorem dX8_isSpan_6 : decode cX8_isSpan 6 = .ok (.invokestatic 123, 3) := by decide +kernel
theorem dX8_isSpan_9 : decode cX8_isSpan 9 = .ok (.ifCond .eq 14, 3) := by decide +kernel
theorem dX8_isSpan_12 : decode cX8_isSpan 12 = .ok (.iload_n 1, 1) := by decide +kernel
theorem dX8_isSpan_13 : decode cX8_isSpan 13 = .ok (.invokestatic 123, 3) := by decide +kernel
theorem dX8_isSpan_16 : decode cX8_isSpan 16 = .ok (.ifCond .eq 7, 3) := by decide +kernel
theorem dX8_isSpan_19 : decode cX8_isSpan 19 = .ok (.iconst 1, 1) := by decide +kernel
theorem dX8_isSpan_20 : decode cX8_isSpan 20 = .ok (.goto 4, 3) := by decide +kernel
theorem dX8_isSpan_23 : decode cX8_isSpan 23 = .ok (.iconst 0, 1) := by decide +kernel
theorem dX8_isSpan_24 : decode cX8_isSpan 24 = .ok (.ireturn, 1) := by decide +kernel
theorem dX8_span_0 : decode cX8_span 0 = .ok (.iload_n 0, 1) := by decide +kernel
theorem dX8_span_1 : decode cX8_span 1 = .ok (.iconst (-1), 1) := by decide +kernel
theorem dX8_span_2 : decode cX8_span 2 = .ok (.if_icmp .ne 5, 3) := by decide +kernel
theorem dX8_span_5 : decode cX8_span 5 = .ok (.iconst 0, 1) := by decide +kernel
theorem dX8_span_6 : decode cX8_span 6 = .ok (.ireturn, 1) := by decide +kernel
theorem dX8_span_7 : decode cX8_span 7 = .ok (.iconst 0, 1) := by decide +kernel
theorem dX8_span_8 : decode cX8_span 8 = .ok (.istore_n 2, 1) := by decide +kernel
theorem dX8_span_9 : decode cX8_span 9 = .ok (.iconst 0, 1) := by decide +kernel
theorem dX8_span_10 : decode cX8_span 10 = .ok (.istore_n 3, 1) := by decide +kernel
theorem dX8_span_11 : decode cX8_span 11 = .ok (.iload_n 3, 1) := by decide +kernel
theorem dX8_span_12 : decode cX8_span 12 = .ok (.bipush 24, 2) := by decide +kernel
theorem dX8_span_14 : decode cX8_span 14 = .ok (.if_icmp .ge 60, 3) := by decide +kernel
theorem dX8_span_17 : decode cX8_span 17 = .ok (.iload_n 0, 1) := by decide +kernel
theorem dX8_span_18 : decode cX8_span 18 = .ok (.iload_n 1, 1) := by decide +kernel
theorem dX8_span_19 : decode cX8_span 19 = .ok (.if_icmp .gt 21, 3) := by decide +kernel
theorem dX8_span_22 : decode cX8_span 22 = .ok (.iload_n 0, 1) := by decide +kernel
theorem dX8_span_23 : decode cX8_span 23 = .ok (.iload_n 3, 1) := by decide +kernel
theorem dX8_span_24 : decode cX8_span 24 = .ok (.if_icmp .gt 12, 3) := by decide +kernel
theorem dX8_span_27 : decode cX8_span 27 = .ok (.iload_n 3, 1) := by decide +kernel
theorem dX8_span_28 : decode cX8_span 28 = .ok (.iload_n 1, 1) := by decide +kernel
theorem dX8_span_29 : decode cX8_span 29 = .ok (.if_icmp .gt 7, 3) := by decide +kernel
theorem dX8_span_32 : decode cX8_span 32 = .ok (.iconst 1, 1) := by decide +kernel
theorem dX8_span_33 : decode cX8_span 33 = .ok (.goto 22, 3) := by decide +kernel
theorem dX8_span_36 : decode cX8_span 36 = .ok (.iconst 0, 1) := by decide +kernel
theorem dX8_span_37 : decode cX8_span 37 = .ok (.goto 18, 3) := by decide +kernel
theorem dX8_span_40 : decode cX8_span 40 = .ok (.iload_n 0, 1) := by decide +kernel
theorem dX8_span_41 : decode cX8_span 41 = .ok (.iload_n 3, 1) := by decide +kernel
theorem dX8_span_42 : decode cX8_span 42 = .ok (.if_icmp .le 8, 3) := by decide +kernel
theorem dX8_span_45 : decode cX8_span 45 = .ok (.iload_n 3, 1) := by decide +kernel
theorem dX8_span_46 : decode cX8_span 46 = .ok (.iload_n 1, 1) := by decide +kernel
theorem dX8_span_47 : decode cX8_span 47 = .ok (.if_icmp .gt 7, 3) := by decide +kernel
theorem dX8_span_50 : decode cX8_span 50 = .ok (.iconst 1, 1) := by decide +kernel
theorem dX8_span_51 : decode cX8_span 51 = .ok (.goto 4, 3) := by decide +kernel
theorem dX8_span_54 : decode cX8_span 54 = .ok (.iconst 0, 1) := by decide +kernel
theorem dX8_span_55 : decode cX8_span 55 = .ok (.istore 4, 2) := by decide +kernel
theorem dX8_span_57 : decode cX8_span 57 = .ok (.iload 4, 2) := by decide +kernel
theorem dX8_span_59 : decode cX8_span 59 = .ok (.ifCond .eq 9, 3) := by decide +kernel
theorem dX8_span_62 : decode cX8_span 62 = .ok (.iload_n 2, 1) := by decide +kernel
theorem dX8_span_63 : decode cX8_span 63 = .ok (.iconst 1, 1) := by decide +kernel
theorem dX8_span_64 : decode cX8_span 64 = .ok (.iload_n 3, 1) := by decide +kernel
theorem dX8_span_65 : decode cX8_span 65 = .ok (.ishl, 1) := by decide +kernel
theorem dX8_span_66 : decode cX8_span 66 = .ok (.ior, 1) := by decide +kernel
theorem dX8_span_67 : decode cX8_span 67 = .ok (.istore_n 2, 1) := by decide +kernel
theorem dX8_span_68 : decode cX8_span 68 = .ok (.iinc 3 1, 3) := by decide +kernel
theorem dX8_span_71 : decode cX8_span 71 = .ok (.goto (-60), 3) := by decide +kernel
theorem dX8_span_74 : decode cX8_span 74 = .ok (.iload_n 2, 1) := by decide +kernel
theorem dX8_span_75 : decode cX8_span 75 = .ok (.ireturn, 1) := by decide +kernel
