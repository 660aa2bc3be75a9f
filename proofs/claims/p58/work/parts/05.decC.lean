theorem dX0_init_0 : decode cX0_init 0 = .ok (.aload_n 0, 1) := by decide +kernel
theorem dX0_init_1 : decode cX0_init 1 = .ok (.invokespecial 3, 3) := by decide +kernel
theorem dX0_init_4 : decode cX0_init 4 = .ok (.aload_n 0, 1) := by decide +kernel
theorem dX0_init_5 : decode cX0_init 5 = .ok (.bipush 12, 2) := by decide +kernel
theorem dX0_init_7 : decode cX0_init 7 = .ok (.newarray .int, 2) := by decide +kernel
theorem dX0_init_9 : decode cX0_init 9 = .ok (.putfield 9, 3) := by decide +kernel
theorem dX0_init_12 : decode cX0_init 12 = .ok (.aload_n 0, 1) := by decide +kernel
theorem dX0_init_13 : decode cX0_init 13 = .ok (.iconst 4, 1) := by decide +kernel
theorem dX0_init_14 : decode cX0_init 14 = .ok (.newarray .int, 2) := by decide +kernel
theorem dX0_init_16 : decode cX0_init 16 = .ok (.putfield 15, 3) := by decide +kernel
theorem dX0_init_19 : decode cX0_init 19 = .ok (.aload_n 0, 1) := by decide +kernel
theorem dX0_init_20 : decode cX0_init 20 = .ok (.bipush 24, 2) := by decide +kernel
theorem dX0_init_22 : decode cX0_init 22 = .ok (.newarray .int, 2) := by decide +kernel
theorem dX0_init_24 : decode cX0_init 24 = .ok (.putfield 18, 3) := by decide +kernel
theorem dX0_init_27 : decode cX0_init 27 = .ok (.return_, 1) := by decide +kernel
theorem dX0_begin_0 : decode cX0_begin 0 = .ok (.aload_n 0, 1) := by decide +kernel
theorem dX0_begin_1 : decode cX0_begin 1 = .ok (.bipush (-3), 2) := by decide +kernel
theorem dX0_begin_3 : decode cX0_begin 3 = .ok (.putfield 21, 3) := by decide +kernel
theorem dX0_begin_6 : decode cX0_begin 6 = .ok (.aload_n 0, 1) := by decide +kernel
theorem dX0_begin_7 : decode cX0_begin 7 = .ok (.iload_n 1, 1) := by decide +kernel
theorem dX0_begin_8 : decode cX0_begin 8 = .ok (.putfield 25, 3) := by decide +kernel
theorem dX0_begin_11 : decode cX0_begin 11 = .ok (.aload_n 0, 1) := by decide +kernel
theorem dX0_begin_12 : decode cX0_begin 12 = .ok (.iconst 0, 1) := by decide +kernel
theorem dX0_begin_13 : decode cX0_begin 13 = .ok (.putfield 28, 3) := by decide +kernel
theorem dX0_begin_16 : decode cX0_begin 16 = .ok (.aload_n 0, 1) := by decide +kernel
theorem dX0_begin_17 : decode cX0_begin 17 = .ok (.iload_n 1, 1) := by decide +kernel
theorem dX0_begin_18 : decode cX0_begin 18 = .ok (.invokevirtual 31, 3) := by decide +kernel
theorem dX0_begin_21 : decode cX0_begin 21 = .ok (.aload_n 0, 1) := by decide +kernel
theorem dX0_begin_22 : decode cX0_begin 22 = .ok (.iconst 0, 1) := by decide +kernel
theorem dX0_begin_23 : decode cX0_begin 23 = .ok (.putfield 35, 3) := by decide +kernel
theorem dX0_begin_26 : decode cX0_begin 26 = .ok (.aload_n 0, 1) := by decide +kernel
theorem dX0_begin_27 : decode cX0_begin 27 = .ok (.iconst (-1), 1) := by decide +kernel
theorem dX0_begin_28 : decode cX0_begin 28 = .ok (.putfield 38, 3) := by decide +kernel
theorem dX0_begin_31 : decode cX0_begin 31 = .ok (.aload_n 0, 1) := by decide +kernel
theorem dX0_begin_32 : decode cX0_begin 32 = .ok (.iconst 0, 1) := by decide +kernel
theorem dX0_begin_33 : decode cX0_begin 33 = .ok (.putfield 41, 3) := by decide +kernel
theorem dX0_begin_36 : decode cX0_begin 36 = .ok (.return_, 1) := by decide +kernel
theorem dX0_copyFrom_0 : decode cX0_copyFrom 0 = .ok (.aload_n 0, 1) := by decide +kernel
theorem dX0_copyFrom_1 : decode cX0_copyFrom 1 = .ok (.aload_n 1, 1) := by decide +kernel
theorem dX0_copyFrom_2 : decode cX0_copyFrom 2 = .ok (.getfield 21, 3) := by decide +kernel
theorem dX0_copyFrom_5 : decode cX0_copyFrom 5 = .ok (.putfield 21, 3) := by decide +kernel
theorem dX0_copyFrom_8 : decode cX0_copyFrom 8 = .ok (.aload_n 0, 1) := by decide +kernel
theorem dX0_copyFrom_9 : decode cX0_copyFrom 9 = .ok (.aload_n 1, 1) := by decide +kernel
theorem dX0_copyFrom_10 : decode cX0_copyFrom 10 = .ok (.getfield 25, 3) := by decide +kernel
theorem dX0_copyFrom_13 : decode cX0_copyFrom 13 = .ok (.putfield 25, 3) := by decide +kernel
theorem dX0_copyFrom_16 : decode cX0_copyFrom 16 = .ok (.aload_n 0, 1) := by decide +kernel
theorem dX0_copyFrom_17 : decode cX0_copyFrom 17 = .ok (.aload_n 1, 1) := by decide +kernel
theorem dX0_copyFrom_18 : decode cX0_copyFrom 18 = .ok (.getfield 28, 3) := by decide +kernel
theorem dX0_copyFrom_21 : decode cX0_copyFrom 21 = .ok (.putfield 28, 3) := by decide +kernel
theorem dX0_copyFrom_24 : decode cX0_copyFrom 24 = .ok (.aload_n 0, 1) := by decide +kernel
theorem dX0_copyFrom_25 : decode cX0_copyFrom 25 = .ok (.aload_n 1, 1) := by decide +kernel
theorem dX0_copyFrom_26 : decode cX0_copyFrom 26 = .ok (.getfield 35, 3) := by decide +kernel
theorem dX0_copyFrom_29 : decode cX0_copyFrom 29 = .ok (.putfield 35, 3) := by decide +kernel
theorem dX0_copyFrom_32 : decode cX0_copyFrom 32 = .ok (.aload_n 0, 1) := by decide +kernel
theorem dX0_copyFrom_33 : decode cX0_copyFrom 33 = .ok (.aload_n 1, 1) := by decide +kernel
theorem dX0_copyFrom_34 : decode cX0_copyFrom 34 = .ok (.getfield 38, 3) := by decide +kernel
theorem dX0_copyFrom_37 : decode cX0_copyFrom 37 = .ok (.putfield 38, 3) := by decide +kernel
theorem dX0_copyFrom_40 : decode cX0_copyFrom 40 = .ok (.aload_n 0, 1) := by decide +kernel
theorem dX0_copyFrom_41 : decode cX0_copyFrom 41 = .ok (.aload_n 1, 1) := by decide +kernel
theorem dX0_copyFrom_42 : decode cX0_copyFrom 42 = .ok (.getfield 41, 3) := by decide +kernel
theorem dX0_copyFrom_45 : decode cX0_copyFrom 45 = .ok (.putfield 41, 3) := by decide +kernel
theorem dX0_copyFrom_48 : decode cX0_copyFrom 48 = .ok (.aload_n 1, 1) := by decide +kernel
theorem dX0_copyFrom_49 : decode cX0_copyFrom 49 = .ok (.getfield 9, 3) := by decide +kernel
theorem dX0_copyFrom_52 : decode cX0_copyFrom 52 = .ok (.iconst 0, 1) := by decide +kernel
theorem dX0_copyFrom_53 : decode cX0_copyFrom 53 = .ok (.aload_n 0, 1) := by decide +kernel
theorem dX0_copyFrom_54 : decode cX0_copyFrom 54 = .ok (.getfield 9, 3) := by decide +kernel
theorem dX0_copyFrom_57 : decode cX0_copyFrom 57 = .ok (.iconst 0, 1) := by decide +kernel
theorem dX0_copyFrom_58 : decode cX0_copyFrom 58 = .ok (.bipush 12, 2) := by decide +kernel
theorem dX0_copyFrom_60 : decode cX0_copyFrom 60 = .ok (.invokestatic 45, 3) := by decide +kernel
theorem dX0_copyFrom_63 : decode cX0_copyFrom 63 = .ok (.aload_n 1, 1) := by decide +kernel
theorem dX0_copyFrom_64 : decode cX0_copyFrom 64 = .ok (.getfield 15, 3) := by decide +kernel
theorem dX0_copyFrom_67 : decode cX0_copyFrom 67 = .ok (.iconst 0, 1) := by decide +kernel
theorem dX0_copyFrom_68 : decode cX0_copyFrom 68 = .ok (.aload_n 0, 1) := by decide +kernel
theorem dX0_copyFrom_69 : decode cX0_copyFrom 69 = .ok (.getfield 15, 3) := by decide +kernel
theorem dX0_copyFrom_72 : decode cX0_copyFrom 72 = .ok (.iconst 0, 1) := by decide +kernel
theorem dX0_copyFrom_73 : decode cX0_copyFrom 73 = .ok (.iconst 4, 1) := by decide +kernel
theorem dX0_copyFrom_74 : decode cX0_copyFrom 74 = .ok (.invokestatic 45, 3) := by decide +kernel
theorem dX0_copyFrom_77 : decode cX0_copyFrom 77 = .ok (.aload_n 1, 1) := by decide +kernel
theorem dX0_copyFrom_78 : decode cX0_copyFrom 78 = .ok (.getfield 18, 3) := by decide +kernel
theorem dX0_copyFrom_81 : decode cX0_copyFrom 81 = .ok (.iconst 0, 1) := by decide +kernel
theorem dX0_copyFrom_82 : decode cX0_copyFrom 82 = .ok (.aload_n 0, 1) := by decide +kernel
theorem dX0_copyFrom_83 : decode cX0_copyFrom 83 = .ok (.getfield 18, 3) := by decide +kernel
theorem dX0_copyFrom_86 : decode cX0_copyFrom 86 = .ok (.iconst 0, 1) := by decide +kernel
theorem dX0_copyFrom_87 : decode cX0_copyFrom 87 = .ok (.bipush 24, 2) := by decide +kernel
theorem dX0_copyFrom_89 : decode cX0_copyFrom 89 = .ok (.invokestatic 45, 3) := by decide +kernel
theorem dX0_copyFrom_92 : decode cX0_copyFrom 92 = .ok (.return_, 1) := by decide +kernel
theorem dX0_isAtTable_0 : decode cX0_isAtTable 0 = .ok (.aload_n 0, 1) := by decide +kernel
theorem dX0_isAtTable_1 : decode cX0_isAtTable 1 = .ok (.getfield 21, 3) := by decide +kernel
theorem dX0_isAtTable_4 : decode cX0_isAtTable 4 = .ok (.ifCond .lt 7, 3) := by decide +kernel
theorem dX0_isAtTable_7 : decode cX0_isAtTable 7 = .ok (.iconst 1, 1) := by decide +kernel
theorem dX0_isAtTable_8 : decode cX0_isAtTable 8 = .ok (.goto 4, 3) := by decide +kernel
theorem dX0_isAtTable_11 : decode cX0_isAtTable 11 = .ok (.iconst 0, 1) := by decide +kernel
theorem dX0_isAtTable_12 : decode cX0_isAtTable 12 = .ok (.ireturn, 1) := by decide +kernel
theorem dX0_bearsGoodSeal_0 : decode cX0_bearsGoodSeal 0 = .ok (.aload_n 0, 1) := by decide +kernel
theorem dX0_bearsGoodSeal_1 : decode cX0_bearsGoodSeal 1 = .ok (.invokevirtual 51, 3) := by decide +kernel
theorem dX0_bearsGoodSeal_4 : decode cX0_bearsGoodSeal 4 = .ok (.ifCond .ne 32, 3) := by decide +kernel
theorem dX0_bearsGoodSeal_7 : decode cX0_bearsGoodSeal 7 = .ok (.aload_n 0, 1) := by decide +kernel
theorem dX0_bearsGoodSeal_8 : decode cX0_bearsGoodSeal 8 = .ok (.getfield 28, 3) := by decide +kernel
theorem dX0_bearsGoodSeal_11 : decode cX0_bearsGoodSeal 11 = .ok (.ifCond .le 25, 3) := by decide +kernel
theorem dX0_bearsGoodSeal_14 : decode cX0_bearsGoodSeal 14 = .ok (.aload_n 0, 1) := by decide +kernel
theorem dX0_bearsGoodSeal_15 : decode cX0_bearsGoodSeal 15 = .ok (.getfield 9, 3) := by decide +kernel
theorem dX0_bearsGoodSeal_18 : decode cX0_bearsGoodSeal 18 = .ok (.aload_n 0, 1) := by decide +kernel
theorem dX0_bearsGoodSeal_19 : decode cX0_bearsGoodSeal 19 = .ok (.getfield 28, 3) := by decide +kernel
theorem dX0_bearsGoodSeal_22 : decode cX0_bearsGoodSeal 22 = .ok (.iconst 1, 1) := by decide +kernel
theorem dX0_bearsGoodSeal_23 : decode cX0_bearsGoodSeal 23 = .ok (.isub, 1) := by decide +kernel
theorem dX0_bearsGoodSeal_24 : decode cX0_bearsGoodSeal 24 = .ok (.iaload, 1) := by decide +kernel
theorem dX0_bearsGoodSeal_25 : decode cX0_bearsGoodSeal 25 = .ok (.aload_n 0, 1) := by decide +kernel
theorem dX0_bearsGoodSeal_26 : decode cX0_bearsGoodSeal 26 = .ok (.getfield 25, 3) := by decide +kernel
theorem dX0_bearsGoodSeal_29 : decode cX0_bearsGoodSeal 29 = .ok (.if_icmp .ne 7, 3) := by decide +kernel
theorem dX0_bearsGoodSeal_32 : decode cX0_bearsGoodSeal 32 = .ok (.iconst 1, 1) := by decide +kernel
theorem dX0_bearsGoodSeal_33 : decode cX0_bearsGoodSeal 33 = .ok (.goto 4, 3) := by decide +kernel
theorem dX0_bearsGoodSeal_36 : decode cX0_bearsGoodSeal 36 = .ok (.iconst 0, 1) := by decide +kernel
theorem dX0_bearsGoodSeal_37 : decode cX0_bearsGoodSeal 37 = .ok (.ireturn, 1) := by decide +kernel
theorem dX0_enter_0 : decode cX0_enter 0 = .ok (.aload_n 0, 1) := by decide +kernel
theorem dX0_enter_1 : decode cX0_enter 1 = .ok (.getfield 28, 3) := by decide +kernel
theorem dX0_enter_4 : decode cX0_enter 4 = .ok (.bipush 12, 2) := by decide +kernel
theorem dX0_enter_6 : decode cX0_enter 6 = .ok (.if_icmp .ge 23, 3) := by decide +kernel
theorem dX0_enter_9 : decode cX0_enter 9 = .ok (.aload_n 0, 1) := by decide +kernel
theorem dX0_enter_10 : decode cX0_enter 10 = .ok (.getfield 9, 3) := by decide +kernel
theorem dX0_enter_13 : decode cX0_enter 13 = .ok (.aload_n 0, 1) := by decide +kernel
theorem dX0_enter_14 : decode cX0_enter 14 = .ok (.getfield 28, 3) := by decide +kernel
theorem dX0_enter_17 : decode cX0_enter 17 = .ok (.iload_n 1, 1) := by decide +kernel
theorem dX0_enter_18 : decode cX0_enter 18 = .ok (.iastore, 1) := by decide +kernel
theorem dX0_enter_19 : decode cX0_enter 19 = .ok (.aload_n 0, 1) := by decide +kernel
theorem dX0_enter_20 : decode cX0_enter 20 = .ok (.dup, 1) := by decide +kernel
theorem dX0_enter_21 : decode cX0_enter 21 = .ok (.getfield 28, 3) := by decide +kernel
theorem dX0_enter_24 : decode cX0_enter 24 = .ok (.iconst 1, 1) := by decide +kernel
theorem dX0_enter_25 : decode cX0_enter 25 = .ok (.iadd, 1) := by decide +kernel
theorem dX0_enter_26 : decode cX0_enter 26 = .ok (.putfield 28, 3) := by decide +kernel
theorem dX0_enter_29 : decode cX0_enter 29 = .ok (.return_, 1) := by decide +kernel
theorem dX0_openOn_0 : decode cX0_openOn 0 = .ok (.aload_n 0, 1) := by decide +kernel
theorem dX0_openOn_1 : decode cX0_openOn 1 = .ok (.getfield 25, 3) := by decide +kernel
theorem dX0_openOn_4 : decode cX0_openOn 4 = .ok (.istore_n 2, 1) := by decide +kernel
theorem dX0_openOn_5 : decode cX0_openOn 5 = .ok (.aload_n 0, 1) := by decide +kernel
theorem dX0_openOn_6 : decode cX0_openOn 6 = .ok (.iconst 0, 1) := by decide +kernel
theorem dX0_openOn_7 : decode cX0_openOn 7 = .ok (.putfield 25, 3) := by decide +kernel
theorem dX0_openOn_10 : decode cX0_openOn 10 = .ok (.aload_n 0, 1) := by decide +kernel
theorem dX0_openOn_11 : decode cX0_openOn 11 = .ok (.iload_n 1, 1) := by decide +kernel
theorem dX0_openOn_12 : decode cX0_openOn 12 = .ok (.putfield 21, 3) := by decide +kernel
theorem dX0_openOn_15 : decode cX0_openOn 15 = .ok (.iload_n 2, 1) := by decide +kernel
theorem dX0_openOn_16 : decode cX0_openOn 16 = .ok (.ireturn, 1) := by decide +kernel
theorem dX0_hasCount_0 : decode cX0_hasCount 0 = .ok (.iload_n 1, 1) := by decide +kernel
theorem dX0_hasCount_1 : decode cX0_hasCount 1 = .ok (.ifCond .lt 15, 3) := by decide +kernel
theorem dX0_hasCount_4 : decode cX0_hasCount 4 = .ok (.iload_n 1, 1) := by decide +kernel
theorem dX0_hasCount_5 : decode cX0_hasCount 5 = .ok (.aload_n 0, 1) := by decide +kernel
theorem dX0_hasCount_6 : decode cX0_hasCount 6 = .ok (.getfield 35, 3) := by decide +kernel
theorem dX0_hasCount_9 : decode cX0_hasCount 9 = .ok (.if_icmp .ge 7, 3) := by decide +kernel
theorem dX0_hasCount_12 : decode cX0_hasCount 12 = .ok (.iconst 1, 1) := by decide +kernel
theorem dX0_hasCount_13 : decode cX0_hasCount 13 = .ok (.goto 4, 3) := by decide +kernel
theorem dX0_hasCount_16 : decode cX0_hasCount 16 = .ok (.iconst 0, 1) := by decide +kernel
theorem dX0_hasCount_17 : decode cX0_hasCount 17 = .ok (.ireturn, 1) := by decide +kernel
theorem dX0_wasCountedAt_0 : decode cX0_wasCountedAt 0 = .ok (.iconst 0, 1) := by decide +kernel
theorem dX0_wasCountedAt_1 : decode cX0_wasCountedAt 1 = .ok (.istore_n 2, 1) := by decide +kernel
theorem dX0_wasCountedAt_2 : decode cX0_wasCountedAt 2 = .ok (.iload_n 2, 1) := by decide +kernel
theorem dX0_wasCountedAt_3 : decode cX0_wasCountedAt 3 = .ok (.aload_n 0, 1) := by decide +kernel
theorem dX0_wasCountedAt_4 : decode cX0_wasCountedAt 4 = .ok (.getfield 35, 3) := by decide +kernel
theorem dX0_wasCountedAt_7 : decode cX0_wasCountedAt 7 = .ok (.if_icmp .ge 21, 3) := by decide +kernel
theorem dX0_wasCountedAt_10 : decode cX0_wasCountedAt 10 = .ok (.aload_n 0, 1) := by decide +kernel
theorem dX0_wasCountedAt_11 : decode cX0_wasCountedAt 11 = .ok (.getfield 15, 3) := by decide +kernel
theorem dX0_wasCountedAt_14 : decode cX0_wasCountedAt 14 = .ok (.iload_n 2, 1) := by decide +kernel
theorem dX0_wasCountedAt_15 : decode cX0_wasCountedAt 15 = .ok (.iaload, 1) := by decide +kernel
theorem dX0_wasCountedAt_16 : decode cX0_wasCountedAt 16 = .ok (.iload_n 1, 1) := by decide +kernel
theorem dX0_wasCountedAt_17 : decode cX0_wasCountedAt 17 = .ok (.if_icmp .ne 5, 3) := by decide +kernel
theorem dX0_wasCountedAt_20 : decode cX0_wasCountedAt 20 = .ok (.iconst 1, 1) := by decide +kernel
theorem dX0_wasCountedAt_21 : decode cX0_wasCountedAt 21 = .ok (.ireturn, 1) := by decide +kernel
theorem dX0_wasCountedAt_22 : decode cX0_wasCountedAt 22 = .ok (.iinc 2 1, 3) := by decide +kernel
theorem dX0_wasCountedAt_25 : decode cX0_wasCountedAt 25 = .ok (.goto (-23), 3) := by decide +kernel
theorem dX0_wasCountedAt_28 : decode cX0_wasCountedAt 28 = .ok (.iconst 0, 1) := by decide +kernel
theorem dX0_wasCountedAt_29 : decode cX0_wasCountedAt 29 = .ok (.ireturn, 1) := by decide +kernel
theorem dX0_foundBy_0 : decode cX0_foundBy 0 = .ok (.aload_n 0, 1) := by decide +kernel
theorem dX0_foundBy_1 : decode cX0_foundBy 1 = .ok (.getfield 18, 3) := by decide +kernel
theorem dX0_foundBy_4 : decode cX0_foundBy 4 = .ok (.iload_n 1, 1) := by decide +kernel
theorem dX0_foundBy_5 : decode cX0_foundBy 5 = .ok (.bipush 6, 2) := by decide +kernel
theorem dX0_foundBy_7 : decode cX0_foundBy 7 = .ok (.imul, 1) := by decide +kernel
theorem dX0_foundBy_8 : decode cX0_foundBy 8 = .ok (.iload_n 2, 1) := by decide +kernel
theorem dX0_foundBy_9 : decode cX0_foundBy 9 = .ok (.iadd, 1) := by decide +kernel
theorem dX0_foundBy_10 : decode cX0_foundBy 10 = .ok (.iaload, 1) := by decide +kernel
theorem dX0_foundBy_11 : decode cX0_foundBy 11 = .ok (.ireturn, 1) := by decide +kernel
theorem dX0_foundValidly_0 : decode cX0_foundValidly 0 = .ok (.aload_n 0, 1) := by decide +kernel
theorem dX0_foundValidly_1 : decode cX0_foundValidly 1 = .ok (.aload_n 0, 1) := by decide +kernel
theorem dX0_foundValidly_2 : decode cX0_foundValidly 2 = .ok (.getfield 38, 3) := by decide +kernel
theorem dX0_foundValidly_5 : decode cX0_foundValidly 5 = .ok (.invokevirtual 55, 3) := by decide +kernel
theorem dX0_foundValidly_8 : decode cX0_foundValidly 8 = .ok (.ifCond .eq 15, 3) := by decide +kernel
theorem dX0_foundValidly_11 : decode cX0_foundValidly 11 = .ok (.aload_n 0, 1) := by decide +kernel
theorem dX0_foundValidly_12 : decode cX0_foundValidly 12 = .ok (.aload_n 0, 1) := by decide +kernel
theorem dX0_foundValidly_13 : decode cX0_foundValidly 13 = .ok (.getfield 38, 3) := by decide +kernel
theorem dX0_foundValidly_16 : decode cX0_foundValidly 16 = .ok (.iload_n 1, 1) := by decide +kernel
theorem dX0_foundValidly_17 : decode cX0_foundValidly 17 = .ok (.invokevirtual 59, 3) := by decide +kernel
theorem dX0_foundValidly_20 : decode cX0_foundValidly 20 = .ok (.goto 4, 3) := by decide +kernel
theorem dX0_foundValidly_23 : decode cX0_foundValidly 23 = .ok (.iconst 0, 1) := by decide +kernel
theorem dX0_foundValidly_24 : decode cX0_foundValidly 24 = .ok (.ireturn, 1) := by decide +kernel
theorem dX0_chooseValid_0 : decode cX0_chooseValid 0 = .ok (.aload_n 0, 1) := by decide +kernel
theorem dX0_chooseValid_1 : decode cX0_chooseValid 1 = .ok (.aload_n 0, 1) := by decide +kernel
theorem dX0_chooseValid_2 : decode cX0_chooseValid 2 = .ok (.getfield 35, 3) := by decide +kernel
theorem dX0_chooseValid_5 : decode cX0_chooseValid 5 = .ok (.iconst 1, 1) := by decide +kernel
theorem dX0_chooseValid_6 : decode cX0_chooseValid 6 = .ok (.isub, 1) := by decide +kernel
theorem dX0_chooseValid_7 : decode cX0_chooseValid 7 = .ok (.putfield 38, 3) := by decide +kernel
theorem dX0_chooseValid_10 : decode cX0_chooseValid 10 = .ok (.aload_n 0, 1) := by decide +kernel
theorem dX0_chooseValid_11 : decode cX0_chooseValid 11 = .ok (.iconst 0, 1) := by decide +kernel
theorem dX0_chooseValid_12 : decode cX0_chooseValid 12 = .ok (.putfield 41, 3) := by decide +kernel
theorem dX0_chooseValid_15 : decode cX0_chooseValid 15 = .ok (.iconst 0, 1) := by decide +kernel
theorem dX0_chooseValid_16 : decode cX0_chooseValid 16 = .ok (.istore_n 2, 1) := by decide +kernel
theorem dX0_chooseValid_17 : decode cX0_chooseValid 17 = .ok (.iload_n 2, 1) := by decide +kernel
theorem dX0_chooseValid_18 : decode cX0_chooseValid 18 = .ok (.aload_n 0, 1) := by decide +kernel
theorem dX0_chooseValid_19 : decode cX0_chooseValid 19 = .ok (.getfield 35, 3) := by decide +kernel
theorem dX0_chooseValid_22 : decode cX0_chooseValid 22 = .ok (.if_icmp .ge 35, 3) := by decide +kernel
theorem dX0_chooseValid_25 : decode cX0_chooseValid 25 = .ok (.aload_n 0, 1) := by decide +kernel
theorem dX0_chooseValid_26 : decode cX0_chooseValid 26 = .ok (.getfield 41, 3) := by decide +kernel
theorem dX0_chooseValid_29 : decode cX0_chooseValid 29 = .ok (.ifCond .ne 28, 3) := by decide +kernel
theorem dX0_chooseValid_32 : decode cX0_chooseValid 32 = .ok (.aload_n 0, 1) := by decide +kernel
theorem dX0_chooseValid_33 : decode cX0_chooseValid 33 = .ok (.iload_n 2, 1) := by decide +kernel
theorem dX0_chooseValid_34 : decode cX0_chooseValid 34 = .ok (.iload_n 1, 1) := by decide +kernel
theorem dX0_chooseValid_35 : decode cX0_chooseValid 35 = .ok (.invokevirtual 63, 3) := by decide +kernel
theorem dX0_chooseValid_38 : decode cX0_chooseValid 38 = .ok (.ifCond .eq 13, 3) := by decide +kernel
theorem dX0_chooseValid_41 : decode cX0_chooseValid 41 = .ok (.aload_n 0, 1) := by decide +kernel
theorem dX0_chooseValid_42 : decode cX0_chooseValid 42 = .ok (.iload_n 2, 1) := by decide +kernel
theorem dX0_chooseValid_43 : decode cX0_chooseValid 43 = .ok (.putfield 38, 3) := by decide +kernel
theorem dX0_chooseValid_46 : decode cX0_chooseValid 46 = .ok (.aload_n 0, 1) := by decide +kernel
theorem dX0_chooseValid_47 : decode cX0_chooseValid 47 = .ok (.iconst 1, 1) := by decide +kernel
theorem dX0_chooseValid_48 : decode cX0_chooseValid 48 = .ok (.putfield 41, 3) := by decide +kernel
theorem dX0_chooseValid_51 : decode cX0_chooseValid 51 = .ok (.iinc 2 1, 3) := by decide +kernel
theorem dX0_chooseValid_54 : decode cX0_chooseValid 54 = .ok (.goto (-37), 3) := by decide +kernel
theorem dX0_chooseValid_57 : decode cX0_chooseValid 57 = .ok (.return_, 1) := by decide +kernel
theorem dX0_isRepeatedAfter_0 : decode cX0_isRepeatedAfter 0 = .ok (.iload_n 1, 1) := by decide +kernel
theorem dX0_isRepeatedAfter_1 : decode cX0_isRepeatedAfter 1 = .ok (.iconst 1, 1) := by decide +kernel
theorem dX0_isRepeatedAfter_2 : decode cX0_isRepeatedAfter 2 = .ok (.iadd, 1) := by decide +kernel
theorem dX0_isRepeatedAfter_3 : decode cX0_isRepeatedAfter 3 = .ok (.istore_n 3, 1) := by decide +kernel
theorem dX0_isRepeatedAfter_4 : decode cX0_isRepeatedAfter 4 = .ok (.iload_n 3, 1) := by decide +kernel
theorem dX0_isRepeatedAfter_5 : decode cX0_isRepeatedAfter 5 = .ok (.aload_n 0, 1) := by decide +kernel
theorem dX0_isRepeatedAfter_6 : decode cX0_isRepeatedAfter 6 = .ok (.getfield 35, 3) := by decide +kernel
theorem dX0_isRepeatedAfter_9 : decode cX0_isRepeatedAfter 9 = .ok (.if_icmp .ge 21, 3) := by decide +kernel
theorem dX0_isRepeatedAfter_12 : decode cX0_isRepeatedAfter 12 = .ok (.aload_n 0, 1) := by decide +kernel
theorem dX0_isRepeatedAfter_13 : decode cX0_isRepeatedAfter 13 = .ok (.iload_n 1, 1) := by decide +kernel
theorem dX0_isRepeatedAfter_14 : decode cX0_isRepeatedAfter 14 = .ok (.iload_n 3, 1) := by decide +kernel
theorem dX0_isRepeatedAfter_15 : decode cX0_isRepeatedAfter 15 = .ok (.iload_n 2, 1) := by decide +kernel
theorem dX0_isRepeatedAfter_16 : decode cX0_isRepeatedAfter 16 = .ok (.invokevirtual 67, 3) := by decide +kernel
theorem dX0_isRepeatedAfter_19 : decode cX0_isRepeatedAfter 19 = .ok (.ifCond .eq 5, 3) := by decide +kernel
theorem dX0_isRepeatedAfter_22 : decode cX0_isRepeatedAfter 22 = .ok (.iconst 1, 1) := by decide +kernel
theorem dX0_isRepeatedAfter_23 : decode cX0_isRepeatedAfter 23 = .ok (.ireturn, 1) := by decide +kernel
theorem dX0_isRepeatedAfter_24 : decode cX0_isRepeatedAfter 24 = .ok (.iinc 3 1, 3) := by decide +kernel
theorem dX0_isRepeatedAfter_27 : decode cX0_isRepeatedAfter 27 = .ok (.goto (-23), 3) := by decide +kernel
theorem dX0_isRepeatedAfter_30 : decode cX0_isRepeatedAfter 30 = .ok (.iconst 0, 1) := by decide +kernel
theorem dX0_isRepeatedAfter_31 : decode cX0_isRepeatedAfter 31 = .ok (.ireturn, 1) := by decide +kernel
theorem dX0_agree_0 : decode cX0_agree 0 = .ok (.iconst 0, 1) := by decide +kernel
theorem dX0_agree_1 : decode cX0_agree 1 = .ok (.istore 4, 2) := by decide +kernel
theorem dX0_agree_3 : decode cX0_agree 3 = .ok (.iload 4, 2) := by decide +kernel
theorem dX0_agree_5 : decode cX0_agree 5 = .ok (.iload_n 3, 1) := by decide +kernel
theorem dX0_agree_6 : decode cX0_agree 6 = .ok (.if_icmp .ge 28, 3) := by decide +kernel
theorem dX0_agree_9 : decode cX0_agree 9 = .ok (.aload_n 0, 1) := by decide +kernel
theorem dX0_agree_10 : decode cX0_agree 10 = .ok (.iload_n 1, 1) := by decide +kernel
theorem dX0_agree_11 : decode cX0_agree 11 = .ok (.iload 4, 2) := by decide +kernel
theorem dX0_agree_13 : decode cX0_agree 13 = .ok (.invokevirtual 59, 3) := by decide +kernel
theorem dX0_agree_16 : decode cX0_agree 16 = .ok (.aload_n 0, 1) := by decide +kernel
theorem dX0_agree_17 : decode cX0_agree 17 = .ok (.iload_n 2, 1) := by decide +kernel
theorem dX0_agree_18 : decode cX0_agree 18 = .ok (.iload 4, 2) := by decide +kernel
theorem dX0_agree_20 : decode cX0_agree 20 = .ok (.invokevirtual 59, 3) := by decide +kernel
theorem dX0_agree_23 : decode cX0_agree 23 = .ok (.if_icmp .eq 5, 3) := by decide +kernel
theorem dX0_agree_26 : decode cX0_agree 26 = .ok (.iconst 0, 1) := by decide +kernel
theorem dX0_agree_27 : decode cX0_agree 27 = .ok (.ireturn, 1) := by decide +kernel
theorem dX0_agree_28 : decode cX0_agree 28 = .ok (.iinc 4 1, 3) := by decide +kernel
theorem dX0_agree_31 : decode cX0_agree 31 = .ok (.goto (-28), 3) := by decide +kernel
theorem dX0_agree_34 : decode cX0_agree 34 = .ok (.aload_n 0, 1) := by decide +kernel
theorem dX0_agree_35 : decode cX0_agree 35 = .ok (.getfield 15, 3) := by decide +kernel
theorem dX0_agree_38 : decode cX0_agree 38 = .ok (.iload_n 1, 1) := by decide +kernel
theorem dX0_agree_39 : decode cX0_agree 39 = .ok (.iaload, 1) := by decide +kernel
theorem dX0_agree_40 : decode cX0_agree 40 = .ok (.aload_n 0, 1) := by decide +kernel
theorem dX0_agree_41 : decode cX0_agree 41 = .ok (.getfield 15, 3) := by decide +kernel
theorem dX0_agree_44 : decode cX0_agree 44 = .ok (.iload_n 2, 1) := by decide +kernel
theorem dX0_agree_45 : decode cX0_agree 45 = .ok (.iaload, 1) := by decide +kernel
theorem dX0_agree_46 : decode cX0_agree 46 = .ok (.if_icmp .eq 7, 3) := by decide +kernel
theorem dX0_agree_49 : decode cX0_agree 49 = .ok (.iconst 1, 1) := by decide +kernel
theorem dX0_agree_50 : decode cX0_agree 50 = .ok (.goto 4, 3) := by decide +kernel
theorem dX0_agree_53 : decode cX0_agree 53 = .ok (.iconst 0, 1) := by decide +kernel
theorem dX0_agree_54 : decode cX0_agree 54 = .ok (.ireturn, 1) := by decide +kernel
theorem dX1_init_0 : decode cX1_init 0 = .ok (.aload_n 0, 1) := by decide +kernel
theorem dX1_init_1 : decode cX1_init 1 = .ok (.invokespecial 3, 3) := by decide +kernel
theorem dX1_init_4 : decode cX1_init 4 = .ok (.aload_n 0, 1) := by decide +kernel
theorem dX1_init_5 : decode cX1_init 5 = .ok (.new 9, 3) := by decide +kernel
theorem dX1_init_8 : decode cX1_init 8 = .ok (.dup, 1) := by decide +kernel
theorem dX1_init_9 : decode cX1_init 9 = .ok (.invokespecial 11, 3) := by decide +kernel
theorem dX1_init_12 : decode cX1_init 12 = .ok (.putfield 12, 3) := by decide +kernel
theorem dX1_init_15 : decode cX1_init 15 = .ok (.aload_n 0, 1) := by decide +kernel
theorem dX1_init_16 : decode cX1_init 16 = .ok (.new 18, 3) := by decide +kernel
theorem dX1_init_19 : decode cX1_init 19 = .ok (.dup, 1) := by decide +kernel
theorem dX1_init_20 : decode cX1_init 20 = .ok (.invokespecial 20, 3) := by decide +kernel
theorem dX1_init_23 : decode cX1_init 23 = .ok (.putfield 21, 3) := by decide +kernel
theorem dX1_init_26 : decode cX1_init 26 = .ok (.return_, 1) := by decide +kernel
theorem dX1_begin_0 : decode cX1_begin 0 = .ok (.aload_n 0, 1) := by decide +kernel
theorem dX1_begin_1 : decode cX1_begin 1 = .ok (.aload_n 1, 1) := by decide +kernel
theorem dX1_begin_2 : decode cX1_begin 2 = .ok (.putfield 12, 3) := by decide +kernel
theorem dX1_begin_5 : decode cX1_begin 5 = .ok (.aload_n 0, 1) := by decide +kernel
theorem dX1_begin_6 : decode cX1_begin 6 = .ok (.getfield 21, 3) := by decide +kernel
theorem dX1_begin_9 : decode cX1_begin 9 = .ok (.aload_n 0, 1) := by decide +kernel
theorem dX1_begin_10 : decode cX1_begin 10 = .ok (.getfield 12, 3) := by decide +kernel
theorem dX1_begin_13 : decode cX1_begin 13 = .ok (.invokevirtual 25, 3) := by decide +kernel
theorem dX1_begin_16 : decode cX1_begin 16 = .ok (.return_, 1) := by decide +kernel
theorem dX1_boxOn_0 : decode cX1_boxOn 0 = .ok (.iconst 0, 1) := by decide +kernel
theorem dX1_boxOn_1 : decode cX1_boxOn 1 = .ok (.istore_n 2, 1) := by decide +kernel
theorem dX1_boxOn_2 : decode cX1_boxOn 2 = .ok (.iload_n 2, 1) := by decide +kernel
theorem dX1_boxOn_3 : decode cX1_boxOn 3 = .ok (.aload_n 0, 1) := by decide +kernel
theorem dX1_boxOn_4 : decode cX1_boxOn 4 = .ok (.getfield 12, 3) := by decide +kernel
theorem dX1_boxOn_7 : decode cX1_boxOn 7 = .ok (.getfield 29, 3) := by decide +kernel
theorem dX1_boxOn_10 : decode cX1_boxOn 10 = .ok (.iconst 3, 1) := by decide +kernel
theorem dX1_boxOn_11 : decode cX1_boxOn 11 = .ok (.iaload, 1) := by decide +kernel
theorem dX1_boxOn_12 : decode cX1_boxOn 12 = .ok (.if_icmp .ge 27, 3) := by decide +kernel
theorem dX1_boxOn_15 : decode cX1_boxOn 15 = .ok (.aload_n 0, 1) := by decide +kernel
theorem dX1_boxOn_16 : decode cX1_boxOn 16 = .ok (.getfield 21, 3) := by decide +kernel
theorem dX1_boxOn_19 : decode cX1_boxOn 19 = .ok (.getfield 33, 3) := by decide +kernel
theorem dX1_boxOn_22 : decode cX1_boxOn 22 = .ok (.iload_n 2, 1) := by decide +kernel
theorem dX1_boxOn_23 : decode cX1_boxOn 23 = .ok (.aaload, 1) := by decide +kernel
theorem dX1_boxOn_24 : decode cX1_boxOn 24 = .ok (.getfield 37, 3) := by decide +kernel
theorem dX1_boxOn_27 : decode cX1_boxOn 27 = .ok (.iload_n 1, 1) := by decide +kernel
theorem dX1_boxOn_28 : decode cX1_boxOn 28 = .ok (.if_icmp .ne 5, 3) := by decide +kernel
theorem dX1_boxOn_31 : decode cX1_boxOn 31 = .ok (.iload_n 2, 1) := by decide +kernel
theorem dX1_boxOn_32 : decode cX1_boxOn 32 = .ok (.ireturn, 1) := by decide +kernel
theorem dX1_boxOn_33 : decode cX1_boxOn 33 = .ok (.iinc 2 1, 3) := by decide +kernel
theorem dX1_boxOn_36 : decode cX1_boxOn 36 = .ok (.goto (-34), 3) := by decide +kernel
theorem dX1_boxOn_39 : decode cX1_boxOn 39 = .ok (.iconst (-1), 1) := by decide +kernel
theorem dX1_boxOn_40 : decode cX1_boxOn 40 = .ok (.ireturn, 1) := by decide +kernel
theorem dX1_boxesInHall_0 : decode cX1_boxesInHall 0 = .ok (.iconst 0, 1) := by decide +kernel
theorem dX1_boxesInHall_1 : decode cX1_boxesInHall 1 = .ok (.istore_n 1, 1) := by decide +kernel
theorem dX1_boxesInHall_2 : decode cX1_boxesInHall 2 = .ok (.iconst 0, 1) := by decide +kernel
theorem dX1_boxesInHall_3 : decode cX1_boxesInHall 3 = .ok (.istore_n 2, 1) := by decide +kernel
theorem dX1_boxesInHall_4 : decode cX1_boxesInHall 4 = .ok (.iload_n 2, 1) := by decide +kernel
theorem dX1_boxesInHall_5 : decode cX1_boxesInHall 5 = .ok (.aload_n 0, 1) := by decide +kernel
theorem dX1_boxesInHall_6 : decode cX1_boxesInHall 6 = .ok (.getfield 12, 3) := by decide +kernel
theorem dX1_boxesInHall_9 : decode cX1_boxesInHall 9 = .ok (.getfield 29, 3) := by decide +kernel
theorem dX1_boxesInHall_12 : decode cX1_boxesInHall 12 = .ok (.iconst 3, 1) := by decide +kernel
theorem dX1_boxesInHall_13 : decode cX1_boxesInHall 13 = .ok (.iaload, 1) := by decide +kernel
theorem dX1_boxesInHall_14 : decode cX1_boxesInHall 14 = .ok (.if_icmp .ge 29, 3) := by decide +kernel
theorem dX1_boxesInHall_17 : decode cX1_boxesInHall 17 = .ok (.aload_n 0, 1) := by decide +kernel
theorem dX1_boxesInHall_18 : decode cX1_boxesInHall 18 = .ok (.getfield 21, 3) := by decide +kernel
theorem dX1_boxesInHall_21 : decode cX1_boxesInHall 21 = .ok (.getfield 33, 3) := by decide +kernel
theorem dX1_boxesInHall_24 : decode cX1_boxesInHall 24 = .ok (.iload_n 2, 1) := by decide +kernel
theorem dX1_boxesInHall_25 : decode cX1_boxesInHall 25 = .ok (.aaload, 1) := by decide +kernel
theorem dX1_boxesInHall_26 : decode cX1_boxesInHall 26 = .ok (.getfield 37, 3) := by decide +kernel
theorem dX1_boxesInHall_29 : decode cX1_boxesInHall 29 = .ok (.bipush (-4), 2) := by decide +kernel
theorem dX1_boxesInHall_31 : decode cX1_boxesInHall 31 = .ok (.if_icmp .ne 6, 3) := by decide +kernel
theorem dX1_boxesInHall_34 : decode cX1_boxesInHall 34 = .ok (.iinc 1 1, 3) := by decide +kernel
theorem dX1_boxesInHall_37 : decode cX1_boxesInHall 37 = .ok (.iinc 2 1, 3) := by decide +kernel
theorem dX1_boxesInHall_40 : decode cX1_boxesInHall 40 = .ok (.goto (-36), 3) := by decide +kernel
theorem dX1_boxesInHall_43 : decode cX1_boxesInHall 43 = .ok (.iload_n 1, 1) := by decide +kernel
theorem dX1_boxesInHall_44 : decode cX1_boxesInHall 44 = .ok (.ireturn, 1) := by decide +kernel
theorem dX1_addCount_0 : decode cX1_addCount 0 = .ok (.aload_n 0, 1) := by decide +kernel
theorem dX1_addCount_1 : decode cX1_addCount 1 = .ok (.getfield 21, 3) := by decide +kernel
theorem dX1_addCount_4 : decode cX1_addCount 4 = .ok (.getfield 33, 3) := by decide +kernel
theorem dX1_addCount_7 : decode cX1_addCount 7 = .ok (.iload_n 1, 1) := by decide +kernel
theorem dX1_addCount_8 : decode cX1_addCount 8 = .ok (.aaload, 1) := by decide +kernel
theorem dX1_addCount_9 : decode cX1_addCount 9 = .ok (.astore_n 3, 1) := by decide +kernel
theorem dX1_addCount_10 : decode cX1_addCount 10 = .ok (.aload_n 3, 1) := by decide +kernel
theorem dX1_addCount_11 : decode cX1_addCount 11 = .ok (.getfield 43, 3) := by decide +kernel
theorem dX1_addCount_14 : decode cX1_addCount 14 = .ok (.istore 4, 2) := by decide +kernel
theorem dX1_addCount_16 : decode cX1_addCount 16 = .ok (.iload 4, 2) := by decide +kernel
theorem dX1_addCount_18 : decode cX1_addCount 18 = .ok (.iconst 4, 1) := by decide +kernel
theorem dX1_addCount_19 : decode cX1_addCount 19 = .ok (.if_icmp .lt 4, 3) := by decide +kernel
theorem dX1_addCount_22 : decode cX1_addCount 22 = .ok (.return_, 1) := by decide +kernel
theorem dX1_addCount_23 : decode cX1_addCount 23 = .ok (.aload_n 3, 1) := by decide +kernel
theorem dX1_addCount_24 : decode cX1_addCount 24 = .ok (.getfield 46, 3) := by decide +kernel
theorem dX1_addCount_27 : decode cX1_addCount 27 = .ok (.iload 4, 2) := by decide +kernel
theorem dX1_addCount_29 : decode cX1_addCount 29 = .ok (.iload_n 2, 1) := by decide +kernel
theorem dX1_addCount_30 : decode cX1_addCount 30 = .ok (.iastore, 1) := by decide +kernel
theorem dX1_addCount_31 : decode cX1_addCount 31 = .ok (.iconst 0, 1) := by decide +kernel
theorem dX1_addCount_32 : decode cX1_addCount 32 = .ok (.istore 5, 2) := by decide +kernel
theorem dX1_addCount_34 : decode cX1_addCount 34 = .ok (.iload 5, 2) := by decide +kernel
theorem dX1_addCount_36 : decode cX1_addCount 36 = .ok (.aload_n 0, 1) := by decide +kernel
theorem dX1_addCount_37 : decode cX1_addCount 37 = .ok (.getfield 12, 3) := by decide +kernel
theorem dX1_addCount_40 : decode cX1_addCount 40 = .ok (.invokevirtual 49, 3) := by decide +kernel
theorem dX1_addCount_43 : decode cX1_addCount 43 = .ok (.if_icmp .ge 33, 3) := by decide +kernel
theorem dX1_addCount_46 : decode cX1_addCount 46 = .ok (.aload_n 3, 1) := by decide +kernel
theorem dX1_addCount_47 : decode cX1_addCount 47 = .ok (.getfield 53, 3) := by decide +kernel
theorem dX1_addCount_50 : decode cX1_addCount 50 = .ok (.iload 4, 2) := by decide +kernel
theorem dX1_addCount_52 : decode cX1_addCount 52 = .ok (.bipush 6, 2) := by decide +kernel
theorem dX1_addCount_54 : decode cX1_addCount 54 = .ok (.imul, 1) := by decide +kernel
theorem dX1_addCount_55 : decode cX1_addCount 55 = .ok (.iload 5, 2) := by decide +kernel
theorem dX1_addCount_57 : decode cX1_addCount 57 = .ok (.iadd, 1) := by decide +kernel
theorem dX1_addCount_58 : decode cX1_addCount 58 = .ok (.aload_n 0, 1) := by decide +kernel
theorem dX1_addCount_59 : decode cX1_addCount 59 = .ok (.getfield 12, 3) := by decide +kernel
theorem dX1_addCount_62 : decode cX1_addCount 62 = .ok (.iload_n 2, 1) := by decide +kernel
theorem dX1_addCount_63 : decode cX1_addCount 63 = .ok (.iload_n 1, 1) := by decide +kernel
theorem dX1_addCount_64 : decode cX1_addCount 64 = .ok (.iload 5, 2) := by decide +kernel
theorem dX1_addCount_66 : decode cX1_addCount 66 = .ok (.invokevirtual 56, 3) := by decide +kernel
theorem dX1_addCount_69 : decode cX1_addCount 69 = .ok (.iastore, 1) := by decide +kernel
theorem dX1_addCount_70 : decode cX1_addCount 70 = .ok (.iinc 5 1, 3) := by decide +kernel
theorem dX1_addCount_73 : decode cX1_addCount 73 = .ok (.goto (-39), 3) := by decide +kernel
theorem dX1_addCount_76 : decode cX1_addCount 76 = .ok (.aload_n 3, 1) := by decide +kernel
theorem dX1_addCount_77 : decode cX1_addCount 77 = .ok (.dup, 1) := by decide +kernel
theorem dX1_addCount_78 : decode cX1_addCount 78 = .ok (.getfield 43, 3) := by decide +kernel
theorem dX1_addCount_81 : decode cX1_addCount 81 = .ok (.iconst 1, 1) := by decide +kernel
theorem dX1_addCount_82 : decode cX1_addCount 82 = .ok (.iadd, 1) := by decide +kernel
theorem dX1_addCount_83 : decode cX1_addCount 83 = .ok (.putfield 43, 3) := by decide +kernel
theorem dX1_addCount_86 : decode cX1_addCount 86 = .ok (.aload_n 3, 1) := by decide +kernel
theorem dX1_addCount_87 : decode cX1_addCount 87 = .ok (.aload_n 0, 1) := by decide +kernel
theorem dX1_addCount_88 : decode cX1_addCount 88 = .ok (.getfield 12, 3) := by decide +kernel
theorem dX1_addCount_91 : decode cX1_addCount 91 = .ok (.invokevirtual 49, 3) := by decide +kernel
theorem dX1_addCount_94 : decode cX1_addCount 94 = .ok (.invokevirtual 60, 3) := by decide +kernel
theorem dX1_addCount_97 : decode cX1_addCount 97 = .ok (.return_, 1) := by decide +kernel
theorem dX1_fillTables_0 : decode cX1_fillTables 0 = .ok (.iconst 0, 1) := by decide +kernel
theorem dX1_fillTables_1 : decode cX1_fillTables 1 = .ok (.istore_n 2, 1) := by decide +kernel
theorem dX1_fillTables_2 : decode cX1_fillTables 2 = .ok (.iload_n 2, 1) := by decide +kernel
theorem dX1_fillTables_3 : decode cX1_fillTables 3 = .ok (.aload_n 0, 1) := by decide +kernel
theorem dX1_fillTables_4 : decode cX1_fillTables 4 = .ok (.getfield 12, 3) := by decide +kernel
theorem dX1_fillTables_7 : decode cX1_fillTables 7 = .ok (.getfield 29, 3) := by decide +kernel
theorem dX1_fillTables_10 : decode cX1_fillTables 10 = .ok (.iconst 4, 1) := by decide +kernel
theorem dX1_fillTables_11 : decode cX1_fillTables 11 = .ok (.iaload, 1) := by decide +kernel
theorem dX1_fillTables_12 : decode cX1_fillTables 12 = .ok (.if_icmp .ge 48, 3) := by decide +kernel
theorem dX1_fillTables_15 : decode cX1_fillTables 15 = .ok (.aload_n 0, 1) := by decide +kernel
theorem dX1_fillTables_16 : decode cX1_fillTables 16 = .ok (.iload_n 2, 1) := by decide +kernel
theorem dX1_fillTables_17 : decode cX1_fillTables 17 = .ok (.invokevirtual 64, 3) := by decide +kernel
theorem dX1_fillTables_20 : decode cX1_fillTables 20 = .ok (.iconst (-1), 1) := by decide +kernel
theorem dX1_fillTables_21 : decode cX1_fillTables 21 = .ok (.if_icmp .ne 12, 3) := by decide +kernel
theorem dX1_fillTables_24 : decode cX1_fillTables 24 = .ok (.aload_n 0, 1) := by decide +kernel
theorem dX1_fillTables_25 : decode cX1_fillTables 25 = .ok (.iload_n 2, 1) := by decide +kernel
theorem dX1_fillTables_26 : decode cX1_fillTables 26 = .ok (.iload_n 1, 1) := by decide +kernel
theorem dX1_fillTables_27 : decode cX1_fillTables 27 = .ok (.invokevirtual 68, 3) := by decide +kernel
theorem dX1_fillTables_30 : decode cX1_fillTables 30 = .ok (.goto 4, 3) := by decide +kernel
theorem dX1_fillTables_33 : decode cX1_fillTables 33 = .ok (.iconst (-1), 1) := by decide +kernel
theorem dX1_fillTables_34 : decode cX1_fillTables 34 = .ok (.istore_n 3, 1) := by decide +kernel
theorem dX1_fillTables_35 : decode cX1_fillTables 35 = .ok (.iload_n 3, 1) := by decide +kernel
theorem dX1_fillTables_36 : decode cX1_fillTables 36 = .ok (.iconst (-1), 1) := by decide +kernel
theorem dX1_fillTables_37 : decode cX1_fillTables 37 = .ok (.if_icmp .eq 17, 3) := by decide +kernel
theorem dX1_fillTables_40 : decode cX1_fillTables 40 = .ok (.aload_n 0, 1) := by decide +kernel
theorem dX1_fillTables_41 : decode cX1_fillTables 41 = .ok (.getfield 21, 3) := by decide +kernel
theorem dX1_fillTables_44 : decode cX1_fillTables 44 = .ok (.getfield 33, 3) := by decide +kernel
theorem dX1_fillTables_47 : decode cX1_fillTables 47 = .ok (.iload_n 3, 1) := by decide +kernel
theorem dX1_fillTables_48 : decode cX1_fillTables 48 = .ok (.aaload, 1) := by decide +kernel
theorem dX1_fillTables_49 : decode cX1_fillTables 49 = .ok (.iload_n 2, 1) := by decide +kernel
theorem dX1_fillTables_50 : decode cX1_fillTables 50 = .ok (.invokevirtual 72, 3) := by decide +kernel
theorem dX1_fillTables_53 : decode cX1_fillTables 53 = .ok (.pop, 1) := by decide +kernel
theorem dX1_fillTables_54 : decode cX1_fillTables 54 = .ok (.iinc 2 1, 3) := by decide +kernel
theorem dX1_fillTables_57 : decode cX1_fillTables 57 = .ok (.goto (-55), 3) := by decide +kernel
theorem dX1_fillTables_60 : decode cX1_fillTables 60 = .ok (.return_, 1) := by decide +kernel
theorem dX1_boxFor_0 : decode cX1_boxFor 0 = .ok (.iconst 0, 1) := by decide +kernel
theorem dX1_boxFor_1 : decode cX1_boxFor 1 = .ok (.istore_n 3, 1) := by decide +kernel
theorem dX1_boxFor_2 : decode cX1_boxFor 2 = .ok (.iload_n 3, 1) := by decide +kernel
theorem dX1_boxFor_3 : decode cX1_boxFor 3 = .ok (.aload_n 0, 1) := by decide +kernel
theorem dX1_boxFor_4 : decode cX1_boxFor 4 = .ok (.getfield 12, 3) := by decide +kernel
theorem dX1_boxFor_7 : decode cX1_boxFor 7 = .ok (.getfield 29, 3) := by decide +kernel
theorem dX1_boxFor_10 : decode cX1_boxFor 10 = .ok (.iconst 3, 1) := by decide +kernel
theorem dX1_boxFor_11 : decode cX1_boxFor 11 = .ok (.iaload, 1) := by decide +kernel
theorem dX1_boxFor_12 : decode cX1_boxFor 12 = .ok (.if_icmp .ge 70, 3) := by decide +kernel
theorem dX1_boxFor_15 : decode cX1_boxFor 15 = .ok (.aload_n 0, 1) := by decide +kernel
theorem dX1_boxFor_16 : decode cX1_boxFor 16 = .ok (.getfield 21, 3) := by decide +kernel
theorem dX1_boxFor_19 : decode cX1_boxFor 19 = .ok (.getfield 33, 3) := by decide +kernel
theorem dX1_boxFor_22 : decode cX1_boxFor 22 = .ok (.iload_n 3, 1) := by decide +kernel
theorem dX1_boxFor_23 : decode cX1_boxFor 23 = .ok (.aaload, 1) := by decide +kernel
theorem dX1_boxFor_24 : decode cX1_boxFor 24 = .ok (.astore 4, 2) := by decide +kernel
theorem dX1_boxFor_26 : decode cX1_boxFor 26 = .ok (.iload_n 2, 1) := by decide +kernel
theorem dX1_boxFor_27 : decode cX1_boxFor 27 = .ok (.iload_n 3, 1) := by decide +kernel
theorem dX1_boxFor_28 : decode cX1_boxFor 28 = .ok (.ishr, 1) := by decide +kernel
theorem dX1_boxFor_29 : decode cX1_boxFor 29 = .ok (.iconst 1, 1) := by decide +kernel
theorem dX1_boxFor_30 : decode cX1_boxFor 30 = .ok (.iand, 1) := by decide +kernel
theorem dX1_boxFor_31 : decode cX1_boxFor 31 = .ok (.iconst 1, 1) := by decide +kernel
theorem dX1_boxFor_32 : decode cX1_boxFor 32 = .ok (.if_icmp .ne 16, 3) := by decide +kernel
theorem dX1_boxFor_35 : decode cX1_boxFor 35 = .ok (.aload 4, 2) := by decide +kernel
theorem dX1_boxFor_37 : decode cX1_boxFor 37 = .ok (.iload_n 1, 1) := by decide +kernel
theorem dX1_boxFor_38 : decode cX1_boxFor 38 = .ok (.invokevirtual 75, 3) := by decide +kernel
theorem dX1_boxFor_41 : decode cX1_boxFor 41 = .ok (.ifCond .ne 7, 3) := by decide +kernel
theorem dX1_boxFor_44 : decode cX1_boxFor 44 = .ok (.iconst 1, 1) := by decide +kernel
theorem dX1_boxFor_45 : decode cX1_boxFor 45 = .ok (.goto 4, 3) := by decide +kernel
theorem dX1_boxFor_48 : decode cX1_boxFor 48 = .ok (.iconst 0, 1) := by decide +kernel
theorem dX1_boxFor_49 : decode cX1_boxFor 49 = .ok (.istore 5, 2) := by decide +kernel
theorem dX1_boxFor_51 : decode cX1_boxFor 51 = .ok (.iload 5, 2) := by decide +kernel
theorem dX1_boxFor_53 : decode cX1_boxFor 53 = .ok (.ifCond .eq 23, 3) := by decide +kernel
theorem dX1_boxFor_56 : decode cX1_boxFor 56 = .ok (.aload 4, 2) := by decide +kernel
theorem dX1_boxFor_58 : decode cX1_boxFor 58 = .ok (.getfield 37, 3) := by decide +kernel
theorem dX1_boxFor_61 : decode cX1_boxFor 61 = .ok (.bipush (-4), 2) := by decide +kernel
theorem dX1_boxFor_63 : decode cX1_boxFor 63 = .ok (.if_icmp .ne 13, 3) := by decide +kernel
theorem dX1_boxFor_66 : decode cX1_boxFor 66 = .ok (.aload 4, 2) := by decide +kernel
theorem dX1_boxFor_68 : decode cX1_boxFor 68 = .ok (.invokevirtual 79, 3) := by decide +kernel
theorem dX1_boxFor_71 : decode cX1_boxFor 71 = .ok (.ifCond .eq 5, 3) := by decide +kernel
theorem dX1_boxFor_74 : decode cX1_boxFor 74 = .ok (.iload_n 3, 1) := by decide +kernel
theorem dX1_boxFor_75 : decode cX1_boxFor 75 = .ok (.ireturn, 1) := by decide +kernel
theorem dX1_boxFor_76 : decode cX1_boxFor 76 = .ok (.iinc 3 1, 3) := by decide +kernel
theorem dX1_boxFor_79 : decode cX1_boxFor 79 = .ok (.goto (-77), 3) := by decide +kernel
theorem dX1_boxFor_82 : decode cX1_boxFor 82 = .ok (.iconst (-1), 1) := by decide +kernel
theorem dX1_boxFor_83 : decode cX1_boxFor 83 = .ok (.ireturn, 1) := by decide +kernel
theorem dX1_countAndSeal_0 : decode cX1_countAndSeal 0 = .ok (.aload_n 0, 1) := by decide +kernel
theorem dX1_countAndSeal_1 : decode cX1_countAndSeal 1 = .ok (.iload_n 1, 1) := by decide +kernel
theorem dX1_countAndSeal_2 : decode cX1_countAndSeal 2 = .ok (.invokevirtual 64, 3) := by decide +kernel
theorem dX1_countAndSeal_5 : decode cX1_countAndSeal 5 = .ok (.istore_n 2, 1) := by decide +kernel
theorem dX1_countAndSeal_6 : decode cX1_countAndSeal 6 = .ok (.iload_n 2, 1) := by decide +kernel
theorem dX1_countAndSeal_7 : decode cX1_countAndSeal 7 = .ok (.iconst (-1), 1) := by decide +kernel
theorem dX1_countAndSeal_8 : decode cX1_countAndSeal 8 = .ok (.if_icmp .ne 5, 3) := by decide +kernel
theorem dX1_countAndSeal_11 : decode cX1_countAndSeal 11 = .ok (.iconst 0, 1) := by decide +kernel
theorem dX1_countAndSeal_12 : decode cX1_countAndSeal 12 = .ok (.ireturn, 1) := by decide +kernel
theorem dX1_countAndSeal_13 : decode cX1_countAndSeal 13 = .ok (.aload_n 0, 1) := by decide +kernel
theorem dX1_countAndSeal_14 : decode cX1_countAndSeal 14 = .ok (.getfield 21, 3) := by decide +kernel
theorem dX1_countAndSeal_17 : decode cX1_countAndSeal 17 = .ok (.getfield 33, 3) := by decide +kernel
theorem dX1_countAndSeal_20 : decode cX1_countAndSeal 20 = .ok (.iload_n 2, 1) := by decide +kernel
theorem dX1_countAndSeal_21 : decode cX1_countAndSeal 21 = .ok (.aaload, 1) := by decide +kernel
theorem dX1_countAndSeal_22 : decode cX1_countAndSeal 22 = .ok (.astore_n 3, 1) := by decide +kernel
theorem dX1_countAndSeal_23 : decode cX1_countAndSeal 23 = .ok (.aload_n 3, 1) := by decide +kernel
theorem dX1_countAndSeal_24 : decode cX1_countAndSeal 24 = .ok (.getfield 43, 3) := by decide +kernel
theorem dX1_countAndSeal_27 : decode cX1_countAndSeal 27 = .ok (.istore 4, 2) := by decide +kernel
theorem dX1_countAndSeal_29 : decode cX1_countAndSeal 29 = .ok (.aload_n 0, 1) := by decide +kernel
theorem dX1_countAndSeal_30 : decode cX1_countAndSeal 30 = .ok (.iload_n 2, 1) := by decide +kernel
theorem dX1_countAndSeal_31 : decode cX1_countAndSeal 31 = .ok (.iload_n 1, 1) := by decide +kernel
theorem dX1_countAndSeal_32 : decode cX1_countAndSeal 32 = .ok (.invokevirtual 83, 3) := by decide +kernel
theorem dX1_countAndSeal_35 : decode cX1_countAndSeal 35 = .ok (.aload_n 3, 1) := by decide +kernel
theorem dX1_countAndSeal_36 : decode cX1_countAndSeal 36 = .ok (.getfield 87, 3) := by decide +kernel
theorem dX1_countAndSeal_39 : decode cX1_countAndSeal 39 = .ok (.bipush 12, 2) := by decide +kernel
theorem dX1_countAndSeal_41 : decode cX1_countAndSeal 41 = .ok (.if_icmp .ge 11, 3) := by decide +kernel
theorem dX1_countAndSeal_44 : decode cX1_countAndSeal 44 = .ok (.aload_n 0, 1) := by decide +kernel
theorem dX1_countAndSeal_45 : decode cX1_countAndSeal 45 = .ok (.getfield 21, 3) := by decide +kernel
theorem dX1_countAndSeal_48 : decode cX1_countAndSeal 48 = .ok (.iload_n 2, 1) := by decide +kernel
theorem dX1_countAndSeal_49 : decode cX1_countAndSeal 49 = .ok (.invokevirtual 90, 3) := by decide +kernel
theorem dX1_countAndSeal_52 : decode cX1_countAndSeal 52 = .ok (.aload_n 3, 1) := by decide +kernel
theorem dX1_countAndSeal_53 : decode cX1_countAndSeal 53 = .ok (.getfield 43, 3) := by decide +kernel
theorem dX1_countAndSeal_56 : decode cX1_countAndSeal 56 = .ok (.iload 4, 2) := by decide +kernel
theorem dX1_countAndSeal_58 : decode cX1_countAndSeal 58 = .ok (.isub, 1) := by decide +kernel
theorem dX1_countAndSeal_59 : decode cX1_countAndSeal 59 = .ok (.ireturn, 1) := by decide +kernel
theorem dX1_papersTooMany_0 : decode cX1_papersTooMany 0 = .ok (.aload_n 0, 1) := by decide +kernel
theorem dX1_papersTooMany_1 : decode cX1_papersTooMany 1 = .ok (.getfield 21, 3) := by decide +kernel
theorem dX1_papersTooMany_4 : decode cX1_papersTooMany 4 = .ok (.getfield 33, 3) := by decide +kernel
theorem dX1_papersTooMany_7 : decode cX1_papersTooMany 7 = .ok (.iload_n 1, 1) := by decide +kernel
theorem dX1_papersTooMany_8 : decode cX1_papersTooMany 8 = .ok (.aaload, 1) := by decide +kernel
theorem dX1_papersTooMany_9 : decode cX1_papersTooMany 9 = .ok (.astore_n 2, 1) := by decide +kernel
theorem dX1_papersTooMany_10 : decode cX1_papersTooMany 10 = .ok (.aload_n 2, 1) := by decide +kernel
theorem dX1_papersTooMany_11 : decode cX1_papersTooMany 11 = .ok (.getfield 43, 3) := by decide +kernel
theorem dX1_papersTooMany_14 : decode cX1_papersTooMany 14 = .ok (.ifCond .ne 5, 3) := by decide +kernel
theorem dX1_papersTooMany_17 : decode cX1_papersTooMany 17 = .ok (.iconst 0, 1) := by decide +kernel
theorem dX1_papersTooMany_18 : decode cX1_papersTooMany 18 = .ok (.ireturn, 1) := by decide +kernel
theorem dX1_papersTooMany_19 : decode cX1_papersTooMany 19 = .ok (.iconst 0, 1) := by decide +kernel
theorem dX1_papersTooMany_20 : decode cX1_papersTooMany 20 = .ok (.istore_n 3, 1) := by decide +kernel
theorem dX1_papersTooMany_21 : decode cX1_papersTooMany 21 = .ok (.iconst 0, 1) := by decide +kernel
theorem dX1_papersTooMany_22 : decode cX1_papersTooMany 22 = .ok (.istore 4, 2) := by decide +kernel
theorem dX1_papersTooMany_24 : decode cX1_papersTooMany 24 = .ok (.iload 4, 2) := by decide +kernel
theorem dX1_papersTooMany_26 : decode cX1_papersTooMany 26 = .ok (.aload_n 0, 1) := by decide +kernel
theorem dX1_papersTooMany_27 : decode cX1_papersTooMany 27 = .ok (.getfield 12, 3) := by decide +kernel
theorem dX1_papersTooMany_30 : decode cX1_papersTooMany 30 = .ok (.invokevirtual 49, 3) := by decide +kernel
theorem dX1_papersTooMany_33 : decode cX1_papersTooMany 33 = .ok (.if_icmp .ge 18, 3) := by decide +kernel
theorem dX1_papersTooMany_36 : decode cX1_papersTooMany 36 = .ok (.iload_n 3, 1) := by decide +kernel
theorem dX1_papersTooMany_37 : decode cX1_papersTooMany 37 = .ok (.aload_n 2, 1) := by decide +kernel
theorem dX1_papersTooMany_38 : decode cX1_papersTooMany 38 = .ok (.iload 4, 2) := by decide +kernel
theorem dX1_papersTooMany_40 : decode cX1_papersTooMany 40 = .ok (.invokevirtual 93, 3) := by decide +kernel
theorem dX1_papersTooMany_43 : decode cX1_papersTooMany 43 = .ok (.iadd, 1) := by decide +kernel
theorem dX1_papersTooMany_44 : decode cX1_papersTooMany 44 = .ok (.istore_n 3, 1) := by decide +kernel
theorem dX1_papersTooMany_45 : decode cX1_papersTooMany 45 = .ok (.iinc 4 1, 3) := by decide +kernel
theorem dX1_papersTooMany_48 : decode cX1_papersTooMany 48 = .ok (.goto (-24), 3) := by decide +kernel
theorem dX1_papersTooMany_51 : decode cX1_papersTooMany 51 = .ok (.iload_n 3, 1) := by decide +kernel
theorem dX1_papersTooMany_52 : decode cX1_papersTooMany 52 = .ok (.aload_n 0, 1) := by decide +kernel
theorem dX1_papersTooMany_53 : decode cX1_papersTooMany 53 = .ok (.getfield 12, 3) := by decide +kernel
theorem dX1_papersTooMany_56 : decode cX1_papersTooMany 56 = .ok (.getfield 96, 3) := by decide +kernel
theorem dX1_papersTooMany_59 : decode cX1_papersTooMany 59 = .ok (.iload_n 1, 1) := by decide +kernel
theorem dX1_papersTooMany_60 : decode cX1_papersTooMany 60 = .ok (.iaload, 1) := by decide +kernel
theorem dX1_papersTooMany_61 : decode cX1_papersTooMany 61 = .ok (.isub, 1) := by decide +kernel
theorem dX1_papersTooMany_62 : decode cX1_papersTooMany 62 = .ok (.ireturn, 1) := by decide +kernel
theorem dX1_isBoxOff_0 : decode cX1_isBoxOff 0 = .ok (.aload_n 0, 1) := by decide +kernel
theorem dX1_isBoxOff_1 : decode cX1_isBoxOff 1 = .ok (.iload_n 1, 1) := by decide +kernel
theorem dX1_isBoxOff_2 : decode cX1_isBoxOff 2 = .ok (.invokevirtual 99, 3) := by decide +kernel
theorem dX1_isBoxOff_5 : decode cX1_isBoxOff 5 = .ok (.invokestatic 102, 3) := by decide +kernel
theorem dX1_isBoxOff_8 : decode cX1_isBoxOff 8 = .ok (.aload_n 0, 1) := by decide +kernel
theorem dX1_isBoxOff_9 : decode cX1_isBoxOff 9 = .ok (.getfield 21, 3) := by decide +kernel
theorem dX1_isBoxOff_12 : decode cX1_isBoxOff 12 = .ok (.getfield 107, 3) := by decide +kernel
theorem dX1_isBoxOff_15 : decode cX1_isBoxOff 15 = .ok (.iconst 1, 1) := by decide +kernel
theorem dX1_isBoxOff_16 : decode cX1_isBoxOff 16 = .ok (.iaload, 1) := by decide +kernel
theorem dX1_isBoxOff_17 : decode cX1_isBoxOff 17 = .ok (.if_icmp .le 7, 3) := by decide +kernel
theorem dX1_isBoxOff_20 : decode cX1_isBoxOff 20 = .ok (.iconst 1, 1) := by decide +kernel
theorem dX1_isBoxOff_21 : decode cX1_isBoxOff 21 = .ok (.goto 4, 3) := by decide +kernel
theorem dX1_isBoxOff_24 : decode cX1_isBoxOff 24 = .ok (.iconst 0, 1) := by decide +kernel
theorem dX1_isBoxOff_25 : decode cX1_isBoxOff 25 = .ok (.ireturn, 1) := by decide +kernel
theorem dX1_foundInWard_0 : decode cX1_foundInWard 0 = .ok (.iconst 0, 1) := by decide +kernel
theorem dX1_foundInWard_1 : decode cX1_foundInWard 1 = .ok (.istore_n 3, 1) := by decide +kernel
theorem dX1_foundInWard_2 : decode cX1_foundInWard 2 = .ok (.iconst 0, 1) := by decide +kernel
theorem dX1_foundInWard_3 : decode cX1_foundInWard 3 = .ok (.istore 4, 2) := by decide +kernel
theorem dX1_foundInWard_5 : decode cX1_foundInWard 5 = .ok (.iload 4, 2) := by decide +kernel
theorem dX1_foundInWard_7 : decode cX1_foundInWard 7 = .ok (.aload_n 0, 1) := by decide +kernel
theorem dX1_foundInWard_8 : decode cX1_foundInWard 8 = .ok (.getfield 12, 3) := by decide +kernel
theorem dX1_foundInWard_11 : decode cX1_foundInWard 11 = .ok (.getfield 29, 3) := by decide +kernel
theorem dX1_foundInWard_14 : decode cX1_foundInWard 14 = .ok (.iconst 3, 1) := by decide +kernel
theorem dX1_foundInWard_15 : decode cX1_foundInWard 15 = .ok (.iaload, 1) := by decide +kernel
theorem dX1_foundInWard_16 : decode cX1_foundInWard 16 = .ok (.if_icmp .ge 40, 3) := by decide +kernel
theorem dX1_foundInWard_19 : decode cX1_foundInWard 19 = .ok (.aload_n 0, 1) := by decide +kernel
theorem dX1_foundInWard_20 : decode cX1_foundInWard 20 = .ok (.getfield 12, 3) := by decide +kernel
theorem dX1_foundInWard_23 : decode cX1_foundInWard 23 = .ok (.getfield 138, 3) := by decide +kernel
theorem dX1_foundInWard_26 : decode cX1_foundInWard 26 = .ok (.iload 4, 2) := by decide +kernel
theorem dX1_foundInWard_28 : decode cX1_foundInWard 28 = .ok (.iaload, 1) := by decide +kernel
theorem dX1_foundInWard_29 : decode cX1_foundInWard 29 = .ok (.iload_n 1, 1) := by decide +kernel
theorem dX1_foundInWard_30 : decode cX1_foundInWard 30 = .ok (.if_icmp .ne 20, 3) := by decide +kernel
theorem dX1_foundInWard_33 : decode cX1_foundInWard 33 = .ok (.iload_n 3, 1) := by decide +kernel
theorem dX1_foundInWard_34 : decode cX1_foundInWard 34 = .ok (.aload_n 0, 1) := by decide +kernel
theorem dX1_foundInWard_35 : decode cX1_foundInWard 35 = .ok (.getfield 21, 3) := by decide +kernel
theorem dX1_foundInWard_38 : decode cX1_foundInWard 38 = .ok (.getfield 33, 3) := by decide +kernel
theorem dX1_foundInWard_41 : decode cX1_foundInWard 41 = .ok (.iload 4, 2) := by decide +kernel
theorem dX1_foundInWard_43 : decode cX1_foundInWard 43 = .ok (.aaload, 1) := by decide +kernel
theorem dX1_foundInWard_44 : decode cX1_foundInWard 44 = .ok (.iload_n 2, 1) := by decide +kernel
theorem dX1_foundInWard_45 : decode cX1_foundInWard 45 = .ok (.invokevirtual 93, 3) := by decide +kernel
theorem dX1_foundInWard_48 : decode cX1_foundInWard 48 = .ok (.iadd, 1) := by decide +kernel
theorem dX1_foundInWard_49 : decode cX1_foundInWard 49 = .ok (.istore_n 3, 1) := by decide +kernel
theorem dX1_foundInWard_50 : decode cX1_foundInWard 50 = .ok (.iinc 4 1, 3) := by decide +kernel
theorem dX1_foundInWard_53 : decode cX1_foundInWard 53 = .ok (.goto (-48), 3) := by decide +kernel
theorem dX1_foundInWard_56 : decode cX1_foundInWard 56 = .ok (.iload_n 3, 1) := by decide +kernel
theorem dX1_foundInWard_57 : decode cX1_foundInWard 57 = .ok (.ireturn, 1) := by decide +kernel
theorem dX1_partyAhead_0 : decode cX1_partyAhead 0 = .ok (.iconst (-1), 1) := by decide +kernel
theorem dX1_partyAhead_1 : decode cX1_partyAhead 1 = .ok (.istore_n 2, 1) := by decide +kernel
theorem dX1_partyAhead_2 : decode cX1_partyAhead 2 = .ok (.iconst 0, 1) := by decide +kernel
theorem dX1_partyAhead_3 : decode cX1_partyAhead 3 = .ok (.istore_n 3, 1) := by decide +kernel
theorem dX1_partyAhead_4 : decode cX1_partyAhead 4 = .ok (.iconst 0, 1) := by decide +kernel
theorem dX1_partyAhead_5 : decode cX1_partyAhead 5 = .ok (.istore 4, 2) := by decide +kernel
theorem dX1_partyAhead_7 : decode cX1_partyAhead 7 = .ok (.iload 4, 2) := by decide +kernel
theorem dX1_partyAhead_9 : decode cX1_partyAhead 9 = .ok (.aload_n 0, 1) := by decide +kernel
theorem dX1_partyAhead_10 : decode cX1_partyAhead 10 = .ok (.getfield 12, 3) := by decide +kernel
theorem dX1_partyAhead_13 : decode cX1_partyAhead 13 = .ok (.getfield 29, 3) := by decide +kernel
theorem dX1_partyAhead_16 : decode cX1_partyAhead 16 = .ok (.iconst 0, 1) := by decide +kernel
theorem dX1_partyAhead_17 : decode cX1_partyAhead 17 = .ok (.iaload, 1) := by decide +kernel
theorem dX1_partyAhead_18 : decode cX1_partyAhead 18 = .ok (.if_icmp .ge 30, 3) := by decide +kernel
theorem dX1_partyAhead_21 : decode cX1_partyAhead 21 = .ok (.aload_n 0, 1) := by decide +kernel
theorem dX1_partyAhead_22 : decode cX1_partyAhead 22 = .ok (.iload_n 1, 1) := by decide +kernel
theorem dX1_partyAhead_23 : decode cX1_partyAhead 23 = .ok (.iload 4, 2) := by decide +kernel
theorem dX1_partyAhead_25 : decode cX1_partyAhead 25 = .ok (.invokevirtual 141, 3) := by decide +kernel
theorem dX1_partyAhead_28 : decode cX1_partyAhead 28 = .ok (.istore 5, 2) := by decide +kernel
theorem dX1_partyAhead_30 : decode cX1_partyAhead 30 = .ok (.iload 5, 2) := by decide +kernel
theorem dX1_partyAhead_32 : decode cX1_partyAhead 32 = .ok (.iload_n 3, 1) := by decide +kernel
theorem dX1_partyAhead_33 : decode cX1_partyAhead 33 = .ok (.if_icmp .le 9, 3) := by decide +kernel
theorem dX1_partyAhead_36 : decode cX1_partyAhead 36 = .ok (.iload 5, 2) := by decide +kernel
theorem dX1_partyAhead_38 : decode cX1_partyAhead 38 = .ok (.istore_n 3, 1) := by decide +kernel
theorem dX1_partyAhead_39 : decode cX1_partyAhead 39 = .ok (.iload 4, 2) := by decide +kernel
theorem dX1_partyAhead_41 : decode cX1_partyAhead 41 = .ok (.istore_n 2, 1) := by decide +kernel
theorem dX1_partyAhead_42 : decode cX1_partyAhead 42 = .ok (.iinc 4 1, 3) := by decide +kernel
theorem dX1_partyAhead_45 : decode cX1_partyAhead 45 = .ok (.goto (-38), 3) := by decide +kernel
theorem dX1_partyAhead_48 : decode cX1_partyAhead 48 = .ok (.iload_n 2, 1) := by decide +kernel
theorem dX1_partyAhead_49 : decode cX1_partyAhead 49 = .ok (.ireturn, 1) := by decide +kernel
theorem dX1_lead_0 : decode cX1_lead 0 = .ok (.iconst 0, 1) := by decide +kernel
theorem dX1_lead_1 : decode cX1_lead 1 = .ok (.istore_n 2, 1) := by decide +kernel
theorem dX1_lead_2 : decode cX1_lead 2 = .ok (.iconst 0, 1) := by decide +kernel
theorem dX1_lead_3 : decode cX1_lead 3 = .ok (.istore_n 3, 1) := by decide +kernel
theorem dX1_lead_4 : decode cX1_lead 4 = .ok (.iconst 0, 1) := by decide +kernel
theorem dX1_lead_5 : decode cX1_lead 5 = .ok (.istore 4, 2) := by decide +kernel
theorem dX1_lead_7 : decode cX1_lead 7 = .ok (.iload 4, 2) := by decide +kernel
theorem dX1_lead_9 : decode cX1_lead 9 = .ok (.aload_n 0, 1) := by decide +kernel
theorem dX1_lead_10 : decode cX1_lead 10 = .ok (.getfield 12, 3) := by decide +kernel
theorem dX1_lead_13 : decode cX1_lead 13 = .ok (.getfield 29, 3) := by decide +kernel
theorem dX1_lead_16 : decode cX1_lead 16 = .ok (.iconst 0, 1) := by decide +kernel
theorem dX1_lead_17 : decode cX1_lead 17 = .ok (.iaload, 1) := by decide +kernel
theorem dX1_lead_18 : decode cX1_lead 18 = .ok (.if_icmp .ge 36, 3) := by decide +kernel
theorem dX1_lead_21 : decode cX1_lead 21 = .ok (.aload_n 0, 1) := by decide +kernel
theorem dX1_lead_22 : decode cX1_lead 22 = .ok (.iload_n 1, 1) := by decide +kernel
theorem dX1_lead_23 : decode cX1_lead 23 = .ok (.iload 4, 2) := by decide +kernel
theorem dX1_lead_25 : decode cX1_lead 25 = .ok (.invokevirtual 141, 3) := by decide +kernel
theorem dX1_lead_28 : decode cX1_lead 28 = .ok (.istore 5, 2) := by decide +kernel
theorem dX1_lead_30 : decode cX1_lead 30 = .ok (.iload_n 3, 1) := by decide +kernel
theorem dX1_lead_31 : decode cX1_lead 31 = .ok (.iload 5, 2) := by decide +kernel
theorem dX1_lead_33 : decode cX1_lead 33 = .ok (.iload_n 2, 1) := by decide +kernel
theorem dX1_lead_34 : decode cX1_lead 34 = .ok (.invokestatic 144, 3) := by decide +kernel
theorem dX1_lead_37 : decode cX1_lead 37 = .ok (.invokestatic 147, 3) := by decide +kernel
theorem dX1_lead_40 : decode cX1_lead 40 = .ok (.istore_n 3, 1) := by decide +kernel
theorem dX1_lead_41 : decode cX1_lead 41 = .ok (.iload_n 2, 1) := by decide +kernel
theorem dX1_lead_42 : decode cX1_lead 42 = .ok (.iload 5, 2) := by decide +kernel
theorem dX1_lead_44 : decode cX1_lead 44 = .ok (.invokestatic 147, 3) := by decide +kernel
theorem dX1_lead_47 : decode cX1_lead 47 = .ok (.istore_n 2, 1) := by decide +kernel
theorem dX1_lead_48 : decode cX1_lead 48 = .ok (.iinc 4 1, 3) := by decide +kernel
theorem dX1_lead_51 : decode cX1_lead 51 = .ok (.goto (-44), 3) := by decide +kernel
theorem dX1_lead_54 : decode cX1_lead 54 = .ok (.iload_n 2, 1) := by decide +kernel
theorem dX1_lead_55 : decode cX1_lead 55 = .ok (.iload_n 3, 1) := by decide +kernel
theorem dX1_lead_56 : decode cX1_lead 56 = .ok (.isub, 1) := by decide +kernel
theorem dX1_lead_57 : decode cX1_lead 57 = .ok (.ireturn, 1) := by decide +kernel
theorem dX1_isWardClose_0 : decode cX1_isWardClose 0 = .ok (.iconst 0, 1) := by decide +kernel
theorem dX1_isWardClose_1 : decode cX1_isWardClose 1 = .ok (.istore_n 2, 1) := by decide +kernel
theorem dX1_isWardClose_2 : decode cX1_isWardClose 2 = .ok (.iconst 0, 1) := by decide +kernel
theorem dX1_isWardClose_3 : decode cX1_isWardClose 3 = .ok (.istore_n 3, 1) := by decide +kernel
theorem dX1_isWardClose_4 : decode cX1_isWardClose 4 = .ok (.iload_n 3, 1) := by decide +kernel
theorem dX1_isWardClose_5 : decode cX1_isWardClose 5 = .ok (.aload_n 0, 1) := by decide +kernel
theorem dX1_isWardClose_6 : decode cX1_isWardClose 6 = .ok (.getfield 12, 3) := by decide +kernel
theorem dX1_isWardClose_9 : decode cX1_isWardClose 9 = .ok (.getfield 29, 3) := by decide +kernel
theorem dX1_isWardClose_12 : decode cX1_isWardClose 12 = .ok (.iconst 0, 1) := by decide +kernel
theorem dX1_isWardClose_13 : decode cX1_isWardClose 13 = .ok (.iaload, 1) := by decide +kernel
theorem dX1_isWardClose_14 : decode cX1_isWardClose 14 = .ok (.if_icmp .ge 18, 3) := by decide +kernel
theorem dX1_isWardClose_17 : decode cX1_isWardClose 17 = .ok (.iload_n 2, 1) := by decide +kernel
theorem dX1_isWardClose_18 : decode cX1_isWardClose 18 = .ok (.aload_n 0, 1) := by decide +kernel
theorem dX1_isWardClose_19 : decode cX1_isWardClose 19 = .ok (.iload_n 1, 1) := by decide +kernel
theorem dX1_isWardClose_20 : decode cX1_isWardClose 20 = .ok (.iload_n 3, 1) := by decide +kernel
theorem dX1_isWardClose_21 : decode cX1_isWardClose 21 = .ok (.invokevirtual 141, 3) := by decide +kernel
theorem dX1_isWardClose_24 : decode cX1_isWardClose 24 = .ok (.iadd, 1) := by decide +kernel
theorem dX1_isWardClose_25 : decode cX1_isWardClose 25 = .ok (.istore_n 2, 1) := by decide +kernel
theorem dX1_isWardClose_26 : decode cX1_isWardClose 26 = .ok (.iinc 3 1, 3) := by decide +kernel
theorem dX1_isWardClose_29 : decode cX1_isWardClose 29 = .ok (.goto (-25), 3) := by decide +kernel
theorem dX1_isWardClose_32 : decode cX1_isWardClose 32 = .ok (.iload_n 2, 1) := by decide +kernel
theorem dX1_isWardClose_33 : decode cX1_isWardClose 33 = .ok (.ifCond .le 29, 3) := by decide +kernel
theorem dX1_isWardClose_36 : decode cX1_isWardClose 36 = .ok (.aload_n 0, 1) := by decide +kernel
theorem dX1_isWardClose_37 : decode cX1_isWardClose 37 = .ok (.iload_n 1, 1) := by decide +kernel
theorem dX1_isWardClose_38 : decode cX1_isWardClose 38 = .ok (.invokevirtual 150, 3) := by decide +kernel
theorem dX1_isWardClose_41 : decode cX1_isWardClose 41 = .ok (.bipush 100, 2) := by decide +kernel
theorem dX1_isWardClose_43 : decode cX1_isWardClose 43 = .ok (.imul, 1) := by decide +kernel
theorem dX1_isWardClose_44 : decode cX1_isWardClose 44 = .ok (.aload_n 0, 1) := by decide +kernel
theorem dX1_isWardClose_45 : decode cX1_isWardClose 45 = .ok (.getfield 21, 3) := by decide +kernel
theorem dX1_isWardClose_48 : decode cX1_isWardClose 48 = .ok (.getfield 107, 3) := by decide +kernel
theorem dX1_isWardClose_51 : decode cX1_isWardClose 51 = .ok (.iconst 0, 1) := by decide +kernel
theorem dX1_isWardClose_52 : decode cX1_isWardClose 52 = .ok (.iaload, 1) := by decide +kernel
theorem dX1_isWardClose_53 : decode cX1_isWardClose 53 = .ok (.iload_n 2, 1) := by decide +kernel
theorem dX1_isWardClose_54 : decode cX1_isWardClose 54 = .ok (.imul, 1) := by decide +kernel
theorem dX1_isWardClose_55 : decode cX1_isWardClose 55 = .ok (.if_icmp .gt 7, 3) := by decide +kernel
theorem dX1_isWardClose_58 : decode cX1_isWardClose 58 = .ok (.iconst 1, 1) := by decide +kernel
theorem dX1_isWardClose_59 : decode cX1_isWardClose 59 = .ok (.goto 4, 3) := by decide +kernel
theorem dX1_isWardClose_62 : decode cX1_isWardClose 62 = .ok (.iconst 0, 1) := by decide +kernel
theorem dX1_isWardClose_63 : decode cX1_isWardClose 63 = .ok (.ireturn, 1) := by decide +kernel
theorem dX1_isWardDeclared_0 : decode cX1_isWardDeclared 0 = .ok (.iconst 0, 1) := by decide +kernel
theorem dX1_isWardDeclared_1 : decode cX1_isWardDeclared 1 = .ok (.istore_n 2, 1) := by decide +kernel
theorem dX1_isWardDeclared_2 : decode cX1_isWardDeclared 2 = .ok (.iload_n 2, 1) := by decide +kernel
theorem dX1_isWardDeclared_3 : decode cX1_isWardDeclared 3 = .ok (.aload_n 0, 1) := by decide +kernel
theorem dX1_isWardDeclared_4 : decode cX1_isWardDeclared 4 = .ok (.getfield 21, 3) := by decide +kernel
theorem dX1_isWardDeclared_7 : decode cX1_isWardDeclared 7 = .ok (.getfield 153, 3) := by decide +kernel
theorem dX1_isWardDeclared_10 : decode cX1_isWardDeclared 10 = .ok (.if_icmp .ge 24, 3) := by decide +kernel
theorem dX1_isWardDeclared_13 : decode cX1_isWardDeclared 13 = .ok (.aload_n 0, 1) := by decide +kernel
theorem dX1_isWardDeclared_14 : decode cX1_isWardDeclared 14 = .ok (.getfield 21, 3) := by decide +kernel
theorem dX1_isWardDeclared_17 : decode cX1_isWardDeclared 17 = .ok (.getfield 156, 3) := by decide +kernel
theorem dX1_isWardDeclared_20 : decode cX1_isWardDeclared 20 = .ok (.iload_n 2, 1) := by decide +kernel
theorem dX1_isWardDeclared_21 : decode cX1_isWardDeclared 21 = .ok (.iaload, 1) := by decide +kernel
theorem dX1_isWardDeclared_22 : decode cX1_isWardDeclared 22 = .ok (.iload_n 1, 1) := by decide +kernel
theorem dX1_isWardDeclared_23 : decode cX1_isWardDeclared 23 = .ok (.if_icmp .ne 5, 3) := by decide +kernel
theorem dX1_isWardDeclared_26 : decode cX1_isWardDeclared 26 = .ok (.iconst 1, 1) := by decide +kernel
theorem dX1_isWardDeclared_27 : decode cX1_isWardDeclared 27 = .ok (.ireturn, 1) := by decide +kernel
theorem dX1_isWardDeclared_28 : decode cX1_isWardDeclared 28 = .ok (.iinc 2 1, 3) := by decide +kernel
theorem dX1_isWardDeclared_31 : decode cX1_isWardDeclared 31 = .ok (.goto (-29), 3) := by decide +kernel
theorem dX1_isWardDeclared_34 : decode cX1_isWardDeclared 34 = .ok (.iconst 0, 1) := by decide +kernel
theorem dX1_isWardDeclared_35 : decode cX1_isWardDeclared 35 = .ok (.ireturn, 1) := by decide +kernel
theorem dX1_reasonAgainst_0 : decode cX1_reasonAgainst 0 = .ok (.aload_n 0, 1) := by decide +kernel
theorem dX1_reasonAgainst_1 : decode cX1_reasonAgainst 1 = .ok (.iload_n 1, 1) := by decide +kernel
theorem dX1_reasonAgainst_2 : decode cX1_reasonAgainst 2 = .ok (.invokevirtual 159, 3) := by decide +kernel
theorem dX1_reasonAgainst_5 : decode cX1_reasonAgainst 5 = .ok (.ifCond .eq 5, 3) := by decide +kernel
theorem dX1_reasonAgainst_8 : decode cX1_reasonAgainst 8 = .ok (.iconst 1, 1) := by decide +kernel
theorem dX1_reasonAgainst_9 : decode cX1_reasonAgainst 9 = .ok (.ireturn, 1) := by decide +kernel
theorem dX1_reasonAgainst_10 : decode cX1_reasonAgainst 10 = .ok (.iconst 1, 1) := by decide +kernel
theorem dX1_reasonAgainst_11 : decode cX1_reasonAgainst 11 = .ok (.istore_n 2, 1) := by decide +kernel
theorem dX1_reasonAgainst_12 : decode cX1_reasonAgainst 12 = .ok (.iconst 0, 1) := by decide +kernel
theorem dX1_reasonAgainst_13 : decode cX1_reasonAgainst 13 = .ok (.istore_n 3, 1) := by decide +kernel
theorem dX1_reasonAgainst_14 : decode cX1_reasonAgainst 14 = .ok (.iconst 0, 1) := by decide +kernel
theorem dX1_reasonAgainst_15 : decode cX1_reasonAgainst 15 = .ok (.istore 4, 2) := by decide +kernel
theorem dX1_reasonAgainst_17 : decode cX1_reasonAgainst 17 = .ok (.iconst 0, 1) := by decide +kernel
theorem dX1_reasonAgainst_18 : decode cX1_reasonAgainst 18 = .ok (.istore 5, 2) := by decide +kernel
theorem dX1_reasonAgainst_20 : decode cX1_reasonAgainst 20 = .ok (.iconst 0, 1) := by decide +kernel
theorem dX1_reasonAgainst_21 : decode cX1_reasonAgainst 21 = .ok (.istore 6, 2) := by decide +kernel
theorem dX1_reasonAgainst_23 : decode cX1_reasonAgainst 23 = .ok (.iconst 0, 1) := by decide +kernel
theorem dX1_reasonAgainst_24 : decode cX1_reasonAgainst 24 = .ok (.istore 7, 2) := by decide +kernel
theorem dX1_reasonAgainst_26 : decode cX1_reasonAgainst 26 = .ok (.iload 7, 2) := by decide +kernel
theorem dX1_reasonAgainst_28 : decode cX1_reasonAgainst 28 = .ok (.aload_n 0, 1) := by decide +kernel
theorem dX1_reasonAgainst_29 : decode cX1_reasonAgainst 29 = .ok (.getfield 12, 3) := by decide +kernel
theorem dX1_reasonAgainst_32 : decode cX1_reasonAgainst 32 = .ok (.getfield 29, 3) := by decide +kernel
theorem dX1_reasonAgainst_35 : decode cX1_reasonAgainst 35 = .ok (.iconst 3, 1) := by decide +kernel
theorem dX1_reasonAgainst_36 : decode cX1_reasonAgainst 36 = .ok (.iaload, 1) := by decide +kernel
theorem dX1_reasonAgainst_37 : decode cX1_reasonAgainst 37 = .ok (.if_icmp .ge 118, 3) := by decide +kernel
theorem dX1_reasonAgainst_40 : decode cX1_reasonAgainst 40 = .ok (.aload_n 0, 1) := by decide +kernel
theorem dX1_reasonAgainst_41 : decode cX1_reasonAgainst 41 = .ok (.getfield 12, 3) := by decide +kernel
theorem dX1_reasonAgainst_44 : decode cX1_reasonAgainst 44 = .ok (.getfield 138, 3) := by decide +kernel
theorem dX1_reasonAgainst_47 : decode cX1_reasonAgainst 47 = .ok (.iload 7, 2) := by decide +kernel
theorem dX1_reasonAgainst_49 : decode cX1_reasonAgainst 49 = .ok (.iaload, 1) := by decide +kernel
theorem dX1_reasonAgainst_50 : decode cX1_reasonAgainst 50 = .ok (.iload_n 1, 1) := by decide +kernel
theorem dX1_reasonAgainst_51 : decode cX1_reasonAgainst 51 = .ok (.if_icmp .ne 98, 3) := by decide +kernel
theorem dX1_reasonAgainst_54 : decode cX1_reasonAgainst 54 = .ok (.aload_n 0, 1) := by decide +kernel
theorem dX1_reasonAgainst_55 : decode cX1_reasonAgainst 55 = .ok (.getfield 21, 3) := by decide +kernel
theorem dX1_reasonAgainst_58 : decode cX1_reasonAgainst 58 = .ok (.getfield 33, 3) := by decide +kernel
theorem dX1_reasonAgainst_61 : decode cX1_reasonAgainst 61 = .ok (.iload 7, 2) := by decide +kernel
theorem dX1_reasonAgainst_63 : decode cX1_reasonAgainst 63 = .ok (.aaload, 1) := by decide +kernel
theorem dX1_reasonAgainst_64 : decode cX1_reasonAgainst 64 = .ok (.astore 8, 2) := by decide +kernel
theorem dX1_reasonAgainst_66 : decode cX1_reasonAgainst 66 = .ok (.iconst 0, 1) := by decide +kernel
theorem dX1_reasonAgainst_67 : decode cX1_reasonAgainst 67 = .ok (.istore_n 2, 1) := by decide +kernel
theorem dX1_reasonAgainst_68 : decode cX1_reasonAgainst 68 = .ok (.iload_n 3, 1) := by decide +kernel
theorem dX1_reasonAgainst_69 : decode cX1_reasonAgainst 69 = .ok (.aload 8, 2) := by decide +kernel
theorem dX1_reasonAgainst_71 : decode cX1_reasonAgainst 71 = .ok (.getfield 43, 3) := by decide +kernel
theorem dX1_reasonAgainst_74 : decode cX1_reasonAgainst 74 = .ok (.ifCond .ne 7, 3) := by decide +kernel
theorem dX1_reasonAgainst_77 : decode cX1_reasonAgainst 77 = .ok (.iconst 1, 1) := by decide +kernel
theorem dX1_reasonAgainst_78 : decode cX1_reasonAgainst 78 = .ok (.goto 4, 3) := by decide +kernel
theorem dX1_reasonAgainst_81 : decode cX1_reasonAgainst 81 = .ok (.iconst 0, 1) := by decide +kernel
theorem dX1_reasonAgainst_82 : decode cX1_reasonAgainst 82 = .ok (.ior, 1) := by decide +kernel
theorem dX1_reasonAgainst_83 : decode cX1_reasonAgainst 83 = .ok (.istore_n 3, 1) := by decide +kernel
theorem dX1_reasonAgainst_84 : decode cX1_reasonAgainst 84 = .ok (.iload 4, 2) := by decide +kernel
theorem dX1_reasonAgainst_86 : decode cX1_reasonAgainst 86 = .ok (.aload 8, 2) := by decide +kernel
theorem dX1_reasonAgainst_88 : decode cX1_reasonAgainst 88 = .ok (.getfield 37, 3) := by decide +kernel
theorem dX1_reasonAgainst_91 : decode cX1_reasonAgainst 91 = .ok (.bipush (-4), 2) := by decide +kernel
theorem dX1_reasonAgainst_93 : decode cX1_reasonAgainst 93 = .ok (.if_icmp .eq 7, 3) := by decide +kernel
theorem dX1_reasonAgainst_96 : decode cX1_reasonAgainst 96 = .ok (.iconst 1, 1) := by decide +kernel
theorem dX1_reasonAgainst_97 : decode cX1_reasonAgainst 97 = .ok (.goto 4, 3) := by decide +kernel
theorem dX1_reasonAgainst_100 : decode cX1_reasonAgainst 100 = .ok (.iconst 0, 1) := by decide +kernel
theorem dX1_reasonAgainst_101 : decode cX1_reasonAgainst 101 = .ok (.ior, 1) := by decide +kernel
theorem dX1_reasonAgainst_102 : decode cX1_reasonAgainst 102 = .ok (.istore 4, 2) := by decide +kernel
theorem dX1_reasonAgainst_104 : decode cX1_reasonAgainst 104 = .ok (.iload 5, 2) := by decide +kernel
theorem dX1_reasonAgainst_106 : decode cX1_reasonAgainst 106 = .ok (.aload_n 0, 1) := by decide +kernel
theorem dX1_reasonAgainst_107 : decode cX1_reasonAgainst 107 = .ok (.iload 7, 2) := by decide +kernel
theorem dX1_reasonAgainst_109 : decode cX1_reasonAgainst 109 = .ok (.invokevirtual 162, 3) := by decide +kernel
theorem dX1_reasonAgainst_112 : decode cX1_reasonAgainst 112 = .ok (.ifCond .eq 15, 3) := by decide +kernel
theorem dX1_reasonAgainst_115 : decode cX1_reasonAgainst 115 = .ok (.aload 8, 2) := by decide +kernel
theorem dX1_reasonAgainst_117 : decode cX1_reasonAgainst 117 = .ok (.getfield 121, 3) := by decide +kernel
theorem dX1_reasonAgainst_120 : decode cX1_reasonAgainst 120 = .ok (.ifCond .ne 7, 3) := by decide +kernel
theorem dX1_reasonAgainst_123 : decode cX1_reasonAgainst 123 = .ok (.iconst 1, 1) := by decide +kernel
theorem dX1_reasonAgainst_124 : decode cX1_reasonAgainst 124 = .ok (.goto 4, 3) := by decide +kernel
theorem dX1_reasonAgainst_127 : decode cX1_reasonAgainst 127 = .ok (.iconst 0, 1) := by decide +kernel
theorem dX1_reasonAgainst_128 : decode cX1_reasonAgainst 128 = .ok (.ior, 1) := by decide +kernel
theorem dX1_reasonAgainst_129 : decode cX1_reasonAgainst 129 = .ok (.istore 5, 2) := by decide +kernel
theorem dX1_reasonAgainst_131 : decode cX1_reasonAgainst 131 = .ok (.iload 6, 2) := by decide +kernel
theorem dX1_reasonAgainst_133 : decode cX1_reasonAgainst 133 = .ok (.aload 8, 2) := by decide +kernel
theorem dX1_reasonAgainst_135 : decode cX1_reasonAgainst 135 = .ok (.getfield 121, 3) := by decide +kernel
theorem dX1_reasonAgainst_138 : decode cX1_reasonAgainst 138 = .ok (.ifCond .ne 7, 3) := by decide +kernel
theorem dX1_reasonAgainst_141 : decode cX1_reasonAgainst 141 = .ok (.iconst 1, 1) := by decide +kernel
theorem dX1_reasonAgainst_142 : decode cX1_reasonAgainst 142 = .ok (.goto 4, 3) := by decide +kernel
theorem dX1_reasonAgainst_145 : decode cX1_reasonAgainst 145 = .ok (.iconst 0, 1) := by decide +kernel
theorem dX1_reasonAgainst_146 : decode cX1_reasonAgainst 146 = .ok (.ior, 1) := by decide +kernel
theorem dX1_reasonAgainst_147 : decode cX1_reasonAgainst 147 = .ok (.istore 6, 2) := by decide +kernel
theorem dX1_reasonAgainst_149 : decode cX1_reasonAgainst 149 = .ok (.iinc 7 1, 3) := by decide +kernel
theorem dX1_reasonAgainst_152 : decode cX1_reasonAgainst 152 = .ok (.goto (-126), 3) := by decide +kernel
theorem dX1_reasonAgainst_155 : decode cX1_reasonAgainst 155 = .ok (.iload_n 2, 1) := by decide +kernel
theorem dX1_reasonAgainst_156 : decode cX1_reasonAgainst 156 = .ok (.ifCond .ne 7, 3) := by decide +kernel
theorem dX1_reasonAgainst_159 : decode cX1_reasonAgainst 159 = .ok (.iload_n 3, 1) := by decide +kernel
theorem dX1_reasonAgainst_160 : decode cX1_reasonAgainst 160 = .ok (.ifCond .eq 5, 3) := by decide +kernel
theorem dX1_reasonAgainst_163 : decode cX1_reasonAgainst 163 = .ok (.iconst 2, 1) := by decide +kernel
theorem dX1_reasonAgainst_164 : decode cX1_reasonAgainst 164 = .ok (.ireturn, 1) := by decide +kernel
theorem dX1_reasonAgainst_165 : decode cX1_reasonAgainst 165 = .ok (.iload 4, 2) := by decide +kernel
theorem dX1_reasonAgainst_167 : decode cX1_reasonAgainst 167 = .ok (.ifCond .eq 5, 3) := by decide +kernel
theorem dX1_reasonAgainst_170 : decode cX1_reasonAgainst 170 = .ok (.iconst 3, 1) := by decide +kernel
theorem dX1_reasonAgainst_171 : decode cX1_reasonAgainst 171 = .ok (.ireturn, 1) := by decide +kernel
theorem dX1_reasonAgainst_172 : decode cX1_reasonAgainst 172 = .ok (.iload 5, 2) := by decide +kernel
theorem dX1_reasonAgainst_174 : decode cX1_reasonAgainst 174 = .ok (.ifCond .eq 5, 3) := by decide +kernel
theorem dX1_reasonAgainst_177 : decode cX1_reasonAgainst 177 = .ok (.iconst 4, 1) := by decide +kernel
theorem dX1_reasonAgainst_178 : decode cX1_reasonAgainst 178 = .ok (.ireturn, 1) := by decide +kernel
theorem dX1_reasonAgainst_179 : decode cX1_reasonAgainst 179 = .ok (.iload 6, 2) := by decide +kernel
theorem dX1_reasonAgainst_181 : decode cX1_reasonAgainst 181 = .ok (.ifCond .eq 15, 3) := by decide +kernel
theorem dX1_reasonAgainst_184 : decode cX1_reasonAgainst 184 = .ok (.aload_n 0, 1) := by decide +kernel
theorem dX1_reasonAgainst_185 : decode cX1_reasonAgainst 185 = .ok (.iload_n 1, 1) := by decide +kernel
theorem dX1_reasonAgainst_186 : decode cX1_reasonAgainst 186 = .ok (.invokevirtual 165, 3) := by decide +kernel
theorem dX1_reasonAgainst_189 : decode cX1_reasonAgainst 189 = .ok (.ifCond .eq 7, 3) := by decide +kernel
theorem dX1_reasonAgainst_192 : decode cX1_reasonAgainst 192 = .ok (.iconst 5, 1) := by decide +kernel
theorem dX1_reasonAgainst_193 : decode cX1_reasonAgainst 193 = .ok (.goto 4, 3) := by decide +kernel
theorem dX1_reasonAgainst_196 : decode cX1_reasonAgainst 196 = .ok (.iconst 0, 1) := by decide +kernel
theorem dX1_reasonAgainst_197 : decode cX1_reasonAgainst 197 = .ok (.ireturn, 1) := by decide +kernel
theorem dX1_boxesToCount_0 : decode cX1_boxesToCount 0 = .ok (.iconst 0, 1) := by decide +kernel
theorem dX1_boxesToCount_1 : decode cX1_boxesToCount 1 = .ok (.istore_n 1, 1) := by decide +kernel
theorem dX1_boxesToCount_2 : decode cX1_boxesToCount 2 = .ok (.iconst 0, 1) := by decide +kernel
theorem dX1_boxesToCount_3 : decode cX1_boxesToCount 3 = .ok (.istore_n 2, 1) := by decide +kernel
theorem dX1_boxesToCount_4 : decode cX1_boxesToCount 4 = .ok (.iload_n 2, 1) := by decide +kernel
theorem dX1_boxesToCount_5 : decode cX1_boxesToCount 5 = .ok (.aload_n 0, 1) := by decide +kernel
theorem dX1_boxesToCount_6 : decode cX1_boxesToCount 6 = .ok (.getfield 12, 3) := by decide +kernel
theorem dX1_boxesToCount_9 : decode cX1_boxesToCount 9 = .ok (.getfield 29, 3) := by decide +kernel
theorem dX1_boxesToCount_12 : decode cX1_boxesToCount 12 = .ok (.iconst 3, 1) := by decide +kernel
theorem dX1_boxesToCount_13 : decode cX1_boxesToCount 13 = .ok (.iaload, 1) := by decide +kernel
theorem dX1_boxesToCount_14 : decode cX1_boxesToCount 14 = .ok (.if_icmp .ge 23, 3) := by decide +kernel
theorem dX1_boxesToCount_17 : decode cX1_boxesToCount 17 = .ok (.aload_n 0, 1) := by decide +kernel
theorem dX1_boxesToCount_18 : decode cX1_boxesToCount 18 = .ok (.iload_n 2, 1) := by decide +kernel
theorem dX1_boxesToCount_19 : decode cX1_boxesToCount 19 = .ok (.invokevirtual 168, 3) := by decide +kernel
theorem dX1_boxesToCount_22 : decode cX1_boxesToCount 22 = .ok (.ifCond .eq 9, 3) := by decide +kernel
theorem dX1_boxesToCount_25 : decode cX1_boxesToCount 25 = .ok (.iload_n 1, 1) := by decide +kernel
theorem dX1_boxesToCount_26 : decode cX1_boxesToCount 26 = .ok (.iconst 1, 1) := by decide +kernel
theorem dX1_boxesToCount_27 : decode cX1_boxesToCount 27 = .ok (.iload_n 2, 1) := by decide +kernel
theorem dX1_boxesToCount_28 : decode cX1_boxesToCount 28 = .ok (.ishl, 1) := by decide +kernel
theorem dX1_boxesToCount_29 : decode cX1_boxesToCount 29 = .ok (.ior, 1) := by decide +kernel
theorem dX1_boxesToCount_30 : decode cX1_boxesToCount 30 = .ok (.istore_n 1, 1) := by decide +kernel
theorem dX1_boxesToCount_31 : decode cX1_boxesToCount 31 = .ok (.iinc 2 1, 3) := by decide +kernel
theorem dX1_boxesToCount_34 : decode cX1_boxesToCount 34 = .ok (.goto (-30), 3) := by decide +kernel
theorem dX1_boxesToCount_37 : decode cX1_boxesToCount 37 = .ok (.iload_n 1, 1) := by decide +kernel
theorem dX1_boxesToCount_38 : decode cX1_boxesToCount 38 = .ok (.ireturn, 1) := by decide +kernel
theorem dX1_mustBeCounted_0 : decode cX1_mustBeCounted 0 = .ok (.aload_n 0, 1) := by decide +kernel
theorem dX1_mustBeCounted_1 : decode cX1_mustBeCounted 1 = .ok (.getfield 21, 3) := by decide +kernel
theorem dX1_mustBeCounted_4 : decode cX1_mustBeCounted 4 = .ok (.getfield 33, 3) := by decide +kernel
theorem dX1_mustBeCounted_7 : decode cX1_mustBeCounted 7 = .ok (.iload_n 1, 1) := by decide +kernel
theorem dX1_mustBeCounted_8 : decode cX1_mustBeCounted 8 = .ok (.aaload, 1) := by decide +kernel
theorem dX1_mustBeCounted_9 : decode cX1_mustBeCounted 9 = .ok (.astore_n 2, 1) := by decide +kernel
theorem dX1_mustBeCounted_10 : decode cX1_mustBeCounted 10 = .ok (.aload_n 0, 1) := by decide +kernel
theorem dX1_mustBeCounted_11 : decode cX1_mustBeCounted 11 = .ok (.getfield 12, 3) := by decide +kernel
theorem dX1_mustBeCounted_14 : decode cX1_mustBeCounted 14 = .ok (.getfield 138, 3) := by decide +kernel
theorem dX1_mustBeCounted_17 : decode cX1_mustBeCounted 17 = .ok (.iload_n 1, 1) := by decide +kernel
theorem dX1_mustBeCounted_18 : decode cX1_mustBeCounted 18 = .ok (.iaload, 1) := by decide +kernel
theorem dX1_mustBeCounted_19 : decode cX1_mustBeCounted 19 = .ok (.istore_n 3, 1) := by decide +kernel
theorem dX1_mustBeCounted_20 : decode cX1_mustBeCounted 20 = .ok (.aload_n 2, 1) := by decide +kernel
theorem dX1_mustBeCounted_21 : decode cX1_mustBeCounted 21 = .ok (.getfield 121, 3) := by decide +kernel
theorem dX1_mustBeCounted_24 : decode cX1_mustBeCounted 24 = .ok (.ifCond .ne 11, 3) := by decide +kernel
theorem dX1_mustBeCounted_27 : decode cX1_mustBeCounted 27 = .ok (.aload_n 0, 1) := by decide +kernel
theorem dX1_mustBeCounted_28 : decode cX1_mustBeCounted 28 = .ok (.iload_n 3, 1) := by decide +kernel
theorem dX1_mustBeCounted_29 : decode cX1_mustBeCounted 29 = .ok (.invokevirtual 159, 3) := by decide +kernel
theorem dX1_mustBeCounted_32 : decode cX1_mustBeCounted 32 = .ok (.ifCond .eq 5, 3) := by decide +kernel
theorem dX1_mustBeCounted_35 : decode cX1_mustBeCounted 35 = .ok (.iconst 0, 1) := by decide +kernel
theorem dX1_mustBeCounted_36 : decode cX1_mustBeCounted 36 = .ok (.ireturn, 1) := by decide +kernel
theorem dX1_mustBeCounted_37 : decode cX1_mustBeCounted 37 = .ok (.aload_n 2, 1) := by decide +kernel
theorem dX1_mustBeCounted_38 : decode cX1_mustBeCounted 38 = .ok (.getfield 43, 3) := by decide +kernel
theorem dX1_mustBeCounted_41 : decode cX1_mustBeCounted 41 = .ok (.ifCond .eq 19, 3) := by decide +kernel
theorem dX1_mustBeCounted_44 : decode cX1_mustBeCounted 44 = .ok (.aload_n 0, 1) := by decide +kernel
theorem dX1_mustBeCounted_45 : decode cX1_mustBeCounted 45 = .ok (.iload_n 1, 1) := by decide +kernel
theorem dX1_mustBeCounted_46 : decode cX1_mustBeCounted 46 = .ok (.invokevirtual 162, 3) := by decide +kernel
theorem dX1_mustBeCounted_49 : decode cX1_mustBeCounted 49 = .ok (.ifCond .ne 11, 3) := by decide +kernel
theorem dX1_mustBeCounted_52 : decode cX1_mustBeCounted 52 = .ok (.aload_n 0, 1) := by decide +kernel
theorem dX1_mustBeCounted_53 : decode cX1_mustBeCounted 53 = .ok (.iload_n 3, 1) := by decide +kernel
theorem dX1_mustBeCounted_54 : decode cX1_mustBeCounted 54 = .ok (.invokevirtual 165, 3) := by decide +kernel
theorem dX1_mustBeCounted_57 : decode cX1_mustBeCounted 57 = .ok (.ifCond .eq 7, 3) := by decide +kernel
theorem dX1_mustBeCounted_60 : decode cX1_mustBeCounted 60 = .ok (.iconst 1, 1) := by decide +kernel
theorem dX1_mustBeCounted_61 : decode cX1_mustBeCounted 61 = .ok (.goto 4, 3) := by decide +kernel
theorem dX1_mustBeCounted_64 : decode cX1_mustBeCounted 64 = .ok (.iconst 0, 1) := by decide +kernel
theorem dX1_mustBeCounted_65 : decode cX1_mustBeCounted 65 = .ok (.ireturn, 1) := by decide +kernel
theorem dX1_nextReady_0 : decode cX1_nextReady 0 = .ok (.iconst (-1), 1) := by decide +kernel
theorem dX1_nextReady_1 : decode cX1_nextReady 1 = .ok (.istore_n 1, 1) := by decide +kernel
theorem dX1_nextReady_2 : decode cX1_nextReady 2 = .ok (.iconst 0, 1) := by decide +kernel
theorem dX1_nextReady_3 : decode cX1_nextReady 3 = .ok (.istore_n 2, 1) := by decide +kernel
theorem dX1_nextReady_4 : decode cX1_nextReady 4 = .ok (.iconst 0, 1) := by decide +kernel
theorem dX1_nextReady_5 : decode cX1_nextReady 5 = .ok (.istore_n 3, 1) := by decide +kernel
theorem dX1_nextReady_6 : decode cX1_nextReady 6 = .ok (.iload_n 3, 1) := by decide +kernel
theorem dX1_nextReady_7 : decode cX1_nextReady 7 = .ok (.aload_n 0, 1) := by decide +kernel
theorem dX1_nextReady_8 : decode cX1_nextReady 8 = .ok (.getfield 12, 3) := by decide +kernel
theorem dX1_nextReady_11 : decode cX1_nextReady 11 = .ok (.getfield 29, 3) := by decide +kernel
theorem dX1_nextReady_14 : decode cX1_nextReady 14 = .ok (.iconst 2, 1) := by decide +kernel
theorem dX1_nextReady_15 : decode cX1_nextReady 15 = .ok (.iaload, 1) := by decide +kernel
theorem dX1_nextReady_16 : decode cX1_nextReady 16 = .ok (.if_icmp .ge 40, 3) := by decide +kernel
theorem dX1_nextReady_19 : decode cX1_nextReady 19 = .ok (.aload_n 0, 1) := by decide +kernel
theorem dX1_nextReady_20 : decode cX1_nextReady 20 = .ok (.iload_n 3, 1) := by decide +kernel
theorem dX1_nextReady_21 : decode cX1_nextReady 21 = .ok (.invokevirtual 171, 3) := by decide +kernel
theorem dX1_nextReady_24 : decode cX1_nextReady 24 = .ok (.istore 4, 2) := by decide +kernel
theorem dX1_nextReady_26 : decode cX1_nextReady 26 = .ok (.iload_n 1, 1) := by decide +kernel
theorem dX1_nextReady_27 : decode cX1_nextReady 27 = .ok (.iconst (-1), 1) := by decide +kernel
theorem dX1_nextReady_28 : decode cX1_nextReady 28 = .ok (.if_icmp .eq 9, 3) := by decide +kernel
theorem dX1_nextReady_31 : decode cX1_nextReady 31 = .ok (.iload 4, 2) := by decide +kernel
theorem dX1_nextReady_33 : decode cX1_nextReady 33 = .ok (.iload_n 2, 1) := by decide +kernel
theorem dX1_nextReady_34 : decode cX1_nextReady 34 = .ok (.if_icmp .ge 16, 3) := by decide +kernel
theorem dX1_nextReady_37 : decode cX1_nextReady 37 = .ok (.aload_n 0, 1) := by decide +kernel
theorem dX1_nextReady_38 : decode cX1_nextReady 38 = .ok (.iload_n 3, 1) := by decide +kernel
theorem dX1_nextReady_39 : decode cX1_nextReady 39 = .ok (.invokevirtual 174, 3) := by decide +kernel
theorem dX1_nextReady_42 : decode cX1_nextReady 42 = .ok (.ifCond .ne 8, 3) := by decide +kernel
theorem dX1_nextReady_45 : decode cX1_nextReady 45 = .ok (.iload_n 3, 1) := by decide +kernel
theorem dX1_nextReady_46 : decode cX1_nextReady 46 = .ok (.istore_n 1, 1) := by decide +kernel
theorem dX1_nextReady_47 : decode cX1_nextReady 47 = .ok (.iload 4, 2) := by decide +kernel
theorem dX1_nextReady_49 : decode cX1_nextReady 49 = .ok (.istore_n 2, 1) := by decide +kernel
theorem dX1_nextReady_50 : decode cX1_nextReady 50 = .ok (.iinc 3 1, 3) := by decide +kernel
theorem dX1_nextReady_53 : decode cX1_nextReady 53 = .ok (.goto (-47), 3) := by decide +kernel
theorem dX1_nextReady_56 : decode cX1_nextReady 56 = .ok (.iload_n 1, 1) := by decide +kernel
theorem dX1_nextReady_57 : decode cX1_nextReady 57 = .ok (.ireturn, 1) := by decide +kernel
theorem dX1_foundInAll_0 : decode cX1_foundInAll 0 = .ok (.iconst 0, 1) := by decide +kernel
theorem dX1_foundInAll_1 : decode cX1_foundInAll 1 = .ok (.istore_n 2, 1) := by decide +kernel
theorem dX1_foundInAll_2 : decode cX1_foundInAll 2 = .ok (.iconst 0, 1) := by decide +kernel
theorem dX1_foundInAll_3 : decode cX1_foundInAll 3 = .ok (.istore_n 3, 1) := by decide +kernel
theorem dX1_foundInAll_4 : decode cX1_foundInAll 4 = .ok (.iload_n 3, 1) := by decide +kernel
theorem dX1_foundInAll_5 : decode cX1_foundInAll 5 = .ok (.aload_n 0, 1) := by decide +kernel
theorem dX1_foundInAll_6 : decode cX1_foundInAll 6 = .ok (.getfield 12, 3) := by decide +kernel
theorem dX1_foundInAll_9 : decode cX1_foundInAll 9 = .ok (.invokevirtual 49, 3) := by decide +kernel
theorem dX1_foundInAll_12 : decode cX1_foundInAll 12 = .ok (.if_icmp .ge 18, 3) := by decide +kernel
theorem dX1_foundInAll_15 : decode cX1_foundInAll 15 = .ok (.iload_n 2, 1) := by decide +kernel
theorem dX1_foundInAll_16 : decode cX1_foundInAll 16 = .ok (.aload_n 0, 1) := by decide +kernel
theorem dX1_foundInAll_17 : decode cX1_foundInAll 17 = .ok (.iload_n 1, 1) := by decide +kernel
theorem dX1_foundInAll_18 : decode cX1_foundInAll 18 = .ok (.iload_n 3, 1) := by decide +kernel
theorem dX1_foundInAll_19 : decode cX1_foundInAll 19 = .ok (.invokevirtual 141, 3) := by decide +kernel
theorem dX1_foundInAll_22 : decode cX1_foundInAll 22 = .ok (.iadd, 1) := by decide +kernel
theorem dX1_foundInAll_23 : decode cX1_foundInAll 23 = .ok (.istore_n 2, 1) := by decide +kernel
theorem dX1_foundInAll_24 : decode cX1_foundInAll 24 = .ok (.iinc 3 1, 3) := by decide +kernel
theorem dX1_foundInAll_27 : decode cX1_foundInAll 27 = .ok (.goto (-23), 3) := by decide +kernel
theorem dX1_foundInAll_30 : decode cX1_foundInAll 30 = .ok (.iload_n 2, 1) := by decide +kernel
theorem dX1_foundInAll_31 : decode cX1_foundInAll 31 = .ok (.ireturn, 1) := by decide +kernel
theorem dX2_init_0 : decode cX2_init 0 = .ok (.aload_n 0, 1) := by decide +kernel
theorem dX2_init_1 : decode cX2_init 1 = .ok (.invokespecial 3, 3) := by decide +kernel
theorem dX2_init_4 : decode cX2_init 4 = .ok (.aload_n 0, 1) := by decide +kernel
theorem dX2_init_5 : decode cX2_init 5 = .ok (.bipush 10, 2) := by decide +kernel
theorem dX2_init_7 : decode cX2_init 7 = .ok (.anewarray 9, 3) := by decide +kernel
theorem dX2_init_10 : decode cX2_init 10 = .ok (.putfield 11, 3) := by decide +kernel
theorem dX2_init_13 : decode cX2_init 13 = .ok (.iconst 0, 1) := by decide +kernel
theorem dX2_init_14 : decode cX2_init 14 = .ok (.istore_n 1, 1) := by decide +kernel
theorem dX2_init_15 : decode cX2_init 15 = .ok (.iload_n 1, 1) := by decide +kernel
theorem dX2_init_16 : decode cX2_init 16 = .ok (.bipush 10, 2) := by decide +kernel
theorem dX2_init_18 : decode cX2_init 18 = .ok (.if_icmp .ge 22, 3) := by decide +kernel
theorem dX2_init_21 : decode cX2_init 21 = .ok (.aload_n 0, 1) := by decide +kernel
theorem dX2_init_22 : decode cX2_init 22 = .ok (.getfield 11, 3) := by decide +kernel
theorem dX2_init_25 : decode cX2_init 25 = .ok (.iload_n 1, 1) := by decide +kernel
theorem dX2_init_26 : decode cX2_init 26 = .ok (.new 9, 3) := by decide +kernel
theorem dX2_init_29 : decode cX2_init 29 = .ok (.dup, 1) := by decide +kernel
theorem dX2_init_30 : decode cX2_init 30 = .ok (.invokespecial 17, 3) := by decide +kernel
theorem dX2_init_33 : decode cX2_init 33 = .ok (.aastore, 1) := by decide +kernel
theorem dX2_init_34 : decode cX2_init 34 = .ok (.iinc 1 1, 3) := by decide +kernel
theorem dX2_init_37 : decode cX2_init 37 = .ok (.goto (-22), 3) := by decide +kernel
theorem dX2_init_40 : decode cX2_init 40 = .ok (.return_, 1) := by decide +kernel
theorem dX2_keep_0 : decode cX2_keep 0 = .ok (.aload_n 0, 1) := by decide +kernel
theorem dX2_keep_1 : decode cX2_keep 1 = .ok (.getfield 18, 3) := by decide +kernel
theorem dX2_keep_4 : decode cX2_keep 4 = .ok (.bipush 10, 2) := by decide +kernel
theorem dX2_keep_6 : decode cX2_keep 6 = .ok (.if_icmp .ne 7, 3) := by decide +kernel
theorem dX2_keep_9 : decode cX2_keep 9 = .ok (.aload_n 0, 1) := by decide +kernel
theorem dX2_keep_10 : decode cX2_keep 10 = .ok (.invokevirtual 22, 3) := by decide +kernel
theorem dX2_keep_13 : decode cX2_keep 13 = .ok (.aload_n 0, 1) := by decide +kernel
theorem dX2_keep_14 : decode cX2_keep 14 = .ok (.getfield 11, 3) := by decide +kernel
theorem dX2_keep_17 : decode cX2_keep 17 = .ok (.aload_n 0, 1) := by decide +kernel
theorem dX2_keep_18 : decode cX2_keep 18 = .ok (.getfield 18, 3) := by decide +kernel
theorem dX2_keep_21 : decode cX2_keep 21 = .ok (.aaload, 1) := by decide +kernel
theorem dX2_keep_22 : decode cX2_keep 22 = .ok (.aload_n 1, 1) := by decide +kernel
theorem dX2_keep_23 : decode cX2_keep 23 = .ok (.invokevirtual 25, 3) := by decide +kernel
theorem dX2_keep_26 : decode cX2_keep 26 = .ok (.aload_n 0, 1) := by decide +kernel
theorem dX2_keep_27 : decode cX2_keep 27 = .ok (.dup, 1) := by decide +kernel
theorem dX2_keep_28 : decode cX2_keep 28 = .ok (.getfield 18, 3) := by decide +kernel
theorem dX2_keep_31 : decode cX2_keep 31 = .ok (.iconst 1, 1) := by decide +kernel
theorem dX2_keep_32 : decode cX2_keep 32 = .ok (.iadd, 1) := by decide +kernel
theorem dX2_keep_33 : decode cX2_keep 33 = .ok (.putfield 18, 3) := by decide +kernel
theorem dX2_keep_36 : decode cX2_keep 36 = .ok (.return_, 1) := by decide +kernel
theorem dX2_forgetOldest_0 : decode cX2_forgetOldest 0 = .ok (.aload_n 0, 1) := by decide +kernel
theorem dX2_forgetOldest_1 : decode cX2_forgetOldest 1 = .ok (.getfield 11, 3) := by decide +kernel
theorem dX2_forgetOldest_4 : decode cX2_forgetOldest 4 = .ok (.iconst 0, 1) := by decide +kernel
theorem dX2_forgetOldest_5 : decode cX2_forgetOldest 5 = .ok (.aaload, 1) := by decide +kernel
theorem dX2_forgetOldest_6 : decode cX2_forgetOldest 6 = .ok (.astore_n 1, 1) := by decide +kernel
theorem dX2_forgetOldest_7 : decode cX2_forgetOldest 7 = .ok (.iconst 1, 1) := by decide +kernel
theorem dX2_forgetOldest_8 : decode cX2_forgetOldest 8 = .ok (.istore_n 2, 1) := by decide +kernel
theorem dX2_forgetOldest_9 : decode cX2_forgetOldest 9 = .ok (.iload_n 2, 1) := by decide +kernel
theorem dX2_forgetOldest_10 : decode cX2_forgetOldest 10 = .ok (.bipush 10, 2) := by decide +kernel
theorem dX2_forgetOldest_12 : decode cX2_forgetOldest 12 = .ok (.if_icmp .ge 23, 3) := by decide +kernel
theorem dX2_forgetOldest_15 : decode cX2_forgetOldest 15 = .ok (.aload_n 0, 1) := by decide +kernel
theorem dX2_forgetOldest_16 : decode cX2_forgetOldest 16 = .ok (.getfield 11, 3) := by decide +kernel
theorem dX2_forgetOldest_19 : decode cX2_forgetOldest 19 = .ok (.iload_n 2, 1) := by decide +kernel
theorem dX2_forgetOldest_20 : decode cX2_forgetOldest 20 = .ok (.iconst 1, 1) := by decide +kernel
theorem dX2_forgetOldest_21 : decode cX2_forgetOldest 21 = .ok (.isub, 1) := by decide +kernel
theorem dX2_forgetOldest_22 : decode cX2_forgetOldest 22 = .ok (.aload_n 0, 1) := by decide +kernel
theorem dX2_forgetOldest_23 : decode cX2_forgetOldest 23 = .ok (.getfield 11, 3) := by decide +kernel
theorem dX2_forgetOldest_26 : decode cX2_forgetOldest 26 = .ok (.iload_n 2, 1) := by decide +kernel
theorem dX2_forgetOldest_27 : decode cX2_forgetOldest 27 = .ok (.aaload, 1) := by decide +kernel
theorem dX2_forgetOldest_28 : decode cX2_forgetOldest 28 = .ok (.aastore, 1) := by decide +kernel
theorem dX2_forgetOldest_29 : decode cX2_forgetOldest 29 = .ok (.iinc 2 1, 3) := by decide +kernel
theorem dX2_forgetOldest_32 : decode cX2_forgetOldest 32 = .ok (.goto (-23), 3) := by decide +kernel
theorem dX2_forgetOldest_35 : decode cX2_forgetOldest 35 = .ok (.aload_n 0, 1) := by decide +kernel
theorem dX2_forgetOldest_36 : decode cX2_forgetOldest 36 = .ok (.getfield 11, 3) := by decide +kernel
theorem dX2_forgetOldest_39 : decode cX2_forgetOldest 39 = .ok (.bipush 9, 2) := by decide +kernel
theorem dX2_forgetOldest_41 : decode cX2_forgetOldest 41 = .ok (.aload_n 1, 1) := by decide +kernel
theorem dX2_forgetOldest_42 : decode cX2_forgetOldest 42 = .ok (.aastore, 1) := by decide +kernel
theorem dX2_forgetOldest_43 : decode cX2_forgetOldest 43 = .ok (.aload_n 0, 1) := by decide +kernel
theorem dX2_forgetOldest_44 : decode cX2_forgetOldest 44 = .ok (.dup, 1) := by decide +kernel
theorem dX2_forgetOldest_45 : decode cX2_forgetOldest 45 = .ok (.getfield 18, 3) := by decide +kernel
theorem dX2_forgetOldest_48 : decode cX2_forgetOldest 48 = .ok (.iconst 1, 1) := by decide +kernel
theorem dX2_forgetOldest_49 : decode cX2_forgetOldest 49 = .ok (.isub, 1) := by decide +kernel
theorem dX2_forgetOldest_50 : decode cX2_forgetOldest 50 = .ok (.putfield 18, 3) := by decide +kernel
theorem dX2_forgetOldest_53 : decode cX2_forgetOldest 53 = .ok (.return_, 1) := by decide +kernel
theorem dX3_init_0 : decode cX3_init 0 = .ok (.aload_n 0, 1) := by decide +kernel
theorem dX3_init_1 : decode cX3_init 1 = .ok (.invokespecial 3, 3) := by decide +kernel
theorem dX3_init_4 : decode cX3_init 4 = .ok (.aload_n 0, 1) := by decide +kernel
theorem dX3_init_5 : decode cX3_init 5 = .ok (.sipush 900, 3) := by decide +kernel
theorem dX3_init_8 : decode cX3_init 8 = .ok (.newarray .byte, 2) := by decide +kernel
theorem dX3_init_10 : decode cX3_init 10 = .ok (.putfield 9, 3) := by decide +kernel
theorem dX3_init_13 : decode cX3_init 13 = .ok (.return_, 1) := by decide +kernel
theorem dX3_append_0 : decode cX3_append 0 = .ok (.bipush 24, 2) := by decide +kernel
theorem dX3_append_2 : decode cX3_append 2 = .ok (.istore_n 2, 1) := by decide +kernel
theorem dX3_append_3 : decode cX3_append 3 = .ok (.iload_n 2, 1) := by decide +kernel
theorem dX3_append_4 : decode cX3_append 4 = .ok (.ifCond .lt 42, 3) := by decide +kernel
theorem dX3_append_7 : decode cX3_append 7 = .ok (.aload_n 0, 1) := by decide +kernel
theorem dX3_append_8 : decode cX3_append 8 = .ok (.getfield 15, 3) := by decide +kernel
theorem dX3_append_11 : decode cX3_append 11 = .ok (.sipush 900, 3) := by decide +kernel
theorem dX3_append_14 : decode cX3_append 14 = .ok (.if_icmp .ge 26, 3) := by decide +kernel
theorem dX3_append_17 : decode cX3_append 17 = .ok (.aload_n 0, 1) := by decide +kernel
theorem dX3_append_18 : decode cX3_append 18 = .ok (.getfield 9, 3) := by decide +kernel
theorem dX3_append_21 : decode cX3_append 21 = .ok (.aload_n 0, 1) := by decide +kernel
theorem dX3_append_22 : decode cX3_append 22 = .ok (.getfield 15, 3) := by decide +kernel
theorem dX3_append_25 : decode cX3_append 25 = .ok (.iload_n 1, 1) := by decide +kernel
theorem dX3_append_26 : decode cX3_append 26 = .ok (.iload_n 2, 1) := by decide +kernel
theorem dX3_append_27 : decode cX3_append 27 = .ok (.ishr, 1) := by decide +kernel
theorem dX3_append_28 : decode cX3_append 28 = .ok (.i2b, 1) := by decide +kernel
theorem dX3_append_29 : decode cX3_append 29 = .ok (.bastore, 1) := by decide +kernel
theorem dX3_append_30 : decode cX3_append 30 = .ok (.aload_n 0, 1) := by decide +kernel
theorem dX3_append_31 : decode cX3_append 31 = .ok (.dup, 1) := by decide +kernel
theorem dX3_append_32 : decode cX3_append 32 = .ok (.getfield 15, 3) := by decide +kernel
theorem dX3_append_35 : decode cX3_append 35 = .ok (.iconst 1, 1) := by decide +kernel
theorem dX3_append_36 : decode cX3_append 36 = .ok (.iadd, 1) := by decide +kernel
theorem dX3_append_37 : decode cX3_append 37 = .ok (.putfield 15, 3) := by decide +kernel
theorem dX3_append_40 : decode cX3_append 40 = .ok (.iinc 2 (-8), 3) := by decide +kernel
theorem dX3_append_43 : decode cX3_append 43 = .ok (.goto (-40), 3) := by decide +kernel
theorem dX3_append_46 : decode cX3_append 46 = .ok (.return_, 1) := by decide +kernel
theorem dX3_beginText_0 : decode cX3_beginText 0 = .ok (.aload_n 0, 1) := by decide +kernel
theorem dX3_beginText_1 : decode cX3_beginText 1 = .ok (.iload_n 1, 1) := by decide +kernel
theorem dX3_beginText_2 : decode cX3_beginText 2 = .ok (.sipush 900, 3) := by decide +kernel
theorem dX3_beginText_5 : decode cX3_beginText 5 = .ok (.invokestatic 19, 3) := by decide +kernel
theorem dX3_beginText_8 : decode cX3_beginText 8 = .ok (.putfield 25, 3) := by decide +kernel
theorem dX3_beginText_11 : decode cX3_beginText 11 = .ok (.aload_n 0, 1) := by decide +kernel
theorem dX3_beginText_12 : decode cX3_beginText 12 = .ok (.iconst 0, 1) := by decide +kernel
theorem dX3_beginText_13 : decode cX3_beginText 13 = .ok (.putfield 15, 3) := by decide +kernel
theorem dX3_beginText_16 : decode cX3_beginText 16 = .ok (.aload_n 0, 1) := by decide +kernel
theorem dX3_beginText_17 : decode cX3_beginText 17 = .ok (.iconst 0, 1) := by decide +kernel
theorem dX3_beginText_18 : decode cX3_beginText 18 = .ok (.putfield 28, 3) := by decide +kernel
theorem dX3_beginText_21 : decode cX3_beginText 21 = .ok (.aload_n 0, 1) := by decide +kernel
theorem dX3_beginText_22 : decode cX3_beginText 22 = .ok (.invokevirtual 31, 3) := by decide +kernel
theorem dX3_beginText_25 : decode cX3_beginText 25 = .ok (.return_, 1) := by decide +kernel
theorem dX3_next_0 : decode cX3_next 0 = .ok (.aload_n 0, 1) := by decide +kernel
theorem dX3_next_1 : decode cX3_next 1 = .ok (.aload_n 0, 1) := by decide +kernel
theorem dX3_next_2 : decode cX3_next 2 = .ok (.getfield 28, 3) := by decide +kernel
theorem dX3_next_5 : decode cX3_next 5 = .ok (.putfield 34, 3) := by decide +kernel
theorem dX3_next_8 : decode cX3_next 8 = .ok (.aload_n 0, 1) := by decide +kernel
theorem dX3_next_9 : decode cX3_next 9 = .ok (.getfield 34, 3) := by decide +kernel
theorem dX3_next_12 : decode cX3_next 12 = .ok (.aload_n 0, 1) := by decide +kernel
theorem dX3_next_13 : decode cX3_next 13 = .ok (.getfield 25, 3) := by decide +kernel
theorem dX3_next_16 : decode cX3_next 16 = .ok (.if_icmp .ge 31, 3) := by decide +kernel
theorem dX3_next_19 : decode cX3_next 19 = .ok (.aload_n 0, 1) := by decide +kernel
theorem dX3_next_20 : decode cX3_next 20 = .ok (.getfield 9, 3) := by decide +kernel
theorem dX3_next_23 : decode cX3_next 23 = .ok (.aload_n 0, 1) := by decide +kernel
theorem dX3_next_24 : decode cX3_next 24 = .ok (.getfield 34, 3) := by decide +kernel
theorem dX3_next_27 : decode cX3_next 27 = .ok (.baload, 1) := by decide +kernel
theorem dX3_next_28 : decode cX3_next 28 = .ok (.invokestatic 37, 3) := by decide +kernel
theorem dX3_next_31 : decode cX3_next 31 = .ok (.ifCond .eq 16, 3) := by decide +kernel
theorem dX3_next_34 : decode cX3_next 34 = .ok (.aload_n 0, 1) := by decide +kernel
theorem dX3_next_35 : decode cX3_next 35 = .ok (.dup, 1) := by decide +kernel
theorem dX3_next_36 : decode cX3_next 36 = .ok (.getfield 34, 3) := by decide +kernel
theorem dX3_next_39 : decode cX3_next 39 = .ok (.iconst 1, 1) := by decide +kernel
theorem dX3_next_40 : decode cX3_next 40 = .ok (.iadd, 1) := by decide +kernel
theorem dX3_next_41 : decode cX3_next 41 = .ok (.putfield 34, 3) := by decide +kernel
theorem dX3_next_44 : decode cX3_next 44 = .ok (.goto (-36), 3) := by decide +kernel
theorem dX3_next_47 : decode cX3_next 47 = .ok (.aload_n 0, 1) := by decide +kernel
theorem dX3_next_48 : decode cX3_next 48 = .ok (.aload_n 0, 1) := by decide +kernel
theorem dX3_next_49 : decode cX3_next 49 = .ok (.getfield 34, 3) := by decide +kernel
theorem dX3_next_52 : decode cX3_next 52 = .ok (.aload_n 0, 1) := by decide +kernel
theorem dX3_next_53 : decode cX3_next 53 = .ok (.getfield 25, 3) := by decide +kernel
theorem dX3_next_56 : decode cX3_next 56 = .ok (.if_icmp .ge 18, 3) := by decide +kernel
theorem dX3_next_59 : decode cX3_next 59 = .ok (.aload_n 0, 1) := by decide +kernel
theorem dX3_next_60 : decode cX3_next 60 = .ok (.getfield 9, 3) := by decide +kernel
theorem dX3_next_63 : decode cX3_next 63 = .ok (.aload_n 0, 1) := by decide +kernel
theorem dX3_next_64 : decode cX3_next 64 = .ok (.getfield 34, 3) := by decide +kernel
theorem dX3_next_67 : decode cX3_next 67 = .ok (.baload, 1) := by decide +kernel
theorem dX3_next_68 : decode cX3_next 68 = .ok (.invokestatic 41, 3) := by decide +kernel
theorem dX3_next_71 : decode cX3_next 71 = .ok (.goto 4, 3) := by decide +kernel
theorem dX3_next_74 : decode cX3_next 74 = .ok (.iconst 0, 1) := by decide +kernel
theorem dX3_next_75 : decode cX3_next 75 = .ok (.putfield 45, 3) := by decide +kernel
theorem dX3_next_78 : decode cX3_next 78 = .ok (.aload_n 0, 1) := by decide +kernel
theorem dX3_next_79 : decode cX3_next 79 = .ok (.aload_n 0, 1) := by decide +kernel
theorem dX3_next_80 : decode cX3_next 80 = .ok (.getfield 45, 3) := by decide +kernel
theorem dX3_next_83 : decode cX3_next 83 = .ok (.ifCond .ne 10, 3) := by decide +kernel
theorem dX3_next_86 : decode cX3_next 86 = .ok (.aload_n 0, 1) := by decide +kernel
theorem dX3_next_87 : decode cX3_next 87 = .ok (.getfield 34, 3) := by decide +kernel
theorem dX3_next_90 : decode cX3_next 90 = .ok (.goto 9, 3) := by decide +kernel
theorem dX3_next_93 : decode cX3_next 93 = .ok (.aload_n 0, 1) := by decide +kernel
theorem dX3_next_94 : decode cX3_next 94 = .ok (.getfield 34, 3) := by decide +kernel
theorem dX3_next_97 : decode cX3_next 97 = .ok (.iconst 1, 1) := by decide +kernel
theorem dX3_next_98 : decode cX3_next 98 = .ok (.iadd, 1) := by decide +kernel
theorem dX3_next_99 : decode cX3_next 99 = .ok (.putfield 28, 3) := by decide +kernel
theorem dX3_next_102 : decode cX3_next 102 = .ok (.aload_n 0, 1) := by decide +kernel
theorem dX3_next_103 : decode cX3_next 103 = .ok (.getfield 45, 3) := by decide +kernel
theorem dX3_next_106 : decode cX3_next 106 = .ok (.iconst 1, 1) := by decide +kernel
theorem dX3_next_107 : decode cX3_next 107 = .ok (.if_icmp .eq 11, 3) := by decide +kernel
theorem dX3_next_110 : decode cX3_next 110 = .ok (.aload_n 0, 1) := by decide +kernel
theorem dX3_next_111 : decode cX3_next 111 = .ok (.getfield 45, 3) := by decide +kernel
theorem dX3_next_114 : decode cX3_next 114 = .ok (.iconst 2, 1) := by decide +kernel
theorem dX3_next_115 : decode cX3_next 115 = .ok (.if_icmp .ne 7, 3) := by decide +kernel
theorem dX3_next_118 : decode cX3_next 118 = .ok (.iconst 1, 1) := by decide +kernel
theorem dX3_next_119 : decode cX3_next 119 = .ok (.goto 4, 3) := by decide +kernel
theorem dX3_next_122 : decode cX3_next 122 = .ok (.iconst 0, 1) := by decide +kernel
theorem dX3_next_123 : decode cX3_next 123 = .ok (.istore_n 1, 1) := by decide +kernel
theorem dX3_next_124 : decode cX3_next 124 = .ok (.iload_n 1, 1) := by decide +kernel
theorem dX3_next_125 : decode cX3_next 125 = .ok (.ifCond .eq 46, 3) := by decide +kernel
theorem dX3_next_128 : decode cX3_next 128 = .ok (.aload_n 0, 1) := by decide +kernel
theorem dX3_next_129 : decode cX3_next 129 = .ok (.getfield 28, 3) := by decide +kernel
theorem dX3_next_132 : decode cX3_next 132 = .ok (.aload_n 0, 1) := by decide +kernel
theorem dX3_next_133 : decode cX3_next 133 = .ok (.getfield 25, 3) := by decide +kernel
theorem dX3_next_136 : decode cX3_next 136 = .ok (.if_icmp .ge 35, 3) := by decide +kernel
theorem dX3_next_139 : decode cX3_next 139 = .ok (.aload_n 0, 1) := by decide +kernel
theorem dX3_next_140 : decode cX3_next 140 = .ok (.getfield 9, 3) := by decide +kernel
theorem dX3_next_143 : decode cX3_next 143 = .ok (.aload_n 0, 1) := by decide +kernel
theorem dX3_next_144 : decode cX3_next 144 = .ok (.getfield 28, 3) := by decide +kernel
theorem dX3_next_147 : decode cX3_next 147 = .ok (.baload, 1) := by decide +kernel
theorem dX3_next_148 : decode cX3_next 148 = .ok (.invokestatic 41, 3) := by decide +kernel
theorem dX3_next_151 : decode cX3_next 151 = .ok (.aload_n 0, 1) := by decide +kernel
theorem dX3_next_152 : decode cX3_next 152 = .ok (.getfield 45, 3) := by decide +kernel
theorem dX3_next_155 : decode cX3_next 155 = .ok (.if_icmp .ne 16, 3) := by decide +kernel
theorem dX3_next_158 : decode cX3_next 158 = .ok (.aload_n 0, 1) := by decide +kernel
theorem dX3_next_159 : decode cX3_next 159 = .ok (.dup, 1) := by decide +kernel
theorem dX3_next_160 : decode cX3_next 160 = .ok (.getfield 28, 3) := by decide +kernel
theorem dX3_next_163 : decode cX3_next 163 = .ok (.iconst 1, 1) := by decide +kernel
theorem dX3_next_164 : decode cX3_next 164 = .ok (.iadd, 1) := by decide +kernel
theorem dX3_next_165 : decode cX3_next 165 = .ok (.putfield 28, 3) := by decide +kernel
theorem dX3_next_168 : decode cX3_next 168 = .ok (.goto (-44), 3) := by decide +kernel
theorem dX3_next_171 : decode cX3_next 171 = .ok (.return_, 1) := by decide +kernel
theorem dX3_isBlank_0 : decode cX3_isBlank 0 = .ok (.iload_n 0, 1) := by decide +kernel
theorem dX3_isBlank_1 : decode cX3_isBlank 1 = .ok (.bipush 32, 2) := by decide +kernel
theorem dX3_isBlank_3 : decode cX3_isBlank 3 = .ok (.if_icmp .eq 9, 3) := by decide +kernel
theorem dX3_isBlank_6 : decode cX3_isBlank 6 = .ok (.iload_n 0, 1) := by decide +kernel
theorem dX3_isBlank_7 : decode cX3_isBlank 7 = .ok (.bipush 10, 2) := by decide +kernel
theorem dX3_isBlank_9 : decode cX3_isBlank 9 = .ok (.if_icmp .ne 7, 3) := by decide +kernel
theorem dX3_isBlank_12 : decode cX3_isBlank 12 = .ok (.iconst 1, 1) := by decide +kernel
theorem dX3_isBlank_13 : decode cX3_isBlank 13 = .ok (.goto 4, 3) := by decide +kernel
theorem dX3_isBlank_16 : decode cX3_isBlank 16 = .ok (.iconst 0, 1) := by decide +kernel
theorem dX3_isBlank_17 : decode cX3_isBlank 17 = .ok (.ireturn, 1) := by decide +kernel
theorem dX3_kindOf_0 : decode cX3_kindOf 0 = .ok (.iload_n 0, 1) := by decide +kernel
theorem dX3_kindOf_1 : decode cX3_kindOf 1 = .ok (.bipush 97, 2) := by decide +kernel
theorem dX3_kindOf_3 : decode cX3_kindOf 3 = .ok (.if_icmp .lt 11, 3) := by decide +kernel
theorem dX3_kindOf_6 : decode cX3_kindOf 6 = .ok (.iload_n 0, 1) := by decide +kernel
theorem dX3_kindOf_7 : decode cX3_kindOf 7 = .ok (.bipush 122, 2) := by decide +kernel
theorem dX3_kindOf_9 : decode cX3_kindOf 9 = .ok (.if_icmp .gt 5, 3) := by decide +kernel
theorem dX3_kindOf_12 : decode cX3_kindOf 12 = .ok (.iconst 1, 1) := by decide +kernel
theorem dX3_kindOf_13 : decode cX3_kindOf 13 = .ok (.ireturn, 1) := by decide +kernel
theorem dX3_kindOf_14 : decode cX3_kindOf 14 = .ok (.iload_n 0, 1) := by decide +kernel
theorem dX3_kindOf_15 : decode cX3_kindOf 15 = .ok (.bipush 48, 2) := by decide +kernel
theorem dX3_kindOf_17 : decode cX3_kindOf 17 = .ok (.if_icmp .lt 11, 3) := by decide +kernel
theorem dX3_kindOf_20 : decode cX3_kindOf 20 = .ok (.iload_n 0, 1) := by decide +kernel
theorem dX3_kindOf_21 : decode cX3_kindOf 21 = .ok (.bipush 57, 2) := by decide +kernel
theorem dX3_kindOf_23 : decode cX3_kindOf 23 = .ok (.if_icmp .gt 5, 3) := by decide +kernel
theorem dX3_kindOf_26 : decode cX3_kindOf 26 = .ok (.iconst 2, 1) := by decide +kernel
theorem dX3_kindOf_27 : decode cX3_kindOf 27 = .ok (.ireturn, 1) := by decide +kernel
theorem dX3_kindOf_28 : decode cX3_kindOf 28 = .ok (.iload_n 0, 1) := by decide +kernel
theorem dX3_kindOf_29 : decode cX3_kindOf 29 = .ok (.bipush 59, 2) := by decide +kernel
theorem dX3_kindOf_31 : decode cX3_kindOf 31 = .ok (.if_icmp .ne 7, 3) := by decide +kernel
theorem dX3_kindOf_34 : decode cX3_kindOf 34 = .ok (.iconst 3, 1) := by decide +kernel
theorem dX3_kindOf_35 : decode cX3_kindOf 35 = .ok (.goto 4, 3) := by decide +kernel
theorem dX3_kindOf_38 : decode cX3_kindOf 38 = .ok (.iconst 4, 1) := by decide +kernel
theorem dX3_kindOf_39 : decode cX3_kindOf 39 = .ok (.ireturn, 1) := by decide +kernel
theorem dX3_spells_0 : decode cX3_spells 0 = .ok (.aload_n 0, 1) := by decide +kernel
theorem dX3_spells_1 : decode cX3_spells 1 = .ok (.getfield 45, 3) := by decide +kernel
theorem dX3_spells_4 : decode cX3_spells 4 = .ok (.iconst 1, 1) := by decide +kernel
theorem dX3_spells_5 : decode cX3_spells 5 = .ok (.if_icmp .ne 19, 3) := by decide +kernel
theorem dX3_spells_8 : decode cX3_spells 8 = .ok (.aload_n 0, 1) := by decide +kernel
theorem dX3_spells_9 : decode cX3_spells 9 = .ok (.getfield 28, 3) := by decide +kernel
theorem dX3_spells_12 : decode cX3_spells 12 = .ok (.aload_n 0, 1) := by decide +kernel
theorem dX3_spells_13 : decode cX3_spells 13 = .ok (.getfield 34, 3) := by decide +kernel
theorem dX3_spells_16 : decode cX3_spells 16 = .ok (.isub, 1) := by decide +kernel
theorem dX3_spells_17 : decode cX3_spells 17 = .ok (.aload_n 1, 1) := by decide +kernel
theorem dX3_spells_18 : decode cX3_spells 18 = .ok (.invokevirtual 48, 3) := by decide +kernel
theorem dX3_spells_21 : decode cX3_spells 21 = .ok (.if_icmp .eq 5, 3) := by decide +kernel
theorem dX3_spells_24 : decode cX3_spells 24 = .ok (.iconst 0, 1) := by decide +kernel
theorem dX3_spells_25 : decode cX3_spells 25 = .ok (.ireturn, 1) := by decide +kernel
theorem dX3_spells_26 : decode cX3_spells 26 = .ok (.iconst 0, 1) := by decide +kernel
theorem dX3_spells_27 : decode cX3_spells 27 = .ok (.istore_n 2, 1) := by decide +kernel
theorem dX3_spells_28 : decode cX3_spells 28 = .ok (.iload_n 2, 1) := by decide +kernel
theorem dX3_spells_29 : decode cX3_spells 29 = .ok (.aload_n 1, 1) := by decide +kernel
theorem dX3_spells_30 : decode cX3_spells 30 = .ok (.invokevirtual 48, 3) := by decide +kernel
theorem dX3_spells_33 : decode cX3_spells 33 = .ok (.if_icmp .ge 30, 3) := by decide +kernel
theorem dX3_spells_36 : decode cX3_spells 36 = .ok (.aload_n 0, 1) := by decide +kernel
theorem dX3_spells_37 : decode cX3_spells 37 = .ok (.getfield 9, 3) := by decide +kernel
theorem dX3_spells_40 : decode cX3_spells 40 = .ok (.aload_n 0, 1) := by decide +kernel
theorem dX3_spells_41 : decode cX3_spells 41 = .ok (.getfield 34, 3) := by decide +kernel
theorem dX3_spells_44 : decode cX3_spells 44 = .ok (.iload_n 2, 1) := by decide +kernel
theorem dX3_spells_45 : decode cX3_spells 45 = .ok (.iadd, 1) := by decide +kernel
theorem dX3_spells_46 : decode cX3_spells 46 = .ok (.baload, 1) := by decide +kernel
theorem dX3_spells_47 : decode cX3_spells 47 = .ok (.aload_n 1, 1) := by decide +kernel
theorem dX3_spells_48 : decode cX3_spells 48 = .ok (.iload_n 2, 1) := by decide +kernel
theorem dX3_spells_49 : decode cX3_spells 49 = .ok (.invokevirtual 53, 3) := by decide +kernel
theorem dX3_spells_52 : decode cX3_spells 52 = .ok (.if_icmp .eq 5, 3) := by decide +kernel
theorem dX3_spells_55 : decode cX3_spells 55 = .ok (.iconst 0, 1) := by decide +kernel
theorem dX3_spells_56 : decode cX3_spells 56 = .ok (.ireturn, 1) := by decide +kernel
theorem dX3_spells_57 : decode cX3_spells 57 = .ok (.iinc 2 1, 3) := by decide +kernel
theorem dX3_spells_60 : decode cX3_spells 60 = .ok (.goto (-32), 3) := by decide +kernel
theorem dX3_spells_63 : decode cX3_spells 63 = .ok (.iconst 1, 1) := by decide +kernel
theorem dX3_spells_64 : decode cX3_spells 64 = .ok (.ireturn, 1) := by decide +kernel
theorem dX3_isName_0 : decode cX3_isName 0 = .ok (.aload_n 0, 1) := by decide +kernel
theorem dX3_isName_1 : decode cX3_isName 1 = .ok (.getfield 45, 3) := by decide +kernel
theorem dX3_isName_4 : decode cX3_isName 4 = .ok (.iconst 1, 1) := by decide +kernel
theorem dX3_isName_5 : decode cX3_isName 5 = .ok (.if_icmp .ne 17, 3) := by decide +kernel
theorem dX3_isName_8 : decode cX3_isName 8 = .ok (.aload_n 0, 1) := by decide +kernel
theorem dX3_isName_9 : decode cX3_isName 9 = .ok (.getfield 28, 3) := by decide +kernel
theorem dX3_isName_12 : decode cX3_isName 12 = .ok (.aload_n 0, 1) := by decide +kernel
theorem dX3_isName_13 : decode cX3_isName 13 = .ok (.getfield 34, 3) := by decide +kernel
theorem dX3_isName_16 : decode cX3_isName 16 = .ok (.isub, 1) := by decide +kernel
theorem dX3_isName_17 : decode cX3_isName 17 = .ok (.bipush 6, 2) := by decide +kernel
theorem dX3_isName_19 : decode cX3_isName 19 = .ok (.if_icmp .le 5, 3) := by decide +kernel
theorem dX3_isName_22 : decode cX3_isName 22 = .ok (.iconst 0, 1) := by decide +kernel
theorem dX3_isName_23 : decode cX3_isName 23 = .ok (.ireturn, 1) := by decide +kernel
theorem dX3_isName_24 : decode cX3_isName 24 = .ok (.aload_n 0, 1) := by decide +kernel
theorem dX3_isName_25 : decode cX3_isName 25 = .ok (.ldc 57, 2) := by decide +kernel
theorem dX3_isName_27 : decode cX3_isName 27 = .ok (.invokevirtual 59, 3) := by decide +kernel
theorem dX3_isName_30 : decode cX3_isName 30 = .ok (.ifCond .ne 39, 3) := by decide +kernel
theorem dX3_isName_33 : decode cX3_isName 33 = .ok (.aload_n 0, 1) := by decide +kernel
theorem dX3_isName_34 : decode cX3_isName 34 = .ok (.ldc 63, 2) := by decide +kernel
theorem dX3_isName_36 : decode cX3_isName 36 = .ok (.invokevirtual 59, 3) := by decide +kernel
theorem dX3_isName_39 : decode cX3_isName 39 = .ok (.ifCond .ne 30, 3) := by decide +kernel
theorem dX3_isName_42 : decode cX3_isName 42 = .ok (.aload_n 0, 1) := by decide +kernel
theorem dX3_isName_43 : decode cX3_isName 43 = .ok (.ldc 65, 2) := by decide +kernel
theorem dX3_isName_45 : decode cX3_isName 45 = .ok (.invokevirtual 59, 3) := by decide +kernel
theorem dX3_isName_48 : decode cX3_isName 48 = .ok (.ifCond .ne 21, 3) := by decide +kernel
theorem dX3_isName_51 : decode cX3_isName 51 = .ok (.aload_n 0, 1) := by decide +kernel
theorem dX3_isName_52 : decode cX3_isName 52 = .ok (.ldc 67, 2) := by decide +kernel
theorem dX3_isName_54 : decode cX3_isName 54 = .ok (.invokevirtual 59, 3) := by decide +kernel
theorem dX3_isName_57 : decode cX3_isName 57 = .ok (.ifCond .ne 12, 3) := by decide +kernel
theorem dX3_isName_60 : decode cX3_isName 60 = .ok (.aload_n 0, 1) := by decide +kernel
theorem dX3_isName_61 : decode cX3_isName 61 = .ok (.ldc 69, 2) := by decide +kernel
theorem dX3_isName_63 : decode cX3_isName 63 = .ok (.invokevirtual 59, 3) := by decide +kernel
theorem dX3_isName_66 : decode cX3_isName 66 = .ok (.ifCond .eq 7, 3) := by decide +kernel
theorem dX3_isName_69 : decode cX3_isName 69 = .ok (.iconst 1, 1) := by decide +kernel
theorem dX3_isName_70 : decode cX3_isName 70 = .ok (.goto 4, 3) := by decide +kernel
theorem dX3_isName_73 : decode cX3_isName 73 = .ok (.iconst 0, 1) := by decide +kernel
theorem dX3_isName_74 : decode cX3_isName 74 = .ok (.istore_n 1, 1) := by decide +kernel
theorem dX3_isName_75 : decode cX3_isName 75 = .ok (.iload_n 1, 1) := by decide +kernel
theorem dX3_isName_76 : decode cX3_isName 76 = .ok (.ifCond .ne 25, 3) := by decide +kernel
theorem dX3_isName_79 : decode cX3_isName 79 = .ok (.aload_n 0, 1) := by decide +kernel
theorem dX3_isName_80 : decode cX3_isName 80 = .ok (.ldc 71, 2) := by decide +kernel
theorem dX3_isName_82 : decode cX3_isName 82 = .ok (.invokevirtual 59, 3) := by decide +kernel
theorem dX3_isName_85 : decode cX3_isName 85 = .ok (.ifCond .ne 16, 3) := by decide +kernel
theorem dX3_isName_88 : decode cX3_isName 88 = .ok (.aload_n 0, 1) := by decide +kernel
theorem dX3_isName_89 : decode cX3_isName 89 = .ok (.ldc 73, 2) := by decide +kernel
theorem dX3_isName_91 : decode cX3_isName 91 = .ok (.invokevirtual 59, 3) := by decide +kernel
theorem dX3_isName_94 : decode cX3_isName 94 = .ok (.ifCond .ne 7, 3) := by decide +kernel
theorem dX3_isName_97 : decode cX3_isName 97 = .ok (.iconst 1, 1) := by decide +kernel
theorem dX3_isName_98 : decode cX3_isName 98 = .ok (.goto 4, 3) := by decide +kernel
theorem dX3_isName_101 : decode cX3_isName 101 = .ok (.iconst 0, 1) := by decide +kernel
theorem dX3_isName_102 : decode cX3_isName 102 = .ok (.ireturn, 1) := by decide +kernel
theorem dX3_packed_0 : decode cX3_packed 0 = .ok (.iconst 0, 1) := by decide +kernel
theorem dX3_packed_1 : decode cX3_packed 1 = .ok (.istore_n 1, 1) := by decide +kernel
theorem dX3_packed_2 : decode cX3_packed 2 = .ok (.iconst 0, 1) := by decide +kernel
theorem dX3_packed_3 : decode cX3_packed 3 = .ok (.istore_n 2, 1) := by decide +kernel
theorem dX3_packed_4 : decode cX3_packed 4 = .ok (.iload_n 2, 1) := by decide +kernel
theorem dX3_packed_5 : decode cX3_packed 5 = .ok (.bipush 6, 2) := by decide +kernel
theorem dX3_packed_7 : decode cX3_packed 7 = .ok (.if_icmp .ge 49, 3) := by decide +kernel
theorem dX3_packed_10 : decode cX3_packed 10 = .ok (.aload_n 0, 1) := by decide +kernel
theorem dX3_packed_11 : decode cX3_packed 11 = .ok (.getfield 34, 3) := by decide +kernel
theorem dX3_packed_14 : decode cX3_packed 14 = .ok (.iload_n 2, 1) := by decide +kernel
theorem dX3_packed_15 : decode cX3_packed 15 = .ok (.iadd, 1) := by decide +kernel
theorem dX3_packed_16 : decode cX3_packed 16 = .ok (.aload_n 0, 1) := by decide +kernel
theorem dX3_packed_17 : decode cX3_packed 17 = .ok (.getfield 28, 3) := by decide +kernel
theorem dX3_packed_20 : decode cX3_packed 20 = .ok (.if_icmp .ge 22, 3) := by decide +kernel
theorem dX3_packed_23 : decode cX3_packed 23 = .ok (.aload_n 0, 1) := by decide +kernel
theorem dX3_packed_24 : decode cX3_packed 24 = .ok (.getfield 9, 3) := by decide +kernel
theorem dX3_packed_27 : decode cX3_packed 27 = .ok (.aload_n 0, 1) := by decide +kernel
theorem dX3_packed_28 : decode cX3_packed 28 = .ok (.getfield 34, 3) := by decide +kernel
theorem dX3_packed_31 : decode cX3_packed 31 = .ok (.iload_n 2, 1) := by decide +kernel
theorem dX3_packed_32 : decode cX3_packed 32 = .ok (.iadd, 1) := by decide +kernel
theorem dX3_packed_33 : decode cX3_packed 33 = .ok (.baload, 1) := by decide +kernel
theorem dX3_packed_34 : decode cX3_packed 34 = .ok (.bipush 97, 2) := by decide +kernel
theorem dX3_packed_36 : decode cX3_packed 36 = .ok (.isub, 1) := by decide +kernel
theorem dX3_packed_37 : decode cX3_packed 37 = .ok (.iconst 1, 1) := by decide +kernel
theorem dX3_packed_38 : decode cX3_packed 38 = .ok (.iadd, 1) := by decide +kernel
theorem dX3_packed_39 : decode cX3_packed 39 = .ok (.goto 4, 3) := by decide +kernel
theorem dX3_packed_42 : decode cX3_packed 42 = .ok (.iconst 0, 1) := by decide +kernel
theorem dX3_packed_43 : decode cX3_packed 43 = .ok (.istore_n 3, 1) := by decide +kernel
theorem dX3_packed_44 : decode cX3_packed 44 = .ok (.iload_n 1, 1) := by decide +kernel
theorem dX3_packed_45 : decode cX3_packed 45 = .ok (.iconst 5, 1) := by decide +kernel
theorem dX3_packed_46 : decode cX3_packed 46 = .ok (.ishl, 1) := by decide +kernel
theorem dX3_packed_47 : decode cX3_packed 47 = .ok (.iload_n 3, 1) := by decide +kernel
theorem dX3_packed_48 : decode cX3_packed 48 = .ok (.ior, 1) := by decide +kernel
theorem dX3_packed_49 : decode cX3_packed 49 = .ok (.istore_n 1, 1) := by decide +kernel
theorem dX3_packed_50 : decode cX3_packed 50 = .ok (.iinc 2 1, 3) := by decide +kernel
theorem dX3_packed_53 : decode cX3_packed 53 = .ok (.goto (-49), 3) := by decide +kernel
theorem dX3_packed_56 : decode cX3_packed 56 = .ok (.iload_n 1, 1) := by decide +kernel
theorem dX3_packed_57 : decode cX3_packed 57 = .ok (.ireturn, 1) := by decide +kernel
theorem dX3_value_0 : decode cX3_value 0 = .ok (.iconst 0, 1) := by decide +kernel
theorem dX3_value_1 : decode cX3_value 1 = .ok (.istore_n 1, 1) := by decide +kernel
theorem dX3_value_2 : decode cX3_value 2 = .ok (.aload_n 0, 1) := by decide +kernel
theorem dX3_value_3 : decode cX3_value 3 = .ok (.getfield 34, 3) := by decide +kernel
theorem dX3_value_6 : decode cX3_value 6 = .ok (.istore_n 2, 1) := by decide +kernel
theorem dX3_value_7 : decode cX3_value 7 = .ok (.iload_n 2, 1) := by decide +kernel
theorem dX3_value_8 : decode cX3_value 8 = .ok (.aload_n 0, 1) := by decide +kernel
theorem dX3_value_9 : decode cX3_value 9 = .ok (.getfield 28, 3) := by decide +kernel
theorem dX3_value_12 : decode cX3_value 12 = .ok (.if_icmp .ge 29, 3) := by decide +kernel
theorem dX3_value_15 : decode cX3_value 15 = .ok (.iload_n 1, 1) := by decide +kernel
theorem dX3_value_16 : decode cX3_value 16 = .ok (.bipush 10, 2) := by decide +kernel
theorem dX3_value_18 : decode cX3_value 18 = .ok (.imul, 1) := by decide +kernel
theorem dX3_value_19 : decode cX3_value 19 = .ok (.aload_n 0, 1) := by decide +kernel
theorem dX3_value_20 : decode cX3_value 20 = .ok (.getfield 9, 3) := by decide +kernel
theorem dX3_value_23 : decode cX3_value 23 = .ok (.iload_n 2, 1) := by decide +kernel
theorem dX3_value_24 : decode cX3_value 24 = .ok (.baload, 1) := by decide +kernel
theorem dX3_value_25 : decode cX3_value 25 = .ok (.iadd, 1) := by decide +kernel
theorem dX3_value_26 : decode cX3_value 26 = .ok (.bipush 48, 2) := by decide +kernel
theorem dX3_value_28 : decode cX3_value 28 = .ok (.isub, 1) := by decide +kernel
theorem dX3_value_29 : decode cX3_value 29 = .ok (.ldc 75, 2) := by decide +kernel
theorem dX3_value_31 : decode cX3_value 31 = .ok (.invokestatic 19, 3) := by decide +kernel
theorem dX3_value_34 : decode cX3_value 34 = .ok (.istore_n 1, 1) := by decide +kernel
theorem dX3_value_35 : decode cX3_value 35 = .ok (.iinc 2 1, 3) := by decide +kernel
theorem dX3_value_38 : decode cX3_value 38 = .ok (.goto (-31), 3) := by decide +kernel
theorem dX3_value_41 : decode cX3_value 41 = .ok (.iload_n 1, 1) := by decide +kernel
theorem dX3_value_42 : decode cX3_value 42 = .ok (.ireturn, 1) := by decide +kernel
theorem dX4_init_0 : decode cX4_init 0 = .ok (.aload_n 0, 1) := by decide +kernel
theorem dX4_init_1 : decode cX4_init 1 = .ok (.invokespecial 3, 3) := by decide +kernel
theorem dX4_init_4 : decode cX4_init 4 = .ok (.aload_n 0, 1) := by decide +kernel
theorem dX4_init_5 : decode cX4_init 5 = .ok (.new 9, 3) := by decide +kernel
theorem dX4_init_8 : decode cX4_init 8 = .ok (.dup, 1) := by decide +kernel
theorem dX4_init_9 : decode cX4_init 9 = .ok (.invokespecial 11, 3) := by decide +kernel
theorem dX4_init_12 : decode cX4_init 12 = .ok (.putfield 12, 3) := by decide +kernel
theorem dX4_init_15 : decode cX4_init 15 = .ok (.aload_n 0, 1) := by decide +kernel
theorem dX4_init_16 : decode cX4_init 16 = .ok (.new 18, 3) := by decide +kernel
theorem dX4_init_19 : decode cX4_init 19 = .ok (.dup, 1) := by decide +kernel
theorem dX4_init_20 : decode cX4_init 20 = .ok (.invokespecial 20, 3) := by decide +kernel
theorem dX4_init_23 : decode cX4_init 23 = .ok (.putfield 21, 3) := by decide +kernel
theorem dX4_init_26 : decode cX4_init 26 = .ok (.aload_n 0, 1) := by decide +kernel
theorem dX4_init_27 : decode cX4_init 27 = .ok (.iconst (-1), 1) := by decide +kernel
theorem dX4_init_28 : decode cX4_init 28 = .ok (.putfield 25, 3) := by decide +kernel
theorem dX4_init_31 : decode cX4_init 31 = .ok (.return_, 1) := by decide +kernel
theorem dX4_exchange_0 : decode cX4_exchange 0 = .ok (.aload_n 0, 1) := by decide +kernel
theorem dX4_exchange_1 : decode cX4_exchange 1 = .ok (.getfield 21, 3) := by decide +kernel
theorem dX4_exchange_4 : decode cX4_exchange 4 = .ok (.astore_n 2, 1) := by decide +kernel
theorem dX4_exchange_5 : decode cX4_exchange 5 = .ok (.aload_n 0, 1) := by decide +kernel
theorem dX4_exchange_6 : decode cX4_exchange 6 = .ok (.aload_n 1, 1) := by decide +kernel
theorem dX4_exchange_7 : decode cX4_exchange 7 = .ok (.putfield 21, 3) := by decide +kernel
theorem dX4_exchange_10 : decode cX4_exchange 10 = .ok (.aload_n 2, 1) := by decide +kernel
theorem dX4_exchange_11 : decode cX4_exchange 11 = .ok (.areturn, 1) := by decide +kernel
theorem dX4_readText_0 : decode cX4_readText 0 = .ok (.aload_n 0, 1) := by decide +kernel
theorem dX4_readText_1 : decode cX4_readText 1 = .ok (.getfield 21, 3) := by decide +kernel
theorem dX4_readText_4 : decode cX4_readText 4 = .ok (.invokevirtual 29, 3) := by decide +kernel
theorem dX4_readText_7 : decode cX4_readText 7 = .ok (.aload_n 0, 1) := by decide +kernel
theorem dX4_readText_8 : decode cX4_readText 8 = .ok (.iconst 0, 1) := by decide +kernel
theorem dX4_readText_9 : decode cX4_readText 9 = .ok (.putfield 32, 3) := by decide +kernel
theorem dX4_readText_12 : decode cX4_readText 12 = .ok (.aload_n 0, 1) := by decide +kernel
theorem dX4_readText_13 : decode cX4_readText 13 = .ok (.iconst (-1), 1) := by decide +kernel
theorem dX4_readText_14 : decode cX4_readText 14 = .ok (.putfield 25, 3) := by decide +kernel
theorem dX4_readText_17 : decode cX4_readText 17 = .ok (.aload_n 0, 1) := by decide +kernel
theorem dX4_readText_18 : decode cX4_readText 18 = .ok (.getfield 12, 3) := by decide +kernel
theorem dX4_readText_21 : decode cX4_readText 21 = .ok (.iload_n 1, 1) := by decide +kernel
theorem dX4_readText_22 : decode cX4_readText 22 = .ok (.invokevirtual 35, 3) := by decide +kernel
theorem dX4_readText_25 : decode cX4_readText 25 = .ok (.iconst 0, 1) := by decide +kernel
theorem dX4_readText_26 : decode cX4_readText 26 = .ok (.istore_n 2, 1) := by decide +kernel
theorem dX4_readText_27 : decode cX4_readText 27 = .ok (.iload_n 2, 1) := by decide +kernel
theorem dX4_readText_28 : decode cX4_readText 28 = .ok (.iload_n 1, 1) := by decide +kernel
theorem dX4_readText_29 : decode cX4_readText 29 = .ok (.if_icmp .gt 50, 3) := by decide +kernel
theorem dX4_readText_32 : decode cX4_readText 32 = .ok (.aload_n 0, 1) := by decide +kernel
theorem dX4_readText_33 : decode cX4_readText 33 = .ok (.getfield 12, 3) := by decide +kernel
theorem dX4_readText_36 : decode cX4_readText 36 = .ok (.getfield 39, 3) := by decide +kernel
theorem dX4_readText_39 : decode cX4_readText 39 = .ok (.ifCond .eq 40, 3) := by decide +kernel
theorem dX4_readText_42 : decode cX4_readText 42 = .ok (.aload_n 0, 1) := by decide +kernel
theorem dX4_readText_43 : decode cX4_readText 43 = .ok (.invokevirtual 42, 3) := by decide +kernel
theorem dX4_readText_46 : decode cX4_readText 46 = .ok (.istore_n 3, 1) := by decide +kernel
theorem dX4_readText_47 : decode cX4_readText 47 = .ok (.iload_n 3, 1) := by decide +kernel
theorem dX4_readText_48 : decode cX4_readText 48 = .ok (.ifCond .lt 8, 3) := by decide +kernel
theorem dX4_readText_51 : decode cX4_readText 51 = .ok (.aload_n 0, 1) := by decide +kernel
theorem dX4_readText_52 : decode cX4_readText 52 = .ok (.invokevirtual 46, 3) := by decide +kernel
theorem dX4_readText_55 : decode cX4_readText 55 = .ok (.istore_n 3, 1) := by decide +kernel
theorem dX4_readText_56 : decode cX4_readText 56 = .ok (.iload_n 3, 1) := by decide +kernel
theorem dX4_readText_57 : decode cX4_readText 57 = .ok (.ifCond .ge 16, 3) := by decide +kernel
theorem dX4_readText_60 : decode cX4_readText 60 = .ok (.aload_n 0, 1) := by decide +kernel
theorem dX4_readText_61 : decode cX4_readText 61 = .ok (.aload_n 0, 1) := by decide +kernel
theorem dX4_readText_62 : decode cX4_readText 62 = .ok (.getfield 12, 3) := by decide +kernel
theorem dX4_readText_65 : decode cX4_readText 65 = .ok (.getfield 49, 3) := by decide +kernel
theorem dX4_readText_68 : decode cX4_readText 68 = .ok (.putfield 25, 3) := by decide +kernel
theorem dX4_readText_71 : decode cX4_readText 71 = .ok (.iload_n 3, 1) := by decide +kernel
theorem dX4_readText_72 : decode cX4_readText 72 = .ok (.ireturn, 1) := by decide +kernel
theorem dX4_readText_73 : decode cX4_readText 73 = .ok (.iinc 2 1, 3) := by decide +kernel
theorem dX4_readText_76 : decode cX4_readText 76 = .ok (.goto (-49), 3) := by decide +kernel
theorem dX4_readText_79 : decode cX4_readText 79 = .ok (.iload_n 2, 1) := by decide +kernel
theorem dX4_readText_80 : decode cX4_readText 80 = .ok (.ireturn, 1) := by decide +kernel
theorem dX4_readSemicolon_0 : decode cX4_readSemicolon 0 = .ok (.aload_n 0, 1) := by decide +kernel
theorem dX4_readSemicolon_1 : decode cX4_readSemicolon 1 = .ok (.getfield 12, 3) := by decide +kernel
theorem dX4_readSemicolon_4 : decode cX4_readSemicolon 4 = .ok (.getfield 39, 3) := by decide +kernel
theorem dX4_readSemicolon_7 : decode cX4_readSemicolon 7 = .ok (.iconst 3, 1) := by decide +kernel
theorem dX4_readSemicolon_8 : decode cX4_readSemicolon 8 = .ok (.if_icmp .eq 6, 3) := by decide +kernel
theorem dX4_readSemicolon_11 : decode cX4_readSemicolon 11 = .ok (.bipush (-11), 2) := by decide +kernel
theorem dX4_readSemicolon_13 : decode cX4_readSemicolon 13 = .ok (.ireturn, 1) := by decide +kernel
theorem dX4_readSemicolon_14 : decode cX4_readSemicolon 14 = .ok (.aload_n 0, 1) := by decide +kernel
theorem dX4_readSemicolon_15 : decode cX4_readSemicolon 15 = .ok (.getfield 12, 3) := by decide +kernel
theorem dX4_readSemicolon_18 : decode cX4_readSemicolon 18 = .ok (.invokevirtual 52, 3) := by decide +kernel
theorem dX4_readSemicolon_21 : decode cX4_readSemicolon 21 = .ok (.iconst 0, 1) := by decide +kernel
theorem dX4_readSemicolon_22 : decode cX4_readSemicolon 22 = .ok (.ireturn, 1) := by decide +kernel
theorem dX4_readDeclaration_0 : decode cX4_readDeclaration 0 = .ok (.aload_n 0, 1) := by decide +kernel
theorem dX4_readDeclaration_1 : decode cX4_readDeclaration 1 = .ok (.getfield 12, 3) := by decide +kernel
theorem dX4_readDeclaration_4 : decode cX4_readDeclaration 4 = .ok (.ldc 55, 2) := by decide +kernel
theorem dX4_readDeclaration_6 : decode cX4_readDeclaration 6 = .ok (.invokevirtual 57, 3) := by decide +kernel
theorem dX4_readDeclaration_9 : decode cX4_readDeclaration 9 = .ok (.ifCond .eq 8, 3) := by decide +kernel
theorem dX4_readDeclaration_12 : decode cX4_readDeclaration 12 = .ok (.aload_n 0, 1) := by decide +kernel
theorem dX4_readDeclaration_13 : decode cX4_readDeclaration 13 = .ok (.invokevirtual 61, 3) := by decide +kernel
theorem dX4_readDeclaration_16 : decode cX4_readDeclaration 16 = .ok (.ireturn, 1) := by decide +kernel
theorem dX4_readDeclaration_17 : decode cX4_readDeclaration 17 = .ok (.aload_n 0, 1) := by decide +kernel
theorem dX4_readDeclaration_18 : decode cX4_readDeclaration 18 = .ok (.getfield 12, 3) := by decide +kernel
theorem dX4_readDeclaration_21 : decode cX4_readDeclaration 21 = .ok (.ldc 64, 2) := by decide +kernel
theorem dX4_readDeclaration_23 : decode cX4_readDeclaration 23 = .ok (.invokevirtual 57, 3) := by decide +kernel
theorem dX4_readDeclaration_26 : decode cX4_readDeclaration 26 = .ok (.ifCond .eq 8, 3) := by decide +kernel
theorem dX4_readDeclaration_29 : decode cX4_readDeclaration 29 = .ok (.aload_n 0, 1) := by decide +kernel
theorem dX4_readDeclaration_30 : decode cX4_readDeclaration 30 = .ok (.invokevirtual 66, 3) := by decide +kernel
theorem dX4_readDeclaration_33 : decode cX4_readDeclaration 33 = .ok (.ireturn, 1) := by decide +kernel
theorem dX4_readDeclaration_34 : decode cX4_readDeclaration 34 = .ok (.aload_n 0, 1) := by decide +kernel
theorem dX4_readDeclaration_35 : decode cX4_readDeclaration 35 = .ok (.getfield 12, 3) := by decide +kernel
theorem dX4_readDeclaration_38 : decode cX4_readDeclaration 38 = .ok (.ldc 69, 2) := by decide +kernel
theorem dX4_readDeclaration_40 : decode cX4_readDeclaration 40 = .ok (.invokevirtual 57, 3) := by decide +kernel
theorem dX4_readDeclaration_43 : decode cX4_readDeclaration 43 = .ok (.ifCond .eq 8, 3) := by decide +kernel
theorem dX4_readDeclaration_46 : decode cX4_readDeclaration 46 = .ok (.aload_n 0, 1) := by decide +kernel
theorem dX4_readDeclaration_47 : decode cX4_readDeclaration 47 = .ok (.invokevirtual 71, 3) := by decide +kernel
theorem dX4_readDeclaration_50 : decode cX4_readDeclaration 50 = .ok (.ireturn, 1) := by decide +kernel
theorem dX4_readDeclaration_51 : decode cX4_readDeclaration 51 = .ok (.aload_n 0, 1) := by decide +kernel
theorem dX4_readDeclaration_52 : decode cX4_readDeclaration 52 = .ok (.getfield 12, 3) := by decide +kernel
theorem dX4_readDeclaration_55 : decode cX4_readDeclaration 55 = .ok (.ldc 74, 2) := by decide +kernel
theorem dX4_readDeclaration_57 : decode cX4_readDeclaration 57 = .ok (.invokevirtual 57, 3) := by decide +kernel
theorem dX4_readDeclaration_60 : decode cX4_readDeclaration 60 = .ok (.ifCond .eq 8, 3) := by decide +kernel
theorem dX4_readDeclaration_63 : decode cX4_readDeclaration 63 = .ok (.aload_n 0, 1) := by decide +kernel
theorem dX4_readDeclaration_64 : decode cX4_readDeclaration 64 = .ok (.invokevirtual 76, 3) := by decide +kernel
theorem dX4_readDeclaration_67 : decode cX4_readDeclaration 67 = .ok (.ireturn, 1) := by decide +kernel
theorem dX4_readDeclaration_68 : decode cX4_readDeclaration 68 = .ok (.aload_n 0, 1) := by decide +kernel
theorem dX4_readDeclaration_69 : decode cX4_readDeclaration 69 = .ok (.getfield 12, 3) := by decide +kernel
theorem dX4_readDeclaration_72 : decode cX4_readDeclaration 72 = .ok (.ldc 79, 2) := by decide +kernel
theorem dX4_readDeclaration_74 : decode cX4_readDeclaration 74 = .ok (.invokevirtual 57, 3) := by decide +kernel
theorem dX4_readDeclaration_77 : decode cX4_readDeclaration 77 = .ok (.ifCond .eq 8, 3) := by decide +kernel
theorem dX4_readDeclaration_80 : decode cX4_readDeclaration 80 = .ok (.aload_n 0, 1) := by decide +kernel
theorem dX4_readDeclaration_81 : decode cX4_readDeclaration 81 = .ok (.invokevirtual 81, 3) := by decide +kernel
theorem dX4_readDeclaration_84 : decode cX4_readDeclaration 84 = .ok (.ireturn, 1) := by decide +kernel
theorem dX4_readDeclaration_85 : decode cX4_readDeclaration 85 = .ok (.aload_n 0, 1) := by decide +kernel
theorem dX4_readDeclaration_86 : decode cX4_readDeclaration 86 = .ok (.getfield 12, 3) := by decide +kernel
theorem dX4_readDeclaration_89 : decode cX4_readDeclaration 89 = .ok (.ldc 84, 2) := by decide +kernel
theorem dX4_readDeclaration_91 : decode cX4_readDeclaration 91 = .ok (.invokevirtual 57, 3) := by decide +kernel
theorem dX4_readDeclaration_94 : decode cX4_readDeclaration 94 = .ok (.ifCond .eq 10, 3) := by decide +kernel
theorem dX4_readDeclaration_97 : decode cX4_readDeclaration 97 = .ok (.aload_n 0, 1) := by decide +kernel
theorem dX4_readDeclaration_98 : decode cX4_readDeclaration 98 = .ok (.invokevirtual 86, 3) := by decide +kernel
theorem dX4_readDeclaration_101 : decode cX4_readDeclaration 101 = .ok (.goto 5, 3) := by decide +kernel
theorem dX4_readDeclaration_104 : decode cX4_readDeclaration 104 = .ok (.bipush (-11), 2) := by decide +kernel
theorem dX4_readDeclaration_106 : decode cX4_readDeclaration 106 = .ok (.ireturn, 1) := by decide +kernel
theorem dX4_readParty_0 : decode cX4_readParty 0 = .ok (.aload_n 0, 1) := by decide +kernel
theorem dX4_readParty_1 : decode cX4_readParty 1 = .ok (.getfield 21, 3) := by decide +kernel
theorem dX4_readParty_4 : decode cX4_readParty 4 = .ok (.getfield 89, 3) := by decide +kernel
theorem dX4_readParty_7 : decode cX4_readParty 7 = .ok (.iconst 3, 1) := by decide +kernel
theorem dX4_readParty_8 : decode cX4_readParty 8 = .ok (.iaload, 1) := by decide +kernel
theorem dX4_readParty_9 : decode cX4_readParty 9 = .ok (.ifCond .le 6, 3) := by decide +kernel
theorem dX4_readParty_12 : decode cX4_readParty 12 = .ok (.bipush (-11), 2) := by decide +kernel
theorem dX4_readParty_14 : decode cX4_readParty 14 = .ok (.ireturn, 1) := by decide +kernel
theorem dX4_readParty_15 : decode cX4_readParty 15 = .ok (.aload_n 0, 1) := by decide +kernel
theorem dX4_readParty_16 : decode cX4_readParty 16 = .ok (.iconst 0, 1) := by decide +kernel
theorem dX4_readParty_17 : decode cX4_readParty 17 = .ok (.iconst 5, 1) := by decide +kernel
theorem dX4_readParty_18 : decode cX4_readParty 18 = .ok (.invokevirtual 93, 3) := by decide +kernel
theorem dX4_readParty_21 : decode cX4_readParty 21 = .ok (.istore_n 1, 1) := by decide +kernel
theorem dX4_readParty_22 : decode cX4_readParty 22 = .ok (.iload_n 1, 1) := by decide +kernel
theorem dX4_readParty_23 : decode cX4_readParty 23 = .ok (.ifCond .ge 7, 3) := by decide +kernel
theorem dX4_readParty_26 : decode cX4_readParty 26 = .ok (.iload_n 1, 1) := by decide +kernel
theorem dX4_readParty_27 : decode cX4_readParty 27 = .ok (.goto 9, 3) := by decide +kernel
theorem dX4_readParty_30 : decode cX4_readParty 30 = .ok (.aload_n 0, 1) := by decide +kernel
theorem dX4_readParty_31 : decode cX4_readParty 31 = .ok (.iconst 0, 1) := by decide +kernel
theorem dX4_readParty_32 : decode cX4_readParty 32 = .ok (.iload_n 1, 1) := by decide +kernel
theorem dX4_readParty_33 : decode cX4_readParty 33 = .ok (.invokevirtual 97, 3) := by decide +kernel
theorem dX4_readParty_36 : decode cX4_readParty 36 = .ok (.ireturn, 1) := by decide +kernel
theorem dX4_readRegion_0 : decode cX4_readRegion 0 = .ok (.aload_n 0, 1) := by decide +kernel
theorem dX4_readRegion_1 : decode cX4_readRegion 1 = .ok (.iconst 1, 1) := by decide +kernel
theorem dX4_readRegion_2 : decode cX4_readRegion 2 = .ok (.iconst 5, 1) := by decide +kernel
theorem dX4_readRegion_3 : decode cX4_readRegion 3 = .ok (.invokevirtual 93, 3) := by decide +kernel
theorem dX4_readRegion_6 : decode cX4_readRegion 6 = .ok (.istore_n 1, 1) := by decide +kernel
theorem dX4_readRegion_7 : decode cX4_readRegion 7 = .ok (.iload_n 1, 1) := by decide +kernel
theorem dX4_readRegion_8 : decode cX4_readRegion 8 = .ok (.ifCond .ge 5, 3) := by decide +kernel
theorem dX4_readRegion_11 : decode cX4_readRegion 11 = .ok (.iload_n 1, 1) := by decide +kernel
theorem dX4_readRegion_12 : decode cX4_readRegion 12 = .ok (.ireturn, 1) := by decide +kernel
theorem dX4_readRegion_13 : decode cX4_readRegion 13 = .ok (.iconst (-1), 1) := by decide +kernel
theorem dX4_readRegion_14 : decode cX4_readRegion 14 = .ok (.istore_n 2, 1) := by decide +kernel
theorem dX4_readRegion_15 : decode cX4_readRegion 15 = .ok (.aload_n 0, 1) := by decide +kernel
theorem dX4_readRegion_16 : decode cX4_readRegion 16 = .ok (.getfield 12, 3) := by decide +kernel
theorem dX4_readRegion_19 : decode cX4_readRegion 19 = .ok (.ldc 100, 2) := by decide +kernel
theorem dX4_readRegion_21 : decode cX4_readRegion 21 = .ok (.invokevirtual 57, 3) := by decide +kernel
theorem dX4_readRegion_24 : decode cX4_readRegion 24 = .ok (.ifCond .eq 22, 3) := by decide +kernel
theorem dX4_readRegion_27 : decode cX4_readRegion 27 = .ok (.aload_n 0, 1) := by decide +kernel
theorem dX4_readRegion_28 : decode cX4_readRegion 28 = .ok (.getfield 12, 3) := by decide +kernel
theorem dX4_readRegion_31 : decode cX4_readRegion 31 = .ok (.invokevirtual 52, 3) := by decide +kernel
theorem dX4_readRegion_34 : decode cX4_readRegion 34 = .ok (.aload_n 0, 1) := by decide +kernel
theorem dX4_readRegion_35 : decode cX4_readRegion 35 = .ok (.iconst 1, 1) := by decide +kernel
theorem dX4_readRegion_36 : decode cX4_readRegion 36 = .ok (.invokevirtual 102, 3) := by decide +kernel
theorem dX4_readRegion_39 : decode cX4_readRegion 39 = .ok (.istore_n 2, 1) := by decide +kernel
theorem dX4_readRegion_40 : decode cX4_readRegion 40 = .ok (.iload_n 2, 1) := by decide +kernel
theorem dX4_readRegion_41 : decode cX4_readRegion 41 = .ok (.ifCond .ge 5, 3) := by decide +kernel
theorem dX4_readRegion_44 : decode cX4_readRegion 44 = .ok (.iload_n 2, 1) := by decide +kernel
theorem dX4_readRegion_45 : decode cX4_readRegion 45 = .ok (.ireturn, 1) := by decide +kernel
theorem dX4_readRegion_46 : decode cX4_readRegion 46 = .ok (.aload_n 0, 1) := by decide +kernel
theorem dX4_readRegion_47 : decode cX4_readRegion 47 = .ok (.getfield 21, 3) := by decide +kernel
theorem dX4_readRegion_50 : decode cX4_readRegion 50 = .ok (.getfield 106, 3) := by decide +kernel
theorem dX4_readRegion_53 : decode cX4_readRegion 53 = .ok (.aload_n 0, 1) := by decide +kernel
theorem dX4_readRegion_54 : decode cX4_readRegion 54 = .ok (.getfield 21, 3) := by decide +kernel
theorem dX4_readRegion_57 : decode cX4_readRegion 57 = .ok (.getfield 89, 3) := by decide +kernel
theorem dX4_readRegion_60 : decode cX4_readRegion 60 = .ok (.iconst 1, 1) := by decide +kernel
theorem dX4_readRegion_61 : decode cX4_readRegion 61 = .ok (.iaload, 1) := by decide +kernel
theorem dX4_readRegion_62 : decode cX4_readRegion 62 = .ok (.iload_n 2, 1) := by decide +kernel
theorem dX4_readRegion_63 : decode cX4_readRegion 63 = .ok (.iastore, 1) := by decide +kernel
theorem dX4_readRegion_64 : decode cX4_readRegion 64 = .ok (.aload_n 0, 1) := by decide +kernel
theorem dX4_readRegion_65 : decode cX4_readRegion 65 = .ok (.iconst 1, 1) := by decide +kernel
theorem dX4_readRegion_66 : decode cX4_readRegion 66 = .ok (.iload_n 1, 1) := by decide +kernel
theorem dX4_readRegion_67 : decode cX4_readRegion 67 = .ok (.invokevirtual 97, 3) := by decide +kernel
theorem dX4_readRegion_70 : decode cX4_readRegion 70 = .ok (.ireturn, 1) := by decide +kernel
theorem dX4_readWard_0 : decode cX4_readWard 0 = .ok (.aload_n 0, 1) := by decide +kernel
theorem dX4_readWard_1 : decode cX4_readWard 1 = .ok (.iconst 2, 1) := by decide +kernel
theorem dX4_readWard_2 : decode cX4_readWard 2 = .ok (.bipush 6, 2) := by decide +kernel
theorem dX4_readWard_4 : decode cX4_readWard 4 = .ok (.invokevirtual 93, 3) := by decide +kernel
theorem dX4_readWard_7 : decode cX4_readWard 7 = .ok (.istore_n 1, 1) := by decide +kernel
theorem dX4_readWard_8 : decode cX4_readWard 8 = .ok (.iload_n 1, 1) := by decide +kernel
theorem dX4_readWard_9 : decode cX4_readWard 9 = .ok (.ifCond .ge 5, 3) := by decide +kernel
theorem dX4_readWard_12 : decode cX4_readWard 12 = .ok (.iload_n 1, 1) := by decide +kernel
theorem dX4_readWard_13 : decode cX4_readWard 13 = .ok (.ireturn, 1) := by decide +kernel
theorem dX4_readWard_14 : decode cX4_readWard 14 = .ok (.aload_n 0, 1) := by decide +kernel
theorem dX4_readWard_15 : decode cX4_readWard 15 = .ok (.iconst 1, 1) := by decide +kernel
theorem dX4_readWard_16 : decode cX4_readWard 16 = .ok (.invokevirtual 102, 3) := by decide +kernel
theorem dX4_readWard_19 : decode cX4_readWard 19 = .ok (.istore_n 2, 1) := by decide +kernel
theorem dX4_readWard_20 : decode cX4_readWard 20 = .ok (.iload_n 2, 1) := by decide +kernel
theorem dX4_readWard_21 : decode cX4_readWard 21 = .ok (.ifCond .ge 5, 3) := by decide +kernel
theorem dX4_readWard_24 : decode cX4_readWard 24 = .ok (.iload_n 2, 1) := by decide +kernel
theorem dX4_readWard_25 : decode cX4_readWard 25 = .ok (.ireturn, 1) := by decide +kernel
theorem dX4_readWard_26 : decode cX4_readWard 26 = .ok (.aload_n 0, 1) := by decide +kernel
theorem dX4_readWard_27 : decode cX4_readWard 27 = .ok (.getfield 21, 3) := by decide +kernel
theorem dX4_readWard_30 : decode cX4_readWard 30 = .ok (.getfield 109, 3) := by decide +kernel
theorem dX4_readWard_33 : decode cX4_readWard 33 = .ok (.aload_n 0, 1) := by decide +kernel
theorem dX4_readWard_34 : decode cX4_readWard 34 = .ok (.getfield 21, 3) := by decide +kernel
theorem dX4_readWard_37 : decode cX4_readWard 37 = .ok (.getfield 89, 3) := by decide +kernel
theorem dX4_readWard_40 : decode cX4_readWard 40 = .ok (.iconst 2, 1) := by decide +kernel
theorem dX4_readWard_41 : decode cX4_readWard 41 = .ok (.iaload, 1) := by decide +kernel
theorem dX4_readWard_42 : decode cX4_readWard 42 = .ok (.iload_n 2, 1) := by decide +kernel
theorem dX4_readWard_43 : decode cX4_readWard 43 = .ok (.iastore, 1) := by decide +kernel
theorem dX4_readWard_44 : decode cX4_readWard 44 = .ok (.aload_n 0, 1) := by decide +kernel
theorem dX4_readWard_45 : decode cX4_readWard 45 = .ok (.iconst 2, 1) := by decide +kernel
theorem dX4_readWard_46 : decode cX4_readWard 46 = .ok (.iload_n 1, 1) := by decide +kernel
theorem dX4_readWard_47 : decode cX4_readWard 47 = .ok (.invokevirtual 97, 3) := by decide +kernel
theorem dX4_readWard_50 : decode cX4_readWard 50 = .ok (.ireturn, 1) := by decide +kernel
theorem dX4_readBox_0 : decode cX4_readBox 0 = .ok (.aload_n 0, 1) := by decide +kernel
theorem dX4_readBox_1 : decode cX4_readBox 1 = .ok (.iconst 3, 1) := by decide +kernel
theorem dX4_readBox_2 : decode cX4_readBox 2 = .ok (.bipush 12, 2) := by decide +kernel
theorem dX4_readBox_4 : decode cX4_readBox 4 = .ok (.invokevirtual 93, 3) := by decide +kernel
theorem dX4_readBox_7 : decode cX4_readBox 7 = .ok (.istore_n 1, 1) := by decide +kernel
theorem dX4_readBox_8 : decode cX4_readBox 8 = .ok (.iload_n 1, 1) := by decide +kernel
theorem dX4_readBox_9 : decode cX4_readBox 9 = .ok (.ifCond .ge 5, 3) := by decide +kernel
theorem dX4_readBox_12 : decode cX4_readBox 12 = .ok (.iload_n 1, 1) := by decide +kernel
theorem dX4_readBox_13 : decode cX4_readBox 13 = .ok (.ireturn, 1) := by decide +kernel
theorem dX4_readBox_14 : decode cX4_readBox 14 = .ok (.aload_n 0, 1) := by decide +kernel
theorem dX4_readBox_15 : decode cX4_readBox 15 = .ok (.iconst 2, 1) := by decide +kernel
theorem dX4_readBox_16 : decode cX4_readBox 16 = .ok (.invokevirtual 102, 3) := by decide +kernel
theorem dX4_readBox_19 : decode cX4_readBox 19 = .ok (.istore_n 2, 1) := by decide +kernel
theorem dX4_readBox_20 : decode cX4_readBox 20 = .ok (.iload_n 2, 1) := by decide +kernel
theorem dX4_readBox_21 : decode cX4_readBox 21 = .ok (.ifCond .ge 5, 3) := by decide +kernel
theorem dX4_readBox_24 : decode cX4_readBox 24 = .ok (.iload_n 2, 1) := by decide +kernel
theorem dX4_readBox_25 : decode cX4_readBox 25 = .ok (.ireturn, 1) := by decide +kernel
theorem dX4_readBox_26 : decode cX4_readBox 26 = .ok (.aload_n 0, 1) := by decide +kernel
theorem dX4_readBox_27 : decode cX4_readBox 27 = .ok (.iconst 0, 1) := by decide +kernel
theorem dX4_readBox_28 : decode cX4_readBox 28 = .ok (.sipush 999, 3) := by decide +kernel
theorem dX4_readBox_31 : decode cX4_readBox 31 = .ok (.invokevirtual 112, 3) := by decide +kernel
theorem dX4_readBox_34 : decode cX4_readBox 34 = .ok (.istore_n 3, 1) := by decide +kernel
theorem dX4_readBox_35 : decode cX4_readBox 35 = .ok (.iload_n 3, 1) := by decide +kernel
theorem dX4_readBox_36 : decode cX4_readBox 36 = .ok (.ifCond .ge 5, 3) := by decide +kernel
theorem dX4_readBox_39 : decode cX4_readBox 39 = .ok (.iload_n 3, 1) := by decide +kernel
theorem dX4_readBox_40 : decode cX4_readBox 40 = .ok (.ireturn, 1) := by decide +kernel
theorem dX4_readBox_41 : decode cX4_readBox 41 = .ok (.aload_n 0, 1) := by decide +kernel
theorem dX4_readBox_42 : decode cX4_readBox 42 = .ok (.iconst 1, 1) := by decide +kernel
theorem dX4_readBox_43 : decode cX4_readBox 43 = .ok (.sipush 9999, 3) := by decide +kernel
theorem dX4_readBox_46 : decode cX4_readBox 46 = .ok (.invokevirtual 112, 3) := by decide +kernel
theorem dX4_readBox_49 : decode cX4_readBox 49 = .ok (.istore 4, 2) := by decide +kernel
theorem dX4_readBox_51 : decode cX4_readBox 51 = .ok (.iload 4, 2) := by decide +kernel
theorem dX4_readBox_53 : decode cX4_readBox 53 = .ok (.ifCond .ge 6, 3) := by decide +kernel
theorem dX4_readBox_56 : decode cX4_readBox 56 = .ok (.iload 4, 2) := by decide +kernel
theorem dX4_readBox_58 : decode cX4_readBox 58 = .ok (.ireturn, 1) := by decide +kernel
theorem dX4_readBox_59 : decode cX4_readBox 59 = .ok (.aload_n 0, 1) := by decide +kernel
theorem dX4_readBox_60 : decode cX4_readBox 60 = .ok (.getfield 21, 3) := by decide +kernel
theorem dX4_readBox_63 : decode cX4_readBox 63 = .ok (.getfield 89, 3) := by decide +kernel
theorem dX4_readBox_66 : decode cX4_readBox 66 = .ok (.iconst 3, 1) := by decide +kernel
theorem dX4_readBox_67 : decode cX4_readBox 67 = .ok (.iaload, 1) := by decide +kernel
theorem dX4_readBox_68 : decode cX4_readBox 68 = .ok (.istore 5, 2) := by decide +kernel
theorem dX4_readBox_70 : decode cX4_readBox 70 = .ok (.aload_n 0, 1) := by decide +kernel
theorem dX4_readBox_71 : decode cX4_readBox 71 = .ok (.getfield 21, 3) := by decide +kernel
theorem dX4_readBox_74 : decode cX4_readBox 74 = .ok (.getfield 115, 3) := by decide +kernel
theorem dX4_readBox_77 : decode cX4_readBox 77 = .ok (.iload 5, 2) := by decide +kernel
theorem dX4_readBox_79 : decode cX4_readBox 79 = .ok (.iload_n 2, 1) := by decide +kernel
theorem dX4_readBox_80 : decode cX4_readBox 80 = .ok (.iastore, 1) := by decide +kernel
theorem dX4_readBox_81 : decode cX4_readBox 81 = .ok (.aload_n 0, 1) := by decide +kernel
theorem dX4_readBox_82 : decode cX4_readBox 82 = .ok (.getfield 21, 3) := by decide +kernel
theorem dX4_readBox_85 : decode cX4_readBox 85 = .ok (.getfield 118, 3) := by decide +kernel
theorem dX4_readBox_88 : decode cX4_readBox 88 = .ok (.iload 5, 2) := by decide +kernel
theorem dX4_readBox_90 : decode cX4_readBox 90 = .ok (.iload_n 3, 1) := by decide +kernel
theorem dX4_readBox_91 : decode cX4_readBox 91 = .ok (.iastore, 1) := by decide +kernel
theorem dX4_readBox_92 : decode cX4_readBox 92 = .ok (.aload_n 0, 1) := by decide +kernel
theorem dX4_readBox_93 : decode cX4_readBox 93 = .ok (.getfield 21, 3) := by decide +kernel
theorem dX4_readBox_96 : decode cX4_readBox 96 = .ok (.getfield 121, 3) := by decide +kernel
theorem dX4_readBox_99 : decode cX4_readBox 99 = .ok (.iload 5, 2) := by decide +kernel
theorem dX4_readBox_101 : decode cX4_readBox 101 = .ok (.iload 4, 2) := by decide +kernel
theorem dX4_readBox_103 : decode cX4_readBox 103 = .ok (.iastore, 1) := by decide +kernel
theorem dX4_readBox_104 : decode cX4_readBox 104 = .ok (.aload_n 0, 1) := by decide +kernel
theorem dX4_readBox_105 : decode cX4_readBox 105 = .ok (.iload 5, 2) := by decide +kernel
theorem dX4_readBox_107 : decode cX4_readBox 107 = .ok (.invokevirtual 124, 3) := by decide +kernel
theorem dX4_readBox_110 : decode cX4_readBox 110 = .ok (.istore 6, 2) := by decide +kernel
theorem dX4_readBox_112 : decode cX4_readBox 112 = .ok (.iload 6, 2) := by decide +kernel
theorem dX4_readBox_114 : decode cX4_readBox 114 = .ok (.ifCond .ge 8, 3) := by decide +kernel
theorem dX4_readBox_117 : decode cX4_readBox 117 = .ok (.iload 6, 2) := by decide +kernel
theorem dX4_readBox_119 : decode cX4_readBox 119 = .ok (.goto 9, 3) := by decide +kernel
theorem dX4_readBox_122 : decode cX4_readBox 122 = .ok (.aload_n 0, 1) := by decide +kernel
theorem dX4_readBox_123 : decode cX4_readBox 123 = .ok (.iconst 3, 1) := by decide +kernel
theorem dX4_readBox_124 : decode cX4_readBox 124 = .ok (.iload_n 1, 1) := by decide +kernel
theorem dX4_readBox_125 : decode cX4_readBox 125 = .ok (.invokevirtual 97, 3) := by decide +kernel
theorem dX4_readBox_128 : decode cX4_readBox 128 = .ok (.ireturn, 1) := by decide +kernel
theorem dX4_readPapers_0 : decode cX4_readPapers 0 = .ok (.iconst 0, 1) := by decide +kernel
theorem dX4_readPapers_1 : decode cX4_readPapers 1 = .ok (.istore_n 2, 1) := by decide +kernel
theorem dX4_readPapers_2 : decode cX4_readPapers 2 = .ok (.iload_n 2, 1) := by decide +kernel
theorem dX4_readPapers_3 : decode cX4_readPapers 3 = .ok (.aload_n 0, 1) := by decide +kernel
theorem dX4_readPapers_4 : decode cX4_readPapers 4 = .ok (.getfield 21, 3) := by decide +kernel
theorem dX4_readPapers_7 : decode cX4_readPapers 7 = .ok (.invokevirtual 127, 3) := by decide +kernel
theorem dX4_readPapers_10 : decode cX4_readPapers 10 = .ok (.if_icmp .ge 36, 3) := by decide +kernel
theorem dX4_readPapers_13 : decode cX4_readPapers 13 = .ok (.aload_n 0, 1) := by decide +kernel
theorem dX4_readPapers_14 : decode cX4_readPapers 14 = .ok (.iconst 0, 1) := by decide +kernel
theorem dX4_readPapers_15 : decode cX4_readPapers 15 = .ok (.sipush 300, 3) := by decide +kernel
theorem dX4_readPapers_18 : decode cX4_readPapers 18 = .ok (.invokevirtual 112, 3) := by decide +kernel
theorem dX4_readPapers_21 : decode cX4_readPapers 21 = .ok (.istore_n 3, 1) := by decide +kernel
theorem dX4_readPapers_22 : decode cX4_readPapers 22 = .ok (.iload_n 3, 1) := by decide +kernel
theorem dX4_readPapers_23 : decode cX4_readPapers 23 = .ok (.ifCond .ge 5, 3) := by decide +kernel
theorem dX4_readPapers_26 : decode cX4_readPapers 26 = .ok (.iload_n 3, 1) := by decide +kernel
theorem dX4_readPapers_27 : decode cX4_readPapers 27 = .ok (.ireturn, 1) := by decide +kernel
theorem dX4_readPapers_28 : decode cX4_readPapers 28 = .ok (.aload_n 0, 1) := by decide +kernel
theorem dX4_readPapers_29 : decode cX4_readPapers 29 = .ok (.getfield 21, 3) := by decide +kernel
theorem dX4_readPapers_32 : decode cX4_readPapers 32 = .ok (.getfield 130, 3) := by decide +kernel
theorem dX4_readPapers_35 : decode cX4_readPapers 35 = .ok (.iload_n 1, 1) := by decide +kernel
theorem dX4_readPapers_36 : decode cX4_readPapers 36 = .ok (.aaload, 1) := by decide +kernel
theorem dX4_readPapers_37 : decode cX4_readPapers 37 = .ok (.iload_n 2, 1) := by decide +kernel
theorem dX4_readPapers_38 : decode cX4_readPapers 38 = .ok (.iload_n 3, 1) := by decide +kernel
theorem dX4_readPapers_39 : decode cX4_readPapers 39 = .ok (.iastore, 1) := by decide +kernel
theorem dX4_readPapers_40 : decode cX4_readPapers 40 = .ok (.iinc 2 1, 3) := by decide +kernel
theorem dX4_readPapers_43 : decode cX4_readPapers 43 = .ok (.goto (-41), 3) := by decide +kernel
theorem dX4_readPapers_46 : decode cX4_readPapers 46 = .ok (.iconst 0, 1) := by decide +kernel
theorem dX4_readPapers_47 : decode cX4_readPapers 47 = .ok (.ireturn, 1) := by decide +kernel
theorem dX4_readTable_0 : decode cX4_readTable 0 = .ok (.aload_n 0, 1) := by decide +kernel
theorem dX4_readTable_1 : decode cX4_readTable 1 = .ok (.iconst 4, 1) := by decide +kernel
theorem dX4_readTable_2 : decode cX4_readTable 2 = .ok (.iconst 4, 1) := by decide +kernel
theorem dX4_readTable_3 : decode cX4_readTable 3 = .ok (.invokevirtual 134, 3) := by decide +kernel
theorem dX4_readTable_6 : decode cX4_readTable 6 = .ok (.istore_n 1, 1) := by decide +kernel
theorem dX4_readTable_7 : decode cX4_readTable 7 = .ok (.iload_n 1, 1) := by decide +kernel
theorem dX4_readTable_8 : decode cX4_readTable 8 = .ok (.ifCond .ge 5, 3) := by decide +kernel
theorem dX4_readTable_11 : decode cX4_readTable 11 = .ok (.iload_n 1, 1) := by decide +kernel
theorem dX4_readTable_12 : decode cX4_readTable 12 = .ok (.ireturn, 1) := by decide +kernel
theorem dX4_readTable_13 : decode cX4_readTable 13 = .ok (.aload_n 0, 1) := by decide +kernel
theorem dX4_readTable_14 : decode cX4_readTable 14 = .ok (.iconst 0, 1) := by decide +kernel
theorem dX4_readTable_15 : decode cX4_readTable 15 = .ok (.bipush 99, 2) := by decide +kernel
theorem dX4_readTable_17 : decode cX4_readTable 17 = .ok (.invokevirtual 112, 3) := by decide +kernel
theorem dX4_readTable_20 : decode cX4_readTable 20 = .ok (.istore_n 2, 1) := by decide +kernel
theorem dX4_readTable_21 : decode cX4_readTable 21 = .ok (.iload_n 2, 1) := by decide +kernel
theorem dX4_readTable_22 : decode cX4_readTable 22 = .ok (.ifCond .ge 5, 3) := by decide +kernel
theorem dX4_readTable_25 : decode cX4_readTable 25 = .ok (.iload_n 2, 1) := by decide +kernel
theorem dX4_readTable_26 : decode cX4_readTable 26 = .ok (.ireturn, 1) := by decide +kernel
theorem dX4_readTable_27 : decode cX4_readTable 27 = .ok (.aload_n 0, 1) := by decide +kernel
theorem dX4_readTable_28 : decode cX4_readTable 28 = .ok (.getfield 21, 3) := by decide +kernel
theorem dX4_readTable_31 : decode cX4_readTable 31 = .ok (.getfield 137, 3) := by decide +kernel
theorem dX4_readTable_34 : decode cX4_readTable 34 = .ok (.aload_n 0, 1) := by decide +kernel
theorem dX4_readTable_35 : decode cX4_readTable 35 = .ok (.getfield 21, 3) := by decide +kernel
theorem dX4_readTable_38 : decode cX4_readTable 38 = .ok (.getfield 89, 3) := by decide +kernel
theorem dX4_readTable_41 : decode cX4_readTable 41 = .ok (.iconst 4, 1) := by decide +kernel
theorem dX4_readTable_42 : decode cX4_readTable 42 = .ok (.iaload, 1) := by decide +kernel
theorem dX4_readTable_43 : decode cX4_readTable 43 = .ok (.iload_n 2, 1) := by decide +kernel
theorem dX4_readTable_44 : decode cX4_readTable 44 = .ok (.iastore, 1) := by decide +kernel
theorem dX4_readTable_45 : decode cX4_readTable 45 = .ok (.aload_n 0, 1) := by decide +kernel
theorem dX4_readTable_46 : decode cX4_readTable 46 = .ok (.getfield 21, 3) := by decide +kernel
theorem dX4_readTable_49 : decode cX4_readTable 49 = .ok (.getfield 89, 3) := by decide +kernel
theorem dX4_readTable_52 : decode cX4_readTable 52 = .ok (.iconst 4, 1) := by decide +kernel
theorem dX4_readTable_53 : decode cX4_readTable 53 = .ok (.dup2, 1) := by decide +kernel
theorem dX4_readTable_54 : decode cX4_readTable 54 = .ok (.iaload, 1) := by decide +kernel
theorem dX4_readTable_55 : decode cX4_readTable 55 = .ok (.iconst 1, 1) := by decide +kernel
theorem dX4_readTable_56 : decode cX4_readTable 56 = .ok (.iadd, 1) := by decide +kernel
theorem dX4_readTable_57 : decode cX4_readTable 57 = .ok (.iastore, 1) := by decide +kernel
theorem dX4_readTable_58 : decode cX4_readTable 58 = .ok (.iconst 0, 1) := by decide +kernel
theorem dX4_readTable_59 : decode cX4_readTable 59 = .ok (.ireturn, 1) := by decide +kernel
theorem dX4_readSetting_0 : decode cX4_readSetting 0 = .ok (.aload_n 0, 1) := by decide +kernel
theorem dX4_readSetting_1 : decode cX4_readSetting 1 = .ok (.getfield 12, 3) := by decide +kernel
theorem dX4_readSetting_4 : decode cX4_readSetting 4 = .ok (.invokevirtual 52, 3) := by decide +kernel
theorem dX4_readSetting_7 : decode cX4_readSetting 7 = .ok (.aload_n 0, 1) := by decide +kernel
theorem dX4_readSetting_8 : decode cX4_readSetting 8 = .ok (.getfield 12, 3) := by decide +kernel
theorem dX4_readSetting_11 : decode cX4_readSetting 11 = .ok (.ldc 140, 2) := by decide +kernel
theorem dX4_readSetting_13 : decode cX4_readSetting 13 = .ok (.invokevirtual 57, 3) := by decide +kernel
theorem dX4_readSetting_16 : decode cX4_readSetting 16 = .ok (.ifCond .ne 18, 3) := by decide +kernel
theorem dX4_readSetting_19 : decode cX4_readSetting 19 = .ok (.aload_n 0, 1) := by decide +kernel
theorem dX4_readSetting_20 : decode cX4_readSetting 20 = .ok (.getfield 12, 3) := by decide +kernel
theorem dX4_readSetting_23 : decode cX4_readSetting 23 = .ok (.ldc 142, 2) := by decide +kernel
theorem dX4_readSetting_25 : decode cX4_readSetting 25 = .ok (.invokevirtual 57, 3) := by decide +kernel
theorem dX4_readSetting_28 : decode cX4_readSetting 28 = .ok (.ifCond .ne 6, 3) := by decide +kernel
theorem dX4_readSetting_31 : decode cX4_readSetting 31 = .ok (.bipush (-11), 2) := by decide +kernel
theorem dX4_readSetting_33 : decode cX4_readSetting 33 = .ok (.ireturn, 1) := by decide +kernel
theorem dX4_readSetting_34 : decode cX4_readSetting 34 = .ok (.aload_n 0, 1) := by decide +kernel
theorem dX4_readSetting_35 : decode cX4_readSetting 35 = .ok (.getfield 12, 3) := by decide +kernel
theorem dX4_readSetting_38 : decode cX4_readSetting 38 = .ok (.ldc 140, 2) := by decide +kernel
theorem dX4_readSetting_40 : decode cX4_readSetting 40 = .ok (.invokevirtual 57, 3) := by decide +kernel
theorem dX4_readSetting_43 : decode cX4_readSetting 43 = .ok (.ifCond .eq 7, 3) := by decide +kernel
theorem dX4_readSetting_46 : decode cX4_readSetting 46 = .ok (.iconst 0, 1) := by decide +kernel
theorem dX4_readSetting_47 : decode cX4_readSetting 47 = .ok (.goto 4, 3) := by decide +kernel
theorem dX4_readSetting_50 : decode cX4_readSetting 50 = .ok (.iconst 1, 1) := by decide +kernel
theorem dX4_readSetting_51 : decode cX4_readSetting 51 = .ok (.istore_n 1, 1) := by decide +kernel
theorem dX4_readSetting_52 : decode cX4_readSetting 52 = .ok (.aload_n 0, 1) := by decide +kernel
theorem dX4_readSetting_53 : decode cX4_readSetting 53 = .ok (.getfield 32, 3) := by decide +kernel
theorem dX4_readSetting_56 : decode cX4_readSetting 56 = .ok (.iload_n 1, 1) := by decide +kernel
theorem dX4_readSetting_57 : decode cX4_readSetting 57 = .ok (.ishr, 1) := by decide +kernel
theorem dX4_readSetting_58 : decode cX4_readSetting 58 = .ok (.iconst 1, 1) := by decide +kernel
theorem dX4_readSetting_59 : decode cX4_readSetting 59 = .ok (.iand, 1) := by decide +kernel
theorem dX4_readSetting_60 : decode cX4_readSetting 60 = .ok (.iconst 1, 1) := by decide +kernel
theorem dX4_readSetting_61 : decode cX4_readSetting 61 = .ok (.if_icmp .ne 6, 3) := by decide +kernel
theorem dX4_readSetting_64 : decode cX4_readSetting 64 = .ok (.bipush (-14), 2) := by decide +kernel
theorem dX4_readSetting_66 : decode cX4_readSetting 66 = .ok (.ireturn, 1) := by decide +kernel
theorem dX4_readSetting_67 : decode cX4_readSetting 67 = .ok (.aload_n 0, 1) := by decide +kernel
theorem dX4_readSetting_68 : decode cX4_readSetting 68 = .ok (.getfield 12, 3) := by decide +kernel
theorem dX4_readSetting_71 : decode cX4_readSetting 71 = .ok (.invokevirtual 52, 3) := by decide +kernel
theorem dX4_readSetting_74 : decode cX4_readSetting 74 = .ok (.aload_n 0, 1) := by decide +kernel
theorem dX4_readSetting_75 : decode cX4_readSetting 75 = .ok (.iconst 0, 1) := by decide +kernel
theorem dX4_readSetting_76 : decode cX4_readSetting 76 = .ok (.iload_n 1, 1) := by decide +kernel
theorem dX4_readSetting_77 : decode cX4_readSetting 77 = .ok (.invokestatic 144, 3) := by decide +kernel
theorem dX4_readSetting_80 : decode cX4_readSetting 80 = .ok (.invokevirtual 112, 3) := by decide +kernel
theorem dX4_readSetting_83 : decode cX4_readSetting 83 = .ok (.istore_n 2, 1) := by decide +kernel
theorem dX4_readSetting_84 : decode cX4_readSetting 84 = .ok (.iload_n 2, 1) := by decide +kernel
theorem dX4_readSetting_85 : decode cX4_readSetting 85 = .ok (.ifCond .ge 5, 3) := by decide +kernel
theorem dX4_readSetting_88 : decode cX4_readSetting 88 = .ok (.iload_n 2, 1) := by decide +kernel
theorem dX4_readSetting_89 : decode cX4_readSetting 89 = .ok (.ireturn, 1) := by decide +kernel
theorem dX4_readSetting_90 : decode cX4_readSetting 90 = .ok (.aload_n 0, 1) := by decide +kernel
theorem dX4_readSetting_91 : decode cX4_readSetting 91 = .ok (.dup, 1) := by decide +kernel
theorem dX4_readSetting_92 : decode cX4_readSetting 92 = .ok (.getfield 32, 3) := by decide +kernel
theorem dX4_readSetting_95 : decode cX4_readSetting 95 = .ok (.iconst 1, 1) := by decide +kernel
theorem dX4_readSetting_96 : decode cX4_readSetting 96 = .ok (.iload_n 1, 1) := by decide +kernel
theorem dX4_readSetting_97 : decode cX4_readSetting 97 = .ok (.ishl, 1) := by decide +kernel
theorem dX4_readSetting_98 : decode cX4_readSetting 98 = .ok (.ior, 1) := by decide +kernel
theorem dX4_readSetting_99 : decode cX4_readSetting 99 = .ok (.putfield 32, 3) := by decide +kernel
theorem dX4_readSetting_102 : decode cX4_readSetting 102 = .ok (.aload_n 0, 1) := by decide +kernel
theorem dX4_readSetting_103 : decode cX4_readSetting 103 = .ok (.getfield 21, 3) := by decide +kernel
theorem dX4_readSetting_106 : decode cX4_readSetting 106 = .ok (.getfield 147, 3) := by decide +kernel
theorem dX4_readSetting_109 : decode cX4_readSetting 109 = .ok (.iload_n 1, 1) := by decide +kernel
theorem dX4_readSetting_110 : decode cX4_readSetting 110 = .ok (.iload_n 2, 1) := by decide +kernel
theorem dX4_readSetting_111 : decode cX4_readSetting 111 = .ok (.iastore, 1) := by decide +kernel
theorem dX4_readSetting_112 : decode cX4_readSetting 112 = .ok (.iconst 0, 1) := by decide +kernel
theorem dX4_readSetting_113 : decode cX4_readSetting 113 = .ok (.ireturn, 1) := by decide +kernel
theorem dX4_beginThing_0 : decode cX4_beginThing 0 = .ok (.aload_n 0, 1) := by decide +kernel
theorem dX4_beginThing_1 : decode cX4_beginThing 1 = .ok (.getfield 21, 3) := by decide +kernel
theorem dX4_beginThing_4 : decode cX4_beginThing 4 = .ok (.getfield 89, 3) := by decide +kernel
theorem dX4_beginThing_7 : decode cX4_beginThing 7 = .ok (.iload_n 1, 1) := by decide +kernel
theorem dX4_beginThing_8 : decode cX4_beginThing 8 = .ok (.iaload, 1) := by decide +kernel
theorem dX4_beginThing_9 : decode cX4_beginThing 9 = .ok (.iload_n 2, 1) := by decide +kernel
theorem dX4_beginThing_10 : decode cX4_beginThing 10 = .ok (.if_icmp .lt 6, 3) := by decide +kernel
theorem dX4_beginThing_13 : decode cX4_beginThing 13 = .ok (.bipush (-15), 2) := by decide +kernel
theorem dX4_beginThing_15 : decode cX4_beginThing 15 = .ok (.ireturn, 1) := by decide +kernel
theorem dX4_beginThing_16 : decode cX4_beginThing 16 = .ok (.aload_n 0, 1) := by decide +kernel
theorem dX4_beginThing_17 : decode cX4_beginThing 17 = .ok (.getfield 12, 3) := by decide +kernel
theorem dX4_beginThing_20 : decode cX4_beginThing 20 = .ok (.invokevirtual 52, 3) := by decide +kernel
theorem dX4_beginThing_23 : decode cX4_beginThing 23 = .ok (.iconst 0, 1) := by decide +kernel
theorem dX4_beginThing_24 : decode cX4_beginThing 24 = .ok (.ireturn, 1) := by decide +kernel
theorem dX4_readNewName_0 : decode cX4_readNewName 0 = .ok (.aload_n 0, 1) := by decide +kernel
theorem dX4_readNewName_1 : decode cX4_readNewName 1 = .ok (.iload_n 1, 1) := by decide +kernel
theorem dX4_readNewName_2 : decode cX4_readNewName 2 = .ok (.iload_n 2, 1) := by decide +kernel
theorem dX4_readNewName_3 : decode cX4_readNewName 3 = .ok (.invokevirtual 134, 3) := by decide +kernel
theorem dX4_readNewName_6 : decode cX4_readNewName 6 = .ok (.istore_n 3, 1) := by decide +kernel
theorem dX4_readNewName_7 : decode cX4_readNewName 7 = .ok (.iload_n 3, 1) := by decide +kernel
theorem dX4_readNewName_8 : decode cX4_readNewName 8 = .ok (.ifCond .ge 5, 3) := by decide +kernel
theorem dX4_readNewName_11 : decode cX4_readNewName 11 = .ok (.iload_n 3, 1) := by decide +kernel
theorem dX4_readNewName_12 : decode cX4_readNewName 12 = .ok (.ireturn, 1) := by decide +kernel
theorem dX4_readNewName_13 : decode cX4_readNewName 13 = .ok (.aload_n 0, 1) := by decide +kernel
theorem dX4_readNewName_14 : decode cX4_readNewName 14 = .ok (.getfield 12, 3) := by decide +kernel
theorem dX4_readNewName_17 : decode cX4_readNewName 17 = .ok (.invokevirtual 150, 3) := by decide +kernel
theorem dX4_readNewName_20 : decode cX4_readNewName 20 = .ok (.ifCond .ne 6, 3) := by decide +kernel
theorem dX4_readNewName_23 : decode cX4_readNewName 23 = .ok (.bipush (-11), 2) := by decide +kernel
theorem dX4_readNewName_25 : decode cX4_readNewName 25 = .ok (.ireturn, 1) := by decide +kernel
theorem dX4_readNewName_26 : decode cX4_readNewName 26 = .ok (.aload_n 0, 1) := by decide +kernel
theorem dX4_readNewName_27 : decode cX4_readNewName 27 = .ok (.getfield 12, 3) := by decide +kernel
theorem dX4_readNewName_30 : decode cX4_readNewName 30 = .ok (.invokevirtual 154, 3) := by decide +kernel
theorem dX4_readNewName_33 : decode cX4_readNewName 33 = .ok (.istore 4, 2) := by decide +kernel
theorem dX4_readNewName_35 : decode cX4_readNewName 35 = .ok (.aload_n 0, 1) := by decide +kernel
theorem dX4_readNewName_36 : decode cX4_readNewName 36 = .ok (.getfield 21, 3) := by decide +kernel
theorem dX4_readNewName_39 : decode cX4_readNewName 39 = .ok (.iload_n 1, 1) := by decide +kernel
theorem dX4_readNewName_40 : decode cX4_readNewName 40 = .ok (.iload 4, 2) := by decide +kernel
theorem dX4_readNewName_42 : decode cX4_readNewName 42 = .ok (.invokevirtual 157, 3) := by decide +kernel
theorem dX4_readNewName_45 : decode cX4_readNewName 45 = .ok (.iconst (-1), 1) := by decide +kernel
theorem dX4_readNewName_46 : decode cX4_readNewName 46 = .ok (.if_icmp .eq 6, 3) := by decide +kernel
theorem dX4_readNewName_49 : decode cX4_readNewName 49 = .ok (.bipush (-14), 2) := by decide +kernel
theorem dX4_readNewName_51 : decode cX4_readNewName 51 = .ok (.ireturn, 1) := by decide +kernel
theorem dX4_readNewName_52 : decode cX4_readNewName 52 = .ok (.aload_n 0, 1) := by decide +kernel
theorem dX4_readNewName_53 : decode cX4_readNewName 53 = .ok (.getfield 12, 3) := by decide +kernel
theorem dX4_readNewName_56 : decode cX4_readNewName 56 = .ok (.invokevirtual 52, 3) := by decide +kernel
theorem dX4_readNewName_59 : decode cX4_readNewName 59 = .ok (.iload 4, 2) := by decide +kernel
theorem dX4_readNewName_61 : decode cX4_readNewName 61 = .ok (.ireturn, 1) := by decide +kernel
theorem dX4_readKnownName_0 : decode cX4_readKnownName 0 = .ok (.aload_n 0, 1) := by decide +kernel
theorem dX4_readKnownName_1 : decode cX4_readKnownName 1 = .ok (.getfield 12, 3) := by decide +kernel
theorem dX4_readKnownName_4 : decode cX4_readKnownName 4 = .ok (.invokevirtual 150, 3) := by decide +kernel
theorem dX4_readKnownName_7 : decode cX4_readKnownName 7 = .ok (.ifCond .ne 6, 3) := by decide +kernel
theorem dX4_readKnownName_10 : decode cX4_readKnownName 10 = .ok (.bipush (-11), 2) := by decide +kernel
theorem dX4_readKnownName_12 : decode cX4_readKnownName 12 = .ok (.ireturn, 1) := by decide +kernel
theorem dX4_readKnownName_13 : decode cX4_readKnownName 13 = .ok (.aload_n 0, 1) := by decide +kernel
theorem dX4_readKnownName_14 : decode cX4_readKnownName 14 = .ok (.getfield 21, 3) := by decide +kernel
theorem dX4_readKnownName_17 : decode cX4_readKnownName 17 = .ok (.iload_n 1, 1) := by decide +kernel
theorem dX4_readKnownName_18 : decode cX4_readKnownName 18 = .ok (.aload_n 0, 1) := by decide +kernel
theorem dX4_readKnownName_19 : decode cX4_readKnownName 19 = .ok (.getfield 12, 3) := by decide +kernel
theorem dX4_readKnownName_22 : decode cX4_readKnownName 22 = .ok (.invokevirtual 154, 3) := by decide +kernel
theorem dX4_readKnownName_25 : decode cX4_readKnownName 25 = .ok (.invokevirtual 157, 3) := by decide +kernel
theorem dX4_readKnownName_28 : decode cX4_readKnownName 28 = .ok (.istore_n 2, 1) := by decide +kernel
theorem dX4_readKnownName_29 : decode cX4_readKnownName 29 = .ok (.iload_n 2, 1) := by decide +kernel
theorem dX4_readKnownName_30 : decode cX4_readKnownName 30 = .ok (.iconst (-1), 1) := by decide +kernel
theorem dX4_readKnownName_31 : decode cX4_readKnownName 31 = .ok (.if_icmp .ne 6, 3) := by decide +kernel
theorem dX4_readKnownName_34 : decode cX4_readKnownName 34 = .ok (.bipush (-13), 2) := by decide +kernel
theorem dX4_readKnownName_36 : decode cX4_readKnownName 36 = .ok (.ireturn, 1) := by decide +kernel
theorem dX4_readKnownName_37 : decode cX4_readKnownName 37 = .ok (.aload_n 0, 1) := by decide +kernel
theorem dX4_readKnownName_38 : decode cX4_readKnownName 38 = .ok (.getfield 12, 3) := by decide +kernel
theorem dX4_readKnownName_41 : decode cX4_readKnownName 41 = .ok (.invokevirtual 52, 3) := by decide +kernel
theorem dX4_readKnownName_44 : decode cX4_readKnownName 44 = .ok (.iload_n 2, 1) := by decide +kernel
theorem dX4_readKnownName_45 : decode cX4_readKnownName 45 = .ok (.ireturn, 1) := by decide +kernel
theorem dX4_readInteger_0 : decode cX4_readInteger 0 = .ok (.aload_n 0, 1) := by decide +kernel
theorem dX4_readInteger_1 : decode cX4_readInteger 1 = .ok (.getfield 12, 3) := by decide +kernel
theorem dX4_readInteger_4 : decode cX4_readInteger 4 = .ok (.getfield 39, 3) := by decide +kernel
theorem dX4_readInteger_7 : decode cX4_readInteger 7 = .ok (.iconst 2, 1) := by decide +kernel
theorem dX4_readInteger_8 : decode cX4_readInteger 8 = .ok (.if_icmp .eq 6, 3) := by decide +kernel
theorem dX4_readInteger_11 : decode cX4_readInteger 11 = .ok (.bipush (-11), 2) := by decide +kernel
theorem dX4_readInteger_13 : decode cX4_readInteger 13 = .ok (.ireturn, 1) := by decide +kernel
theorem dX4_readInteger_14 : decode cX4_readInteger 14 = .ok (.aload_n 0, 1) := by decide +kernel
theorem dX4_readInteger_15 : decode cX4_readInteger 15 = .ok (.getfield 12, 3) := by decide +kernel
theorem dX4_readInteger_18 : decode cX4_readInteger 18 = .ok (.invokevirtual 160, 3) := by decide +kernel
theorem dX4_readInteger_21 : decode cX4_readInteger 21 = .ok (.istore_n 3, 1) := by decide +kernel
theorem dX4_readInteger_22 : decode cX4_readInteger 22 = .ok (.iload_n 3, 1) := by decide +kernel
theorem dX4_readInteger_23 : decode cX4_readInteger 23 = .ok (.iload_n 1, 1) := by decide +kernel
theorem dX4_readInteger_24 : decode cX4_readInteger 24 = .ok (.if_icmp .lt 8, 3) := by decide +kernel
theorem dX4_readInteger_27 : decode cX4_readInteger 27 = .ok (.iload_n 3, 1) := by decide +kernel
theorem dX4_readInteger_28 : decode cX4_readInteger 28 = .ok (.iload_n 2, 1) := by decide +kernel
theorem dX4_readInteger_29 : decode cX4_readInteger 29 = .ok (.if_icmp .le 6, 3) := by decide +kernel
theorem dX4_readInteger_32 : decode cX4_readInteger 32 = .ok (.bipush (-12), 2) := by decide +kernel
theorem dX4_readInteger_34 : decode cX4_readInteger 34 = .ok (.ireturn, 1) := by decide +kernel
theorem dX4_readInteger_35 : decode cX4_readInteger 35 = .ok (.aload_n 0, 1) := by decide +kernel
theorem dX4_readInteger_36 : decode cX4_readInteger 36 = .ok (.getfield 12, 3) := by decide +kernel
theorem dX4_readInteger_39 : decode cX4_readInteger 39 = .ok (.invokevirtual 52, 3) := by decide +kernel
theorem dX4_readInteger_42 : decode cX4_readInteger 42 = .ok (.iload_n 3, 1) := by decide +kernel
theorem dX4_readInteger_43 : decode cX4_readInteger 43 = .ok (.ireturn, 1) := by decide +kernel
theorem dX4_add_0 : decode cX4_add 0 = .ok (.aload_n 0, 1) := by decide +kernel
theorem dX4_add_1 : decode cX4_add 1 = .ok (.getfield 21, 3) := by decide +kernel
theorem dX4_add_4 : decode cX4_add 4 = .ok (.getfield 163, 3) := by decide +kernel
theorem dX4_add_7 : decode cX4_add 7 = .ok (.iload_n 1, 1) := by decide +kernel
theorem dX4_add_8 : decode cX4_add 8 = .ok (.aaload, 1) := by decide +kernel
theorem dX4_add_9 : decode cX4_add 9 = .ok (.aload_n 0, 1) := by decide +kernel
theorem dX4_add_10 : decode cX4_add 10 = .ok (.getfield 21, 3) := by decide +kernel
theorem dX4_add_13 : decode cX4_add 13 = .ok (.getfield 89, 3) := by decide +kernel
theorem dX4_add_16 : decode cX4_add 16 = .ok (.iload_n 1, 1) := by decide +kernel
theorem dX4_add_17 : decode cX4_add 17 = .ok (.iaload, 1) := by decide +kernel
theorem dX4_add_18 : decode cX4_add 18 = .ok (.iload_n 2, 1) := by decide +kernel
theorem dX4_add_19 : decode cX4_add 19 = .ok (.iastore, 1) := by decide +kernel
theorem dX4_add_20 : decode cX4_add 20 = .ok (.aload_n 0, 1) := by decide +kernel
theorem dX4_add_21 : decode cX4_add 21 = .ok (.getfield 21, 3) := by decide +kernel
theorem dX4_add_24 : decode cX4_add 24 = .ok (.getfield 89, 3) := by decide +kernel
theorem dX4_add_27 : decode cX4_add 27 = .ok (.iload_n 1, 1) := by decide +kernel
theorem dX4_add_28 : decode cX4_add 28 = .ok (.dup2, 1) := by decide +kernel
theorem dX4_add_29 : decode cX4_add 29 = .ok (.iaload, 1) := by decide +kernel
theorem dX4_add_30 : decode cX4_add 30 = .ok (.iconst 1, 1) := by decide +kernel
theorem dX4_add_31 : decode cX4_add 31 = .ok (.iadd, 1) := by decide +kernel
theorem dX4_add_32 : decode cX4_add 32 = .ok (.iastore, 1) := by decide +kernel
theorem dX4_add_33 : decode cX4_add 33 = .ok (.iconst 0, 1) := by decide +kernel
theorem dX4_add_34 : decode cX4_add 34 = .ok (.ireturn, 1) := by decide +kernel
theorem dX5_init_0 : decode cX5_init 0 = .ok (.aload_n 0, 1) := by decide +kernel
theorem dX5_init_1 : decode cX5_init 1 = .ok (.invokespecial 3, 3) := by decide +kernel
theorem dX5_init_4 : decode cX5_init 4 = .ok (.aload_n 0, 1) := by decide +kernel
theorem dX5_init_5 : decode cX5_init 5 = .ok (.iconst 5, 1) := by decide +kernel
theorem dX5_init_6 : decode cX5_init 6 = .ok (.newarray .int, 2) := by decide +kernel
theorem dX5_init_8 : decode cX5_init 8 = .ok (.putfield 9, 3) := by decide +kernel
theorem dX5_init_11 : decode cX5_init 11 = .ok (.aload_n 0, 1) := by decide +kernel
theorem dX5_init_12 : decode cX5_init 12 = .ok (.iconst 5, 1) := by decide +kernel
theorem dX5_init_13 : decode cX5_init 13 = .ok (.bipush 12, 2) := by decide +kernel
theorem dX5_init_15 : decode cX5_init 15 = .ok (.multianewarray 15 2, 4) := by decide +kernel
theorem dX5_init_19 : decode cX5_init 19 = .ok (.putfield 17, 3) := by decide +kernel
theorem dX5_init_22 : decode cX5_init 22 = .ok (.aload_n 0, 1) := by decide +kernel
theorem dX5_init_23 : decode cX5_init 23 = .ok (.iconst 5, 1) := by decide +kernel
theorem dX5_init_24 : decode cX5_init 24 = .ok (.newarray .int, 2) := by decide +kernel
theorem dX5_init_26 : decode cX5_init 26 = .ok (.putfield 20, 3) := by decide +kernel
theorem dX5_init_29 : decode cX5_init 29 = .ok (.aload_n 0, 1) := by decide +kernel
theorem dX5_init_30 : decode cX5_init 30 = .ok (.bipush 6, 2) := by decide +kernel
theorem dX5_init_32 : decode cX5_init 32 = .ok (.newarray .int, 2) := by decide +kernel
theorem dX5_init_34 : decode cX5_init 34 = .ok (.putfield 23, 3) := by decide +kernel
theorem dX5_init_37 : decode cX5_init 37 = .ok (.aload_n 0, 1) := by decide +kernel
theorem dX5_init_38 : decode cX5_init 38 = .ok (.bipush 12, 2) := by decide +kernel
theorem dX5_init_40 : decode cX5_init 40 = .ok (.newarray .int, 2) := by decide +kernel
theorem dX5_init_42 : decode cX5_init 42 = .ok (.putfield 26, 3) := by decide +kernel
theorem dX5_init_45 : decode cX5_init 45 = .ok (.aload_n 0, 1) := by decide +kernel
theorem dX5_init_46 : decode cX5_init 46 = .ok (.bipush 12, 2) := by decide +kernel
theorem dX5_init_48 : decode cX5_init 48 = .ok (.newarray .int, 2) := by decide +kernel
theorem dX5_init_50 : decode cX5_init 50 = .ok (.putfield 29, 3) := by decide +kernel
theorem dX5_init_53 : decode cX5_init 53 = .ok (.aload_n 0, 1) := by decide +kernel
theorem dX5_init_54 : decode cX5_init 54 = .ok (.bipush 12, 2) := by decide +kernel
theorem dX5_init_56 : decode cX5_init 56 = .ok (.newarray .int, 2) := by decide +kernel
theorem dX5_init_58 : decode cX5_init 58 = .ok (.putfield 32, 3) := by decide +kernel
theorem dX5_init_61 : decode cX5_init 61 = .ok (.aload_n 0, 1) := by decide +kernel
theorem dX5_init_62 : decode cX5_init 62 = .ok (.bipush 12, 2) := by decide +kernel
theorem dX5_init_64 : decode cX5_init 64 = .ok (.bipush 6, 2) := by decide +kernel
theorem dX5_init_66 : decode cX5_init 66 = .ok (.multianewarray 15 2, 4) := by decide +kernel
theorem dX5_init_70 : decode cX5_init 70 = .ok (.putfield 35, 3) := by decide +kernel
theorem dX5_init_73 : decode cX5_init 73 = .ok (.aload_n 0, 1) := by decide +kernel
theorem dX5_init_74 : decode cX5_init 74 = .ok (.iconst 4, 1) := by decide +kernel
theorem dX5_init_75 : decode cX5_init 75 = .ok (.newarray .int, 2) := by decide +kernel
theorem dX5_init_77 : decode cX5_init 77 = .ok (.putfield 38, 3) := by decide +kernel
theorem dX5_init_80 : decode cX5_init 80 = .ok (.aload_n 0, 1) := by decide +kernel
theorem dX5_init_81 : decode cX5_init 81 = .ok (.iconst 2, 1) := by decide +kernel
theorem dX5_init_82 : decode cX5_init 82 = .ok (.newarray .int, 2) := by decide +kernel
theorem dX5_init_84 : decode cX5_init 84 = .ok (.putfield 41, 3) := by decide +kernel
theorem dX5_init_87 : decode cX5_init 87 = .ok (.return_, 1) := by decide +kernel
theorem dX5_clear_0 : decode cX5_clear 0 = .ok (.iconst 0, 1) := by decide +kernel
theorem dX5_clear_1 : decode cX5_clear 1 = .ok (.istore_n 1, 1) := by decide +kernel
theorem dX5_clear_2 : decode cX5_clear 2 = .ok (.iload_n 1, 1) := by decide +kernel
theorem dX5_clear_3 : decode cX5_clear 3 = .ok (.iconst 5, 1) := by decide +kernel
theorem dX5_clear_4 : decode cX5_clear 4 = .ok (.if_icmp .ge 16, 3) := by decide +kernel
theorem dX5_clear_7 : decode cX5_clear 7 = .ok (.aload_n 0, 1) := by decide +kernel
theorem dX5_clear_8 : decode cX5_clear 8 = .ok (.getfield 9, 3) := by decide +kernel
theorem dX5_clear_11 : decode cX5_clear 11 = .ok (.iload_n 1, 1) := by decide +kernel
theorem dX5_clear_12 : decode cX5_clear 12 = .ok (.iconst 0, 1) := by decide +kernel
theorem dX5_clear_13 : decode cX5_clear 13 = .ok (.iastore, 1) := by decide +kernel
theorem dX5_clear_14 : decode cX5_clear 14 = .ok (.iinc 1 1, 3) := by decide +kernel
theorem dX5_clear_17 : decode cX5_clear 17 = .ok (.goto (-15), 3) := by decide +kernel
theorem dX5_clear_20 : decode cX5_clear 20 = .ok (.aload_n 0, 1) := by decide +kernel
theorem dX5_clear_21 : decode cX5_clear 21 = .ok (.getfield 41, 3) := by decide +kernel
theorem dX5_clear_24 : decode cX5_clear 24 = .ok (.iconst 0, 1) := by decide +kernel
theorem dX5_clear_25 : decode cX5_clear 25 = .ok (.iconst 5, 1) := by decide +kernel
theorem dX5_clear_26 : decode cX5_clear 26 = .ok (.iastore, 1) := by decide +kernel
theorem dX5_clear_27 : decode cX5_clear 27 = .ok (.aload_n 0, 1) := by decide +kernel
theorem dX5_clear_28 : decode cX5_clear 28 = .ok (.getfield 41, 3) := by decide +kernel
theorem dX5_clear_31 : decode cX5_clear 31 = .ok (.iconst 1, 1) := by decide +kernel
theorem dX5_clear_32 : decode cX5_clear 32 = .ok (.iconst 0, 1) := by decide +kernel
theorem dX5_clear_33 : decode cX5_clear 33 = .ok (.iastore, 1) := by decide +kernel
theorem dX5_clear_34 : decode cX5_clear 34 = .ok (.return_, 1) := by decide +kernel
theorem dX5_has_0 : decode cX5_has 0 = .ok (.iload_n 2, 1) := by decide +kernel
theorem dX5_has_1 : decode cX5_has 1 = .ok (.ifCond .lt 17, 3) := by decide +kernel
theorem dX5_has_4 : decode cX5_has 4 = .ok (.iload_n 2, 1) := by decide +kernel
theorem dX5_has_5 : decode cX5_has 5 = .ok (.aload_n 0, 1) := by decide +kernel
theorem dX5_has_6 : decode cX5_has 6 = .ok (.getfield 9, 3) := by decide +kernel
theorem dX5_has_9 : decode cX5_has 9 = .ok (.iload_n 1, 1) := by decide +kernel
theorem dX5_has_10 : decode cX5_has 10 = .ok (.iaload, 1) := by decide +kernel
theorem dX5_has_11 : decode cX5_has 11 = .ok (.if_icmp .ge 7, 3) := by decide +kernel
theorem dX5_has_14 : decode cX5_has 14 = .ok (.iconst 1, 1) := by decide +kernel
theorem dX5_has_15 : decode cX5_has 15 = .ok (.goto 4, 3) := by decide +kernel
theorem dX5_has_18 : decode cX5_has 18 = .ok (.iconst 0, 1) := by decide +kernel
theorem dX5_has_19 : decode cX5_has 19 = .ok (.ireturn, 1) := by decide +kernel
theorem dX5_piles_0 : decode cX5_piles 0 = .ok (.aload_n 0, 1) := by decide +kernel
theorem dX5_piles_1 : decode cX5_piles 1 = .ok (.getfield 9, 3) := by decide +kernel
theorem dX5_piles_4 : decode cX5_piles 4 = .ok (.iconst 0, 1) := by decide +kernel
theorem dX5_piles_5 : decode cX5_piles 5 = .ok (.iaload, 1) := by decide +kernel
theorem dX5_piles_6 : decode cX5_piles 6 = .ok (.iconst 1, 1) := by decide +kernel
theorem dX5_piles_7 : decode cX5_piles 7 = .ok (.iadd, 1) := by decide +kernel
theorem dX5_piles_8 : decode cX5_piles 8 = .ok (.ireturn, 1) := by decide +kernel
theorem dX5_hasPile_0 : decode cX5_hasPile 0 = .ok (.iload_n 1, 1) := by decide +kernel
theorem dX5_hasPile_1 : decode cX5_hasPile 1 = .ok (.ifCond .lt 15, 3) := by decide +kernel
theorem dX5_hasPile_4 : decode cX5_hasPile 4 = .ok (.iload_n 1, 1) := by decide +kernel
theorem dX5_hasPile_5 : decode cX5_hasPile 5 = .ok (.aload_n 0, 1) := by decide +kernel
theorem dX5_hasPile_6 : decode cX5_hasPile 6 = .ok (.invokevirtual 44, 3) := by decide +kernel
theorem dX5_hasPile_9 : decode cX5_hasPile 9 = .ok (.if_icmp .ge 7, 3) := by decide +kernel
theorem dX5_hasPile_12 : decode cX5_hasPile 12 = .ok (.iconst 1, 1) := by decide +kernel
theorem dX5_hasPile_13 : decode cX5_hasPile 13 = .ok (.goto 4, 3) := by decide +kernel
theorem dX5_hasPile_16 : decode cX5_hasPile 16 = .ok (.iconst 0, 1) := by decide +kernel
theorem dX5_hasPile_17 : decode cX5_hasPile 17 = .ok (.ireturn, 1) := by decide +kernel
theorem dX5_find_0 : decode cX5_find 0 = .ok (.iconst 0, 1) := by decide +kernel
theorem dX5_find_1 : decode cX5_find 1 = .ok (.istore_n 3, 1) := by decide +kernel
theorem dX5_find_2 : decode cX5_find 2 = .ok (.iload_n 3, 1) := by decide +kernel
theorem dX5_find_3 : decode cX5_find 3 = .ok (.aload_n 0, 1) := by decide +kernel
theorem dX5_find_4 : decode cX5_find 4 = .ok (.getfield 9, 3) := by decide +kernel
theorem dX5_find_7 : decode cX5_find 7 = .ok (.iload_n 1, 1) := by decide +kernel
theorem dX5_find_8 : decode cX5_find 8 = .ok (.iaload, 1) := by decide +kernel
theorem dX5_find_9 : decode cX5_find 9 = .ok (.if_icmp .ge 23, 3) := by decide +kernel
theorem dX5_find_12 : decode cX5_find 12 = .ok (.aload_n 0, 1) := by decide +kernel
theorem dX5_find_13 : decode cX5_find 13 = .ok (.getfield 17, 3) := by decide +kernel
theorem dX5_find_16 : decode cX5_find 16 = .ok (.iload_n 1, 1) := by decide +kernel
theorem dX5_find_17 : decode cX5_find 17 = .ok (.aaload, 1) := by decide +kernel
theorem dX5_find_18 : decode cX5_find 18 = .ok (.iload_n 3, 1) := by decide +kernel
theorem dX5_find_19 : decode cX5_find 19 = .ok (.iaload, 1) := by decide +kernel
theorem dX5_find_20 : decode cX5_find 20 = .ok (.iload_n 2, 1) := by decide +kernel
theorem dX5_find_21 : decode cX5_find 21 = .ok (.if_icmp .ne 5, 3) := by decide +kernel
theorem dX5_find_24 : decode cX5_find 24 = .ok (.iload_n 3, 1) := by decide +kernel
theorem dX5_find_25 : decode cX5_find 25 = .ok (.ireturn, 1) := by decide +kernel
theorem dX5_find_26 : decode cX5_find 26 = .ok (.iinc 3 1, 3) := by decide +kernel
theorem dX5_find_29 : decode cX5_find 29 = .ok (.goto (-27), 3) := by decide +kernel
theorem dX5_find_32 : decode cX5_find 32 = .ok (.iconst (-1), 1) := by decide +kernel
theorem dX5_find_33 : decode cX5_find 33 = .ok (.ireturn, 1) := by decide +kernel
theorem dX5_wouldFind_0 : decode cX5_wouldFind 0 = .ok (.aload_n 0, 1) := by decide +kernel
theorem dX5_wouldFind_1 : decode cX5_wouldFind 1 = .ok (.getfield 38, 3) := by decide +kernel
theorem dX5_wouldFind_4 : decode cX5_wouldFind 4 = .ok (.iload_n 1, 1) := by decide +kernel
theorem dX5_wouldFind_5 : decode cX5_wouldFind 5 = .ok (.iaload, 1) := by decide +kernel
theorem dX5_wouldFind_6 : decode cX5_wouldFind 6 = .ok (.istore 4, 2) := by decide +kernel
theorem dX5_wouldFind_8 : decode cX5_wouldFind 8 = .ok (.iload_n 3, 1) := by decide +kernel
theorem dX5_wouldFind_9 : decode cX5_wouldFind 9 = .ok (.ifCond .ne 12, 3) := by decide +kernel
theorem dX5_wouldFind_12 : decode cX5_wouldFind 12 = .ok (.aload_n 0, 1) := by decide +kernel
theorem dX5_wouldFind_13 : decode cX5_wouldFind 13 = .ok (.invokevirtual 44, 3) := by decide +kernel
theorem dX5_wouldFind_16 : decode cX5_wouldFind 16 = .ok (.iconst 1, 1) := by decide +kernel
theorem dX5_wouldFind_17 : decode cX5_wouldFind 17 = .ok (.isub, 1) := by decide +kernel
theorem dX5_wouldFind_18 : decode cX5_wouldFind 18 = .ok (.goto 6, 3) := by decide +kernel
theorem dX5_wouldFind_21 : decode cX5_wouldFind 21 = .ok (.iload_n 3, 1) := by decide +kernel
theorem dX5_wouldFind_22 : decode cX5_wouldFind 22 = .ok (.iconst 1, 1) := by decide +kernel
theorem dX5_wouldFind_23 : decode cX5_wouldFind 23 = .ok (.isub, 1) := by decide +kernel
theorem dX5_wouldFind_24 : decode cX5_wouldFind 24 = .ok (.istore 5, 2) := by decide +kernel
theorem dX5_wouldFind_26 : decode cX5_wouldFind 26 = .ok (.aload_n 0, 1) := by decide +kernel
theorem dX5_wouldFind_27 : decode cX5_wouldFind 27 = .ok (.getfield 35, 3) := by decide +kernel
theorem dX5_wouldFind_30 : decode cX5_wouldFind 30 = .ok (.iload_n 2, 1) := by decide +kernel
theorem dX5_wouldFind_31 : decode cX5_wouldFind 31 = .ok (.aaload, 1) := by decide +kernel
theorem dX5_wouldFind_32 : decode cX5_wouldFind 32 = .ok (.iload_n 3, 1) := by decide +kernel
theorem dX5_wouldFind_33 : decode cX5_wouldFind 33 = .ok (.iaload, 1) := by decide +kernel
theorem dX5_wouldFind_34 : decode cX5_wouldFind 34 = .ok (.aload_n 0, 1) := by decide +kernel
theorem dX5_wouldFind_35 : decode cX5_wouldFind 35 = .ok (.iload_n 2, 1) := by decide +kernel
theorem dX5_wouldFind_36 : decode cX5_wouldFind 36 = .ok (.iload_n 3, 1) := by decide +kernel
theorem dX5_wouldFind_37 : decode cX5_wouldFind 37 = .ok (.iload 4, 2) := by decide +kernel
theorem dX5_wouldFind_39 : decode cX5_wouldFind 39 = .ok (.invokevirtual 52, 3) := by decide +kernel
theorem dX5_wouldFind_42 : decode cX5_wouldFind 42 = .ok (.isub, 1) := by decide +kernel
theorem dX5_wouldFind_43 : decode cX5_wouldFind 43 = .ok (.aload_n 0, 1) := by decide +kernel
theorem dX5_wouldFind_44 : decode cX5_wouldFind 44 = .ok (.iload_n 2, 1) := by decide +kernel
theorem dX5_wouldFind_45 : decode cX5_wouldFind 45 = .ok (.iload 5, 2) := by decide +kernel
theorem dX5_wouldFind_47 : decode cX5_wouldFind 47 = .ok (.iload 4, 2) := by decide +kernel
theorem dX5_wouldFind_49 : decode cX5_wouldFind 49 = .ok (.invokevirtual 52, 3) := by decide +kernel
theorem dX5_wouldFind_52 : decode cX5_wouldFind 52 = .ok (.iadd, 1) := by decide +kernel
theorem dX5_wouldFind_53 : decode cX5_wouldFind 53 = .ok (.ireturn, 1) := by decide +kernel
theorem dX5_slipped_0 : decode cX5_slipped 0 = .ok (.iload_n 3, 1) := by decide +kernel
theorem dX5_slipped_1 : decode cX5_slipped 1 = .ok (.ifCond .gt 5, 3) := by decide +kernel
theorem dX5_slipped_4 : decode cX5_slipped 4 = .ok (.iconst 0, 1) := by decide +kernel
theorem dX5_slipped_5 : decode cX5_slipped 5 = .ok (.ireturn, 1) := by decide +kernel
theorem dX5_slipped_6 : decode cX5_slipped 6 = .ok (.iconst 0, 1) := by decide +kernel
theorem dX5_slipped_7 : decode cX5_slipped 7 = .ok (.istore 4, 2) := by decide +kernel
theorem dX5_slipped_9 : decode cX5_slipped 9 = .ok (.iconst 0, 1) := by decide +kernel
theorem dX5_slipped_10 : decode cX5_slipped 10 = .ok (.istore 5, 2) := by decide +kernel
theorem dX5_slipped_12 : decode cX5_slipped 12 = .ok (.iload 5, 2) := by decide +kernel
theorem dX5_slipped_14 : decode cX5_slipped 14 = .ok (.iload_n 2, 1) := by decide +kernel
theorem dX5_slipped_15 : decode cX5_slipped 15 = .ok (.if_icmp .ge 23, 3) := by decide +kernel
theorem dX5_slipped_18 : decode cX5_slipped 18 = .ok (.iload 4, 2) := by decide +kernel
theorem dX5_slipped_20 : decode cX5_slipped 20 = .ok (.aload_n 0, 1) := by decide +kernel
theorem dX5_slipped_21 : decode cX5_slipped 21 = .ok (.getfield 35, 3) := by decide +kernel
theorem dX5_slipped_24 : decode cX5_slipped 24 = .ok (.iload_n 1, 1) := by decide +kernel
theorem dX5_slipped_25 : decode cX5_slipped 25 = .ok (.aaload, 1) := by decide +kernel
theorem dX5_slipped_26 : decode cX5_slipped 26 = .ok (.iload 5, 2) := by decide +kernel
theorem dX5_slipped_28 : decode cX5_slipped 28 = .ok (.iaload, 1) := by decide +kernel
theorem dX5_slipped_29 : decode cX5_slipped 29 = .ok (.iadd, 1) := by decide +kernel
theorem dX5_slipped_30 : decode cX5_slipped 30 = .ok (.istore 4, 2) := by decide +kernel
theorem dX5_slipped_32 : decode cX5_slipped 32 = .ok (.iinc 5 1, 3) := by decide +kernel
theorem dX5_slipped_35 : decode cX5_slipped 35 = .ok (.goto (-23), 3) := by decide +kernel
theorem dX5_slipped_38 : decode cX5_slipped 38 = .ok (.iload 4, 2) := by decide +kernel
theorem dX5_slipped_40 : decode cX5_slipped 40 = .ok (.aload_n 0, 1) := by decide +kernel
theorem dX5_slipped_41 : decode cX5_slipped 41 = .ok (.getfield 35, 3) := by decide +kernel
theorem dX5_slipped_44 : decode cX5_slipped 44 = .ok (.iload_n 1, 1) := by decide +kernel
theorem dX5_slipped_45 : decode cX5_slipped 45 = .ok (.aaload, 1) := by decide +kernel
theorem dX5_slipped_46 : decode cX5_slipped 46 = .ok (.iload_n 2, 1) := by decide +kernel
theorem dX5_slipped_47 : decode cX5_slipped 47 = .ok (.iaload, 1) := by decide +kernel
theorem dX5_slipped_48 : decode cX5_slipped 48 = .ok (.iadd, 1) := by decide +kernel
theorem dX5_slipped_49 : decode cX5_slipped 49 = .ok (.iload_n 3, 1) := by decide +kernel
theorem dX5_slipped_50 : decode cX5_slipped 50 = .ok (.idiv, 1) := by decide +kernel
theorem dX5_slipped_51 : decode cX5_slipped 51 = .ok (.iload 4, 2) := by decide +kernel
theorem dX5_slipped_53 : decode cX5_slipped 53 = .ok (.iload_n 3, 1) := by decide +kernel
theorem dX5_slipped_54 : decode cX5_slipped 54 = .ok (.idiv, 1) := by decide +kernel
theorem dX5_slipped_55 : decode cX5_slipped 55 = .ok (.isub, 1) := by decide +kernel
theorem dX5_slipped_56 : decode cX5_slipped 56 = .ok (.ireturn, 1) := by decide +kernel
theorem dX5_wouldFindTruth_0 : decode cX5_wouldFindTruth 0 = .ok (.iconst 0, 1) := by decide +kernel
theorem dX5_wouldFindTruth_1 : decode cX5_wouldFindTruth 1 = .ok (.istore_n 3, 1) := by decide +kernel
theorem dX5_wouldFindTruth_2 : decode cX5_wouldFindTruth 2 = .ok (.iload_n 3, 1) := by decide +kernel
theorem dX5_wouldFindTruth_3 : decode cX5_wouldFindTruth 3 = .ok (.aload_n 0, 1) := by decide +kernel
theorem dX5_wouldFindTruth_4 : decode cX5_wouldFindTruth 4 = .ok (.invokevirtual 44, 3) := by decide +kernel
theorem dX5_wouldFindTruth_7 : decode cX5_wouldFindTruth 7 = .ok (.if_icmp .ge 29, 3) := by decide +kernel
theorem dX5_wouldFindTruth_10 : decode cX5_wouldFindTruth 10 = .ok (.aload_n 0, 1) := by decide +kernel
theorem dX5_wouldFindTruth_11 : decode cX5_wouldFindTruth 11 = .ok (.iload_n 1, 1) := by decide +kernel
theorem dX5_wouldFindTruth_12 : decode cX5_wouldFindTruth 12 = .ok (.iload_n 2, 1) := by decide +kernel
theorem dX5_wouldFindTruth_13 : decode cX5_wouldFindTruth 13 = .ok (.iload_n 3, 1) := by decide +kernel
theorem dX5_wouldFindTruth_14 : decode cX5_wouldFindTruth 14 = .ok (.invokevirtual 56, 3) := by decide +kernel
theorem dX5_wouldFindTruth_17 : decode cX5_wouldFindTruth 17 = .ok (.aload_n 0, 1) := by decide +kernel
theorem dX5_wouldFindTruth_18 : decode cX5_wouldFindTruth 18 = .ok (.getfield 35, 3) := by decide +kernel
theorem dX5_wouldFindTruth_21 : decode cX5_wouldFindTruth 21 = .ok (.iload_n 2, 1) := by decide +kernel
theorem dX5_wouldFindTruth_22 : decode cX5_wouldFindTruth 22 = .ok (.aaload, 1) := by decide +kernel
theorem dX5_wouldFindTruth_23 : decode cX5_wouldFindTruth 23 = .ok (.iload_n 3, 1) := by decide +kernel
theorem dX5_wouldFindTruth_24 : decode cX5_wouldFindTruth 24 = .ok (.iaload, 1) := by decide +kernel
theorem dX5_wouldFindTruth_25 : decode cX5_wouldFindTruth 25 = .ok (.if_icmp .eq 5, 3) := by decide +kernel
theorem dX5_wouldFindTruth_28 : decode cX5_wouldFindTruth 28 = .ok (.iconst 0, 1) := by decide +kernel
theorem dX5_wouldFindTruth_29 : decode cX5_wouldFindTruth 29 = .ok (.ireturn, 1) := by decide +kernel
theorem dX5_wouldFindTruth_30 : decode cX5_wouldFindTruth 30 = .ok (.iinc 3 1, 3) := by decide +kernel
theorem dX5_wouldFindTruth_33 : decode cX5_wouldFindTruth 33 = .ok (.goto (-31), 3) := by decide +kernel
theorem dX5_wouldFindTruth_36 : decode cX5_wouldFindTruth 36 = .ok (.iconst 1, 1) := by decide +kernel
theorem dX5_wouldFindTruth_37 : decode cX5_wouldFindTruth 37 = .ok (.ireturn, 1) := by decide +kernel
theorem dX6_init_0 : decode cX6_init 0 = .ok (.aload_n 0, 1) := by decide +kernel
theorem dX6_init_1 : decode cX6_init 1 = .ok (.invokespecial 3, 3) := by decide +kernel
theorem dX6_init_4 : decode cX6_init 4 = .ok (.aload_n 0, 1) := by decide +kernel
theorem dX6_init_5 : decode cX6_init 5 = .ok (.bipush 12, 2) := by decide +kernel
theorem dX6_init_7 : decode cX6_init 7 = .ok (.anewarray 9, 3) := by decide +kernel
theorem dX6_init_10 : decode cX6_init 10 = .ok (.putfield 11, 3) := by decide +kernel
theorem dX6_init_13 : decode cX6_init 13 = .ok (.aload_n 0, 1) := by decide +kernel
theorem dX6_init_14 : decode cX6_init 14 = .ok (.iconst 2, 1) := by decide +kernel
theorem dX6_init_15 : decode cX6_init 15 = .ok (.newarray .int, 2) := by decide +kernel
theorem dX6_init_17 : decode cX6_init 17 = .ok (.putfield 17, 3) := by decide +kernel
theorem dX6_init_20 : decode cX6_init 20 = .ok (.aload_n 0, 1) := by decide +kernel
theorem dX6_init_21 : decode cX6_init 21 = .ok (.bipush 6, 2) := by decide +kernel
theorem dX6_init_23 : decode cX6_init 23 = .ok (.newarray .int, 2) := by decide +kernel
theorem dX6_init_25 : decode cX6_init 25 = .ok (.putfield 21, 3) := by decide +kernel
theorem dX6_init_28 : decode cX6_init 28 = .ok (.iconst 0, 1) := by decide +kernel
theorem dX6_init_29 : decode cX6_init 29 = .ok (.istore_n 1, 1) := by decide +kernel
theorem dX6_init_30 : decode cX6_init 30 = .ok (.iload_n 1, 1) := by decide +kernel
theorem dX6_init_31 : decode cX6_init 31 = .ok (.bipush 12, 2) := by decide +kernel
theorem dX6_init_33 : decode cX6_init 33 = .ok (.if_icmp .ge 22, 3) := by decide +kernel
theorem dX6_init_36 : decode cX6_init 36 = .ok (.aload_n 0, 1) := by decide +kernel
theorem dX6_init_37 : decode cX6_init 37 = .ok (.getfield 11, 3) := by decide +kernel
theorem dX6_init_40 : decode cX6_init 40 = .ok (.iload_n 1, 1) := by decide +kernel
theorem dX6_init_41 : decode cX6_init 41 = .ok (.new 9, 3) := by decide +kernel
theorem dX6_init_44 : decode cX6_init 44 = .ok (.dup, 1) := by decide +kernel
theorem dX6_init_45 : decode cX6_init 45 = .ok (.invokespecial 24, 3) := by decide +kernel
theorem dX6_init_48 : decode cX6_init 48 = .ok (.aastore, 1) := by decide +kernel
theorem dX6_init_49 : decode cX6_init 49 = .ok (.iinc 1 1, 3) := by decide +kernel
theorem dX6_init_52 : decode cX6_init 52 = .ok (.goto (-22), 3) := by decide +kernel
theorem dX6_init_55 : decode cX6_init 55 = .ok (.aload_n 0, 1) := by decide +kernel
theorem dX6_init_56 : decode cX6_init 56 = .ok (.getfield 17, 3) := by decide +kernel
theorem dX6_init_59 : decode cX6_init 59 = .ok (.iconst 0, 1) := by decide +kernel
theorem dX6_init_60 : decode cX6_init 60 = .ok (.iconst 5, 1) := by decide +kernel
theorem dX6_init_61 : decode cX6_init 61 = .ok (.iastore, 1) := by decide +kernel
theorem dX6_init_62 : decode cX6_init 62 = .ok (.aload_n 0, 1) := by decide +kernel
theorem dX6_init_63 : decode cX6_init 63 = .ok (.getfield 17, 3) := by decide +kernel
theorem dX6_init_66 : decode cX6_init 66 = .ok (.iconst 1, 1) := by decide +kernel
theorem dX6_init_67 : decode cX6_init 67 = .ok (.iconst 0, 1) := by decide +kernel
theorem dX6_init_68 : decode cX6_init 68 = .ok (.iastore, 1) := by decide +kernel
theorem dX6_init_69 : decode cX6_init 69 = .ok (.aload_n 0, 1) := by decide +kernel
theorem dX6_init_70 : decode cX6_init 70 = .ok (.sipush 5000, 3) := by decide +kernel
theorem dX6_init_73 : decode cX6_init 73 = .ok (.putfield 25, 3) := by decide +kernel
theorem dX6_init_76 : decode cX6_init 76 = .ok (.return_, 1) := by decide +kernel
theorem dX6_begin_0 : decode cX6_begin 0 = .ok (.iconst 0, 1) := by decide +kernel
theorem dX6_begin_1 : decode cX6_begin 1 = .ok (.istore_n 2, 1) := by decide +kernel
theorem dX6_begin_2 : decode cX6_begin 2 = .ok (.iload_n 2, 1) := by decide +kernel
theorem dX6_begin_3 : decode cX6_begin 3 = .ok (.aload_n 1, 1) := by decide +kernel
theorem dX6_begin_4 : decode cX6_begin 4 = .ok (.getfield 29, 3) := by decide +kernel
theorem dX6_begin_7 : decode cX6_begin 7 = .ok (.iconst 3, 1) := by decide +kernel
theorem dX6_begin_8 : decode cX6_begin 8 = .ok (.iaload, 1) := by decide +kernel
theorem dX6_begin_9 : decode cX6_begin 9 = .ok (.if_icmp .ge 24, 3) := by decide +kernel
theorem dX6_begin_12 : decode cX6_begin 12 = .ok (.aload_n 0, 1) := by decide +kernel
theorem dX6_begin_13 : decode cX6_begin 13 = .ok (.getfield 11, 3) := by decide +kernel
theorem dX6_begin_16 : decode cX6_begin 16 = .ok (.iload_n 2, 1) := by decide +kernel
theorem dX6_begin_17 : decode cX6_begin 17 = .ok (.aaload, 1) := by decide +kernel
theorem dX6_begin_18 : decode cX6_begin 18 = .ok (.aload_n 1, 1) := by decide +kernel
theorem dX6_begin_19 : decode cX6_begin 19 = .ok (.getfield 34, 3) := by decide +kernel
theorem dX6_begin_22 : decode cX6_begin 22 = .ok (.iload_n 2, 1) := by decide +kernel
theorem dX6_begin_23 : decode cX6_begin 23 = .ok (.iaload, 1) := by decide +kernel
theorem dX6_begin_24 : decode cX6_begin 24 = .ok (.invokevirtual 37, 3) := by decide +kernel
theorem dX6_begin_27 : decode cX6_begin 27 = .ok (.iinc 2 1, 3) := by decide +kernel
theorem dX6_begin_30 : decode cX6_begin 30 = .ok (.goto (-28), 3) := by decide +kernel
theorem dX6_begin_33 : decode cX6_begin 33 = .ok (.aload_n 1, 1) := by decide +kernel
theorem dX6_begin_34 : decode cX6_begin 34 = .ok (.getfield 41, 3) := by decide +kernel
theorem dX6_begin_37 : decode cX6_begin 37 = .ok (.iconst 0, 1) := by decide +kernel
theorem dX6_begin_38 : decode cX6_begin 38 = .ok (.aload_n 0, 1) := by decide +kernel
theorem dX6_begin_39 : decode cX6_begin 39 = .ok (.getfield 17, 3) := by decide +kernel
theorem dX6_begin_42 : decode cX6_begin 42 = .ok (.iconst 0, 1) := by decide +kernel
theorem dX6_begin_43 : decode cX6_begin 43 = .ok (.iconst 2, 1) := by decide +kernel
theorem dX6_begin_44 : decode cX6_begin 44 = .ok (.invokestatic 42, 3) := by decide +kernel
theorem dX6_begin_47 : decode cX6_begin 47 = .ok (.aload_n 0, 1) := by decide +kernel
theorem dX6_begin_48 : decode cX6_begin 48 = .ok (.iconst 0, 1) := by decide +kernel
theorem dX6_begin_49 : decode cX6_begin 49 = .ok (.putfield 48, 3) := by decide +kernel
theorem dX6_begin_52 : decode cX6_begin 52 = .ok (.aload_n 0, 1) := by decide +kernel
theorem dX6_begin_53 : decode cX6_begin 53 = .ok (.sipush 5000, 3) := by decide +kernel
theorem dX6_begin_56 : decode cX6_begin 56 = .ok (.putfield 25, 3) := by decide +kernel
theorem dX6_begin_59 : decode cX6_begin 59 = .ok (.return_, 1) := by decide +kernel
theorem dX6_copyFrom_0 : decode cX6_copyFrom 0 = .ok (.iconst 0, 1) := by decide +kernel
theorem dX6_copyFrom_1 : decode cX6_copyFrom 1 = .ok (.istore_n 2, 1) := by decide +kernel
theorem dX6_copyFrom_2 : decode cX6_copyFrom 2 = .ok (.iload_n 2, 1) := by decide +kernel
theorem dX6_copyFrom_3 : decode cX6_copyFrom 3 = .ok (.bipush 12, 2) := by decide +kernel
theorem dX6_copyFrom_5 : decode cX6_copyFrom 5 = .ok (.if_icmp .ge 24, 3) := by decide +kernel
theorem dX6_copyFrom_8 : decode cX6_copyFrom 8 = .ok (.aload_n 0, 1) := by decide +kernel
theorem dX6_copyFrom_9 : decode cX6_copyFrom 9 = .ok (.getfield 11, 3) := by decide +kernel
theorem dX6_copyFrom_12 : decode cX6_copyFrom 12 = .ok (.iload_n 2, 1) := by decide +kernel
theorem dX6_copyFrom_13 : decode cX6_copyFrom 13 = .ok (.aaload, 1) := by decide +kernel
theorem dX6_copyFrom_14 : decode cX6_copyFrom 14 = .ok (.aload_n 1, 1) := by decide +kernel
theorem dX6_copyFrom_15 : decode cX6_copyFrom 15 = .ok (.getfield 11, 3) := by decide +kernel
theorem dX6_copyFrom_18 : decode cX6_copyFrom 18 = .ok (.iload_n 2, 1) := by decide +kernel
theorem dX6_copyFrom_19 : decode cX6_copyFrom 19 = .ok (.aaload, 1) := by decide +kernel
theorem dX6_copyFrom_20 : decode cX6_copyFrom 20 = .ok (.invokevirtual 51, 3) := by decide +kernel
theorem dX6_copyFrom_23 : decode cX6_copyFrom 23 = .ok (.iinc 2 1, 3) := by decide +kernel
theorem dX6_copyFrom_26 : decode cX6_copyFrom 26 = .ok (.goto (-24), 3) := by decide +kernel
theorem dX6_copyFrom_29 : decode cX6_copyFrom 29 = .ok (.aload_n 1, 1) := by decide +kernel
theorem dX6_copyFrom_30 : decode cX6_copyFrom 30 = .ok (.getfield 17, 3) := by decide +kernel
theorem dX6_copyFrom_33 : decode cX6_copyFrom 33 = .ok (.iconst 0, 1) := by decide +kernel
theorem dX6_copyFrom_34 : decode cX6_copyFrom 34 = .ok (.aload_n 0, 1) := by decide +kernel
theorem dX6_copyFrom_35 : decode cX6_copyFrom 35 = .ok (.getfield 17, 3) := by decide +kernel
theorem dX6_copyFrom_38 : decode cX6_copyFrom 38 = .ok (.iconst 0, 1) := by decide +kernel
theorem dX6_copyFrom_39 : decode cX6_copyFrom 39 = .ok (.iconst 2, 1) := by decide +kernel
theorem dX6_copyFrom_40 : decode cX6_copyFrom 40 = .ok (.invokestatic 42, 3) := by decide +kernel
theorem dX6_copyFrom_43 : decode cX6_copyFrom 43 = .ok (.aload_n 1, 1) := by decide +kernel
theorem dX6_copyFrom_44 : decode cX6_copyFrom 44 = .ok (.getfield 21, 3) := by decide +kernel
theorem dX6_copyFrom_47 : decode cX6_copyFrom 47 = .ok (.iconst 0, 1) := by decide +kernel
theorem dX6_copyFrom_48 : decode cX6_copyFrom 48 = .ok (.aload_n 0, 1) := by decide +kernel
theorem dX6_copyFrom_49 : decode cX6_copyFrom 49 = .ok (.getfield 21, 3) := by decide +kernel
theorem dX6_copyFrom_52 : decode cX6_copyFrom 52 = .ok (.iconst 0, 1) := by decide +kernel
theorem dX6_copyFrom_53 : decode cX6_copyFrom 53 = .ok (.bipush 6, 2) := by decide +kernel
theorem dX6_copyFrom_55 : decode cX6_copyFrom 55 = .ok (.invokestatic 42, 3) := by decide +kernel
theorem dX6_copyFrom_58 : decode cX6_copyFrom 58 = .ok (.aload_n 0, 1) := by decide +kernel
theorem dX6_copyFrom_59 : decode cX6_copyFrom 59 = .ok (.aload_n 1, 1) := by decide +kernel
theorem dX6_copyFrom_60 : decode cX6_copyFrom 60 = .ok (.getfield 48, 3) := by decide +kernel
theorem dX6_copyFrom_63 : decode cX6_copyFrom 63 = .ok (.putfield 48, 3) := by decide +kernel
theorem dX6_copyFrom_66 : decode cX6_copyFrom 66 = .ok (.aload_n 0, 1) := by decide +kernel
theorem dX6_copyFrom_67 : decode cX6_copyFrom 67 = .ok (.aload_n 1, 1) := by decide +kernel
theorem dX6_copyFrom_68 : decode cX6_copyFrom 68 = .ok (.getfield 25, 3) := by decide +kernel
theorem dX6_copyFrom_71 : decode cX6_copyFrom 71 = .ok (.putfield 25, 3) := by decide +kernel
theorem dX6_copyFrom_74 : decode cX6_copyFrom 74 = .ok (.return_, 1) := by decide +kernel
theorem dX6_sealUp_0 : decode cX6_sealUp 0 = .ok (.aload_n 0, 1) := by decide +kernel
theorem dX6_sealUp_1 : decode cX6_sealUp 1 = .ok (.getfield 11, 3) := by decide +kernel
theorem dX6_sealUp_4 : decode cX6_sealUp 4 = .ok (.iload_n 1, 1) := by decide +kernel
theorem dX6_sealUp_5 : decode cX6_sealUp 5 = .ok (.aaload, 1) := by decide +kernel
theorem dX6_sealUp_6 : decode cX6_sealUp 6 = .ok (.astore_n 2, 1) := by decide +kernel
theorem dX6_sealUp_7 : decode cX6_sealUp 7 = .ok (.aload_n 2, 1) := by decide +kernel
theorem dX6_sealUp_8 : decode cX6_sealUp 8 = .ok (.aload_n 0, 1) := by decide +kernel
theorem dX6_sealUp_9 : decode cX6_sealUp 9 = .ok (.getfield 25, 3) := by decide +kernel
theorem dX6_sealUp_12 : decode cX6_sealUp 12 = .ok (.putfield 55, 3) := by decide +kernel
theorem dX6_sealUp_15 : decode cX6_sealUp 15 = .ok (.aload_n 2, 1) := by decide +kernel
theorem dX6_sealUp_16 : decode cX6_sealUp 16 = .ok (.aload_n 0, 1) := by decide +kernel
theorem dX6_sealUp_17 : decode cX6_sealUp 17 = .ok (.getfield 25, 3) := by decide +kernel
theorem dX6_sealUp_20 : decode cX6_sealUp 20 = .ok (.invokevirtual 58, 3) := by decide +kernel
theorem dX6_sealUp_23 : decode cX6_sealUp 23 = .ok (.aload_n 2, 1) := by decide +kernel
theorem dX6_sealUp_24 : decode cX6_sealUp 24 = .ok (.bipush (-4), 2) := by decide +kernel
theorem dX6_sealUp_26 : decode cX6_sealUp 26 = .ok (.putfield 61, 3) := by decide +kernel
theorem dX6_sealUp_29 : decode cX6_sealUp 29 = .ok (.aload_n 0, 1) := by decide +kernel
theorem dX6_sealUp_30 : decode cX6_sealUp 30 = .ok (.dup, 1) := by decide +kernel
theorem dX6_sealUp_31 : decode cX6_sealUp 31 = .ok (.getfield 25, 3) := by decide +kernel
theorem dX6_sealUp_34 : decode cX6_sealUp 34 = .ok (.iconst 1, 1) := by decide +kernel
theorem dX6_sealUp_35 : decode cX6_sealUp 35 = .ok (.iadd, 1) := by decide +kernel
theorem dX6_sealUp_36 : decode cX6_sealUp 36 = .ok (.putfield 25, 3) := by decide +kernel
theorem dX6_sealUp_39 : decode cX6_sealUp 39 = .ok (.return_, 1) := by decide +kernel
theorem dX6_addDeclared_0 : decode cX6_addDeclared 0 = .ok (.aload_n 0, 1) := by decide +kernel
theorem dX6_addDeclared_1 : decode cX6_addDeclared 1 = .ok (.getfield 48, 3) := by decide +kernel
theorem dX6_addDeclared_4 : decode cX6_addDeclared 4 = .ok (.bipush 6, 2) := by decide +kernel
theorem dX6_addDeclared_6 : decode cX6_addDeclared 6 = .ok (.if_icmp .ge 23, 3) := by decide +kernel
theorem dX6_addDeclared_9 : decode cX6_addDeclared 9 = .ok (.aload_n 0, 1) := by decide +kernel
theorem dX6_addDeclared_10 : decode cX6_addDeclared 10 = .ok (.getfield 21, 3) := by decide +kernel
theorem dX6_addDeclared_13 : decode cX6_addDeclared 13 = .ok (.aload_n 0, 1) := by decide +kernel
theorem dX6_addDeclared_14 : decode cX6_addDeclared 14 = .ok (.getfield 48, 3) := by decide +kernel
theorem dX6_addDeclared_17 : decode cX6_addDeclared 17 = .ok (.iload_n 1, 1) := by decide +kernel
theorem dX6_addDeclared_18 : decode cX6_addDeclared 18 = .ok (.iastore, 1) := by decide +kernel
theorem dX6_addDeclared_19 : decode cX6_addDeclared 19 = .ok (.aload_n 0, 1) := by decide +kernel
theorem dX6_addDeclared_20 : decode cX6_addDeclared 20 = .ok (.dup, 1) := by decide +kernel
theorem dX6_addDeclared_21 : decode cX6_addDeclared 21 = .ok (.getfield 48, 3) := by decide +kernel
theorem dX6_addDeclared_24 : decode cX6_addDeclared 24 = .ok (.iconst 1, 1) := by decide +kernel
theorem dX6_addDeclared_25 : decode cX6_addDeclared 25 = .ok (.iadd, 1) := by decide +kernel
theorem dX6_addDeclared_26 : decode cX6_addDeclared 26 = .ok (.putfield 48, 3) := by decide +kernel
theorem dX6_addDeclared_29 : decode cX6_addDeclared 29 = .ok (.return_, 1) := by decide +kernel
theorem dX7_init_0 : decode cX7_init 0 = .ok (.aload_n 0, 1) := by decide +kernel
theorem dX7_init_1 : decode cX7_init 1 = .ok (.invokespecial 3, 3) := by decide +kernel
theorem dX7_init_4 : decode cX7_init 4 = .ok (.aload_n 0, 1) := by decide +kernel
theorem dX7_init_5 : decode cX7_init 5 = .ok (.new 9, 3) := by decide +kernel
theorem dX7_init_8 : decode cX7_init 8 = .ok (.dup, 1) := by decide +kernel
theorem dX7_init_9 : decode cX7_init 9 = .ok (.invokespecial 11, 3) := by decide +kernel
theorem dX7_init_12 : decode cX7_init 12 = .ok (.putfield 12, 3) := by decide +kernel
theorem dX7_init_15 : decode cX7_init 15 = .ok (.aload_n 0, 1) := by decide +kernel
theorem dX7_init_16 : decode cX7_init 16 = .ok (.new 16, 3) := by decide +kernel
theorem dX7_init_19 : decode cX7_init 19 = .ok (.dup, 1) := by decide +kernel
theorem dX7_init_20 : decode cX7_init 20 = .ok (.invokespecial 18, 3) := by decide +kernel
theorem dX7_init_23 : decode cX7_init 23 = .ok (.putfield 19, 3) := by decide +kernel
theorem dX7_init_26 : decode cX7_init 26 = .ok (.aload_n 0, 1) := by decide +kernel
theorem dX7_init_27 : decode cX7_init 27 = .ok (.new 23, 3) := by decide +kernel
theorem dX7_init_30 : decode cX7_init 30 = .ok (.dup, 1) := by decide +kernel
theorem dX7_init_31 : decode cX7_init 31 = .ok (.invokespecial 25, 3) := by decide +kernel
theorem dX7_init_34 : decode cX7_init 34 = .ok (.putfield 26, 3) := by decide +kernel
theorem dX7_init_37 : decode cX7_init 37 = .ok (.aload_n 0, 1) := by decide +kernel
theorem dX7_init_38 : decode cX7_init 38 = .ok (.new 30, 3) := by decide +kernel
theorem dX7_init_41 : decode cX7_init 41 = .ok (.dup, 1) := by decide +kernel
theorem dX7_init_42 : decode cX7_init 42 = .ok (.invokespecial 32, 3) := by decide +kernel
theorem dX7_init_45 : decode cX7_init 45 = .ok (.putfield 33, 3) := by decide +kernel
theorem dX7_init_48 : decode cX7_init 48 = .ok (.aload_n 0, 1) := by decide +kernel
theorem dX7_init_49 : decode cX7_init 49 = .ok (.iconst (-1), 1) := by decide +kernel
theorem dX7_init_50 : decode cX7_init 50 = .ok (.putfield 37, 3) := by decide +kernel
theorem dX7_init_53 : decode cX7_init 53 = .ok (.return_, 1) := by decide +kernel
theorem dX7_feed_0 : decode cX7_feed 0 = .ok (.aload_n 0, 1) := by decide +kernel
theorem dX7_feed_1 : decode cX7_feed 1 = .ok (.getfield 12, 3) := by decide +kernel
theorem dX7_feed_4 : decode cX7_feed 4 = .ok (.getfield 41, 3) := by decide +kernel
theorem dX7_feed_7 : decode cX7_feed 7 = .ok (.astore 6, 2) := by decide +kernel
theorem dX7_feed_9 : decode cX7_feed 9 = .ok (.aload 6, 2) := by decide +kernel
theorem dX7_feed_11 : decode cX7_feed 11 = .ok (.getfield 45, 3) := by decide +kernel
theorem dX7_feed_14 : decode cX7_feed 14 = .ok (.bipush 20, 2) := by decide +kernel
theorem dX7_feed_16 : decode cX7_feed 16 = .ok (.iadd, 1) := by decide +kernel
theorem dX7_feed_17 : decode cX7_feed 17 = .ok (.sipush 900, 3) := by decide +kernel
theorem dX7_feed_20 : decode cX7_feed 20 = .ok (.if_icmp .le 6, 3) := by decide +kernel
theorem dX7_feed_23 : decode cX7_feed 23 = .ok (.bipush (-5), 2) := by decide +kernel
theorem dX7_feed_25 : decode cX7_feed 25 = .ok (.ireturn, 1) := by decide +kernel
theorem dX7_feed_26 : decode cX7_feed 26 = .ok (.aload 6, 2) := by decide +kernel
theorem dX7_feed_28 : decode cX7_feed 28 = .ok (.iload_n 1, 1) := by decide +kernel
theorem dX7_feed_29 : decode cX7_feed 29 = .ok (.invokevirtual 50, 3) := by decide +kernel
theorem dX7_feed_32 : decode cX7_feed 32 = .ok (.aload 6, 2) := by decide +kernel
theorem dX7_feed_34 : decode cX7_feed 34 = .ok (.iload_n 2, 1) := by decide +kernel
theorem dX7_feed_35 : decode cX7_feed 35 = .ok (.invokevirtual 50, 3) := by decide +kernel
theorem dX7_feed_38 : decode cX7_feed 38 = .ok (.aload 6, 2) := by decide +kernel
theorem dX7_feed_40 : decode cX7_feed 40 = .ok (.iload_n 3, 1) := by decide +kernel
theorem dX7_feed_41 : decode cX7_feed 41 = .ok (.invokevirtual 50, 3) := by decide +kernel
theorem dX7_feed_44 : decode cX7_feed 44 = .ok (.aload 6, 2) := by decide +kernel
theorem dX7_feed_46 : decode cX7_feed 46 = .ok (.iload 4, 2) := by decide +kernel
theorem dX7_feed_48 : decode cX7_feed 48 = .ok (.invokevirtual 50, 3) := by decide +kernel
theorem dX7_feed_51 : decode cX7_feed 51 = .ok (.aload 6, 2) := by decide +kernel
theorem dX7_feed_53 : decode cX7_feed 53 = .ok (.iload 5, 2) := by decide +kernel
theorem dX7_feed_55 : decode cX7_feed 55 = .ok (.invokevirtual 50, 3) := by decide +kernel
theorem dX7_feed_58 : decode cX7_feed 58 = .ok (.aload 6, 2) := by decide +kernel
theorem dX7_feed_60 : decode cX7_feed 60 = .ok (.getfield 45, 3) := by decide +kernel
theorem dX7_feed_63 : decode cX7_feed 63 = .ok (.ireturn, 1) := by decide +kernel
theorem dX7_load_0 : decode cX7_load 0 = .ok (.iload_n 1, 1) := by decide +kernel
theorem dX7_load_1 : decode cX7_load 1 = .ok (.ifCond .lt 17, 3) := by decide +kernel
theorem dX7_load_4 : decode cX7_load 4 = .ok (.iload_n 1, 1) := by decide +kernel
theorem dX7_load_5 : decode cX7_load 5 = .ok (.aload_n 0, 1) := by decide +kernel
theorem dX7_load_6 : decode cX7_load 6 = .ok (.getfield 12, 3) := by decide +kernel
theorem dX7_load_9 : decode cX7_load 9 = .ok (.getfield 41, 3) := by decide +kernel
theorem dX7_load_12 : decode cX7_load 12 = .ok (.getfield 45, 3) := by decide +kernel
theorem dX7_load_15 : decode cX7_load 15 = .ok (.if_icmp .le 6, 3) := by decide +kernel
theorem dX7_load_18 : decode cX7_load 18 = .ok (.bipush (-2), 2) := by decide +kernel
theorem dX7_load_20 : decode cX7_load 20 = .ok (.ireturn, 1) := by decide +kernel
theorem dX7_load_21 : decode cX7_load 21 = .ok (.aload_n 0, 1) := by decide +kernel
theorem dX7_load_22 : decode cX7_load 22 = .ok (.getfield 12, 3) := by decide +kernel
theorem dX7_load_25 : decode cX7_load 25 = .ok (.iload_n 1, 1) := by decide +kernel
theorem dX7_load_26 : decode cX7_load 26 = .ok (.invokevirtual 54, 3) := by decide +kernel
theorem dX7_load_29 : decode cX7_load 29 = .ok (.istore_n 2, 1) := by decide +kernel
theorem dX7_load_30 : decode cX7_load 30 = .ok (.aload_n 0, 1) := by decide +kernel
theorem dX7_load_31 : decode cX7_load 31 = .ok (.aload_n 0, 1) := by decide +kernel
theorem dX7_load_32 : decode cX7_load 32 = .ok (.getfield 12, 3) := by decide +kernel
theorem dX7_load_35 : decode cX7_load 35 = .ok (.getfield 58, 3) := by decide +kernel
theorem dX7_load_38 : decode cX7_load 38 = .ok (.putfield 37, 3) := by decide +kernel
theorem dX7_load_41 : decode cX7_load 41 = .ok (.iload_n 2, 1) := by decide +kernel
theorem dX7_load_42 : decode cX7_load 42 = .ok (.ifCond .lt 32, 3) := by decide +kernel
theorem dX7_load_45 : decode cX7_load 45 = .ok (.aload_n 0, 1) := by decide +kernel
theorem dX7_load_46 : decode cX7_load 46 = .ok (.getfield 19, 3) := by decide +kernel
theorem dX7_load_49 : decode cX7_load 49 = .ok (.aload_n 0, 1) := by decide +kernel
theorem dX7_load_50 : decode cX7_load 50 = .ok (.getfield 12, 3) := by decide +kernel
theorem dX7_load_53 : decode cX7_load 53 = .ok (.aload_n 0, 1) := by decide +kernel
theorem dX7_load_54 : decode cX7_load 54 = .ok (.getfield 19, 3) := by decide +kernel
theorem dX7_load_57 : decode cX7_load 57 = .ok (.getfield 61, 3) := by decide +kernel
theorem dX7_load_60 : decode cX7_load 60 = .ok (.invokevirtual 65, 3) := by decide +kernel
theorem dX7_load_63 : decode cX7_load 63 = .ok (.invokevirtual 69, 3) := by decide +kernel
theorem dX7_load_66 : decode cX7_load 66 = .ok (.aload_n 0, 1) := by decide +kernel
theorem dX7_load_67 : decode cX7_load 67 = .ok (.getfield 26, 3) := by decide +kernel
theorem dX7_load_70 : decode cX7_load 70 = .ok (.iconst 0, 1) := by decide +kernel
theorem dX7_load_71 : decode cX7_load 71 = .ok (.putfield 73, 3) := by decide +kernel
theorem dX7_load_74 : decode cX7_load 74 = .ok (.iload_n 2, 1) := by decide +kernel
theorem dX7_load_75 : decode cX7_load 75 = .ok (.ireturn, 1) := by decide +kernel
theorem dX7_count_0 : decode cX7_count 0 = .ok (.iload_n 1, 1) := by decide +kernel
theorem dX7_count_1 : decode cX7_count 1 = .ok (.ifCond .lt 23, 3) := by decide +kernel
theorem dX7_count_4 : decode cX7_count 4 = .ok (.iload_n 1, 1) := by decide +kernel
theorem dX7_count_5 : decode cX7_count 5 = .ok (.iconst 4, 1) := by decide +kernel
theorem dX7_count_6 : decode cX7_count 6 = .ok (.if_icmp .gt 18, 3) := by decide +kernel
theorem dX7_count_9 : decode cX7_count 9 = .ok (.aload_n 0, 1) := by decide +kernel
theorem dX7_count_10 : decode cX7_count 10 = .ok (.getfield 19, 3) := by decide +kernel
theorem dX7_count_13 : decode cX7_count 13 = .ok (.getfield 61, 3) := by decide +kernel
theorem dX7_count_16 : decode cX7_count 16 = .ok (.getfield 76, 3) := by decide +kernel
theorem dX7_count_19 : decode cX7_count 19 = .ok (.iload_n 1, 1) := by decide +kernel
theorem dX7_count_20 : decode cX7_count 20 = .ok (.iaload, 1) := by decide +kernel
theorem dX7_count_21 : decode cX7_count 21 = .ok (.goto 5, 3) := by decide +kernel
theorem dX7_count_24 : decode cX7_count 24 = .ok (.bipush (-2), 2) := by decide +kernel
theorem dX7_count_26 : decode cX7_count 26 = .ok (.ireturn, 1) := by decide +kernel
theorem dX7_getSetting_0 : decode cX7_getSetting 0 = .ok (.iload_n 1, 1) := by decide +kernel
theorem dX7_getSetting_1 : decode cX7_getSetting 1 = .ok (.invokestatic 86, 3) := by decide +kernel
theorem dX7_getSetting_4 : decode cX7_getSetting 4 = .ok (.ifCond .eq 18, 3) := by decide +kernel
theorem dX7_getSetting_7 : decode cX7_getSetting 7 = .ok (.aload_n 0, 1) := by decide +kernel
theorem dX7_getSetting_8 : decode cX7_getSetting 8 = .ok (.getfield 19, 3) := by decide +kernel
theorem dX7_getSetting_11 : decode cX7_getSetting 11 = .ok (.getfield 90, 3) := by decide +kernel
theorem dX7_getSetting_14 : decode cX7_getSetting 14 = .ok (.getfield 94, 3) := by decide +kernel
theorem dX7_getSetting_17 : decode cX7_getSetting 17 = .ok (.iload_n 1, 1) := by decide +kernel
theorem dX7_getSetting_18 : decode cX7_getSetting 18 = .ok (.iaload, 1) := by decide +kernel
theorem dX7_getSetting_19 : decode cX7_getSetting 19 = .ok (.goto 5, 3) := by decide +kernel
theorem dX7_getSetting_22 : decode cX7_getSetting 22 = .ok (.bipush (-2), 2) := by decide +kernel
theorem dX7_getSetting_24 : decode cX7_getSetting 24 = .ok (.ireturn, 1) := by decide +kernel
theorem dX7_boxProperty_0 : decode cX7_boxProperty 0 = .ok (.aload_n 0, 1) := by decide +kernel
theorem dX7_boxProperty_1 : decode cX7_boxProperty 1 = .ok (.iconst 3, 1) := by decide +kernel
theorem dX7_boxProperty_2 : decode cX7_boxProperty 2 = .ok (.iload_n 1, 1) := by decide +kernel
theorem dX7_boxProperty_3 : decode cX7_boxProperty 3 = .ok (.invokevirtual 99, 3) := by decide +kernel
theorem dX7_boxProperty_6 : decode cX7_boxProperty 6 = .ok (.iload_n 2, 1) := by decide +kernel
theorem dX7_boxProperty_7 : decode cX7_boxProperty 7 = .ok (.tableswitch 87 0 3 #[29, 42, 55, 71], 29) := by decide +kernel
theorem dX7_boxProperty_36 : decode cX7_boxProperty 36 = .ok (.aload_n 0, 1) := by decide +kernel
theorem dX7_boxProperty_37 : decode cX7_boxProperty 37 = .ok (.getfield 19, 3) := by decide +kernel
theorem dX7_boxProperty_40 : decode cX7_boxProperty 40 = .ok (.getfield 61, 3) := by decide +kernel
theorem dX7_boxProperty_43 : decode cX7_boxProperty 43 = .ok (.getfield 116, 3) := by decide +kernel
theorem dX7_boxProperty_46 : decode cX7_boxProperty 46 = .ok (.iload_n 1, 1) := by decide +kernel
theorem dX7_boxProperty_47 : decode cX7_boxProperty 47 = .ok (.iaload, 1) := by decide +kernel
theorem dX7_boxProperty_48 : decode cX7_boxProperty 48 = .ok (.ireturn, 1) := by decide +kernel
theorem dX7_boxProperty_49 : decode cX7_boxProperty 49 = .ok (.aload_n 0, 1) := by decide +kernel
theorem dX7_boxProperty_50 : decode cX7_boxProperty 50 = .ok (.getfield 19, 3) := by decide +kernel
theorem dX7_boxProperty_53 : decode cX7_boxProperty 53 = .ok (.getfield 61, 3) := by decide +kernel
theorem dX7_boxProperty_56 : decode cX7_boxProperty 56 = .ok (.getfield 119, 3) := by decide +kernel
theorem dX7_boxProperty_59 : decode cX7_boxProperty 59 = .ok (.iload_n 1, 1) := by decide +kernel
theorem dX7_boxProperty_60 : decode cX7_boxProperty 60 = .ok (.iaload, 1) := by decide +kernel
theorem dX7_boxProperty_61 : decode cX7_boxProperty 61 = .ok (.ireturn, 1) := by decide +kernel
theorem dX7_boxProperty_62 : decode cX7_boxProperty 62 = .ok (.aload_n 0, 1) := by decide +kernel
theorem dX7_boxProperty_63 : decode cX7_boxProperty 63 = .ok (.getfield 19, 3) := by decide +kernel
theorem dX7_boxProperty_66 : decode cX7_boxProperty 66 = .ok (.getfield 90, 3) := by decide +kernel
theorem dX7_boxProperty_69 : decode cX7_boxProperty 69 = .ok (.getfield 122, 3) := by decide +kernel
theorem dX7_boxProperty_72 : decode cX7_boxProperty 72 = .ok (.iload_n 1, 1) := by decide +kernel
theorem dX7_boxProperty_73 : decode cX7_boxProperty 73 = .ok (.aaload, 1) := by decide +kernel
theorem dX7_boxProperty_74 : decode cX7_boxProperty 74 = .ok (.getfield 126, 3) := by decide +kernel
theorem dX7_boxProperty_77 : decode cX7_boxProperty 77 = .ok (.ireturn, 1) := by decide +kernel
theorem dX7_boxProperty_78 : decode cX7_boxProperty 78 = .ok (.aload_n 0, 1) := by decide +kernel
theorem dX7_boxProperty_79 : decode cX7_boxProperty 79 = .ok (.getfield 19, 3) := by decide +kernel
theorem dX7_boxProperty_82 : decode cX7_boxProperty 82 = .ok (.getfield 90, 3) := by decide +kernel
theorem dX7_boxProperty_85 : decode cX7_boxProperty 85 = .ok (.getfield 122, 3) := by decide +kernel
theorem dX7_boxProperty_88 : decode cX7_boxProperty 88 = .ok (.iload_n 1, 1) := by decide +kernel
theorem dX7_boxProperty_89 : decode cX7_boxProperty 89 = .ok (.aaload, 1) := by decide +kernel
theorem dX7_boxProperty_90 : decode cX7_boxProperty 90 = .ok (.getfield 131, 3) := by decide +kernel
theorem dX7_boxProperty_93 : decode cX7_boxProperty 93 = .ok (.ireturn, 1) := by decide +kernel
theorem dX7_boxProperty_94 : decode cX7_boxProperty 94 = .ok (.bipush (-2), 2) := by decide +kernel
theorem dX7_boxProperty_96 : decode cX7_boxProperty 96 = .ok (.ireturn, 1) := by decide +kernel
theorem dX7_placeOf_0 : decode cX7_placeOf 0 = .ok (.aload_n 0, 1) := by decide +kernel
theorem dX7_placeOf_1 : decode cX7_placeOf 1 = .ok (.iconst 3, 1) := by decide +kernel
theorem dX7_placeOf_2 : decode cX7_placeOf 2 = .ok (.iload_n 1, 1) := by decide +kernel
theorem dX7_placeOf_3 : decode cX7_placeOf 3 = .ok (.invokevirtual 99, 3) := by decide +kernel
theorem dX7_placeOf_6 : decode cX7_placeOf 6 = .ok (.aload_n 0, 1) := by decide +kernel
theorem dX7_placeOf_7 : decode cX7_placeOf 7 = .ok (.getfield 19, 3) := by decide +kernel
theorem dX7_placeOf_10 : decode cX7_placeOf 10 = .ok (.getfield 90, 3) := by decide +kernel
theorem dX7_placeOf_13 : decode cX7_placeOf 13 = .ok (.getfield 122, 3) := by decide +kernel
theorem dX7_placeOf_16 : decode cX7_placeOf 16 = .ok (.iload_n 1, 1) := by decide +kernel
theorem dX7_placeOf_17 : decode cX7_placeOf 17 = .ok (.aaload, 1) := by decide +kernel
theorem dX7_placeOf_18 : decode cX7_placeOf 18 = .ok (.getfield 134, 3) := by decide +kernel
theorem dX7_placeOf_21 : decode cX7_placeOf 21 = .ok (.ireturn, 1) := by decide +kernel
theorem dX7_papers_0 : decode cX7_papers 0 = .ok (.aload_n 0, 1) := by decide +kernel
theorem dX7_papers_1 : decode cX7_papers 1 = .ok (.iconst 3, 1) := by decide +kernel
theorem dX7_papers_2 : decode cX7_papers 2 = .ok (.iload_n 1, 1) := by decide +kernel
theorem dX7_papers_3 : decode cX7_papers 3 = .ok (.invokevirtual 99, 3) := by decide +kernel
theorem dX7_papers_6 : decode cX7_papers 6 = .ok (.aload_n 0, 1) := by decide +kernel
theorem dX7_papers_7 : decode cX7_papers 7 = .ok (.getfield 19, 3) := by decide +kernel
theorem dX7_papers_10 : decode cX7_papers 10 = .ok (.getfield 61, 3) := by decide +kernel
theorem dX7_papers_13 : decode cX7_papers 13 = .ok (.iload_n 2, 1) := by decide +kernel
theorem dX7_papers_14 : decode cX7_papers 14 = .ok (.invokevirtual 137, 3) := by decide +kernel
theorem dX7_papers_17 : decode cX7_papers 17 = .ok (.ifCond .eq 20, 3) := by decide +kernel
theorem dX7_papers_20 : decode cX7_papers 20 = .ok (.aload_n 0, 1) := by decide +kernel
theorem dX7_papers_21 : decode cX7_papers 21 = .ok (.getfield 19, 3) := by decide +kernel
theorem dX7_papers_24 : decode cX7_papers 24 = .ok (.getfield 61, 3) := by decide +kernel
theorem dX7_papers_27 : decode cX7_papers 27 = .ok (.getfield 140, 3) := by decide +kernel
theorem dX7_papers_30 : decode cX7_papers 30 = .ok (.iload_n 1, 1) := by decide +kernel
theorem dX7_papers_31 : decode cX7_papers 31 = .ok (.aaload, 1) := by decide +kernel
theorem dX7_papers_32 : decode cX7_papers 32 = .ok (.iload_n 2, 1) := by decide +kernel
theorem dX7_papers_33 : decode cX7_papers 33 = .ok (.iaload, 1) := by decide +kernel
theorem dX7_papers_34 : decode cX7_papers 34 = .ok (.goto 5, 3) := by decide +kernel
theorem dX7_papers_37 : decode cX7_papers 37 = .ok (.bipush (-2), 2) := by decide +kernel
theorem dX7_papers_39 : decode cX7_papers 39 = .ok (.ireturn, 1) := by decide +kernel
theorem dX7_slipOf_0 : decode cX7_slipOf 0 = .ok (.aload_n 0, 1) := by decide +kernel
theorem dX7_slipOf_1 : decode cX7_slipOf 1 = .ok (.iconst 4, 1) := by decide +kernel
theorem dX7_slipOf_2 : decode cX7_slipOf 2 = .ok (.iload_n 1, 1) := by decide +kernel
theorem dX7_slipOf_3 : decode cX7_slipOf 3 = .ok (.invokevirtual 99, 3) := by decide +kernel
theorem dX7_slipOf_6 : decode cX7_slipOf 6 = .ok (.aload_n 0, 1) := by decide +kernel
theorem dX7_slipOf_7 : decode cX7_slipOf 7 = .ok (.getfield 19, 3) := by decide +kernel
theorem dX7_slipOf_10 : decode cX7_slipOf 10 = .ok (.getfield 61, 3) := by decide +kernel
theorem dX7_slipOf_13 : decode cX7_slipOf 13 = .ok (.getfield 157, 3) := by decide +kernel
theorem dX7_slipOf_16 : decode cX7_slipOf 16 = .ok (.iload_n 1, 1) := by decide +kernel
theorem dX7_slipOf_17 : decode cX7_slipOf 17 = .ok (.iaload, 1) := by decide +kernel
theorem dX7_slipOf_18 : decode cX7_slipOf 18 = .ok (.ireturn, 1) := by decide +kernel
theorem dX7_counted_0 : decode cX7_counted 0 = .ok (.aload_n 0, 1) := by decide +kernel
theorem dX7_counted_1 : decode cX7_counted 1 = .ok (.iconst 3, 1) := by decide +kernel
theorem dX7_counted_2 : decode cX7_counted 2 = .ok (.iload_n 1, 1) := by decide +kernel
theorem dX7_counted_3 : decode cX7_counted 3 = .ok (.invokevirtual 99, 3) := by decide +kernel
theorem dX7_counted_6 : decode cX7_counted 6 = .ok (.aload_n 0, 1) := by decide +kernel
theorem dX7_counted_7 : decode cX7_counted 7 = .ok (.getfield 19, 3) := by decide +kernel
theorem dX7_counted_10 : decode cX7_counted 10 = .ok (.getfield 90, 3) := by decide +kernel
theorem dX7_counted_13 : decode cX7_counted 13 = .ok (.getfield 122, 3) := by decide +kernel
theorem dX7_counted_16 : decode cX7_counted 16 = .ok (.iload_n 1, 1) := by decide +kernel
theorem dX7_counted_17 : decode cX7_counted 17 = .ok (.aaload, 1) := by decide +kernel
theorem dX7_counted_18 : decode cX7_counted 18 = .ok (.astore 4, 2) := by decide +kernel
theorem dX7_counted_20 : decode cX7_counted 20 = .ok (.aload 4, 2) := by decide +kernel
theorem dX7_counted_22 : decode cX7_counted 22 = .ok (.iload_n 2, 1) := by decide +kernel
theorem dX7_counted_23 : decode cX7_counted 23 = .ok (.invokevirtual 160, 3) := by decide +kernel
theorem dX7_counted_26 : decode cX7_counted 26 = .ok (.ifCond .ne 5, 3) := by decide +kernel
theorem dX7_counted_29 : decode cX7_counted 29 = .ok (.iconst (-1), 1) := by decide +kernel
theorem dX7_counted_30 : decode cX7_counted 30 = .ok (.ireturn, 1) := by decide +kernel
theorem dX7_counted_31 : decode cX7_counted 31 = .ok (.aload_n 0, 1) := by decide +kernel
theorem dX7_counted_32 : decode cX7_counted 32 = .ok (.getfield 19, 3) := by decide +kernel
theorem dX7_counted_35 : decode cX7_counted 35 = .ok (.getfield 61, 3) := by decide +kernel
theorem dX7_counted_38 : decode cX7_counted 38 = .ok (.iload_n 3, 1) := by decide +kernel
theorem dX7_counted_39 : decode cX7_counted 39 = .ok (.invokevirtual 137, 3) := by decide +kernel
theorem dX7_counted_42 : decode cX7_counted 42 = .ok (.ifCond .eq 13, 3) := by decide +kernel
theorem dX7_counted_45 : decode cX7_counted 45 = .ok (.aload 4, 2) := by decide +kernel
theorem dX7_counted_47 : decode cX7_counted 47 = .ok (.iload_n 2, 1) := by decide +kernel
theorem dX7_counted_48 : decode cX7_counted 48 = .ok (.iload_n 3, 1) := by decide +kernel
theorem dX7_counted_49 : decode cX7_counted 49 = .ok (.invokevirtual 163, 3) := by decide +kernel
theorem dX7_counted_52 : decode cX7_counted 52 = .ok (.goto 5, 3) := by decide +kernel
theorem dX7_counted_55 : decode cX7_counted 55 = .ok (.bipush (-2), 2) := by decide +kernel
theorem dX7_counted_57 : decode cX7_counted 57 = .ok (.ireturn, 1) := by decide +kernel
theorem dX7_countedAt_0 : decode cX7_countedAt 0 = .ok (.aload_n 0, 1) := by decide +kernel
theorem dX7_countedAt_1 : decode cX7_countedAt 1 = .ok (.iconst 3, 1) := by decide +kernel
theorem dX7_countedAt_2 : decode cX7_countedAt 2 = .ok (.iload_n 1, 1) := by decide +kernel
theorem dX7_countedAt_3 : decode cX7_countedAt 3 = .ok (.invokevirtual 99, 3) := by decide +kernel
theorem dX7_countedAt_6 : decode cX7_countedAt 6 = .ok (.aload_n 0, 1) := by decide +kernel
theorem dX7_countedAt_7 : decode cX7_countedAt 7 = .ok (.getfield 19, 3) := by decide +kernel
theorem dX7_countedAt_10 : decode cX7_countedAt 10 = .ok (.getfield 90, 3) := by decide +kernel
theorem dX7_countedAt_13 : decode cX7_countedAt 13 = .ok (.getfield 122, 3) := by decide +kernel
theorem dX7_countedAt_16 : decode cX7_countedAt 16 = .ok (.iload_n 1, 1) := by decide +kernel
theorem dX7_countedAt_17 : decode cX7_countedAt 17 = .ok (.aaload, 1) := by decide +kernel
theorem dX7_countedAt_18 : decode cX7_countedAt 18 = .ok (.astore_n 3, 1) := by decide +kernel
theorem dX7_countedAt_19 : decode cX7_countedAt 19 = .ok (.aload_n 3, 1) := by decide +kernel
theorem dX7_countedAt_20 : decode cX7_countedAt 20 = .ok (.iload_n 2, 1) := by decide +kernel
theorem dX7_countedAt_21 : decode cX7_countedAt 21 = .ok (.invokevirtual 160, 3) := by decide +kernel
theorem dX7_countedAt_24 : decode cX7_countedAt 24 = .ok (.ifCond .eq 12, 3) := by decide +kernel
theorem dX7_countedAt_27 : decode cX7_countedAt 27 = .ok (.aload_n 3, 1) := by decide +kernel
theorem dX7_countedAt_28 : decode cX7_countedAt 28 = .ok (.getfield 166, 3) := by decide +kernel
theorem dX7_countedAt_31 : decode cX7_countedAt 31 = .ok (.iload_n 2, 1) := by decide +kernel
theorem dX7_countedAt_32 : decode cX7_countedAt 32 = .ok (.iaload, 1) := by decide +kernel
theorem dX7_countedAt_33 : decode cX7_countedAt 33 = .ok (.goto 4, 3) := by decide +kernel
theorem dX7_countedAt_36 : decode cX7_countedAt 36 = .ok (.iconst (-1), 1) := by decide +kernel
theorem dX7_countedAt_37 : decode cX7_countedAt 37 = .ok (.ireturn, 1) := by decide +kernel
theorem dX7_wouldCount_0 : decode cX7_wouldCount 0 = .ok (.aload_n 0, 1) := by decide +kernel
theorem dX7_wouldCount_1 : decode cX7_wouldCount 1 = .ok (.iconst 4, 1) := by decide +kernel
theorem dX7_wouldCount_2 : decode cX7_wouldCount 2 = .ok (.iload_n 1, 1) := by decide +kernel
theorem dX7_wouldCount_3 : decode cX7_wouldCount 3 = .ok (.invokevirtual 99, 3) := by decide +kernel
theorem dX7_wouldCount_6 : decode cX7_wouldCount 6 = .ok (.aload_n 0, 1) := by decide +kernel
theorem dX7_wouldCount_7 : decode cX7_wouldCount 7 = .ok (.iconst 3, 1) := by decide +kernel
theorem dX7_wouldCount_8 : decode cX7_wouldCount 8 = .ok (.iload_n 2, 1) := by decide +kernel
theorem dX7_wouldCount_9 : decode cX7_wouldCount 9 = .ok (.invokevirtual 99, 3) := by decide +kernel
theorem dX7_wouldCount_12 : decode cX7_wouldCount 12 = .ok (.aload_n 0, 1) := by decide +kernel
theorem dX7_wouldCount_13 : decode cX7_wouldCount 13 = .ok (.getfield 19, 3) := by decide +kernel
theorem dX7_wouldCount_16 : decode cX7_wouldCount 16 = .ok (.getfield 61, 3) := by decide +kernel
theorem dX7_wouldCount_19 : decode cX7_wouldCount 19 = .ok (.iload_n 3, 1) := by decide +kernel
theorem dX7_wouldCount_20 : decode cX7_wouldCount 20 = .ok (.invokevirtual 137, 3) := by decide +kernel
theorem dX7_wouldCount_23 : decode cX7_wouldCount 23 = .ok (.ifCond .eq 19, 3) := by decide +kernel
theorem dX7_wouldCount_26 : decode cX7_wouldCount 26 = .ok (.aload_n 0, 1) := by decide +kernel
theorem dX7_wouldCount_27 : decode cX7_wouldCount 27 = .ok (.getfield 19, 3) := by decide +kernel
theorem dX7_wouldCount_30 : decode cX7_wouldCount 30 = .ok (.getfield 61, 3) := by decide +kernel
theorem dX7_wouldCount_33 : decode cX7_wouldCount 33 = .ok (.iload_n 1, 1) := by decide +kernel
theorem dX7_wouldCount_34 : decode cX7_wouldCount 34 = .ok (.iload_n 2, 1) := by decide +kernel
theorem dX7_wouldCount_35 : decode cX7_wouldCount 35 = .ok (.iload_n 3, 1) := by decide +kernel
theorem dX7_wouldCount_36 : decode cX7_wouldCount 36 = .ok (.invokevirtual 169, 3) := by decide +kernel
theorem dX7_wouldCount_39 : decode cX7_wouldCount 39 = .ok (.goto 5, 3) := by decide +kernel
theorem dX7_wouldCount_42 : decode cX7_wouldCount 42 = .ok (.bipush (-2), 2) := by decide +kernel
theorem dX7_wouldCount_44 : decode cX7_wouldCount 44 = .ok (.ireturn, 1) := by decide +kernel
theorem dX7_isConfirmed_0 : decode cX7_isConfirmed 0 = .ok (.aload_n 0, 1) := by decide +kernel
theorem dX7_isConfirmed_1 : decode cX7_isConfirmed 1 = .ok (.iconst 3, 1) := by decide +kernel
theorem dX7_isConfirmed_2 : decode cX7_isConfirmed 2 = .ok (.iload_n 1, 1) := by decide +kernel
theorem dX7_isConfirmed_3 : decode cX7_isConfirmed 3 = .ok (.invokevirtual 99, 3) := by decide +kernel
theorem dX7_isConfirmed_6 : decode cX7_isConfirmed 6 = .ok (.aload_n 0, 1) := by decide +kernel
theorem dX7_isConfirmed_7 : decode cX7_isConfirmed 7 = .ok (.getfield 19, 3) := by decide +kernel
theorem dX7_isConfirmed_10 : decode cX7_isConfirmed 10 = .ok (.getfield 90, 3) := by decide +kernel
theorem dX7_isConfirmed_13 : decode cX7_isConfirmed 13 = .ok (.getfield 122, 3) := by decide +kernel
theorem dX7_isConfirmed_16 : decode cX7_isConfirmed 16 = .ok (.iload_n 1, 1) := by decide +kernel
theorem dX7_isConfirmed_17 : decode cX7_isConfirmed 17 = .ok (.aaload, 1) := by decide +kernel
theorem dX7_isConfirmed_18 : decode cX7_isConfirmed 18 = .ok (.getfield 173, 3) := by decide +kernel
theorem dX7_isConfirmed_21 : decode cX7_isConfirmed 21 = .ok (.ireturn, 1) := by decide +kernel
theorem dX7_result_0 : decode cX7_result 0 = .ok (.aload_n 0, 1) := by decide +kernel
theorem dX7_result_1 : decode cX7_result 1 = .ok (.iconst 3, 1) := by decide +kernel
theorem dX7_result_2 : decode cX7_result 2 = .ok (.iload_n 1, 1) := by decide +kernel
theorem dX7_result_3 : decode cX7_result 3 = .ok (.invokevirtual 99, 3) := by decide +kernel
theorem dX7_result_6 : decode cX7_result 6 = .ok (.aload_n 0, 1) := by decide +kernel
theorem dX7_result_7 : decode cX7_result 7 = .ok (.getfield 19, 3) := by decide +kernel
theorem dX7_result_10 : decode cX7_result 10 = .ok (.getfield 90, 3) := by decide +kernel
theorem dX7_result_13 : decode cX7_result 13 = .ok (.getfield 122, 3) := by decide +kernel
theorem dX7_result_16 : decode cX7_result 16 = .ok (.iload_n 1, 1) := by decide +kernel
theorem dX7_result_17 : decode cX7_result 17 = .ok (.aaload, 1) := by decide +kernel
theorem dX7_result_18 : decode cX7_result 18 = .ok (.astore_n 3, 1) := by decide +kernel
theorem dX7_result_19 : decode cX7_result 19 = .ok (.aload_n 3, 1) := by decide +kernel
theorem dX7_result_20 : decode cX7_result 20 = .ok (.getfield 131, 3) := by decide +kernel
theorem dX7_result_23 : decode cX7_result 23 = .ok (.ifCond .ne 5, 3) := by decide +kernel
theorem dX7_result_26 : decode cX7_result 26 = .ok (.iconst (-1), 1) := by decide +kernel
theorem dX7_result_27 : decode cX7_result 27 = .ok (.ireturn, 1) := by decide +kernel
theorem dX7_result_28 : decode cX7_result 28 = .ok (.aload_n 0, 1) := by decide +kernel
theorem dX7_result_29 : decode cX7_result 29 = .ok (.getfield 19, 3) := by decide +kernel
theorem dX7_result_32 : decode cX7_result 32 = .ok (.getfield 61, 3) := by decide +kernel
theorem dX7_result_35 : decode cX7_result 35 = .ok (.iload_n 2, 1) := by decide +kernel
theorem dX7_result_36 : decode cX7_result 36 = .ok (.invokevirtual 137, 3) := by decide +kernel
theorem dX7_result_39 : decode cX7_result 39 = .ok (.ifCond .eq 11, 3) := by decide +kernel
theorem dX7_result_42 : decode cX7_result 42 = .ok (.aload_n 3, 1) := by decide +kernel
theorem dX7_result_43 : decode cX7_result 43 = .ok (.iload_n 2, 1) := by decide +kernel
theorem dX7_result_44 : decode cX7_result 44 = .ok (.invokevirtual 177, 3) := by decide +kernel
theorem dX7_result_47 : decode cX7_result 47 = .ok (.goto 5, 3) := by decide +kernel
theorem dX7_result_50 : decode cX7_result 50 = .ok (.bipush (-2), 2) := by decide +kernel
theorem dX7_result_52 : decode cX7_result 52 = .ok (.ireturn, 1) := by decide +kernel
theorem dX7_surplus_0 : decode cX7_surplus 0 = .ok (.aload_n 0, 1) := by decide +kernel
theorem dX7_surplus_1 : decode cX7_surplus 1 = .ok (.iconst 3, 1) := by decide +kernel
theorem dX7_surplus_2 : decode cX7_surplus 2 = .ok (.iload_n 1, 1) := by decide +kernel
theorem dX7_surplus_3 : decode cX7_surplus 3 = .ok (.invokevirtual 99, 3) := by decide +kernel
theorem dX7_surplus_6 : decode cX7_surplus 6 = .ok (.aload_n 0, 1) := by decide +kernel
theorem dX7_surplus_7 : decode cX7_surplus 7 = .ok (.getfield 19, 3) := by decide +kernel
theorem dX7_surplus_10 : decode cX7_surplus 10 = .ok (.iload_n 1, 1) := by decide +kernel
theorem dX7_surplus_11 : decode cX7_surplus 11 = .ok (.invokevirtual 180, 3) := by decide +kernel
theorem dX7_surplus_14 : decode cX7_surplus 14 = .ok (.ireturn, 1) := by decide +kernel
theorem dX7_isOff_0 : decode cX7_isOff 0 = .ok (.aload_n 0, 1) := by decide +kernel
theorem dX7_isOff_1 : decode cX7_isOff 1 = .ok (.iconst 3, 1) := by decide +kernel
theorem dX7_isOff_2 : decode cX7_isOff 2 = .ok (.iload_n 1, 1) := by decide +kernel
theorem dX7_isOff_3 : decode cX7_isOff 3 = .ok (.invokevirtual 99, 3) := by decide +kernel
theorem dX7_isOff_6 : decode cX7_isOff 6 = .ok (.aload_n 0, 1) := by decide +kernel
theorem dX7_isOff_7 : decode cX7_isOff 7 = .ok (.getfield 19, 3) := by decide +kernel
theorem dX7_isOff_10 : decode cX7_isOff 10 = .ok (.iload_n 1, 1) := by decide +kernel
theorem dX7_isOff_11 : decode cX7_isOff 11 = .ok (.invokevirtual 183, 3) := by decide +kernel
theorem dX7_isOff_14 : decode cX7_isOff 14 = .ok (.ireturn, 1) := by decide +kernel
theorem dX7_wardVotes_0 : decode cX7_wardVotes 0 = .ok (.aload_n 0, 1) := by decide +kernel
theorem dX7_wardVotes_1 : decode cX7_wardVotes 1 = .ok (.iconst 2, 1) := by decide +kernel
theorem dX7_wardVotes_2 : decode cX7_wardVotes 2 = .ok (.iload_n 1, 1) := by decide +kernel
theorem dX7_wardVotes_3 : decode cX7_wardVotes 3 = .ok (.invokevirtual 99, 3) := by decide +kernel
theorem dX7_wardVotes_6 : decode cX7_wardVotes 6 = .ok (.aload_n 0, 1) := by decide +kernel
theorem dX7_wardVotes_7 : decode cX7_wardVotes 7 = .ok (.getfield 19, 3) := by decide +kernel
theorem dX7_wardVotes_10 : decode cX7_wardVotes 10 = .ok (.getfield 61, 3) := by decide +kernel
theorem dX7_wardVotes_13 : decode cX7_wardVotes 13 = .ok (.iload_n 2, 1) := by decide +kernel
theorem dX7_wardVotes_14 : decode cX7_wardVotes 14 = .ok (.invokevirtual 137, 3) := by decide +kernel
theorem dX7_wardVotes_17 : decode cX7_wardVotes 17 = .ok (.ifCond .eq 15, 3) := by decide +kernel
theorem dX7_wardVotes_20 : decode cX7_wardVotes 20 = .ok (.aload_n 0, 1) := by decide +kernel
theorem dX7_wardVotes_21 : decode cX7_wardVotes 21 = .ok (.getfield 19, 3) := by decide +kernel
theorem dX7_wardVotes_24 : decode cX7_wardVotes 24 = .ok (.iload_n 1, 1) := by decide +kernel
theorem dX7_wardVotes_25 : decode cX7_wardVotes 25 = .ok (.iload_n 2, 1) := by decide +kernel
theorem dX7_wardVotes_26 : decode cX7_wardVotes 26 = .ok (.invokevirtual 186, 3) := by decide +kernel
theorem dX7_wardVotes_29 : decode cX7_wardVotes 29 = .ok (.goto 5, 3) := by decide +kernel
theorem dX7_wardVotes_32 : decode cX7_wardVotes 32 = .ok (.bipush (-2), 2) := by decide +kernel
theorem dX7_wardVotes_34 : decode cX7_wardVotes 34 = .ok (.ireturn, 1) := by decide +kernel
theorem dX7_leader_0 : decode cX7_leader 0 = .ok (.aload_n 0, 1) := by decide +kernel
theorem dX7_leader_1 : decode cX7_leader 1 = .ok (.iconst 2, 1) := by decide +kernel
theorem dX7_leader_2 : decode cX7_leader 2 = .ok (.iload_n 1, 1) := by decide +kernel
theorem dX7_leader_3 : decode cX7_leader 3 = .ok (.invokevirtual 99, 3) := by decide +kernel
theorem dX7_leader_6 : decode cX7_leader 6 = .ok (.aload_n 0, 1) := by decide +kernel
theorem dX7_leader_7 : decode cX7_leader 7 = .ok (.getfield 19, 3) := by decide +kernel
theorem dX7_leader_10 : decode cX7_leader 10 = .ok (.iload_n 1, 1) := by decide +kernel
theorem dX7_leader_11 : decode cX7_leader 11 = .ok (.invokevirtual 189, 3) := by decide +kernel
theorem dX7_leader_14 : decode cX7_leader 14 = .ok (.ireturn, 1) := by decide +kernel
theorem dX7_margin_0 : decode cX7_margin 0 = .ok (.aload_n 0, 1) := by decide +kernel
theorem dX7_margin_1 : decode cX7_margin 1 = .ok (.iconst 2, 1) := by decide +kernel
theorem dX7_margin_2 : decode cX7_margin 2 = .ok (.iload_n 1, 1) := by decide +kernel
theorem dX7_margin_3 : decode cX7_margin 3 = .ok (.invokevirtual 99, 3) := by decide +kernel
theorem dX7_margin_6 : decode cX7_margin 6 = .ok (.aload_n 0, 1) := by decide +kernel
theorem dX7_margin_7 : decode cX7_margin 7 = .ok (.getfield 19, 3) := by decide +kernel
theorem dX7_margin_10 : decode cX7_margin 10 = .ok (.iload_n 1, 1) := by decide +kernel
theorem dX7_margin_11 : decode cX7_margin 11 = .ok (.invokevirtual 192, 3) := by decide +kernel
theorem dX7_margin_14 : decode cX7_margin 14 = .ok (.ireturn, 1) := by decide +kernel
theorem dX7_isClose_0 : decode cX7_isClose 0 = .ok (.aload_n 0, 1) := by decide +kernel
theorem dX7_isClose_1 : decode cX7_isClose 1 = .ok (.iconst 2, 1) := by decide +kernel
theorem dX7_isClose_2 : decode cX7_isClose 2 = .ok (.iload_n 1, 1) := by decide +kernel
theorem dX7_isClose_3 : decode cX7_isClose 3 = .ok (.invokevirtual 99, 3) := by decide +kernel
theorem dX7_isClose_6 : decode cX7_isClose 6 = .ok (.aload_n 0, 1) := by decide +kernel
theorem dX7_isClose_7 : decode cX7_isClose 7 = .ok (.getfield 19, 3) := by decide +kernel
theorem dX7_isClose_10 : decode cX7_isClose 10 = .ok (.iload_n 1, 1) := by decide +kernel
theorem dX7_isClose_11 : decode cX7_isClose 11 = .ok (.invokevirtual 195, 3) := by decide +kernel
theorem dX7_isClose_14 : decode cX7_isClose 14 = .ok (.ireturn, 1) := by decide +kernel
theorem dX7_whyNot_0 : decode cX7_whyNot 0 = .ok (.aload_n 0, 1) := by decide +kernel
theorem dX7_whyNot_1 : decode cX7_whyNot 1 = .ok (.iconst 2, 1) := by decide +kernel
theorem dX7_whyNot_2 : decode cX7_whyNot 2 = .ok (.iload_n 1, 1) := by decide +kernel
theorem dX7_whyNot_3 : decode cX7_whyNot 3 = .ok (.invokevirtual 99, 3) := by decide +kernel
theorem dX7_whyNot_6 : decode cX7_whyNot 6 = .ok (.aload_n 0, 1) := by decide +kernel
theorem dX7_whyNot_7 : decode cX7_whyNot 7 = .ok (.getfield 19, 3) := by decide +kernel
theorem dX7_whyNot_10 : decode cX7_whyNot 10 = .ok (.iload_n 1, 1) := by decide +kernel
theorem dX7_whyNot_11 : decode cX7_whyNot 11 = .ok (.invokevirtual 198, 3) := by decide +kernel
theorem dX7_whyNot_14 : decode cX7_whyNot 14 = .ok (.ireturn, 1) := by decide +kernel
theorem dX7_rightTable_0 : decode cX7_rightTable 0 = .ok (.aload_n 0, 1) := by decide +kernel
theorem dX7_rightTable_1 : decode cX7_rightTable 1 = .ok (.iconst 3, 1) := by decide +kernel
theorem dX7_rightTable_2 : decode cX7_rightTable 2 = .ok (.iload_n 1, 1) := by decide +kernel
theorem dX7_rightTable_3 : decode cX7_rightTable 3 = .ok (.invokevirtual 99, 3) := by decide +kernel
theorem dX7_rightTable_6 : decode cX7_rightTable 6 = .ok (.iconst 0, 1) := by decide +kernel
theorem dX7_rightTable_7 : decode cX7_rightTable 7 = .ok (.istore_n 2, 1) := by decide +kernel
theorem dX7_rightTable_8 : decode cX7_rightTable 8 = .ok (.iload_n 2, 1) := by decide +kernel
theorem dX7_rightTable_9 : decode cX7_rightTable 9 = .ok (.aload_n 0, 1) := by decide +kernel
theorem dX7_rightTable_10 : decode cX7_rightTable 10 = .ok (.getfield 19, 3) := by decide +kernel
theorem dX7_rightTable_13 : decode cX7_rightTable 13 = .ok (.getfield 61, 3) := by decide +kernel
theorem dX7_rightTable_16 : decode cX7_rightTable 16 = .ok (.getfield 76, 3) := by decide +kernel
theorem dX7_rightTable_19 : decode cX7_rightTable 19 = .ok (.iconst 4, 1) := by decide +kernel
theorem dX7_rightTable_20 : decode cX7_rightTable 20 = .ok (.iaload, 1) := by decide +kernel
theorem dX7_rightTable_21 : decode cX7_rightTable 21 = .ok (.if_icmp .ge 26, 3) := by decide +kernel
theorem dX7_rightTable_24 : decode cX7_rightTable 24 = .ok (.aload_n 0, 1) := by decide +kernel
theorem dX7_rightTable_25 : decode cX7_rightTable 25 = .ok (.getfield 19, 3) := by decide +kernel
theorem dX7_rightTable_28 : decode cX7_rightTable 28 = .ok (.getfield 61, 3) := by decide +kernel
theorem dX7_rightTable_31 : decode cX7_rightTable 31 = .ok (.iload_n 2, 1) := by decide +kernel
theorem dX7_rightTable_32 : decode cX7_rightTable 32 = .ok (.iload_n 1, 1) := by decide +kernel
theorem dX7_rightTable_33 : decode cX7_rightTable 33 = .ok (.invokevirtual 208, 3) := by decide +kernel
theorem dX7_rightTable_36 : decode cX7_rightTable 36 = .ok (.ifCond .eq 5, 3) := by decide +kernel
theorem dX7_rightTable_39 : decode cX7_rightTable 39 = .ok (.iload_n 2, 1) := by decide +kernel
theorem dX7_rightTable_40 : decode cX7_rightTable 40 = .ok (.ireturn, 1) := by decide +kernel
theorem dX7_rightTable_41 : decode cX7_rightTable 41 = .ok (.iinc 2 1, 3) := by decide +kernel
theorem dX7_rightTable_44 : decode cX7_rightTable 44 = .ok (.goto (-36), 3) := by decide +kernel
theorem dX7_rightTable_47 : decode cX7_rightTable 47 = .ok (.iconst (-1), 1) := by decide +kernel
theorem dX7_rightTable_48 : decode cX7_rightTable 48 = .ok (.ireturn, 1) := by decide +kernel
theorem dX7_declaredCount_0 : decode cX7_declaredCount 0 = .ok (.aload_n 0, 1) := by decide +kernel
theorem dX7_declaredCount_1 : decode cX7_declaredCount 1 = .ok (.getfield 19, 3) := by decide +kernel
theorem dX7_declaredCount_4 : decode cX7_declaredCount 4 = .ok (.getfield 90, 3) := by decide +kernel
theorem dX7_declaredCount_7 : decode cX7_declaredCount 7 = .ok (.getfield 214, 3) := by decide +kernel
theorem dX7_declaredCount_10 : decode cX7_declaredCount 10 = .ok (.ireturn, 1) := by decide +kernel
theorem dX7_declared_0 : decode cX7_declared 0 = .ok (.iload_n 1, 1) := by decide +kernel
theorem dX7_declared_1 : decode cX7_declared 1 = .ok (.ifCond .lt 32, 3) := by decide +kernel
theorem dX7_declared_4 : decode cX7_declared 4 = .ok (.iload_n 1, 1) := by decide +kernel
theorem dX7_declared_5 : decode cX7_declared 5 = .ok (.aload_n 0, 1) := by decide +kernel
theorem dX7_declared_6 : decode cX7_declared 6 = .ok (.getfield 19, 3) := by decide +kernel
theorem dX7_declared_9 : decode cX7_declared 9 = .ok (.getfield 90, 3) := by decide +kernel
theorem dX7_declared_12 : decode cX7_declared 12 = .ok (.getfield 214, 3) := by decide +kernel
theorem dX7_declared_15 : decode cX7_declared 15 = .ok (.if_icmp .ge 18, 3) := by decide +kernel
theorem dX7_declared_18 : decode cX7_declared 18 = .ok (.aload_n 0, 1) := by decide +kernel
theorem dX7_declared_19 : decode cX7_declared 19 = .ok (.getfield 19, 3) := by decide +kernel
theorem dX7_declared_22 : decode cX7_declared 22 = .ok (.getfield 90, 3) := by decide +kernel
theorem dX7_declared_25 : decode cX7_declared 25 = .ok (.getfield 217, 3) := by decide +kernel
theorem dX7_declared_28 : decode cX7_declared 28 = .ok (.iload_n 1, 1) := by decide +kernel
theorem dX7_declared_29 : decode cX7_declared 29 = .ok (.iaload, 1) := by decide +kernel
theorem dX7_declared_30 : decode cX7_declared 30 = .ok (.goto 4, 3) := by decide +kernel
theorem dX7_declared_33 : decode cX7_declared 33 = .ok (.iconst (-1), 1) := by decide +kernel
theorem dX7_declared_34 : decode cX7_declared 34 = .ok (.ireturn, 1) := by decide +kernel
theorem dX7_bring_0 : decode cX7_bring 0 = .ok (.aload_n 0, 1) := by decide +kernel
theorem dX7_bring_1 : decode cX7_bring 1 = .ok (.getfield 19, 3) := by decide +kernel
theorem dX7_bring_4 : decode cX7_bring 4 = .ok (.getfield 61, 3) := by decide +kernel
theorem dX7_bring_7 : decode cX7_bring 7 = .ok (.iconst 3, 1) := by decide +kernel
theorem dX7_bring_8 : decode cX7_bring 8 = .ok (.iload_n 1, 1) := by decide +kernel
theorem dX7_bring_9 : decode cX7_bring 9 = .ok (.invokevirtual 224, 3) := by decide +kernel
theorem dX7_bring_12 : decode cX7_bring 12 = .ok (.ifCond .ne 5, 3) := by decide +kernel
theorem dX7_bring_15 : decode cX7_bring 15 = .ok (.iconst (-1), 1) := by decide +kernel
theorem dX7_bring_16 : decode cX7_bring 16 = .ok (.ireturn, 1) := by decide +kernel
theorem dX7_bring_17 : decode cX7_bring 17 = .ok (.aload_n 0, 1) := by decide +kernel
theorem dX7_bring_18 : decode cX7_bring 18 = .ok (.getfield 19, 3) := by decide +kernel
theorem dX7_bring_21 : decode cX7_bring 21 = .ok (.getfield 90, 3) := by decide +kernel
theorem dX7_bring_24 : decode cX7_bring 24 = .ok (.getfield 122, 3) := by decide +kernel
theorem dX7_bring_27 : decode cX7_bring 27 = .ok (.iload_n 1, 1) := by decide +kernel
theorem dX7_bring_28 : decode cX7_bring 28 = .ok (.aaload, 1) := by decide +kernel
theorem dX7_bring_29 : decode cX7_bring 29 = .ok (.getfield 134, 3) := by decide +kernel
theorem dX7_bring_32 : decode cX7_bring 32 = .ok (.bipush (-3), 2) := by decide +kernel
theorem dX7_bring_34 : decode cX7_bring 34 = .ok (.if_icmp .eq 6, 3) := by decide +kernel
theorem dX7_bring_37 : decode cX7_bring 37 = .ok (.bipush (-6), 2) := by decide +kernel
theorem dX7_bring_39 : decode cX7_bring 39 = .ok (.ireturn, 1) := by decide +kernel
theorem dX7_bring_40 : decode cX7_bring 40 = .ok (.aload_n 0, 1) := by decide +kernel
theorem dX7_bring_41 : decode cX7_bring 41 = .ok (.getfield 26, 3) := by decide +kernel
theorem dX7_bring_44 : decode cX7_bring 44 = .ok (.aload_n 0, 1) := by decide +kernel
theorem dX7_bring_45 : decode cX7_bring 45 = .ok (.getfield 19, 3) := by decide +kernel
theorem dX7_bring_48 : decode cX7_bring 48 = .ok (.getfield 90, 3) := by decide +kernel
theorem dX7_bring_51 : decode cX7_bring 51 = .ok (.invokevirtual 242, 3) := by decide +kernel
theorem dX7_bring_54 : decode cX7_bring 54 = .ok (.aload_n 0, 1) := by decide +kernel
theorem dX7_bring_55 : decode cX7_bring 55 = .ok (.getfield 19, 3) := by decide +kernel
theorem dX7_bring_58 : decode cX7_bring 58 = .ok (.getfield 90, 3) := by decide +kernel
theorem dX7_bring_61 : decode cX7_bring 61 = .ok (.getfield 122, 3) := by decide +kernel
theorem dX7_bring_64 : decode cX7_bring 64 = .ok (.iload_n 1, 1) := by decide +kernel
theorem dX7_bring_65 : decode cX7_bring 65 = .ok (.aaload, 1) := by decide +kernel
theorem dX7_bring_66 : decode cX7_bring 66 = .ok (.bipush (-4), 2) := by decide +kernel
theorem dX7_bring_68 : decode cX7_bring 68 = .ok (.putfield 134, 3) := by decide +kernel
theorem dX7_bring_71 : decode cX7_bring 71 = .ok (.aload_n 0, 1) := by decide +kernel
theorem dX7_bring_72 : decode cX7_bring 72 = .ok (.getfield 19, 3) := by decide +kernel
theorem dX7_bring_75 : decode cX7_bring 75 = .ok (.invokevirtual 246, 3) := by decide +kernel
theorem dX7_bring_78 : decode cX7_bring 78 = .ok (.ireturn, 1) := by decide +kernel
theorem dX7_open_0 : decode cX7_open 0 = .ok (.aload_n 0, 1) := by decide +kernel
theorem dX7_open_1 : decode cX7_open 1 = .ok (.getfield 19, 3) := by decide +kernel
theorem dX7_open_4 : decode cX7_open 4 = .ok (.getfield 61, 3) := by decide +kernel
theorem dX7_open_7 : decode cX7_open 7 = .ok (.iconst 3, 1) := by decide +kernel
theorem dX7_open_8 : decode cX7_open 8 = .ok (.iload_n 1, 1) := by decide +kernel
theorem dX7_open_9 : decode cX7_open 9 = .ok (.invokevirtual 224, 3) := by decide +kernel
theorem dX7_open_12 : decode cX7_open 12 = .ok (.ifCond .eq 18, 3) := by decide +kernel
theorem dX7_open_15 : decode cX7_open 15 = .ok (.aload_n 0, 1) := by decide +kernel
theorem dX7_open_16 : decode cX7_open 16 = .ok (.getfield 19, 3) := by decide +kernel
theorem dX7_open_19 : decode cX7_open 19 = .ok (.getfield 61, 3) := by decide +kernel
theorem dX7_open_22 : decode cX7_open 22 = .ok (.iconst 4, 1) := by decide +kernel
theorem dX7_open_23 : decode cX7_open 23 = .ok (.iload_n 2, 1) := by decide +kernel
theorem dX7_open_24 : decode cX7_open 24 = .ok (.invokevirtual 224, 3) := by decide +kernel
theorem dX7_open_27 : decode cX7_open 27 = .ok (.ifCond .ne 5, 3) := by decide +kernel
theorem dX7_open_30 : decode cX7_open 30 = .ok (.iconst (-1), 1) := by decide +kernel
theorem dX7_open_31 : decode cX7_open 31 = .ok (.ireturn, 1) := by decide +kernel
theorem dX7_open_32 : decode cX7_open 32 = .ok (.aload_n 0, 1) := by decide +kernel
theorem dX7_open_33 : decode cX7_open 33 = .ok (.getfield 19, 3) := by decide +kernel
theorem dX7_open_36 : decode cX7_open 36 = .ok (.getfield 90, 3) := by decide +kernel
theorem dX7_open_39 : decode cX7_open 39 = .ok (.getfield 122, 3) := by decide +kernel
theorem dX7_open_42 : decode cX7_open 42 = .ok (.iload_n 1, 1) := by decide +kernel
theorem dX7_open_43 : decode cX7_open 43 = .ok (.aaload, 1) := by decide +kernel
theorem dX7_open_44 : decode cX7_open 44 = .ok (.astore_n 3, 1) := by decide +kernel
theorem dX7_open_45 : decode cX7_open 45 = .ok (.aload_n 3, 1) := by decide +kernel
theorem dX7_open_46 : decode cX7_open 46 = .ok (.getfield 134, 3) := by decide +kernel
theorem dX7_open_49 : decode cX7_open 49 = .ok (.bipush (-4), 2) := by decide +kernel
theorem dX7_open_51 : decode cX7_open 51 = .ok (.if_icmp .ne 19, 3) := by decide +kernel
theorem dX7_open_54 : decode cX7_open 54 = .ok (.aload_n 0, 1) := by decide +kernel
theorem dX7_open_55 : decode cX7_open 55 = .ok (.getfield 19, 3) := by decide +kernel
theorem dX7_open_58 : decode cX7_open 58 = .ok (.iload_n 2, 1) := by decide +kernel
theorem dX7_open_59 : decode cX7_open 59 = .ok (.invokevirtual 154, 3) := by decide +kernel
theorem dX7_open_62 : decode cX7_open 62 = .ok (.iconst (-1), 1) := by decide +kernel
theorem dX7_open_63 : decode cX7_open 63 = .ok (.if_icmp .ne 7, 3) := by decide +kernel
theorem dX7_open_66 : decode cX7_open 66 = .ok (.iconst 1, 1) := by decide +kernel
theorem dX7_open_67 : decode cX7_open 67 = .ok (.goto 4, 3) := by decide +kernel
theorem dX7_open_70 : decode cX7_open 70 = .ok (.iconst 0, 1) := by decide +kernel
theorem dX7_open_71 : decode cX7_open 71 = .ok (.istore 4, 2) := by decide +kernel
theorem dX7_open_73 : decode cX7_open 73 = .ok (.iload 4, 2) := by decide +kernel
theorem dX7_open_75 : decode cX7_open 75 = .ok (.ifCond .eq 25, 3) := by decide +kernel
theorem dX7_open_78 : decode cX7_open 78 = .ok (.aload_n 0, 1) := by decide +kernel
theorem dX7_open_79 : decode cX7_open 79 = .ok (.getfield 19, 3) := by decide +kernel
theorem dX7_open_82 : decode cX7_open 82 = .ok (.aload_n 0, 1) := by decide +kernel
theorem dX7_open_83 : decode cX7_open 83 = .ok (.getfield 19, 3) := by decide +kernel
theorem dX7_open_86 : decode cX7_open 86 = .ok (.getfield 61, 3) := by decide +kernel
theorem dX7_open_89 : decode cX7_open 89 = .ok (.getfield 116, 3) := by decide +kernel
theorem dX7_open_92 : decode cX7_open 92 = .ok (.iload_n 1, 1) := by decide +kernel
theorem dX7_open_93 : decode cX7_open 93 = .ok (.iaload, 1) := by decide +kernel
theorem dX7_open_94 : decode cX7_open 94 = .ok (.invokevirtual 249, 3) := by decide +kernel
theorem dX7_open_97 : decode cX7_open 97 = .ok (.ifCond .eq 6, 3) := by decide +kernel
theorem dX7_open_100 : decode cX7_open 100 = .ok (.bipush (-6), 2) := by decide +kernel
theorem dX7_open_102 : decode cX7_open 102 = .ok (.ireturn, 1) := by decide +kernel
theorem dX7_open_103 : decode cX7_open 103 = .ok (.aload_n 3, 1) := by decide +kernel
theorem dX7_open_104 : decode cX7_open 104 = .ok (.invokevirtual 144, 3) := by decide +kernel
theorem dX7_open_107 : decode cX7_open 107 = .ok (.ifCond .ne 6, 3) := by decide +kernel
theorem dX7_open_110 : decode cX7_open 110 = .ok (.bipush (-7), 2) := by decide +kernel
theorem dX7_open_112 : decode cX7_open 112 = .ok (.ireturn, 1) := by decide +kernel
theorem dX7_open_113 : decode cX7_open 113 = .ok (.aload_n 0, 1) := by decide +kernel
theorem dX7_open_114 : decode cX7_open 114 = .ok (.getfield 26, 3) := by decide +kernel
theorem dX7_open_117 : decode cX7_open 117 = .ok (.aload_n 0, 1) := by decide +kernel
theorem dX7_open_118 : decode cX7_open 118 = .ok (.getfield 19, 3) := by decide +kernel
theorem dX7_open_121 : decode cX7_open 121 = .ok (.getfield 90, 3) := by decide +kernel
theorem dX7_open_124 : decode cX7_open 124 = .ok (.invokevirtual 242, 3) := by decide +kernel
theorem dX7_open_127 : decode cX7_open 127 = .ok (.aload_n 3, 1) := by decide +kernel
theorem dX7_open_128 : decode cX7_open 128 = .ok (.iload_n 2, 1) := by decide +kernel
theorem dX7_open_129 : decode cX7_open 129 = .ok (.invokevirtual 252, 3) := by decide +kernel
theorem dX7_open_132 : decode cX7_open 132 = .ok (.ireturn, 1) := by decide +kernel
theorem dX7_countBox_0 : decode cX7_countBox 0 = .ok (.aload_n 0, 1) := by decide +kernel
theorem dX7_countBox_1 : decode cX7_countBox 1 = .ok (.getfield 19, 3) := by decide +kernel
theorem dX7_countBox_4 : decode cX7_countBox 4 = .ok (.getfield 61, 3) := by decide +kernel
theorem dX7_countBox_7 : decode cX7_countBox 7 = .ok (.iconst 4, 1) := by decide +kernel
theorem dX7_countBox_8 : decode cX7_countBox 8 = .ok (.iload_n 1, 1) := by decide +kernel
theorem dX7_countBox_9 : decode cX7_countBox 9 = .ok (.invokevirtual 224, 3) := by decide +kernel
theorem dX7_countBox_12 : decode cX7_countBox 12 = .ok (.ifCond .ne 5, 3) := by decide +kernel
theorem dX7_countBox_15 : decode cX7_countBox 15 = .ok (.iconst (-1), 1) := by decide +kernel
theorem dX7_countBox_16 : decode cX7_countBox 16 = .ok (.ireturn, 1) := by decide +kernel
theorem dX7_countBox_17 : decode cX7_countBox 17 = .ok (.aload_n 0, 1) := by decide +kernel
theorem dX7_countBox_18 : decode cX7_countBox 18 = .ok (.getfield 19, 3) := by decide +kernel
theorem dX7_countBox_21 : decode cX7_countBox 21 = .ok (.iload_n 1, 1) := by decide +kernel
theorem dX7_countBox_22 : decode cX7_countBox 22 = .ok (.invokevirtual 154, 3) := by decide +kernel
theorem dX7_countBox_25 : decode cX7_countBox 25 = .ok (.istore_n 2, 1) := by decide +kernel
theorem dX7_countBox_26 : decode cX7_countBox 26 = .ok (.iload_n 2, 1) := by decide +kernel
theorem dX7_countBox_27 : decode cX7_countBox 27 = .ok (.iconst (-1), 1) := by decide +kernel
theorem dX7_countBox_28 : decode cX7_countBox 28 = .ok (.if_icmp .ne 6, 3) := by decide +kernel
theorem dX7_countBox_31 : decode cX7_countBox 31 = .ok (.bipush (-6), 2) := by decide +kernel
theorem dX7_countBox_33 : decode cX7_countBox 33 = .ok (.ireturn, 1) := by decide +kernel
theorem dX7_countBox_34 : decode cX7_countBox 34 = .ok (.aload_n 0, 1) := by decide +kernel
theorem dX7_countBox_35 : decode cX7_countBox 35 = .ok (.getfield 19, 3) := by decide +kernel
theorem dX7_countBox_38 : decode cX7_countBox 38 = .ok (.getfield 90, 3) := by decide +kernel
theorem dX7_countBox_41 : decode cX7_countBox 41 = .ok (.getfield 122, 3) := by decide +kernel
theorem dX7_countBox_44 : decode cX7_countBox 44 = .ok (.iload_n 2, 1) := by decide +kernel
theorem dX7_countBox_45 : decode cX7_countBox 45 = .ok (.aaload, 1) := by decide +kernel
theorem dX7_countBox_46 : decode cX7_countBox 46 = .ok (.getfield 131, 3) := by decide +kernel
theorem dX7_countBox_49 : decode cX7_countBox 49 = .ok (.iconst 4, 1) := by decide +kernel
theorem dX7_countBox_50 : decode cX7_countBox 50 = .ok (.if_icmp .lt 6, 3) := by decide +kernel
theorem dX7_countBox_53 : decode cX7_countBox 53 = .ok (.bipush (-5), 2) := by decide +kernel
theorem dX7_countBox_55 : decode cX7_countBox 55 = .ok (.ireturn, 1) := by decide +kernel
theorem dX7_countBox_56 : decode cX7_countBox 56 = .ok (.aload_n 0, 1) := by decide +kernel
theorem dX7_countBox_57 : decode cX7_countBox 57 = .ok (.getfield 26, 3) := by decide +kernel
theorem dX7_countBox_60 : decode cX7_countBox 60 = .ok (.aload_n 0, 1) := by decide +kernel
theorem dX7_countBox_61 : decode cX7_countBox 61 = .ok (.getfield 19, 3) := by decide +kernel
theorem dX7_countBox_64 : decode cX7_countBox 64 = .ok (.getfield 90, 3) := by decide +kernel
theorem dX7_countBox_67 : decode cX7_countBox 67 = .ok (.invokevirtual 242, 3) := by decide +kernel
theorem dX7_countBox_70 : decode cX7_countBox 70 = .ok (.aload_n 0, 1) := by decide +kernel
theorem dX7_countBox_71 : decode cX7_countBox 71 = .ok (.getfield 19, 3) := by decide +kernel
theorem dX7_countBox_74 : decode cX7_countBox 74 = .ok (.iload_n 2, 1) := by decide +kernel
theorem dX7_countBox_75 : decode cX7_countBox 75 = .ok (.iload_n 1, 1) := by decide +kernel
theorem dX7_countBox_76 : decode cX7_countBox 76 = .ok (.invokevirtual 255, 3) := by decide +kernel
theorem dX7_countBox_79 : decode cX7_countBox 79 = .ok (.aload_n 0, 1) := by decide +kernel
theorem dX7_countBox_80 : decode cX7_countBox 80 = .ok (.getfield 19, 3) := by decide +kernel
theorem dX7_countBox_83 : decode cX7_countBox 83 = .ok (.getfield 90, 3) := by decide +kernel
theorem dX7_countBox_86 : decode cX7_countBox 86 = .ok (.getfield 122, 3) := by decide +kernel
theorem dX7_countBox_89 : decode cX7_countBox 89 = .ok (.iload_n 2, 1) := by decide +kernel
theorem dX7_countBox_90 : decode cX7_countBox 90 = .ok (.aaload, 1) := by decide +kernel
theorem dX7_countBox_91 : decode cX7_countBox 91 = .ok (.getfield 131, 3) := by decide +kernel
theorem dX7_countBox_94 : decode cX7_countBox 94 = .ok (.ireturn, 1) := by decide +kernel
theorem dX7_seal_0 : decode cX7_seal 0 = .ok (.aload_n 0, 1) := by decide +kernel
theorem dX7_seal_1 : decode cX7_seal 1 = .ok (.getfield 19, 3) := by decide +kernel
theorem dX7_seal_4 : decode cX7_seal 4 = .ok (.getfield 61, 3) := by decide +kernel
theorem dX7_seal_7 : decode cX7_seal 7 = .ok (.iconst 4, 1) := by decide +kernel
theorem dX7_seal_8 : decode cX7_seal 8 = .ok (.iload_n 1, 1) := by decide +kernel
theorem dX7_seal_9 : decode cX7_seal 9 = .ok (.invokevirtual 224, 3) := by decide +kernel
theorem dX7_seal_12 : decode cX7_seal 12 = .ok (.ifCond .ne 5, 3) := by decide +kernel
theorem dX7_seal_15 : decode cX7_seal 15 = .ok (.iconst (-1), 1) := by decide +kernel
theorem dX7_seal_16 : decode cX7_seal 16 = .ok (.ireturn, 1) := by decide +kernel
theorem dX7_seal_17 : decode cX7_seal 17 = .ok (.aload_n 0, 1) := by decide +kernel
theorem dX7_seal_18 : decode cX7_seal 18 = .ok (.getfield 19, 3) := by decide +kernel
theorem dX7_seal_21 : decode cX7_seal 21 = .ok (.iload_n 1, 1) := by decide +kernel
theorem dX7_seal_22 : decode cX7_seal 22 = .ok (.invokevirtual 154, 3) := by decide +kernel
theorem dX7_seal_25 : decode cX7_seal 25 = .ok (.istore_n 2, 1) := by decide +kernel
theorem dX7_seal_26 : decode cX7_seal 26 = .ok (.iload_n 2, 1) := by decide +kernel
theorem dX7_seal_27 : decode cX7_seal 27 = .ok (.iconst (-1), 1) := by decide +kernel
theorem dX7_seal_28 : decode cX7_seal 28 = .ok (.if_icmp .ne 6, 3) := by decide +kernel
theorem dX7_seal_31 : decode cX7_seal 31 = .ok (.bipush (-6), 2) := by decide +kernel
theorem dX7_seal_33 : decode cX7_seal 33 = .ok (.ireturn, 1) := by decide +kernel
theorem dX7_seal_34 : decode cX7_seal 34 = .ok (.aload_n 0, 1) := by decide +kernel
theorem dX7_seal_35 : decode cX7_seal 35 = .ok (.getfield 19, 3) := by decide +kernel
theorem dX7_seal_38 : decode cX7_seal 38 = .ok (.getfield 90, 3) := by decide +kernel
theorem dX7_seal_41 : decode cX7_seal 41 = .ok (.getfield 122, 3) := by decide +kernel
theorem dX7_seal_44 : decode cX7_seal 44 = .ok (.iload_n 2, 1) := by decide +kernel
theorem dX7_seal_45 : decode cX7_seal 45 = .ok (.aaload, 1) := by decide +kernel
theorem dX7_seal_46 : decode cX7_seal 46 = .ok (.getfield 148, 3) := by decide +kernel
theorem dX7_seal_49 : decode cX7_seal 49 = .ok (.bipush 12, 2) := by decide +kernel
theorem dX7_seal_51 : decode cX7_seal 51 = .ok (.if_icmp .lt 6, 3) := by decide +kernel
theorem dX7_seal_54 : decode cX7_seal 54 = .ok (.bipush (-5), 2) := by decide +kernel
theorem dX7_seal_56 : decode cX7_seal 56 = .ok (.ireturn, 1) := by decide +kernel
theorem dX7_seal_57 : decode cX7_seal 57 = .ok (.aload_n 0, 1) := by decide +kernel
theorem dX7_seal_58 : decode cX7_seal 58 = .ok (.getfield 26, 3) := by decide +kernel
theorem dX7_seal_61 : decode cX7_seal 61 = .ok (.aload_n 0, 1) := by decide +kernel
theorem dX7_seal_62 : decode cX7_seal 62 = .ok (.getfield 19, 3) := by decide +kernel
theorem dX7_seal_65 : decode cX7_seal 65 = .ok (.getfield 90, 3) := by decide +kernel
theorem dX7_seal_68 : decode cX7_seal 68 = .ok (.invokevirtual 242, 3) := by decide +kernel
theorem dX7_seal_71 : decode cX7_seal 71 = .ok (.aload_n 0, 1) := by decide +kernel
theorem dX7_seal_72 : decode cX7_seal 72 = .ok (.getfield 19, 3) := by decide +kernel
theorem dX7_seal_75 : decode cX7_seal 75 = .ok (.getfield 90, 3) := by decide +kernel
theorem dX7_seal_78 : decode cX7_seal 78 = .ok (.iload_n 2, 1) := by decide +kernel
theorem dX7_seal_79 : decode cX7_seal 79 = .ok (.invokevirtual 258, 3) := by decide +kernel
theorem dX7_seal_82 : decode cX7_seal 82 = .ok (.aload_n 0, 1) := by decide +kernel
theorem dX7_seal_83 : decode cX7_seal 83 = .ok (.getfield 19, 3) := by decide +kernel
theorem dX7_seal_86 : decode cX7_seal 86 = .ok (.getfield 90, 3) := by decide +kernel
theorem dX7_seal_89 : decode cX7_seal 89 = .ok (.getfield 122, 3) := by decide +kernel
theorem dX7_seal_92 : decode cX7_seal 92 = .ok (.iload_n 2, 1) := by decide +kernel
theorem dX7_seal_93 : decode cX7_seal 93 = .ok (.aaload, 1) := by decide +kernel
theorem dX7_seal_94 : decode cX7_seal 94 = .ok (.getfield 126, 3) := by decide +kernel
theorem dX7_seal_97 : decode cX7_seal 97 = .ok (.ireturn, 1) := by decide +kernel
theorem dX7_tamper_0 : decode cX7_tamper 0 = .ok (.aload_n 0, 1) := by decide +kernel
theorem dX7_tamper_1 : decode cX7_tamper 1 = .ok (.getfield 19, 3) := by decide +kernel
theorem dX7_tamper_4 : decode cX7_tamper 4 = .ok (.getfield 61, 3) := by decide +kernel
theorem dX7_tamper_7 : decode cX7_tamper 7 = .ok (.iconst 3, 1) := by decide +kernel
theorem dX7_tamper_8 : decode cX7_tamper 8 = .ok (.iload_n 1, 1) := by decide +kernel
theorem dX7_tamper_9 : decode cX7_tamper 9 = .ok (.invokevirtual 224, 3) := by decide +kernel
theorem dX7_tamper_12 : decode cX7_tamper 12 = .ok (.ifCond .ne 5, 3) := by decide +kernel
theorem dX7_tamper_15 : decode cX7_tamper 15 = .ok (.iconst (-1), 1) := by decide +kernel
theorem dX7_tamper_16 : decode cX7_tamper 16 = .ok (.ireturn, 1) := by decide +kernel
theorem dX7_tamper_17 : decode cX7_tamper 17 = .ok (.iload_n 2, 1) := by decide +kernel
theorem dX7_tamper_18 : decode cX7_tamper 18 = .ok (.iconst 1, 1) := by decide +kernel
theorem dX7_tamper_19 : decode cX7_tamper 19 = .ok (.if_icmp .lt 10, 3) := by decide +kernel
theorem dX7_tamper_22 : decode cX7_tamper 22 = .ok (.iload_n 2, 1) := by decide +kernel
theorem dX7_tamper_23 : decode cX7_tamper 23 = .ok (.sipush 9999, 3) := by decide +kernel
theorem dX7_tamper_26 : decode cX7_tamper 26 = .ok (.if_icmp .le 6, 3) := by decide +kernel
theorem dX7_tamper_29 : decode cX7_tamper 29 = .ok (.bipush (-2), 2) := by decide +kernel
theorem dX7_tamper_31 : decode cX7_tamper 31 = .ok (.ireturn, 1) := by decide +kernel
theorem dX7_tamper_32 : decode cX7_tamper 32 = .ok (.aload_n 0, 1) := by decide +kernel
theorem dX7_tamper_33 : decode cX7_tamper 33 = .ok (.getfield 19, 3) := by decide +kernel
theorem dX7_tamper_36 : decode cX7_tamper 36 = .ok (.getfield 90, 3) := by decide +kernel
theorem dX7_tamper_39 : decode cX7_tamper 39 = .ok (.getfield 122, 3) := by decide +kernel
theorem dX7_tamper_42 : decode cX7_tamper 42 = .ok (.iload_n 1, 1) := by decide +kernel
theorem dX7_tamper_43 : decode cX7_tamper 43 = .ok (.aaload, 1) := by decide +kernel
theorem dX7_tamper_44 : decode cX7_tamper 44 = .ok (.astore_n 3, 1) := by decide +kernel
theorem dX7_tamper_45 : decode cX7_tamper 45 = .ok (.aload_n 3, 1) := by decide +kernel
theorem dX7_tamper_46 : decode cX7_tamper 46 = .ok (.invokevirtual 261, 3) := by decide +kernel
theorem dX7_tamper_49 : decode cX7_tamper 49 = .ok (.ifCond .eq 6, 3) := by decide +kernel
theorem dX7_tamper_52 : decode cX7_tamper 52 = .ok (.bipush (-6), 2) := by decide +kernel
theorem dX7_tamper_54 : decode cX7_tamper 54 = .ok (.ireturn, 1) := by decide +kernel
theorem dX7_tamper_55 : decode cX7_tamper 55 = .ok (.aload_n 0, 1) := by decide +kernel
theorem dX7_tamper_56 : decode cX7_tamper 56 = .ok (.getfield 26, 3) := by decide +kernel
theorem dX7_tamper_59 : decode cX7_tamper 59 = .ok (.aload_n 0, 1) := by decide +kernel
theorem dX7_tamper_60 : decode cX7_tamper 60 = .ok (.getfield 19, 3) := by decide +kernel
theorem dX7_tamper_63 : decode cX7_tamper 63 = .ok (.getfield 90, 3) := by decide +kernel
theorem dX7_tamper_66 : decode cX7_tamper 66 = .ok (.invokevirtual 242, 3) := by decide +kernel
theorem dX7_tamper_69 : decode cX7_tamper 69 = .ok (.aload_n 3, 1) := by decide +kernel
theorem dX7_tamper_70 : decode cX7_tamper 70 = .ok (.getfield 126, 3) := by decide +kernel
theorem dX7_tamper_73 : decode cX7_tamper 73 = .ok (.istore 4, 2) := by decide +kernel
theorem dX7_tamper_75 : decode cX7_tamper 75 = .ok (.aload_n 3, 1) := by decide +kernel
theorem dX7_tamper_76 : decode cX7_tamper 76 = .ok (.iload_n 2, 1) := by decide +kernel
theorem dX7_tamper_77 : decode cX7_tamper 77 = .ok (.putfield 126, 3) := by decide +kernel
theorem dX7_tamper_80 : decode cX7_tamper 80 = .ok (.iload 4, 2) := by decide +kernel
theorem dX7_tamper_82 : decode cX7_tamper 82 = .ok (.ireturn, 1) := by decide +kernel
theorem dX7_accept_0 : decode cX7_accept 0 = .ok (.aload_n 0, 1) := by decide +kernel
theorem dX7_accept_1 : decode cX7_accept 1 = .ok (.getfield 19, 3) := by decide +kernel
theorem dX7_accept_4 : decode cX7_accept 4 = .ok (.getfield 61, 3) := by decide +kernel
theorem dX7_accept_7 : decode cX7_accept 7 = .ok (.iconst 3, 1) := by decide +kernel
theorem dX7_accept_8 : decode cX7_accept 8 = .ok (.iload_n 1, 1) := by decide +kernel
theorem dX7_accept_9 : decode cX7_accept 9 = .ok (.invokevirtual 224, 3) := by decide +kernel
theorem dX7_accept_12 : decode cX7_accept 12 = .ok (.ifCond .ne 5, 3) := by decide +kernel
theorem dX7_accept_15 : decode cX7_accept 15 = .ok (.iconst (-1), 1) := by decide +kernel
theorem dX7_accept_16 : decode cX7_accept 16 = .ok (.ireturn, 1) := by decide +kernel
theorem dX7_accept_17 : decode cX7_accept 17 = .ok (.aload_n 0, 1) := by decide +kernel
theorem dX7_accept_18 : decode cX7_accept 18 = .ok (.getfield 19, 3) := by decide +kernel
theorem dX7_accept_21 : decode cX7_accept 21 = .ok (.getfield 90, 3) := by decide +kernel
theorem dX7_accept_24 : decode cX7_accept 24 = .ok (.getfield 122, 3) := by decide +kernel
theorem dX7_accept_27 : decode cX7_accept 27 = .ok (.iload_n 1, 1) := by decide +kernel
theorem dX7_accept_28 : decode cX7_accept 28 = .ok (.aaload, 1) := by decide +kernel
theorem dX7_accept_29 : decode cX7_accept 29 = .ok (.astore_n 2, 1) := by decide +kernel
theorem dX7_accept_30 : decode cX7_accept 30 = .ok (.aload_n 2, 1) := by decide +kernel
theorem dX7_accept_31 : decode cX7_accept 31 = .ok (.invokevirtual 261, 3) := by decide +kernel
theorem dX7_accept_34 : decode cX7_accept 34 = .ok (.ifCond .ne 10, 3) := by decide +kernel
theorem dX7_accept_37 : decode cX7_accept 37 = .ok (.aload_n 2, 1) := by decide +kernel
theorem dX7_accept_38 : decode cX7_accept 38 = .ok (.invokevirtual 144, 3) := by decide +kernel
theorem dX7_accept_41 : decode cX7_accept 41 = .ok (.ifCond .eq 6, 3) := by decide +kernel
theorem dX7_accept_44 : decode cX7_accept 44 = .ok (.bipush (-6), 2) := by decide +kernel
theorem dX7_accept_46 : decode cX7_accept 46 = .ok (.ireturn, 1) := by decide +kernel
theorem dX7_accept_47 : decode cX7_accept 47 = .ok (.aload_n 2, 1) := by decide +kernel
theorem dX7_accept_48 : decode cX7_accept 48 = .ok (.getfield 148, 3) := by decide +kernel
theorem dX7_accept_51 : decode cX7_accept 51 = .ok (.bipush 12, 2) := by decide +kernel
theorem dX7_accept_53 : decode cX7_accept 53 = .ok (.if_icmp .lt 6, 3) := by decide +kernel
theorem dX7_accept_56 : decode cX7_accept 56 = .ok (.bipush (-5), 2) := by decide +kernel
theorem dX7_accept_58 : decode cX7_accept 58 = .ok (.ireturn, 1) := by decide +kernel
theorem dX7_accept_59 : decode cX7_accept 59 = .ok (.aload_n 0, 1) := by decide +kernel
theorem dX7_accept_60 : decode cX7_accept 60 = .ok (.getfield 26, 3) := by decide +kernel
theorem dX7_accept_63 : decode cX7_accept 63 = .ok (.aload_n 0, 1) := by decide +kernel
theorem dX7_accept_64 : decode cX7_accept 64 = .ok (.getfield 19, 3) := by decide +kernel
theorem dX7_accept_67 : decode cX7_accept 67 = .ok (.getfield 90, 3) := by decide +kernel
theorem dX7_accept_70 : decode cX7_accept 70 = .ok (.invokevirtual 242, 3) := by decide +kernel
theorem dX7_accept_73 : decode cX7_accept 73 = .ok (.aload_n 2, 1) := by decide +kernel
theorem dX7_accept_74 : decode cX7_accept 74 = .ok (.aload_n 2, 1) := by decide +kernel
theorem dX7_accept_75 : decode cX7_accept 75 = .ok (.getfield 126, 3) := by decide +kernel
theorem dX7_accept_78 : decode cX7_accept 78 = .ok (.invokevirtual 264, 3) := by decide +kernel
theorem dX7_accept_81 : decode cX7_accept 81 = .ok (.aload_n 2, 1) := by decide +kernel
theorem dX7_accept_82 : decode cX7_accept 82 = .ok (.getfield 148, 3) := by decide +kernel
theorem dX7_accept_85 : decode cX7_accept 85 = .ok (.ireturn, 1) := by decide +kernel
theorem dX7_declare_0 : decode cX7_declare 0 = .ok (.aload_n 0, 1) := by decide +kernel
theorem dX7_declare_1 : decode cX7_declare 1 = .ok (.getfield 19, 3) := by decide +kernel
theorem dX7_declare_4 : decode cX7_declare 4 = .ok (.invokevirtual 211, 3) := by decide +kernel
theorem dX7_declare_7 : decode cX7_declare 7 = .ok (.istore_n 1, 1) := by decide +kernel
theorem dX7_declare_8 : decode cX7_declare 8 = .ok (.iload_n 1, 1) := by decide +kernel
theorem dX7_declare_9 : decode cX7_declare 9 = .ok (.iconst (-1), 1) := by decide +kernel
theorem dX7_declare_10 : decode cX7_declare 10 = .ok (.if_icmp .ne 5, 3) := by decide +kernel
theorem dX7_declare_13 : decode cX7_declare 13 = .ok (.iconst (-1), 1) := by decide +kernel
theorem dX7_declare_14 : decode cX7_declare 14 = .ok (.ireturn, 1) := by decide +kernel
theorem dX7_declare_15 : decode cX7_declare 15 = .ok (.aload_n 0, 1) := by decide +kernel
theorem dX7_declare_16 : decode cX7_declare 16 = .ok (.getfield 26, 3) := by decide +kernel
theorem dX7_declare_19 : decode cX7_declare 19 = .ok (.aload_n 0, 1) := by decide +kernel
theorem dX7_declare_20 : decode cX7_declare 20 = .ok (.getfield 19, 3) := by decide +kernel
theorem dX7_declare_23 : decode cX7_declare 23 = .ok (.getfield 90, 3) := by decide +kernel
theorem dX7_declare_26 : decode cX7_declare 26 = .ok (.invokevirtual 242, 3) := by decide +kernel
theorem dX7_declare_29 : decode cX7_declare 29 = .ok (.aload_n 0, 1) := by decide +kernel
theorem dX7_declare_30 : decode cX7_declare 30 = .ok (.getfield 19, 3) := by decide +kernel
theorem dX7_declare_33 : decode cX7_declare 33 = .ok (.getfield 90, 3) := by decide +kernel
theorem dX7_declare_36 : decode cX7_declare 36 = .ok (.iload_n 1, 1) := by decide +kernel
theorem dX7_declare_37 : decode cX7_declare 37 = .ok (.invokevirtual 267, 3) := by decide +kernel
theorem dX7_declare_40 : decode cX7_declare 40 = .ok (.iload_n 1, 1) := by decide +kernel
theorem dX7_declare_41 : decode cX7_declare 41 = .ok (.ireturn, 1) := by decide +kernel
theorem dX7_work_0 : decode cX7_work 0 = .ok (.aload_n 0, 1) := by decide +kernel
theorem dX7_work_1 : decode cX7_work 1 = .ok (.getfield 26, 3) := by decide +kernel
theorem dX7_work_4 : decode cX7_work 4 = .ok (.aload_n 0, 1) := by decide +kernel
theorem dX7_work_5 : decode cX7_work 5 = .ok (.getfield 19, 3) := by decide +kernel
theorem dX7_work_8 : decode cX7_work 8 = .ok (.getfield 90, 3) := by decide +kernel
theorem dX7_work_11 : decode cX7_work 11 = .ok (.invokevirtual 242, 3) := by decide +kernel
theorem dX7_work_14 : decode cX7_work 14 = .ok (.aload_n 0, 1) := by decide +kernel
theorem dX7_work_15 : decode cX7_work 15 = .ok (.getfield 19, 3) := by decide +kernel
theorem dX7_work_18 : decode cX7_work 18 = .ok (.aload_n 0, 1) := by decide +kernel
theorem dX7_work_19 : decode cX7_work 19 = .ok (.getfield 19, 3) := by decide +kernel
theorem dX7_work_22 : decode cX7_work 22 = .ok (.invokevirtual 201, 3) := by decide +kernel
theorem dX7_work_25 : decode cX7_work 25 = .ok (.invokevirtual 270, 3) := by decide +kernel
theorem dX7_work_28 : decode cX7_work 28 = .ok (.iconst 0, 1) := by decide +kernel
theorem dX7_work_29 : decode cX7_work 29 = .ok (.istore_n 1, 1) := by decide +kernel
theorem dX7_work_30 : decode cX7_work 30 = .ok (.iconst 0, 1) := by decide +kernel
theorem dX7_work_31 : decode cX7_work 31 = .ok (.istore_n 2, 1) := by decide +kernel
theorem dX7_work_32 : decode cX7_work 32 = .ok (.iload_n 2, 1) := by decide +kernel
theorem dX7_work_33 : decode cX7_work 33 = .ok (.aload_n 0, 1) := by decide +kernel
theorem dX7_work_34 : decode cX7_work 34 = .ok (.getfield 19, 3) := by decide +kernel
theorem dX7_work_37 : decode cX7_work 37 = .ok (.getfield 61, 3) := by decide +kernel
theorem dX7_work_40 : decode cX7_work 40 = .ok (.getfield 76, 3) := by decide +kernel
theorem dX7_work_43 : decode cX7_work 43 = .ok (.iconst 4, 1) := by decide +kernel
theorem dX7_work_44 : decode cX7_work 44 = .ok (.iaload, 1) := by decide +kernel
theorem dX7_work_45 : decode cX7_work 45 = .ok (.if_icmp .ge 20, 3) := by decide +kernel
theorem dX7_work_48 : decode cX7_work 48 = .ok (.iload_n 1, 1) := by decide +kernel
theorem dX7_work_49 : decode cX7_work 49 = .ok (.aload_n 0, 1) := by decide +kernel
theorem dX7_work_50 : decode cX7_work 50 = .ok (.getfield 19, 3) := by decide +kernel
theorem dX7_work_53 : decode cX7_work 53 = .ok (.iload_n 2, 1) := by decide +kernel
theorem dX7_work_54 : decode cX7_work 54 = .ok (.invokevirtual 273, 3) := by decide +kernel
theorem dX7_work_57 : decode cX7_work 57 = .ok (.iadd, 1) := by decide +kernel
theorem dX7_work_58 : decode cX7_work 58 = .ok (.istore_n 1, 1) := by decide +kernel
theorem dX7_work_59 : decode cX7_work 59 = .ok (.iinc 2 1, 3) := by decide +kernel
theorem dX7_work_62 : decode cX7_work 62 = .ok (.goto (-30), 3) := by decide +kernel
theorem dX7_work_65 : decode cX7_work 65 = .ok (.iload_n 1, 1) := by decide +kernel
theorem dX7_work_66 : decode cX7_work 66 = .ok (.ireturn, 1) := by decide +kernel
theorem dX7_setSetting_0 : decode cX7_setSetting 0 = .ok (.iload_n 1, 1) := by decide +kernel
theorem dX7_setSetting_1 : decode cX7_setSetting 1 = .ok (.invokestatic 86, 3) := by decide +kernel
theorem dX7_setSetting_4 : decode cX7_setSetting 4 = .ok (.ifCond .eq 15, 3) := by decide +kernel
theorem dX7_setSetting_7 : decode cX7_setSetting 7 = .ok (.iload_n 2, 1) := by decide +kernel
theorem dX7_setSetting_8 : decode cX7_setSetting 8 = .ok (.ifCond .lt 11, 3) := by decide +kernel
theorem dX7_setSetting_11 : decode cX7_setSetting 11 = .ok (.iload_n 2, 1) := by decide +kernel
theorem dX7_setSetting_12 : decode cX7_setSetting 12 = .ok (.iload_n 1, 1) := by decide +kernel
theorem dX7_setSetting_13 : decode cX7_setSetting 13 = .ok (.invokestatic 276, 3) := by decide +kernel
theorem dX7_setSetting_16 : decode cX7_setSetting 16 = .ok (.if_icmp .le 6, 3) := by decide +kernel
theorem dX7_setSetting_19 : decode cX7_setSetting 19 = .ok (.bipush (-2), 2) := by decide +kernel
theorem dX7_setSetting_21 : decode cX7_setSetting 21 = .ok (.ireturn, 1) := by decide +kernel
theorem dX7_setSetting_22 : decode cX7_setSetting 22 = .ok (.aload_n 0, 1) := by decide +kernel
theorem dX7_setSetting_23 : decode cX7_setSetting 23 = .ok (.getfield 26, 3) := by decide +kernel
theorem dX7_setSetting_26 : decode cX7_setSetting 26 = .ok (.aload_n 0, 1) := by decide +kernel
theorem dX7_setSetting_27 : decode cX7_setSetting 27 = .ok (.getfield 19, 3) := by decide +kernel
theorem dX7_setSetting_30 : decode cX7_setSetting 30 = .ok (.getfield 90, 3) := by decide +kernel
theorem dX7_setSetting_33 : decode cX7_setSetting 33 = .ok (.invokevirtual 242, 3) := by decide +kernel
theorem dX7_setSetting_36 : decode cX7_setSetting 36 = .ok (.aload_n 0, 1) := by decide +kernel
theorem dX7_setSetting_37 : decode cX7_setSetting 37 = .ok (.getfield 19, 3) := by decide +kernel
theorem dX7_setSetting_40 : decode cX7_setSetting 40 = .ok (.getfield 90, 3) := by decide +kernel
theorem dX7_setSetting_43 : decode cX7_setSetting 43 = .ok (.getfield 94, 3) := by decide +kernel
theorem dX7_setSetting_46 : decode cX7_setSetting 46 = .ok (.iload_n 1, 1) := by decide +kernel
theorem dX7_setSetting_47 : decode cX7_setSetting 47 = .ok (.iaload, 1) := by decide +kernel
theorem dX7_setSetting_48 : decode cX7_setSetting 48 = .ok (.istore_n 3, 1) := by decide +kernel
theorem dX7_setSetting_49 : decode cX7_setSetting 49 = .ok (.aload_n 0, 1) := by decide +kernel
theorem dX7_setSetting_50 : decode cX7_setSetting 50 = .ok (.getfield 19, 3) := by decide +kernel
theorem dX7_setSetting_53 : decode cX7_setSetting 53 = .ok (.getfield 90, 3) := by decide +kernel
theorem dX7_setSetting_56 : decode cX7_setSetting 56 = .ok (.getfield 94, 3) := by decide +kernel
theorem dX7_setSetting_59 : decode cX7_setSetting 59 = .ok (.iload_n 1, 1) := by decide +kernel
theorem dX7_setSetting_60 : decode cX7_setSetting 60 = .ok (.iload_n 2, 1) := by decide +kernel
theorem dX7_setSetting_61 : decode cX7_setSetting 61 = .ok (.iastore, 1) := by decide +kernel
theorem dX7_setSetting_62 : decode cX7_setSetting 62 = .ok (.iload_n 3, 1) := by decide +kernel
theorem dX7_setSetting_63 : decode cX7_setSetting 63 = .ok (.ireturn, 1) := by decide +kernel
theorem dX7_demand_0 : decode cX7_demand 0 = .ok (.aload_n 0, 1) := by decide +kernel
theorem dX7_demand_1 : decode cX7_demand 1 = .ok (.getfield 19, 3) := by decide +kernel
theorem dX7_demand_4 : decode cX7_demand 4 = .ok (.getfield 61, 3) := by decide +kernel
theorem dX7_demand_7 : decode cX7_demand 7 = .ok (.iload_n 1, 1) := by decide +kernel
theorem dX7_demand_8 : decode cX7_demand 8 = .ok (.iload_n 2, 1) := by decide +kernel
theorem dX7_demand_9 : decode cX7_demand 9 = .ok (.invokevirtual 224, 3) := by decide +kernel
theorem dX7_demand_12 : decode cX7_demand 12 = .ok (.ifCond .ne 14, 3) := by decide +kernel
theorem dX7_demand_15 : decode cX7_demand 15 = .ok (.new 306, 3) := by decide +kernel
theorem dX7_demand_18 : decode cX7_demand 18 = .ok (.dup, 1) := by decide +kernel
theorem dX7_demand_19 : decode cX7_demand 19 = .ok (.ldc_w 308, 3) := by decide +kernel
theorem dX7_demand_22 : decode cX7_demand 22 = .ok (.invokespecial 310, 3) := by decide +kernel
theorem dX7_demand_25 : decode cX7_demand 25 = .ok (.athrow, 1) := by decide +kernel
theorem dX7_demand_26 : decode cX7_demand 26 = .ok (.return_, 1) := by decide +kernel
theorem dX7_isSetting_0 : decode cX7_isSetting 0 = .ok (.iload_n 0, 1) := by decide +kernel
theorem dX7_isSetting_1 : decode cX7_isSetting 1 = .ok (.ifCond .eq 8, 3) := by decide +kernel
theorem dX7_isSetting_4 : decode cX7_isSetting 4 = .ok (.iload_n 0, 1) := by decide +kernel
theorem dX7_isSetting_5 : decode cX7_isSetting 5 = .ok (.iconst 1, 1) := by decide +kernel
theorem dX7_isSetting_6 : decode cX7_isSetting 6 = .ok (.if_icmp .ne 7, 3) := by decide +kernel
theorem dX7_isSetting_9 : decode cX7_isSetting 9 = .ok (.iconst 1, 1) := by decide +kernel
theorem dX7_isSetting_10 : decode cX7_isSetting 10 = .ok (.goto 4, 3) := by decide +kernel
theorem dX7_isSetting_13 : decode cX7_isSetting 13 = .ok (.iconst 0, 1) := by decide +kernel
theorem dX7_isSetting_14 : decode cX7_isSetting 14 = .ok (.ireturn, 1) := by decide +kernel
theorem dX7_mostOf_0 : decode cX7_mostOf 0 = .ok (.iload_n 0, 1) := by decide +kernel
theorem dX7_mostOf_1 : decode cX7_mostOf 1 = .ok (.ifCond .ne 8, 3) := by decide +kernel
theorem dX7_mostOf_4 : decode cX7_mostOf 4 = .ok (.bipush 50, 2) := by decide +kernel
theorem dX7_mostOf_6 : decode cX7_mostOf 6 = .ok (.goto 5, 3) := by decide +kernel
theorem dX7_mostOf_9 : decode cX7_mostOf 9 = .ok (.bipush 9, 2) := by decide +kernel
theorem dX7_mostOf_11 : decode cX7_mostOf 11 = .ok (.ireturn, 1) := by decide +kernel
