theorem dX8_init_0 : decode cX8_init 0 = .ok (.aload_n 0, 1) := by decide +kernel
theorem dX8_init_1 : decode cX8_init 1 = .ok (.invokespecial 1, 3) := by decide +kernel
theorem dX8_init_4 : decode cX8_init 4 = .ok (.aload_n 0, 1) := by decide +kernel
theorem dX8_init_5 : decode cX8_init 5 = .ok (.sipush 900, 3) := by decide +kernel
theorem dX8_init_8 : decode cX8_init 8 = .ok (.newarray .int, 2) := by decide +kernel
theorem dX8_init_10 : decode cX8_init 10 = .ok (.putfield 7, 3) := by decide +kernel
theorem dX8_init_13 : decode cX8_init 13 = .ok (.aload_n 0, 1) := by decide +kernel
theorem dX8_init_14 : decode cX8_init 14 = .ok (.sipush 144, 3) := by decide +kernel
theorem dX8_init_17 : decode cX8_init 17 = .ok (.newarray .int, 2) := by decide +kernel
theorem dX8_init_19 : decode cX8_init 19 = .ok (.putfield 13, 3) := by decide +kernel
theorem dX8_init_22 : decode cX8_init 22 = .ok (.aload_n 0, 1) := by decide +kernel
theorem dX8_init_23 : decode cX8_init 23 = .ok (.sipush 144, 3) := by decide +kernel
theorem dX8_init_26 : decode cX8_init 26 = .ok (.newarray .int, 2) := by decide +kernel
theorem dX8_init_28 : decode cX8_init 28 = .ok (.putfield 16, 3) := by decide +kernel
theorem dX8_init_31 : decode cX8_init 31 = .ok (.aload_n 0, 1) := by decide +kernel
theorem dX8_init_32 : decode cX8_init 32 = .ok (.sipush 538, 3) := by decide +kernel
theorem dX8_init_35 : decode cX8_init 35 = .ok (.newarray .int, 2) := by decide +kernel
theorem dX8_init_37 : decode cX8_init 37 = .ok (.putfield 19, 3) := by decide +kernel
theorem dX8_init_40 : decode cX8_init 40 = .ok (.aload_n 0, 1) := by decide +kernel
theorem dX8_init_41 : decode cX8_init 41 = .ok (.sipush 538, 3) := by decide +kernel
theorem dX8_init_44 : decode cX8_init 44 = .ok (.newarray .int, 2) := by decide +kernel
theorem dX8_init_46 : decode cX8_init 46 = .ok (.putfield 22, 3) := by decide +kernel
theorem dX8_init_49 : decode cX8_init 49 = .ok (.aload_n 0, 1) := by decide +kernel
theorem dX8_init_50 : decode cX8_init 50 = .ok (.sipush 5380, 3) := by decide +kernel
theorem dX8_init_53 : decode cX8_init 53 = .ok (.newarray .int, 2) := by decide +kernel
theorem dX8_init_55 : decode cX8_init 55 = .ok (.putfield 25, 3) := by decide +kernel
theorem dX8_init_58 : decode cX8_init 58 = .ok (.aload_n 0, 1) := by decide +kernel
theorem dX8_init_59 : decode cX8_init 59 = .ok (.iconst (-1), 1) := by decide +kernel
theorem dX8_init_60 : decode cX8_init 60 = .ok (.putfield 28, 3) := by decide +kernel
theorem dX8_init_63 : decode cX8_init 63 = .ok (.aload_n 0, 1) := by decide +kernel
theorem dX8_init_64 : decode cX8_init 64 = .ok (.bipush 100, 2) := by decide +kernel
theorem dX8_init_66 : decode cX8_init 66 = .ok (.newarray .int, 2) := by decide +kernel
theorem dX8_init_68 : decode cX8_init 68 = .ok (.putfield 32, 3) := by decide +kernel
theorem dX8_init_71 : decode cX8_init 71 = .ok (.aload_n 0, 1) := by decide +kernel
theorem dX8_init_72 : decode cX8_init 72 = .ok (.invokevirtual 35, 3) := by decide +kernel
theorem dX8_init_75 : decode cX8_init 75 = .ok (.return_, 1) := by decide +kernel
theorem dX8_thrown_0 : decode cX8_thrown 0 = .ok (.aload_n 0, 1) := by decide +kernel
theorem dX8_thrown_1 : decode cX8_thrown 1 = .ok (.getfield 38, 3) := by decide +kernel
theorem dX8_thrown_4 : decode cX8_thrown 4 = .ok (.ireturn, 1) := by decide +kernel
theorem dX8_feed_0 : decode cX8_feed 0 = .ok (.aload_n 0, 1) := by decide +kernel
theorem dX8_feed_1 : decode cX8_feed 1 = .ok (.iconst 0, 1) := by decide +kernel
theorem dX8_feed_2 : decode cX8_feed 2 = .ok (.putfield 38, 3) := by decide +kernel
theorem dX8_feed_5 : decode cX8_feed 5 = .ok (.aload_n 0, 1) := by decide +kernel
theorem dX8_feed_6 : decode cX8_feed 6 = .ok (.getfield 41, 3) := by decide +kernel
theorem dX8_feed_9 : decode cX8_feed 9 = .ok (.bipush 20, 2) := by decide +kernel
theorem dX8_feed_11 : decode cX8_feed 11 = .ok (.iadd, 1) := by decide +kernel
theorem dX8_feed_12 : decode cX8_feed 12 = .ok (.sipush 900, 3) := by decide +kernel
theorem dX8_feed_15 : decode cX8_feed 15 = .ok (.if_icmp .le 6, 3) := by decide +kernel
theorem dX8_feed_18 : decode cX8_feed 18 = .ok (.bipush (-5), 2) := by decide +kernel
theorem dX8_feed_20 : decode cX8_feed 20 = .ok (.ireturn, 1) := by decide +kernel
theorem dX8_feed_21 : decode cX8_feed 21 = .ok (.iconst 0, 1) := by decide +kernel
theorem dX8_feed_22 : decode cX8_feed 22 = .ok (.istore 6, 2) := by decide +kernel
theorem dX8_feed_24 : decode cX8_feed 24 = .ok (.iload 6, 2) := by decide +kernel
theorem dX8_feed_26 : decode cX8_feed 26 = .ok (.bipush 20, 2) := by decide +kernel
theorem dX8_feed_28 : decode cX8_feed 28 = .ok (.if_icmp .ge 86, 3) := by decide +kernel
theorem dX8_feed_31 : decode cX8_feed 31 = .ok (.iload 6, 2) := by decide +kernel
theorem dX8_feed_33 : decode cX8_feed 33 = .ok (.iconst 4, 1) := by decide +kernel
theorem dX8_feed_34 : decode cX8_feed 34 = .ok (.if_icmp .ge 7, 3) := by decide +kernel
theorem dX8_feed_37 : decode cX8_feed 37 = .ok (.iload_n 1, 1) := by decide +kernel
theorem dX8_feed_38 : decode cX8_feed 38 = .ok (.goto 39, 3) := by decide +kernel
theorem dX8_feed_41 : decode cX8_feed 41 = .ok (.iload 6, 2) := by decide +kernel
theorem dX8_feed_43 : decode cX8_feed 43 = .ok (.bipush 8, 2) := by decide +kernel
theorem dX8_feed_45 : decode cX8_feed 45 = .ok (.if_icmp .ge 7, 3) := by decide +kernel
theorem dX8_feed_48 : decode cX8_feed 48 = .ok (.iload_n 2, 1) := by decide +kernel
theorem dX8_feed_49 : decode cX8_feed 49 = .ok (.goto 28, 3) := by decide +kernel
theorem dX8_feed_52 : decode cX8_feed 52 = .ok (.iload 6, 2) := by decide +kernel
theorem dX8_feed_54 : decode cX8_feed 54 = .ok (.bipush 12, 2) := by decide +kernel
theorem dX8_feed_56 : decode cX8_feed 56 = .ok (.if_icmp .ge 7, 3) := by decide +kernel
theorem dX8_feed_59 : decode cX8_feed 59 = .ok (.iload_n 3, 1) := by decide +kernel
theorem dX8_feed_60 : decode cX8_feed 60 = .ok (.goto 17, 3) := by decide +kernel
theorem dX8_feed_63 : decode cX8_feed 63 = .ok (.iload 6, 2) := by decide +kernel
theorem dX8_feed_65 : decode cX8_feed 65 = .ok (.bipush 16, 2) := by decide +kernel
theorem dX8_feed_67 : decode cX8_feed 67 = .ok (.if_icmp .ge 8, 3) := by decide +kernel
theorem dX8_feed_70 : decode cX8_feed 70 = .ok (.iload 4, 2) := by decide +kernel
theorem dX8_feed_72 : decode cX8_feed 72 = .ok (.goto 5, 3) := by decide +kernel
theorem dX8_feed_75 : decode cX8_feed 75 = .ok (.iload 5, 2) := by decide +kernel
theorem dX8_feed_77 : decode cX8_feed 77 = .ok (.istore 7, 2) := by decide +kernel
theorem dX8_feed_79 : decode cX8_feed 79 = .ok (.aload_n 0, 1) := by decide +kernel
theorem dX8_feed_80 : decode cX8_feed 80 = .ok (.getfield 7, 3) := by decide +kernel
theorem dX8_feed_83 : decode cX8_feed 83 = .ok (.aload_n 0, 1) := by decide +kernel
theorem dX8_feed_84 : decode cX8_feed 84 = .ok (.getfield 41, 3) := by decide +kernel
theorem dX8_feed_87 : decode cX8_feed 87 = .ok (.iload 6, 2) := by decide +kernel
theorem dX8_feed_89 : decode cX8_feed 89 = .ok (.iadd, 1) := by decide +kernel
theorem dX8_feed_90 : decode cX8_feed 90 = .ok (.iload 7, 2) := by decide +kernel
theorem dX8_feed_92 : decode cX8_feed 92 = .ok (.bipush 24, 2) := by decide +kernel
theorem dX8_feed_94 : decode cX8_feed 94 = .ok (.bipush 8, 2) := by decide +kernel
theorem dX8_feed_96 : decode cX8_feed 96 = .ok (.iload 6, 2) := by decide +kernel
theorem dX8_feed_98 : decode cX8_feed 98 = .ok (.iconst 4, 1) := by decide +kernel
theorem dX8_feed_99 : decode cX8_feed 99 = .ok (.irem, 1) := by decide +kernel
theorem dX8_feed_100 : decode cX8_feed 100 = .ok (.imul, 1) := by decide +kernel
theorem dX8_feed_101 : decode cX8_feed 101 = .ok (.isub, 1) := by decide +kernel
theorem dX8_feed_102 : decode cX8_feed 102 = .ok (.ishr, 1) := by decide +kernel
theorem dX8_feed_103 : decode cX8_feed 103 = .ok (.sipush 255, 3) := by decide +kernel
theorem dX8_feed_106 : decode cX8_feed 106 = .ok (.iand, 1) := by decide +kernel
theorem dX8_feed_107 : decode cX8_feed 107 = .ok (.iastore, 1) := by decide +kernel
theorem dX8_feed_108 : decode cX8_feed 108 = .ok (.iinc 6 1, 3) := by decide +kernel
theorem dX8_feed_111 : decode cX8_feed 111 = .ok (.goto (-87), 3) := by decide +kernel
theorem dX8_feed_114 : decode cX8_feed 114 = .ok (.aload_n 0, 1) := by decide +kernel
theorem dX8_feed_115 : decode cX8_feed 115 = .ok (.dup, 1) := by decide +kernel
theorem dX8_feed_116 : decode cX8_feed 116 = .ok (.getfield 41, 3) := by decide +kernel
theorem dX8_feed_119 : decode cX8_feed 119 = .ok (.bipush 20, 2) := by decide +kernel
theorem dX8_feed_121 : decode cX8_feed 121 = .ok (.iadd, 1) := by decide +kernel
theorem dX8_feed_122 : decode cX8_feed 122 = .ok (.putfield 41, 3) := by decide +kernel
theorem dX8_feed_125 : decode cX8_feed 125 = .ok (.aload_n 0, 1) := by decide +kernel
theorem dX8_feed_126 : decode cX8_feed 126 = .ok (.getfield 41, 3) := by decide +kernel
theorem dX8_feed_129 : decode cX8_feed 129 = .ok (.ireturn, 1) := by decide +kernel
theorem dX8_copies_0 : decode cX8_copies 0 = .ok (.iconst 0, 1) := by decide +kernel
theorem dX8_copies_1 : decode cX8_copies 1 = .ok (.istore_n 2, 1) := by decide +kernel
theorem dX8_copies_2 : decode cX8_copies 2 = .ok (.iload_n 2, 1) := by decide +kernel
theorem dX8_copies_3 : decode cX8_copies 3 = .ok (.aload_n 0, 1) := by decide +kernel
theorem dX8_copies_4 : decode cX8_copies 4 = .ok (.arraylength, 1) := by decide +kernel
theorem dX8_copies_5 : decode cX8_copies 5 = .ok (.if_icmp .ge 15, 3) := by decide +kernel
theorem dX8_copies_8 : decode cX8_copies 8 = .ok (.aload_n 1, 1) := by decide +kernel
theorem dX8_copies_9 : decode cX8_copies 9 = .ok (.iload_n 2, 1) := by decide +kernel
theorem dX8_copies_10 : decode cX8_copies 10 = .ok (.aload_n 0, 1) := by decide +kernel
theorem dX8_copies_11 : decode cX8_copies 11 = .ok (.iload_n 2, 1) := by decide +kernel
theorem dX8_copies_12 : decode cX8_copies 12 = .ok (.iaload, 1) := by decide +kernel
theorem dX8_copies_13 : decode cX8_copies 13 = .ok (.iastore, 1) := by decide +kernel
theorem dX8_copies_14 : decode cX8_copies 14 = .ok (.iinc 2 1, 3) := by decide +kernel
theorem dX8_copies_17 : decode cX8_copies 17 = .ok (.goto (-15), 3) := by decide +kernel
theorem dX8_copies_20 : decode cX8_copies 20 = .ok (.return_, 1) := by decide +kernel
theorem dX8_newHall_0 : decode cX8_newHall 0 = .ok (.iconst 0, 1) := by decide +kernel
theorem dX8_newHall_1 : decode cX8_newHall 1 = .ok (.istore_n 1, 1) := by decide +kernel
theorem dX8_newHall_2 : decode cX8_newHall 2 = .ok (.iload_n 1, 1) := by decide +kernel
theorem dX8_newHall_3 : decode cX8_newHall 3 = .ok (.sipush 144, 3) := by decide +kernel
theorem dX8_newHall_6 : decode cX8_newHall 6 = .ok (.if_icmp .ge 16, 3) := by decide +kernel
theorem dX8_newHall_9 : decode cX8_newHall 9 = .ok (.aload_n 0, 1) := by decide +kernel
theorem dX8_newHall_10 : decode cX8_newHall 10 = .ok (.getfield 13, 3) := by decide +kernel
theorem dX8_newHall_13 : decode cX8_newHall 13 = .ok (.iload_n 1, 1) := by decide +kernel
theorem dX8_newHall_14 : decode cX8_newHall 14 = .ok (.iconst 0, 1) := by decide +kernel
theorem dX8_newHall_15 : decode cX8_newHall 15 = .ok (.iastore, 1) := by decide +kernel
theorem dX8_newHall_16 : decode cX8_newHall 16 = .ok (.iinc 1 1, 3) := by decide +kernel
theorem dX8_newHall_19 : decode cX8_newHall 19 = .ok (.goto (-17), 3) := by decide +kernel
theorem dX8_newHall_22 : decode cX8_newHall 22 = .ok (.iconst 0, 1) := by decide +kernel
theorem dX8_newHall_23 : decode cX8_newHall 23 = .ok (.istore_n 1, 1) := by decide +kernel
theorem dX8_newHall_24 : decode cX8_newHall 24 = .ok (.iload_n 1, 1) := by decide +kernel
theorem dX8_newHall_25 : decode cX8_newHall 25 = .ok (.sipush 538, 3) := by decide +kernel
theorem dX8_newHall_28 : decode cX8_newHall 28 = .ok (.if_icmp .ge 16, 3) := by decide +kernel
theorem dX8_newHall_31 : decode cX8_newHall 31 = .ok (.aload_n 0, 1) := by decide +kernel
theorem dX8_newHall_32 : decode cX8_newHall 32 = .ok (.getfield 19, 3) := by decide +kernel
theorem dX8_newHall_35 : decode cX8_newHall 35 = .ok (.iload_n 1, 1) := by decide +kernel
theorem dX8_newHall_36 : decode cX8_newHall 36 = .ok (.iconst 0, 1) := by decide +kernel
theorem dX8_newHall_37 : decode cX8_newHall 37 = .ok (.iastore, 1) := by decide +kernel
theorem dX8_newHall_38 : decode cX8_newHall 38 = .ok (.iinc 1 1, 3) := by decide +kernel
theorem dX8_newHall_41 : decode cX8_newHall 41 = .ok (.goto (-17), 3) := by decide +kernel
theorem dX8_newHall_44 : decode cX8_newHall 44 = .ok (.aload_n 0, 1) := by decide +kernel
theorem dX8_newHall_45 : decode cX8_newHall 45 = .ok (.getfield 19, 3) := by decide +kernel
theorem dX8_newHall_48 : decode cX8_newHall 48 = .ok (.iconst 0, 1) := by decide +kernel
theorem dX8_newHall_49 : decode cX8_newHall 49 = .ok (.iconst 5, 1) := by decide +kernel
theorem dX8_newHall_50 : decode cX8_newHall 50 = .ok (.iastore, 1) := by decide +kernel
theorem dX8_newHall_51 : decode cX8_newHall 51 = .ok (.aload_n 0, 1) := by decide +kernel
theorem dX8_newHall_52 : decode cX8_newHall 52 = .ok (.getfield 19, 3) := by decide +kernel
theorem dX8_newHall_55 : decode cX8_newHall 55 = .ok (.iconst 2, 1) := by decide +kernel
theorem dX8_newHall_56 : decode cX8_newHall 56 = .ok (.sipush 5000, 3) := by decide +kernel
theorem dX8_newHall_59 : decode cX8_newHall 59 = .ok (.iastore, 1) := by decide +kernel
theorem dX8_newHall_60 : decode cX8_newHall 60 = .ok (.return_, 1) := by decide +kernel
theorem dX8_many_0 : decode cX8_many 0 = .ok (.aload_n 0, 1) := by decide +kernel
theorem dX8_many_1 : decode cX8_many 1 = .ok (.getfield 13, 3) := by decide +kernel
theorem dX8_many_4 : decode cX8_many 4 = .ok (.iconst 0, 1) := by decide +kernel
theorem dX8_many_5 : decode cX8_many 5 = .ok (.iload_n 1, 1) := by decide +kernel
theorem dX8_many_6 : decode cX8_many 6 = .ok (.iadd, 1) := by decide +kernel
theorem dX8_many_7 : decode cX8_many 7 = .ok (.iaload, 1) := by decide +kernel
theorem dX8_many_8 : decode cX8_many 8 = .ok (.ireturn, 1) := by decide +kernel
theorem dX8_piles_0 : decode cX8_piles 0 = .ok (.aload_n 0, 1) := by decide +kernel
theorem dX8_piles_1 : decode cX8_piles 1 = .ok (.iconst 0, 1) := by decide +kernel
theorem dX8_piles_2 : decode cX8_piles 2 = .ok (.invokevirtual 44, 3) := by decide +kernel
theorem dX8_piles_5 : decode cX8_piles 5 = .ok (.iconst 1, 1) := by decide +kernel
theorem dX8_piles_6 : decode cX8_piles 6 = .ok (.iadd, 1) := by decide +kernel
theorem dX8_piles_7 : decode cX8_piles 7 = .ok (.ireturn, 1) := by decide +kernel
theorem dX8_of_0 : decode cX8_of 0 = .ok (.aload_n 0, 1) := by decide +kernel
theorem dX8_of_1 : decode cX8_of 1 = .ok (.getfield 19, 3) := by decide +kernel
theorem dX8_of_4 : decode cX8_of 4 = .ok (.bipush 10, 2) := by decide +kernel
theorem dX8_of_6 : decode cX8_of 6 = .ok (.bipush 44, 2) := by decide +kernel
theorem dX8_of_8 : decode cX8_of 8 = .ok (.iload_n 1, 1) := by decide +kernel
theorem dX8_of_9 : decode cX8_of 9 = .ok (.imul, 1) := by decide +kernel
theorem dX8_of_10 : decode cX8_of 10 = .ok (.iadd, 1) := by decide +kernel
theorem dX8_of_11 : decode cX8_of 11 = .ok (.iload_n 2, 1) := by decide +kernel
theorem dX8_of_12 : decode cX8_of 12 = .ok (.iadd, 1) := by decide +kernel
theorem dX8_of_13 : decode cX8_of 13 = .ok (.iaload, 1) := by decide +kernel
theorem dX8_of_14 : decode cX8_of 14 = .ok (.ireturn, 1) := by decide +kernel
theorem dX8_sets_0 : decode cX8_sets 0 = .ok (.aload_n 0, 1) := by decide +kernel
theorem dX8_sets_1 : decode cX8_sets 1 = .ok (.getfield 19, 3) := by decide +kernel
theorem dX8_sets_4 : decode cX8_sets 4 = .ok (.bipush 10, 2) := by decide +kernel
theorem dX8_sets_6 : decode cX8_sets 6 = .ok (.bipush 44, 2) := by decide +kernel
theorem dX8_sets_8 : decode cX8_sets 8 = .ok (.iload_n 1, 1) := by decide +kernel
theorem dX8_sets_9 : decode cX8_sets 9 = .ok (.imul, 1) := by decide +kernel
theorem dX8_sets_10 : decode cX8_sets 10 = .ok (.iadd, 1) := by decide +kernel
theorem dX8_sets_11 : decode cX8_sets 11 = .ok (.iload_n 2, 1) := by decide +kernel
theorem dX8_sets_12 : decode cX8_sets 12 = .ok (.iadd, 1) := by decide +kernel
theorem dX8_sets_13 : decode cX8_sets 13 = .ok (.iload_n 3, 1) := by decide +kernel
theorem dX8_sets_14 : decode cX8_sets 14 = .ok (.iastore, 1) := by decide +kernel
theorem dX8_sets_15 : decode cX8_sets 15 = .ok (.return_, 1) := by decide +kernel
theorem dX8_paper_0 : decode cX8_paper 0 = .ok (.aload_n 0, 1) := by decide +kernel
theorem dX8_paper_1 : decode cX8_paper 1 = .ok (.getfield 13, 3) := by decide +kernel
theorem dX8_paper_4 : decode cX8_paper 4 = .ok (.bipush 68, 2) := by decide +kernel
theorem dX8_paper_6 : decode cX8_paper 6 = .ok (.bipush 6, 2) := by decide +kernel
theorem dX8_paper_8 : decode cX8_paper 8 = .ok (.iload_n 1, 1) := by decide +kernel
theorem dX8_paper_9 : decode cX8_paper 9 = .ok (.imul, 1) := by decide +kernel
theorem dX8_paper_10 : decode cX8_paper 10 = .ok (.iadd, 1) := by decide +kernel
theorem dX8_paper_11 : decode cX8_paper 11 = .ok (.iload_n 2, 1) := by decide +kernel
theorem dX8_paper_12 : decode cX8_paper 12 = .ok (.iadd, 1) := by decide +kernel
theorem dX8_paper_13 : decode cX8_paper 13 = .ok (.iaload, 1) := by decide +kernel
theorem dX8_paper_14 : decode cX8_paper 14 = .ok (.ireturn, 1) := by decide +kernel
theorem dX8_found_0 : decode cX8_found 0 = .ok (.aload_n 0, 1) := by decide +kernel
theorem dX8_found_1 : decode cX8_found 1 = .ok (.iload_n 1, 1) := by decide +kernel
theorem dX8_found_2 : decode cX8_found 2 = .ok (.bipush 20, 2) := by decide +kernel
theorem dX8_found_4 : decode cX8_found 4 = .ok (.bipush 6, 2) := by decide +kernel
theorem dX8_found_6 : decode cX8_found 6 = .ok (.iload_n 2, 1) := by decide +kernel
theorem dX8_found_7 : decode cX8_found 7 = .ok (.imul, 1) := by decide +kernel
theorem dX8_found_8 : decode cX8_found 8 = .ok (.iadd, 1) := by decide +kernel
theorem dX8_found_9 : decode cX8_found 9 = .ok (.iload_n 3, 1) := by decide +kernel
theorem dX8_found_10 : decode cX8_found 10 = .ok (.iadd, 1) := by decide +kernel
theorem dX8_found_11 : decode cX8_found 11 = .ok (.invokevirtual 48, 3) := by decide +kernel
theorem dX8_found_14 : decode cX8_found 14 = .ok (.ireturn, 1) := by decide +kernel
theorem dX8_isDeclared_0 : decode cX8_isDeclared 0 = .ok (.iconst 0, 1) := by decide +kernel
theorem dX8_isDeclared_1 : decode cX8_isDeclared 1 = .ok (.istore_n 2, 1) := by decide +kernel
theorem dX8_isDeclared_2 : decode cX8_isDeclared 2 = .ok (.iload_n 2, 1) := by decide +kernel
theorem dX8_isDeclared_3 : decode cX8_isDeclared 3 = .ok (.aload_n 0, 1) := by decide +kernel
theorem dX8_isDeclared_4 : decode cX8_isDeclared 4 = .ok (.getfield 19, 3) := by decide +kernel
theorem dX8_isDeclared_7 : decode cX8_isDeclared 7 = .ok (.bipush 9, 2) := by decide +kernel
theorem dX8_isDeclared_9 : decode cX8_isDeclared 9 = .ok (.iaload, 1) := by decide +kernel
theorem dX8_isDeclared_10 : decode cX8_isDeclared 10 = .ok (.if_icmp .ge 23, 3) := by decide +kernel
theorem dX8_isDeclared_13 : decode cX8_isDeclared 13 = .ok (.aload_n 0, 1) := by decide +kernel
theorem dX8_isDeclared_14 : decode cX8_isDeclared 14 = .ok (.getfield 19, 3) := by decide +kernel
theorem dX8_isDeclared_17 : decode cX8_isDeclared 17 = .ok (.iconst 3, 1) := by decide +kernel
theorem dX8_isDeclared_18 : decode cX8_isDeclared 18 = .ok (.iload_n 2, 1) := by decide +kernel
theorem dX8_isDeclared_19 : decode cX8_isDeclared 19 = .ok (.iadd, 1) := by decide +kernel
theorem dX8_isDeclared_20 : decode cX8_isDeclared 20 = .ok (.iaload, 1) := by decide +kernel
theorem dX8_isDeclared_21 : decode cX8_isDeclared 21 = .ok (.iload_n 1, 1) := by decide +kernel
theorem dX8_isDeclared_22 : decode cX8_isDeclared 22 = .ok (.if_icmp .ne 5, 3) := by decide +kernel
theorem dX8_isDeclared_25 : decode cX8_isDeclared 25 = .ok (.iconst 1, 1) := by decide +kernel
theorem dX8_isDeclared_26 : decode cX8_isDeclared 26 = .ok (.ireturn, 1) := by decide +kernel
theorem dX8_isDeclared_27 : decode cX8_isDeclared 27 = .ok (.iinc 2 1, 3) := by decide +kernel
theorem dX8_isDeclared_30 : decode cX8_isDeclared 30 = .ok (.goto (-28), 3) := by decide +kernel
theorem dX8_isDeclared_33 : decode cX8_isDeclared 33 = .ok (.iconst 0, 1) := by decide +kernel
theorem dX8_isDeclared_34 : decode cX8_isDeclared 34 = .ok (.ireturn, 1) := by decide +kernel
theorem dX8_isAtTable_0 : decode cX8_isAtTable 0 = .ok (.aload_n 0, 1) := by decide +kernel
theorem dX8_isAtTable_1 : decode cX8_isAtTable 1 = .ok (.iload_n 1, 1) := by decide +kernel
theorem dX8_isAtTable_2 : decode cX8_isAtTable 2 = .ok (.iconst 0, 1) := by decide +kernel
theorem dX8_isAtTable_3 : decode cX8_isAtTable 3 = .ok (.invokevirtual 48, 3) := by decide +kernel
theorem dX8_isAtTable_6 : decode cX8_isAtTable 6 = .ok (.ifCond .lt 7, 3) := by decide +kernel
theorem dX8_isAtTable_9 : decode cX8_isAtTable 9 = .ok (.iconst 1, 1) := by decide +kernel
theorem dX8_isAtTable_10 : decode cX8_isAtTable 10 = .ok (.goto 4, 3) := by decide +kernel
theorem dX8_isAtTable_13 : decode cX8_isAtTable 13 = .ok (.iconst 0, 1) := by decide +kernel
theorem dX8_isAtTable_14 : decode cX8_isAtTable 14 = .ok (.ireturn, 1) := by decide +kernel
theorem dX8_isGood_0 : decode cX8_isGood 0 = .ok (.aload_n 0, 1) := by decide +kernel
theorem dX8_isGood_1 : decode cX8_isGood 1 = .ok (.iload_n 1, 1) := by decide +kernel
theorem dX8_isGood_2 : decode cX8_isGood 2 = .ok (.invokevirtual 52, 3) := by decide +kernel
theorem dX8_isGood_5 : decode cX8_isGood 5 = .ok (.ifCond .ne 31, 3) := by decide +kernel
theorem dX8_isGood_8 : decode cX8_isGood 8 = .ok (.aload_n 0, 1) := by decide +kernel
theorem dX8_isGood_9 : decode cX8_isGood 9 = .ok (.iload_n 1, 1) := by decide +kernel
theorem dX8_isGood_10 : decode cX8_isGood 10 = .ok (.iconst 1, 1) := by decide +kernel
theorem dX8_isGood_11 : decode cX8_isGood 11 = .ok (.invokevirtual 48, 3) := by decide +kernel
theorem dX8_isGood_14 : decode cX8_isGood 14 = .ok (.aload_n 0, 1) := by decide +kernel
theorem dX8_isGood_15 : decode cX8_isGood 15 = .ok (.iload_n 1, 1) := by decide +kernel
theorem dX8_isGood_16 : decode cX8_isGood 16 = .ok (.iconst 4, 1) := by decide +kernel
theorem dX8_isGood_17 : decode cX8_isGood 17 = .ok (.aload_n 0, 1) := by decide +kernel
theorem dX8_isGood_18 : decode cX8_isGood 18 = .ok (.iload_n 1, 1) := by decide +kernel
theorem dX8_isGood_19 : decode cX8_isGood 19 = .ok (.iconst 2, 1) := by decide +kernel
theorem dX8_isGood_20 : decode cX8_isGood 20 = .ok (.invokevirtual 48, 3) := by decide +kernel
theorem dX8_isGood_23 : decode cX8_isGood 23 = .ok (.iadd, 1) := by decide +kernel
theorem dX8_isGood_24 : decode cX8_isGood 24 = .ok (.iconst 1, 1) := by decide +kernel
theorem dX8_isGood_25 : decode cX8_isGood 25 = .ok (.isub, 1) := by decide +kernel
theorem dX8_isGood_26 : decode cX8_isGood 26 = .ok (.invokevirtual 48, 3) := by decide +kernel
theorem dX8_isGood_29 : decode cX8_isGood 29 = .ok (.if_icmp .ne 7, 3) := by decide +kernel
theorem dX8_isGood_32 : decode cX8_isGood 32 = .ok (.iconst 1, 1) := by decide +kernel
theorem dX8_isGood_33 : decode cX8_isGood 33 = .ok (.goto 4, 3) := by decide +kernel
theorem dX8_isGood_36 : decode cX8_isGood 36 = .ok (.iconst 0, 1) := by decide +kernel
theorem dX8_isGood_37 : decode cX8_isGood 37 = .ok (.ireturn, 1) := by decide +kernel
theorem dX8_boxOn_0 : decode cX8_boxOn 0 = .ok (.iconst 0, 1) := by decide +kernel
theorem dX8_boxOn_1 : decode cX8_boxOn 1 = .ok (.istore_n 2, 1) := by decide +kernel
theorem dX8_boxOn_2 : decode cX8_boxOn 2 = .ok (.iload_n 2, 1) := by decide +kernel
theorem dX8_boxOn_3 : decode cX8_boxOn 3 = .ok (.aload_n 0, 1) := by decide +kernel
theorem dX8_boxOn_4 : decode cX8_boxOn 4 = .ok (.iconst 3, 1) := by decide +kernel
theorem dX8_boxOn_5 : decode cX8_boxOn 5 = .ok (.invokevirtual 44, 3) := by decide +kernel
theorem dX8_boxOn_8 : decode cX8_boxOn 8 = .ok (.if_icmp .ge 21, 3) := by decide +kernel
theorem dX8_boxOn_11 : decode cX8_boxOn 11 = .ok (.aload_n 0, 1) := by decide +kernel
theorem dX8_boxOn_12 : decode cX8_boxOn 12 = .ok (.iload_n 2, 1) := by decide +kernel
theorem dX8_boxOn_13 : decode cX8_boxOn 13 = .ok (.iconst 0, 1) := by decide +kernel
theorem dX8_boxOn_14 : decode cX8_boxOn 14 = .ok (.invokevirtual 48, 3) := by decide +kernel
theorem dX8_boxOn_17 : decode cX8_boxOn 17 = .ok (.iload_n 1, 1) := by decide +kernel
theorem dX8_boxOn_18 : decode cX8_boxOn 18 = .ok (.if_icmp .ne 5, 3) := by decide +kernel
theorem dX8_boxOn_21 : decode cX8_boxOn 21 = .ok (.iload_n 2, 1) := by decide +kernel
theorem dX8_boxOn_22 : decode cX8_boxOn 22 = .ok (.ireturn, 1) := by decide +kernel
theorem dX8_boxOn_23 : decode cX8_boxOn 23 = .ok (.iinc 2 1, 3) := by decide +kernel
theorem dX8_boxOn_26 : decode cX8_boxOn 26 = .ok (.goto (-24), 3) := by decide +kernel
theorem dX8_boxOn_29 : decode cX8_boxOn 29 = .ok (.iconst (-1), 1) := by decide +kernel
theorem dX8_boxOn_30 : decode cX8_boxOn 30 = .ok (.ireturn, 1) := by decide +kernel
theorem dX8_slips_0 : decode cX8_slips 0 = .ok (.iload_n 1, 1) := by decide +kernel
theorem dX8_slips_1 : decode cX8_slips 1 = .ok (.ifCond .ne 5, 3) := by decide +kernel
theorem dX8_slips_4 : decode cX8_slips 4 = .ok (.iconst 0, 1) := by decide +kernel
theorem dX8_slips_5 : decode cX8_slips 5 = .ok (.ireturn, 1) := by decide +kernel
theorem dX8_slips_6 : decode cX8_slips 6 = .ok (.iconst 0, 1) := by decide +kernel
theorem dX8_slips_7 : decode cX8_slips 7 = .ok (.istore 4, 2) := by decide +kernel
theorem dX8_slips_9 : decode cX8_slips 9 = .ok (.iconst 0, 1) := by decide +kernel
theorem dX8_slips_10 : decode cX8_slips 10 = .ok (.istore 5, 2) := by decide +kernel
theorem dX8_slips_12 : decode cX8_slips 12 = .ok (.iload 5, 2) := by decide +kernel
theorem dX8_slips_14 : decode cX8_slips 14 = .ok (.iload_n 3, 1) := by decide +kernel
theorem dX8_slips_15 : decode cX8_slips 15 = .ok (.if_icmp .ge 21, 3) := by decide +kernel
theorem dX8_slips_18 : decode cX8_slips 18 = .ok (.iload 4, 2) := by decide +kernel
theorem dX8_slips_20 : decode cX8_slips 20 = .ok (.aload_n 0, 1) := by decide +kernel
theorem dX8_slips_21 : decode cX8_slips 21 = .ok (.iload_n 2, 1) := by decide +kernel
theorem dX8_slips_22 : decode cX8_slips 22 = .ok (.iload 5, 2) := by decide +kernel
theorem dX8_slips_24 : decode cX8_slips 24 = .ok (.invokevirtual 56, 3) := by decide +kernel
theorem dX8_slips_27 : decode cX8_slips 27 = .ok (.iadd, 1) := by decide +kernel
theorem dX8_slips_28 : decode cX8_slips 28 = .ok (.istore 4, 2) := by decide +kernel
theorem dX8_slips_30 : decode cX8_slips 30 = .ok (.iinc 5 1, 3) := by decide +kernel
theorem dX8_slips_33 : decode cX8_slips 33 = .ok (.goto (-21), 3) := by decide +kernel
theorem dX8_slips_36 : decode cX8_slips 36 = .ok (.iload 4, 2) := by decide +kernel
theorem dX8_slips_38 : decode cX8_slips 38 = .ok (.aload_n 0, 1) := by decide +kernel
theorem dX8_slips_39 : decode cX8_slips 39 = .ok (.iload_n 2, 1) := by decide +kernel
theorem dX8_slips_40 : decode cX8_slips 40 = .ok (.iload_n 3, 1) := by decide +kernel
theorem dX8_slips_41 : decode cX8_slips 41 = .ok (.invokevirtual 56, 3) := by decide +kernel
theorem dX8_slips_44 : decode cX8_slips 44 = .ok (.iadd, 1) := by decide +kernel
theorem dX8_slips_45 : decode cX8_slips 45 = .ok (.iload_n 1, 1) := by decide +kernel
theorem dX8_slips_46 : decode cX8_slips 46 = .ok (.idiv, 1) := by decide +kernel
theorem dX8_slips_47 : decode cX8_slips 47 = .ok (.iload 4, 2) := by decide +kernel
theorem dX8_slips_49 : decode cX8_slips 49 = .ok (.iload_n 1, 1) := by decide +kernel
theorem dX8_slips_50 : decode cX8_slips 50 = .ok (.idiv, 1) := by decide +kernel
theorem dX8_slips_51 : decode cX8_slips 51 = .ok (.isub, 1) := by decide +kernel
theorem dX8_slips_52 : decode cX8_slips 52 = .ok (.ireturn, 1) := by decide +kernel
theorem dX8_finds_0 : decode cX8_finds 0 = .ok (.aload_n 0, 1) := by decide +kernel
theorem dX8_finds_1 : decode cX8_finds 1 = .ok (.getfield 13, 3) := by decide +kernel
theorem dX8_finds_4 : decode cX8_finds 4 = .ok (.sipush 140, 3) := by decide +kernel
theorem dX8_finds_7 : decode cX8_finds 7 = .ok (.iload_n 1, 1) := by decide +kernel
theorem dX8_finds_8 : decode cX8_finds 8 = .ok (.iadd, 1) := by decide +kernel
theorem dX8_finds_9 : decode cX8_finds 9 = .ok (.iaload, 1) := by decide +kernel
theorem dX8_finds_10 : decode cX8_finds 10 = .ok (.istore 4, 2) := by decide +kernel
theorem dX8_finds_12 : decode cX8_finds 12 = .ok (.iload_n 3, 1) := by decide +kernel
theorem dX8_finds_13 : decode cX8_finds 13 = .ok (.ifCond .ne 12, 3) := by decide +kernel
theorem dX8_finds_16 : decode cX8_finds 16 = .ok (.aload_n 0, 1) := by decide +kernel
theorem dX8_finds_17 : decode cX8_finds 17 = .ok (.invokevirtual 59, 3) := by decide +kernel
theorem dX8_finds_20 : decode cX8_finds 20 = .ok (.iconst 1, 1) := by decide +kernel
theorem dX8_finds_21 : decode cX8_finds 21 = .ok (.isub, 1) := by decide +kernel
theorem dX8_finds_22 : decode cX8_finds 22 = .ok (.goto 6, 3) := by decide +kernel
theorem dX8_finds_25 : decode cX8_finds 25 = .ok (.iload_n 3, 1) := by decide +kernel
theorem dX8_finds_26 : decode cX8_finds 26 = .ok (.iconst 1, 1) := by decide +kernel
theorem dX8_finds_27 : decode cX8_finds 27 = .ok (.isub, 1) := by decide +kernel
theorem dX8_finds_28 : decode cX8_finds 28 = .ok (.istore 5, 2) := by decide +kernel
theorem dX8_finds_30 : decode cX8_finds 30 = .ok (.aload_n 0, 1) := by decide +kernel
theorem dX8_finds_31 : decode cX8_finds 31 = .ok (.iload_n 2, 1) := by decide +kernel
theorem dX8_finds_32 : decode cX8_finds 32 = .ok (.iload_n 3, 1) := by decide +kernel
theorem dX8_finds_33 : decode cX8_finds 33 = .ok (.invokevirtual 56, 3) := by decide +kernel
theorem dX8_finds_36 : decode cX8_finds 36 = .ok (.aload_n 0, 1) := by decide +kernel
theorem dX8_finds_37 : decode cX8_finds 37 = .ok (.iload 4, 2) := by decide +kernel
theorem dX8_finds_39 : decode cX8_finds 39 = .ok (.iload_n 2, 1) := by decide +kernel
theorem dX8_finds_40 : decode cX8_finds 40 = .ok (.iload_n 3, 1) := by decide +kernel
theorem dX8_finds_41 : decode cX8_finds 41 = .ok (.invokevirtual 63, 3) := by decide +kernel
theorem dX8_finds_44 : decode cX8_finds 44 = .ok (.isub, 1) := by decide +kernel
theorem dX8_finds_45 : decode cX8_finds 45 = .ok (.aload_n 0, 1) := by decide +kernel
theorem dX8_finds_46 : decode cX8_finds 46 = .ok (.iload 4, 2) := by decide +kernel
theorem dX8_finds_48 : decode cX8_finds 48 = .ok (.iload_n 2, 1) := by decide +kernel
theorem dX8_finds_49 : decode cX8_finds 49 = .ok (.iload 5, 2) := by decide +kernel
theorem dX8_finds_51 : decode cX8_finds 51 = .ok (.invokevirtual 63, 3) := by decide +kernel
theorem dX8_finds_54 : decode cX8_finds 54 = .ok (.iadd, 1) := by decide +kernel
theorem dX8_finds_55 : decode cX8_finds 55 = .ok (.ireturn, 1) := by decide +kernel
theorem dX8_agree_0 : decode cX8_agree 0 = .ok (.aload_n 0, 1) := by decide +kernel
theorem dX8_agree_1 : decode cX8_agree 1 = .ok (.iload_n 1, 1) := by decide +kernel
theorem dX8_agree_2 : decode cX8_agree 2 = .ok (.bipush 16, 2) := by decide +kernel
theorem dX8_agree_4 : decode cX8_agree 4 = .ok (.iload_n 2, 1) := by decide +kernel
theorem dX8_agree_5 : decode cX8_agree 5 = .ok (.iadd, 1) := by decide +kernel
theorem dX8_agree_6 : decode cX8_agree 6 = .ok (.invokevirtual 48, 3) := by decide +kernel
theorem dX8_agree_9 : decode cX8_agree 9 = .ok (.aload_n 0, 1) := by decide +kernel
theorem dX8_agree_10 : decode cX8_agree 10 = .ok (.iload_n 1, 1) := by decide +kernel
theorem dX8_agree_11 : decode cX8_agree 11 = .ok (.bipush 16, 2) := by decide +kernel
theorem dX8_agree_13 : decode cX8_agree 13 = .ok (.iload_n 3, 1) := by decide +kernel
theorem dX8_agree_14 : decode cX8_agree 14 = .ok (.iadd, 1) := by decide +kernel
theorem dX8_agree_15 : decode cX8_agree 15 = .ok (.invokevirtual 48, 3) := by decide +kernel
theorem dX8_agree_18 : decode cX8_agree 18 = .ok (.if_icmp .ne 5, 3) := by decide +kernel
theorem dX8_agree_21 : decode cX8_agree 21 = .ok (.iconst 0, 1) := by decide +kernel
theorem dX8_agree_22 : decode cX8_agree 22 = .ok (.ireturn, 1) := by decide +kernel
theorem dX8_agree_23 : decode cX8_agree 23 = .ok (.iconst 0, 1) := by decide +kernel
theorem dX8_agree_24 : decode cX8_agree 24 = .ok (.istore 4, 2) := by decide +kernel
theorem dX8_agree_26 : decode cX8_agree 26 = .ok (.iload 4, 2) := by decide +kernel
theorem dX8_agree_28 : decode cX8_agree 28 = .ok (.aload_n 0, 1) := by decide +kernel
theorem dX8_agree_29 : decode cX8_agree 29 = .ok (.invokevirtual 59, 3) := by decide +kernel
theorem dX8_agree_32 : decode cX8_agree 32 = .ok (.if_icmp .ge 30, 3) := by decide +kernel
theorem dX8_agree_35 : decode cX8_agree 35 = .ok (.aload_n 0, 1) := by decide +kernel
theorem dX8_agree_36 : decode cX8_agree 36 = .ok (.iload_n 1, 1) := by decide +kernel
theorem dX8_agree_37 : decode cX8_agree 37 = .ok (.iload_n 2, 1) := by decide +kernel
theorem dX8_agree_38 : decode cX8_agree 38 = .ok (.iload 4, 2) := by decide +kernel
theorem dX8_agree_40 : decode cX8_agree 40 = .ok (.invokevirtual 67, 3) := by decide +kernel
theorem dX8_agree_43 : decode cX8_agree 43 = .ok (.aload_n 0, 1) := by decide +kernel
theorem dX8_agree_44 : decode cX8_agree 44 = .ok (.iload_n 1, 1) := by decide +kernel
theorem dX8_agree_45 : decode cX8_agree 45 = .ok (.iload_n 3, 1) := by decide +kernel
theorem dX8_agree_46 : decode cX8_agree 46 = .ok (.iload 4, 2) := by decide +kernel
theorem dX8_agree_48 : decode cX8_agree 48 = .ok (.invokevirtual 67, 3) := by decide +kernel
theorem dX8_agree_51 : decode cX8_agree 51 = .ok (.if_icmp .eq 5, 3) := by decide +kernel
theorem dX8_agree_54 : decode cX8_agree 54 = .ok (.iconst 0, 1) := by decide +kernel
theorem dX8_agree_55 : decode cX8_agree 55 = .ok (.ireturn, 1) := by decide +kernel
theorem dX8_agree_56 : decode cX8_agree 56 = .ok (.iinc 4 1, 3) := by decide +kernel
theorem dX8_agree_59 : decode cX8_agree 59 = .ok (.goto (-33), 3) := by decide +kernel
theorem dX8_agree_62 : decode cX8_agree 62 = .ok (.iconst 1, 1) := by decide +kernel
theorem dX8_agree_63 : decode cX8_agree 63 = .ok (.ireturn, 1) := by decide +kernel
theorem dX8_confirmed_0 : decode cX8_confirmed 0 = .ok (.iconst 0, 1) := by decide +kernel
theorem dX8_confirmed_1 : decode cX8_confirmed 1 = .ok (.istore_n 2, 1) := by decide +kernel
theorem dX8_confirmed_2 : decode cX8_confirmed 2 = .ok (.iload_n 2, 1) := by decide +kernel
theorem dX8_confirmed_3 : decode cX8_confirmed 3 = .ok (.aload_n 0, 1) := by decide +kernel
theorem dX8_confirmed_4 : decode cX8_confirmed 4 = .ok (.iload_n 1, 1) := by decide +kernel
theorem dX8_confirmed_5 : decode cX8_confirmed 5 = .ok (.iconst 3, 1) := by decide +kernel
theorem dX8_confirmed_6 : decode cX8_confirmed 6 = .ok (.invokevirtual 48, 3) := by decide +kernel
theorem dX8_confirmed_9 : decode cX8_confirmed 9 = .ok (.if_icmp .ge 39, 3) := by decide +kernel
theorem dX8_confirmed_12 : decode cX8_confirmed 12 = .ok (.iconst 0, 1) := by decide +kernel
theorem dX8_confirmed_13 : decode cX8_confirmed 13 = .ok (.istore_n 3, 1) := by decide +kernel
theorem dX8_confirmed_14 : decode cX8_confirmed 14 = .ok (.iload_n 3, 1) := by decide +kernel
theorem dX8_confirmed_15 : decode cX8_confirmed 15 = .ok (.aload_n 0, 1) := by decide +kernel
theorem dX8_confirmed_16 : decode cX8_confirmed 16 = .ok (.iload_n 1, 1) := by decide +kernel
theorem dX8_confirmed_17 : decode cX8_confirmed 17 = .ok (.iconst 3, 1) := by decide +kernel
theorem dX8_confirmed_18 : decode cX8_confirmed 18 = .ok (.invokevirtual 48, 3) := by decide +kernel
theorem dX8_confirmed_21 : decode cX8_confirmed 21 = .ok (.if_icmp .ge 21, 3) := by decide +kernel
theorem dX8_confirmed_24 : decode cX8_confirmed 24 = .ok (.aload_n 0, 1) := by decide +kernel
theorem dX8_confirmed_25 : decode cX8_confirmed 25 = .ok (.iload_n 1, 1) := by decide +kernel
theorem dX8_confirmed_26 : decode cX8_confirmed 26 = .ok (.iload_n 2, 1) := by decide +kernel
theorem dX8_confirmed_27 : decode cX8_confirmed 27 = .ok (.iload_n 3, 1) := by decide +kernel
theorem dX8_confirmed_28 : decode cX8_confirmed 28 = .ok (.invokevirtual 70, 3) := by decide +kernel
theorem dX8_confirmed_31 : decode cX8_confirmed 31 = .ok (.ifCond .eq 5, 3) := by decide +kernel
theorem dX8_confirmed_34 : decode cX8_confirmed 34 = .ok (.iload_n 2, 1) := by decide +kernel
theorem dX8_confirmed_35 : decode cX8_confirmed 35 = .ok (.ireturn, 1) := by decide +kernel
theorem dX8_confirmed_36 : decode cX8_confirmed 36 = .ok (.iinc 3 1, 3) := by decide +kernel
theorem dX8_confirmed_39 : decode cX8_confirmed 39 = .ok (.goto (-25), 3) := by decide +kernel
theorem dX8_confirmed_42 : decode cX8_confirmed 42 = .ok (.iinc 2 1, 3) := by decide +kernel
theorem dX8_confirmed_45 : decode cX8_confirmed 45 = .ok (.goto (-43), 3) := by decide +kernel
theorem dX8_confirmed_48 : decode cX8_confirmed 48 = .ok (.iconst (-1), 1) := by decide +kernel
theorem dX8_confirmed_49 : decode cX8_confirmed 49 = .ok (.ireturn, 1) := by decide +kernel
theorem dX8_wasCounted_0 : decode cX8_wasCounted 0 = .ok (.aload_n 0, 1) := by decide +kernel
theorem dX8_wasCounted_1 : decode cX8_wasCounted 1 = .ok (.iload_n 1, 1) := by decide +kernel
theorem dX8_wasCounted_2 : decode cX8_wasCounted 2 = .ok (.iconst 3, 1) := by decide +kernel
theorem dX8_wasCounted_3 : decode cX8_wasCounted 3 = .ok (.invokevirtual 48, 3) := by decide +kernel
theorem dX8_wasCounted_6 : decode cX8_wasCounted 6 = .ok (.ifCond .le 7, 3) := by decide +kernel
theorem dX8_wasCounted_9 : decode cX8_wasCounted 9 = .ok (.iconst 1, 1) := by decide +kernel
theorem dX8_wasCounted_10 : decode cX8_wasCounted 10 = .ok (.goto 4, 3) := by decide +kernel
theorem dX8_wasCounted_13 : decode cX8_wasCounted 13 = .ok (.iconst 0, 1) := by decide +kernel
theorem dX8_wasCounted_14 : decode cX8_wasCounted 14 = .ok (.ireturn, 1) := by decide +kernel
theorem dX8_valid_0 : decode cX8_valid 0 = .ok (.aload_n 0, 1) := by decide +kernel
theorem dX8_valid_1 : decode cX8_valid 1 = .ok (.iload_n 1, 1) := by decide +kernel
theorem dX8_valid_2 : decode cX8_valid 2 = .ok (.invokevirtual 74, 3) := by decide +kernel
theorem dX8_valid_5 : decode cX8_valid 5 = .ok (.ifCond .ne 5, 3) := by decide +kernel
theorem dX8_valid_8 : decode cX8_valid 8 = .ok (.iconst 0, 1) := by decide +kernel
theorem dX8_valid_9 : decode cX8_valid 9 = .ok (.ireturn, 1) := by decide +kernel
theorem dX8_valid_10 : decode cX8_valid 10 = .ok (.aload_n 0, 1) := by decide +kernel
theorem dX8_valid_11 : decode cX8_valid 11 = .ok (.iload_n 1, 1) := by decide +kernel
theorem dX8_valid_12 : decode cX8_valid 12 = .ok (.invokevirtual 77, 3) := by decide +kernel
theorem dX8_valid_15 : decode cX8_valid 15 = .ok (.istore_n 3, 1) := by decide +kernel
theorem dX8_valid_16 : decode cX8_valid 16 = .ok (.aload_n 0, 1) := by decide +kernel
theorem dX8_valid_17 : decode cX8_valid 17 = .ok (.iload_n 1, 1) := by decide +kernel
theorem dX8_valid_18 : decode cX8_valid 18 = .ok (.iload_n 3, 1) := by decide +kernel
theorem dX8_valid_19 : decode cX8_valid 19 = .ok (.iconst (-1), 1) := by decide +kernel
theorem dX8_valid_20 : decode cX8_valid 20 = .ok (.if_icmp .ne 14, 3) := by decide +kernel
theorem dX8_valid_23 : decode cX8_valid 23 = .ok (.aload_n 0, 1) := by decide +kernel
theorem dX8_valid_24 : decode cX8_valid 24 = .ok (.iload_n 1, 1) := by decide +kernel
theorem dX8_valid_25 : decode cX8_valid 25 = .ok (.iconst 3, 1) := by decide +kernel
theorem dX8_valid_26 : decode cX8_valid 26 = .ok (.invokevirtual 48, 3) := by decide +kernel
theorem dX8_valid_29 : decode cX8_valid 29 = .ok (.iconst 1, 1) := by decide +kernel
theorem dX8_valid_30 : decode cX8_valid 30 = .ok (.isub, 1) := by decide +kernel
theorem dX8_valid_31 : decode cX8_valid 31 = .ok (.goto 4, 3) := by decide +kernel
theorem dX8_valid_34 : decode cX8_valid 34 = .ok (.iload_n 3, 1) := by decide +kernel
theorem dX8_valid_35 : decode cX8_valid 35 = .ok (.iload_n 2, 1) := by decide +kernel
theorem dX8_valid_36 : decode cX8_valid 36 = .ok (.invokevirtual 67, 3) := by decide +kernel
theorem dX8_valid_39 : decode cX8_valid 39 = .ok (.ireturn, 1) := by decide +kernel
theorem dX8_more_0 : decode cX8_more 0 = .ok (.iconst 0, 1) := by decide +kernel
theorem dX8_more_1 : decode cX8_more 1 = .ok (.istore_n 2, 1) := by decide +kernel
theorem dX8_more_2 : decode cX8_more 2 = .ok (.iconst 0, 1) := by decide +kernel
theorem dX8_more_3 : decode cX8_more 3 = .ok (.istore_n 3, 1) := by decide +kernel
theorem dX8_more_4 : decode cX8_more 4 = .ok (.iload_n 3, 1) := by decide +kernel
theorem dX8_more_5 : decode cX8_more 5 = .ok (.aload_n 0, 1) := by decide +kernel
theorem dX8_more_6 : decode cX8_more 6 = .ok (.invokevirtual 59, 3) := by decide +kernel
theorem dX8_more_9 : decode cX8_more 9 = .ok (.if_icmp .ge 18, 3) := by decide +kernel
theorem dX8_more_12 : decode cX8_more 12 = .ok (.iload_n 2, 1) := by decide +kernel
theorem dX8_more_13 : decode cX8_more 13 = .ok (.aload_n 0, 1) := by decide +kernel
theorem dX8_more_14 : decode cX8_more 14 = .ok (.iload_n 1, 1) := by decide +kernel
theorem dX8_more_15 : decode cX8_more 15 = .ok (.iload_n 3, 1) := by decide +kernel
theorem dX8_more_16 : decode cX8_more 16 = .ok (.invokevirtual 80, 3) := by decide +kernel
theorem dX8_more_19 : decode cX8_more 19 = .ok (.iadd, 1) := by decide +kernel
theorem dX8_more_20 : decode cX8_more 20 = .ok (.istore_n 2, 1) := by decide +kernel
theorem dX8_more_21 : decode cX8_more 21 = .ok (.iinc 3 1, 3) := by decide +kernel
theorem dX8_more_24 : decode cX8_more 24 = .ok (.goto (-20), 3) := by decide +kernel
theorem dX8_more_27 : decode cX8_more 27 = .ok (.aload_n 0, 1) := by decide +kernel
theorem dX8_more_28 : decode cX8_more 28 = .ok (.iload_n 1, 1) := by decide +kernel
theorem dX8_more_29 : decode cX8_more 29 = .ok (.invokevirtual 74, 3) := by decide +kernel
theorem dX8_more_32 : decode cX8_more 32 = .ok (.ifCond .eq 17, 3) := by decide +kernel
theorem dX8_more_35 : decode cX8_more 35 = .ok (.iload_n 2, 1) := by decide +kernel
theorem dX8_more_36 : decode cX8_more 36 = .ok (.aload_n 0, 1) := by decide +kernel
theorem dX8_more_37 : decode cX8_more 37 = .ok (.getfield 13, 3) := by decide +kernel
theorem dX8_more_40 : decode cX8_more 40 = .ok (.bipush 56, 2) := by decide +kernel
theorem dX8_more_42 : decode cX8_more 42 = .ok (.iload_n 1, 1) := by decide +kernel
theorem dX8_more_43 : decode cX8_more 43 = .ok (.iadd, 1) := by decide +kernel
theorem dX8_more_44 : decode cX8_more 44 = .ok (.iaload, 1) := by decide +kernel
theorem dX8_more_45 : decode cX8_more 45 = .ok (.isub, 1) := by decide +kernel
theorem dX8_more_46 : decode cX8_more 46 = .ok (.goto 4, 3) := by decide +kernel
theorem dX8_more_49 : decode cX8_more 49 = .ok (.iconst 0, 1) := by decide +kernel
theorem dX8_more_50 : decode cX8_more 50 = .ok (.ireturn, 1) := by decide +kernel
theorem dX8_differs_0 : decode cX8_differs 0 = .ok (.aload_n 0, 1) := by decide +kernel
theorem dX8_differs_1 : decode cX8_differs 1 = .ok (.iload_n 1, 1) := by decide +kernel
theorem dX8_differs_2 : decode cX8_differs 2 = .ok (.invokevirtual 83, 3) := by decide +kernel
theorem dX8_differs_5 : decode cX8_differs 5 = .ok (.invokestatic 86, 3) := by decide +kernel
theorem dX8_differs_8 : decode cX8_differs 8 = .ok (.aload_n 0, 1) := by decide +kernel
theorem dX8_differs_9 : decode cX8_differs 9 = .ok (.getfield 19, 3) := by decide +kernel
theorem dX8_differs_12 : decode cX8_differs 12 = .ok (.iconst 1, 1) := by decide +kernel
theorem dX8_differs_13 : decode cX8_differs 13 = .ok (.iaload, 1) := by decide +kernel
theorem dX8_differs_14 : decode cX8_differs 14 = .ok (.if_icmp .le 7, 3) := by decide +kernel
theorem dX8_differs_17 : decode cX8_differs 17 = .ok (.iconst 1, 1) := by decide +kernel
theorem dX8_differs_18 : decode cX8_differs 18 = .ok (.goto 4, 3) := by decide +kernel
theorem dX8_differs_21 : decode cX8_differs 21 = .ok (.iconst 0, 1) := by decide +kernel
theorem dX8_differs_22 : decode cX8_differs 22 = .ok (.ireturn, 1) := by decide +kernel
theorem dX8_votes_0 : decode cX8_votes 0 = .ok (.iconst 0, 1) := by decide +kernel
theorem dX8_votes_1 : decode cX8_votes 1 = .ok (.istore_n 3, 1) := by decide +kernel
theorem dX8_votes_2 : decode cX8_votes 2 = .ok (.iconst 0, 1) := by decide +kernel
theorem dX8_votes_3 : decode cX8_votes 3 = .ok (.istore 4, 2) := by decide +kernel
theorem dX8_votes_5 : decode cX8_votes 5 = .ok (.iload 4, 2) := by decide +kernel
theorem dX8_votes_7 : decode cX8_votes 7 = .ok (.aload_n 0, 1) := by decide +kernel
theorem dX8_votes_8 : decode cX8_votes 8 = .ok (.iconst 3, 1) := by decide +kernel
theorem dX8_votes_9 : decode cX8_votes 9 = .ok (.invokevirtual 44, 3) := by decide +kernel
theorem dX8_votes_12 : decode cX8_votes 12 = .ok (.if_icmp .ge 37, 3) := by decide +kernel
theorem dX8_votes_15 : decode cX8_votes 15 = .ok (.iload_n 3, 1) := by decide +kernel
theorem dX8_votes_16 : decode cX8_votes 16 = .ok (.aload_n 0, 1) := by decide +kernel
theorem dX8_votes_17 : decode cX8_votes 17 = .ok (.getfield 13, 3) := by decide +kernel
theorem dX8_votes_20 : decode cX8_votes 20 = .ok (.bipush 44, 2) := by decide +kernel
theorem dX8_votes_22 : decode cX8_votes 22 = .ok (.iload 4, 2) := by decide +kernel
theorem dX8_votes_24 : decode cX8_votes 24 = .ok (.iadd, 1) := by decide +kernel
theorem dX8_votes_25 : decode cX8_votes 25 = .ok (.iaload, 1) := by decide +kernel
theorem dX8_votes_26 : decode cX8_votes 26 = .ok (.iload_n 1, 1) := by decide +kernel
theorem dX8_votes_27 : decode cX8_votes 27 = .ok (.if_icmp .ne 13, 3) := by decide +kernel
theorem dX8_votes_30 : decode cX8_votes 30 = .ok (.aload_n 0, 1) := by decide +kernel
theorem dX8_votes_31 : decode cX8_votes 31 = .ok (.iload 4, 2) := by decide +kernel
theorem dX8_votes_33 : decode cX8_votes 33 = .ok (.iload_n 2, 1) := by decide +kernel
theorem dX8_votes_34 : decode cX8_votes 34 = .ok (.invokevirtual 80, 3) := by decide +kernel
theorem dX8_votes_37 : decode cX8_votes 37 = .ok (.goto 4, 3) := by decide +kernel
theorem dX8_votes_40 : decode cX8_votes 40 = .ok (.iconst 0, 1) := by decide +kernel
theorem dX8_votes_41 : decode cX8_votes 41 = .ok (.iadd, 1) := by decide +kernel
theorem dX8_votes_42 : decode cX8_votes 42 = .ok (.istore_n 3, 1) := by decide +kernel
theorem dX8_votes_43 : decode cX8_votes 43 = .ok (.iinc 4 1, 3) := by decide +kernel
theorem dX8_votes_46 : decode cX8_votes 46 = .ok (.goto (-41), 3) := by decide +kernel
theorem dX8_votes_49 : decode cX8_votes 49 = .ok (.iload_n 3, 1) := by decide +kernel
theorem dX8_votes_50 : decode cX8_votes 50 = .ok (.ireturn, 1) := by decide +kernel
theorem dX8_allVotes_0 : decode cX8_allVotes 0 = .ok (.iconst 0, 1) := by decide +kernel
theorem dX8_allVotes_1 : decode cX8_allVotes 1 = .ok (.istore_n 2, 1) := by decide +kernel
theorem dX8_allVotes_2 : decode cX8_allVotes 2 = .ok (.iconst 0, 1) := by decide +kernel
theorem dX8_allVotes_3 : decode cX8_allVotes 3 = .ok (.istore_n 3, 1) := by decide +kernel
theorem dX8_allVotes_4 : decode cX8_allVotes 4 = .ok (.iload_n 3, 1) := by decide +kernel
theorem dX8_allVotes_5 : decode cX8_allVotes 5 = .ok (.aload_n 0, 1) := by decide +kernel
theorem dX8_allVotes_6 : decode cX8_allVotes 6 = .ok (.iconst 0, 1) := by decide +kernel
theorem dX8_allVotes_7 : decode cX8_allVotes 7 = .ok (.invokevirtual 44, 3) := by decide +kernel
theorem dX8_allVotes_10 : decode cX8_allVotes 10 = .ok (.if_icmp .ge 18, 3) := by decide +kernel
theorem dX8_allVotes_13 : decode cX8_allVotes 13 = .ok (.iload_n 2, 1) := by decide +kernel
theorem dX8_allVotes_14 : decode cX8_allVotes 14 = .ok (.aload_n 0, 1) := by decide +kernel
theorem dX8_allVotes_15 : decode cX8_allVotes 15 = .ok (.iload_n 1, 1) := by decide +kernel
theorem dX8_allVotes_16 : decode cX8_allVotes 16 = .ok (.iload_n 3, 1) := by decide +kernel
theorem dX8_allVotes_17 : decode cX8_allVotes 17 = .ok (.invokevirtual 91, 3) := by decide +kernel
theorem dX8_allVotes_20 : decode cX8_allVotes 20 = .ok (.iadd, 1) := by decide +kernel
theorem dX8_allVotes_21 : decode cX8_allVotes 21 = .ok (.istore_n 2, 1) := by decide +kernel
theorem dX8_allVotes_22 : decode cX8_allVotes 22 = .ok (.iinc 3 1, 3) := by decide +kernel
theorem dX8_allVotes_25 : decode cX8_allVotes 25 = .ok (.goto (-21), 3) := by decide +kernel
theorem dX8_allVotes_28 : decode cX8_allVotes 28 = .ok (.iload_n 2, 1) := by decide +kernel
theorem dX8_allVotes_29 : decode cX8_allVotes 29 = .ok (.ireturn, 1) := by decide +kernel
theorem dX8_first_0 : decode cX8_first 0 = .ok (.iconst (-1), 1) := by decide +kernel
theorem dX8_first_1 : decode cX8_first 1 = .ok (.istore_n 2, 1) := by decide +kernel
theorem dX8_first_2 : decode cX8_first 2 = .ok (.iconst 0, 1) := by decide +kernel
theorem dX8_first_3 : decode cX8_first 3 = .ok (.istore_n 3, 1) := by decide +kernel
theorem dX8_first_4 : decode cX8_first 4 = .ok (.iconst 0, 1) := by decide +kernel
theorem dX8_first_5 : decode cX8_first 5 = .ok (.istore 4, 2) := by decide +kernel
theorem dX8_first_7 : decode cX8_first 7 = .ok (.iload 4, 2) := by decide +kernel
theorem dX8_first_9 : decode cX8_first 9 = .ok (.aload_n 0, 1) := by decide +kernel
theorem dX8_first_10 : decode cX8_first 10 = .ok (.iconst 0, 1) := by decide +kernel
theorem dX8_first_11 : decode cX8_first 11 = .ok (.invokevirtual 44, 3) := by decide +kernel
theorem dX8_first_14 : decode cX8_first 14 = .ok (.if_icmp .ge 38, 3) := by decide +kernel
theorem dX8_first_17 : decode cX8_first 17 = .ok (.aload_n 0, 1) := by decide +kernel
theorem dX8_first_18 : decode cX8_first 18 = .ok (.iload_n 1, 1) := by decide +kernel
theorem dX8_first_19 : decode cX8_first 19 = .ok (.iload 4, 2) := by decide +kernel
theorem dX8_first_21 : decode cX8_first 21 = .ok (.invokevirtual 91, 3) := by decide +kernel
theorem dX8_first_24 : decode cX8_first 24 = .ok (.istore 5, 2) := by decide +kernel
theorem dX8_first_26 : decode cX8_first 26 = .ok (.iload 5, 2) := by decide +kernel
theorem dX8_first_28 : decode cX8_first 28 = .ok (.iload_n 3, 1) := by decide +kernel
theorem dX8_first_29 : decode cX8_first 29 = .ok (.if_icmp .le 8, 3) := by decide +kernel
theorem dX8_first_32 : decode cX8_first 32 = .ok (.iload 4, 2) := by decide +kernel
theorem dX8_first_34 : decode cX8_first 34 = .ok (.goto 4, 3) := by decide +kernel
theorem dX8_first_37 : decode cX8_first 37 = .ok (.iload_n 2, 1) := by decide +kernel
theorem dX8_first_38 : decode cX8_first 38 = .ok (.istore_n 2, 1) := by decide +kernel
theorem dX8_first_39 : decode cX8_first 39 = .ok (.iload_n 3, 1) := by decide +kernel
theorem dX8_first_40 : decode cX8_first 40 = .ok (.iload 5, 2) := by decide +kernel
theorem dX8_first_42 : decode cX8_first 42 = .ok (.invokestatic 94, 3) := by decide +kernel
theorem dX8_first_45 : decode cX8_first 45 = .ok (.istore_n 3, 1) := by decide +kernel
theorem dX8_first_46 : decode cX8_first 46 = .ok (.iinc 4 1, 3) := by decide +kernel
theorem dX8_first_49 : decode cX8_first 49 = .ok (.goto (-42), 3) := by decide +kernel
theorem dX8_first_52 : decode cX8_first 52 = .ok (.iload_n 2, 1) := by decide +kernel
theorem dX8_first_53 : decode cX8_first 53 = .ok (.ireturn, 1) := by decide +kernel
theorem dX8_marginOf_0 : decode cX8_marginOf 0 = .ok (.aload_n 0, 1) := by decide +kernel
theorem dX8_marginOf_1 : decode cX8_marginOf 1 = .ok (.iload_n 1, 1) := by decide +kernel
theorem dX8_marginOf_2 : decode cX8_marginOf 2 = .ok (.invokevirtual 97, 3) := by decide +kernel
theorem dX8_marginOf_5 : decode cX8_marginOf 5 = .ok (.istore_n 2, 1) := by decide +kernel
theorem dX8_marginOf_6 : decode cX8_marginOf 6 = .ok (.iload_n 2, 1) := by decide +kernel
theorem dX8_marginOf_7 : decode cX8_marginOf 7 = .ok (.iconst (-1), 1) := by decide +kernel
theorem dX8_marginOf_8 : decode cX8_marginOf 8 = .ok (.if_icmp .ne 5, 3) := by decide +kernel
theorem dX8_marginOf_11 : decode cX8_marginOf 11 = .ok (.iconst 0, 1) := by decide +kernel
theorem dX8_marginOf_12 : decode cX8_marginOf 12 = .ok (.ireturn, 1) := by decide +kernel
theorem dX8_marginOf_13 : decode cX8_marginOf 13 = .ok (.iconst 0, 1) := by decide +kernel
theorem dX8_marginOf_14 : decode cX8_marginOf 14 = .ok (.istore_n 3, 1) := by decide +kernel
theorem dX8_marginOf_15 : decode cX8_marginOf 15 = .ok (.iconst 0, 1) := by decide +kernel
theorem dX8_marginOf_16 : decode cX8_marginOf 16 = .ok (.istore 4, 2) := by decide +kernel
theorem dX8_marginOf_18 : decode cX8_marginOf 18 = .ok (.iload 4, 2) := by decide +kernel
theorem dX8_marginOf_20 : decode cX8_marginOf 20 = .ok (.aload_n 0, 1) := by decide +kernel
theorem dX8_marginOf_21 : decode cX8_marginOf 21 = .ok (.iconst 0, 1) := by decide +kernel
theorem dX8_marginOf_22 : decode cX8_marginOf 22 = .ok (.invokevirtual 44, 3) := by decide +kernel
theorem dX8_marginOf_25 : decode cX8_marginOf 25 = .ok (.if_icmp .ge 31, 3) := by decide +kernel
theorem dX8_marginOf_28 : decode cX8_marginOf 28 = .ok (.iload 4, 2) := by decide +kernel
theorem dX8_marginOf_30 : decode cX8_marginOf 30 = .ok (.iload_n 2, 1) := by decide +kernel
theorem dX8_marginOf_31 : decode cX8_marginOf 31 = .ok (.if_icmp .ne 7, 3) := by decide +kernel
theorem dX8_marginOf_34 : decode cX8_marginOf 34 = .ok (.iload_n 3, 1) := by decide +kernel
theorem dX8_marginOf_35 : decode cX8_marginOf 35 = .ok (.goto 14, 3) := by decide +kernel
theorem dX8_marginOf_38 : decode cX8_marginOf 38 = .ok (.iload_n 3, 1) := by decide +kernel
theorem dX8_marginOf_39 : decode cX8_marginOf 39 = .ok (.aload_n 0, 1) := by decide +kernel
theorem dX8_marginOf_40 : decode cX8_marginOf 40 = .ok (.iload_n 1, 1) := by decide +kernel
theorem dX8_marginOf_41 : decode cX8_marginOf 41 = .ok (.iload 4, 2) := by decide +kernel
theorem dX8_marginOf_43 : decode cX8_marginOf 43 = .ok (.invokevirtual 91, 3) := by decide +kernel
theorem dX8_marginOf_46 : decode cX8_marginOf 46 = .ok (.invokestatic 94, 3) := by decide +kernel
theorem dX8_marginOf_49 : decode cX8_marginOf 49 = .ok (.istore_n 3, 1) := by decide +kernel
theorem dX8_marginOf_50 : decode cX8_marginOf 50 = .ok (.iinc 4 1, 3) := by decide +kernel
theorem dX8_marginOf_53 : decode cX8_marginOf 53 = .ok (.goto (-35), 3) := by decide +kernel
theorem dX8_marginOf_56 : decode cX8_marginOf 56 = .ok (.aload_n 0, 1) := by decide +kernel
theorem dX8_marginOf_57 : decode cX8_marginOf 57 = .ok (.iload_n 1, 1) := by decide +kernel
theorem dX8_marginOf_58 : decode cX8_marginOf 58 = .ok (.iload_n 2, 1) := by decide +kernel
theorem dX8_marginOf_59 : decode cX8_marginOf 59 = .ok (.invokevirtual 91, 3) := by decide +kernel
theorem dX8_marginOf_62 : decode cX8_marginOf 62 = .ok (.iload_n 3, 1) := by decide +kernel
theorem dX8_marginOf_63 : decode cX8_marginOf 63 = .ok (.isub, 1) := by decide +kernel
theorem dX8_marginOf_64 : decode cX8_marginOf 64 = .ok (.ireturn, 1) := by decide +kernel
theorem dX8_isNear_0 : decode cX8_isNear 0 = .ok (.aload_n 0, 1) := by decide +kernel
theorem dX8_isNear_1 : decode cX8_isNear 1 = .ok (.iload_n 1, 1) := by decide +kernel
theorem dX8_isNear_2 : decode cX8_isNear 2 = .ok (.invokevirtual 100, 3) := by decide +kernel
theorem dX8_isNear_5 : decode cX8_isNear 5 = .ok (.istore_n 2, 1) := by decide +kernel
theorem dX8_isNear_6 : decode cX8_isNear 6 = .ok (.iload_n 2, 1) := by decide +kernel
theorem dX8_isNear_7 : decode cX8_isNear 7 = .ok (.ifCond .le 26, 3) := by decide +kernel
theorem dX8_isNear_10 : decode cX8_isNear 10 = .ok (.bipush 100, 2) := by decide +kernel
theorem dX8_isNear_12 : decode cX8_isNear 12 = .ok (.aload_n 0, 1) := by decide +kernel
theorem dX8_isNear_13 : decode cX8_isNear 13 = .ok (.iload_n 1, 1) := by decide +kernel
theorem dX8_isNear_14 : decode cX8_isNear 14 = .ok (.invokevirtual 103, 3) := by decide +kernel
theorem dX8_isNear_17 : decode cX8_isNear 17 = .ok (.imul, 1) := by decide +kernel
theorem dX8_isNear_18 : decode cX8_isNear 18 = .ok (.aload_n 0, 1) := by decide +kernel
theorem dX8_isNear_19 : decode cX8_isNear 19 = .ok (.getfield 19, 3) := by decide +kernel
theorem dX8_isNear_22 : decode cX8_isNear 22 = .ok (.iconst 0, 1) := by decide +kernel
theorem dX8_isNear_23 : decode cX8_isNear 23 = .ok (.iaload, 1) := by decide +kernel
theorem dX8_isNear_24 : decode cX8_isNear 24 = .ok (.iload_n 2, 1) := by decide +kernel
theorem dX8_isNear_25 : decode cX8_isNear 25 = .ok (.imul, 1) := by decide +kernel
theorem dX8_isNear_26 : decode cX8_isNear 26 = .ok (.if_icmp .gt 7, 3) := by decide +kernel
theorem dX8_isNear_29 : decode cX8_isNear 29 = .ok (.iconst 1, 1) := by decide +kernel
theorem dX8_isNear_30 : decode cX8_isNear 30 = .ok (.goto 4, 3) := by decide +kernel
theorem dX8_isNear_33 : decode cX8_isNear 33 = .ok (.iconst 0, 1) := by decide +kernel
theorem dX8_isNear_34 : decode cX8_isNear 34 = .ok (.ireturn, 1) := by decide +kernel
theorem dX8_hasBox_0 : decode cX8_hasBox 0 = .ok (.iconst 0, 1) := by decide +kernel
theorem dX8_hasBox_1 : decode cX8_hasBox 1 = .ok (.istore_n 3, 1) := by decide +kernel
theorem dX8_hasBox_2 : decode cX8_hasBox 2 = .ok (.iload_n 3, 1) := by decide +kernel
theorem dX8_hasBox_3 : decode cX8_hasBox 3 = .ok (.aload_n 0, 1) := by decide +kernel
theorem dX8_hasBox_4 : decode cX8_hasBox 4 = .ok (.iconst 3, 1) := by decide +kernel
theorem dX8_hasBox_5 : decode cX8_hasBox 5 = .ok (.invokevirtual 44, 3) := by decide +kernel
theorem dX8_hasBox_8 : decode cX8_hasBox 8 = .ok (.if_icmp .ge 122, 3) := by decide +kernel
theorem dX8_hasBox_11 : decode cX8_hasBox 11 = .ok (.aload_n 0, 1) := by decide +kernel
theorem dX8_hasBox_12 : decode cX8_hasBox 12 = .ok (.getfield 13, 3) := by decide +kernel
theorem dX8_hasBox_15 : decode cX8_hasBox 15 = .ok (.bipush 44, 2) := by decide +kernel
theorem dX8_hasBox_17 : decode cX8_hasBox 17 = .ok (.iload_n 3, 1) := by decide +kernel
theorem dX8_hasBox_18 : decode cX8_hasBox 18 = .ok (.iadd, 1) := by decide +kernel
theorem dX8_hasBox_19 : decode cX8_hasBox 19 = .ok (.iaload, 1) := by decide +kernel
theorem dX8_hasBox_20 : decode cX8_hasBox 20 = .ok (.iload_n 1, 1) := by decide +kernel
theorem dX8_hasBox_21 : decode cX8_hasBox 21 = .ok (.if_icmp .eq 6, 3) := by decide +kernel
theorem dX8_hasBox_24 : decode cX8_hasBox 24 = .ok (.goto 100, 3) := by decide +kernel
theorem dX8_hasBox_27 : decode cX8_hasBox 27 = .ok (.aload_n 0, 1) := by decide +kernel
theorem dX8_hasBox_28 : decode cX8_hasBox 28 = .ok (.iload_n 3, 1) := by decide +kernel
theorem dX8_hasBox_29 : decode cX8_hasBox 29 = .ok (.invokevirtual 77, 3) := by decide +kernel
theorem dX8_hasBox_32 : decode cX8_hasBox 32 = .ok (.iconst (-1), 1) := by decide +kernel
theorem dX8_hasBox_33 : decode cX8_hasBox 33 = .ok (.if_icmp .ne 7, 3) := by decide +kernel
theorem dX8_hasBox_36 : decode cX8_hasBox 36 = .ok (.iconst 1, 1) := by decide +kernel
theorem dX8_hasBox_37 : decode cX8_hasBox 37 = .ok (.goto 4, 3) := by decide +kernel
theorem dX8_hasBox_40 : decode cX8_hasBox 40 = .ok (.iconst 0, 1) := by decide +kernel
theorem dX8_hasBox_41 : decode cX8_hasBox 41 = .ok (.istore 4, 2) := by decide +kernel
theorem dX8_hasBox_43 : decode cX8_hasBox 43 = .ok (.iload_n 2, 1) := by decide +kernel
theorem dX8_hasBox_44 : decode cX8_hasBox 44 = .ok (.ifCond .ne 19, 3) := by decide +kernel
theorem dX8_hasBox_47 : decode cX8_hasBox 47 = .ok (.aload_n 0, 1) := by decide +kernel
theorem dX8_hasBox_48 : decode cX8_hasBox 48 = .ok (.iload_n 3, 1) := by decide +kernel
theorem dX8_hasBox_49 : decode cX8_hasBox 49 = .ok (.invokevirtual 74, 3) := by decide +kernel
theorem dX8_hasBox_52 : decode cX8_hasBox 52 = .ok (.ifCond .ne 7, 3) := by decide +kernel
theorem dX8_hasBox_55 : decode cX8_hasBox 55 = .ok (.iconst 1, 1) := by decide +kernel
theorem dX8_hasBox_56 : decode cX8_hasBox 56 = .ok (.goto 59, 3) := by decide +kernel
theorem dX8_hasBox_59 : decode cX8_hasBox 59 = .ok (.iconst 0, 1) := by decide +kernel
theorem dX8_hasBox_60 : decode cX8_hasBox 60 = .ok (.goto 55, 3) := by decide +kernel
theorem dX8_hasBox_63 : decode cX8_hasBox 63 = .ok (.iload_n 2, 1) := by decide +kernel
theorem dX8_hasBox_64 : decode cX8_hasBox 64 = .ok (.iconst 1, 1) := by decide +kernel
theorem dX8_hasBox_65 : decode cX8_hasBox 65 = .ok (.if_icmp .ne 22, 3) := by decide +kernel
theorem dX8_hasBox_68 : decode cX8_hasBox 68 = .ok (.aload_n 0, 1) := by decide +kernel
theorem dX8_hasBox_69 : decode cX8_hasBox 69 = .ok (.iload_n 3, 1) := by decide +kernel
theorem dX8_hasBox_70 : decode cX8_hasBox 70 = .ok (.iconst 0, 1) := by decide +kernel
theorem dX8_hasBox_71 : decode cX8_hasBox 71 = .ok (.invokevirtual 48, 3) := by decide +kernel
theorem dX8_hasBox_74 : decode cX8_hasBox 74 = .ok (.bipush (-4), 2) := by decide +kernel
theorem dX8_hasBox_76 : decode cX8_hasBox 76 = .ok (.if_icmp .eq 7, 3) := by decide +kernel
theorem dX8_hasBox_79 : decode cX8_hasBox 79 = .ok (.iconst 1, 1) := by decide +kernel
theorem dX8_hasBox_80 : decode cX8_hasBox 80 = .ok (.goto 35, 3) := by decide +kernel
theorem dX8_hasBox_83 : decode cX8_hasBox 83 = .ok (.iconst 0, 1) := by decide +kernel
theorem dX8_hasBox_84 : decode cX8_hasBox 84 = .ok (.goto 31, 3) := by decide +kernel
theorem dX8_hasBox_87 : decode cX8_hasBox 87 = .ok (.iload_n 2, 1) := by decide +kernel
theorem dX8_hasBox_88 : decode cX8_hasBox 88 = .ok (.iconst 2, 1) := by decide +kernel
theorem dX8_hasBox_89 : decode cX8_hasBox 89 = .ok (.if_icmp .ne 24, 3) := by decide +kernel
theorem dX8_hasBox_92 : decode cX8_hasBox 92 = .ok (.iload 4, 2) := by decide +kernel
theorem dX8_hasBox_94 : decode cX8_hasBox 94 = .ok (.ifCond .eq 15, 3) := by decide +kernel
theorem dX8_hasBox_97 : decode cX8_hasBox 97 = .ok (.aload_n 0, 1) := by decide +kernel
theorem dX8_hasBox_98 : decode cX8_hasBox 98 = .ok (.iload_n 3, 1) := by decide +kernel
theorem dX8_hasBox_99 : decode cX8_hasBox 99 = .ok (.invokevirtual 106, 3) := by decide +kernel
theorem dX8_hasBox_102 : decode cX8_hasBox 102 = .ok (.ifCond .eq 7, 3) := by decide +kernel
theorem dX8_hasBox_105 : decode cX8_hasBox 105 = .ok (.iconst 1, 1) := by decide +kernel
theorem dX8_hasBox_106 : decode cX8_hasBox 106 = .ok (.goto 9, 3) := by decide +kernel
theorem dX8_hasBox_109 : decode cX8_hasBox 109 = .ok (.iconst 0, 1) := by decide +kernel
theorem dX8_hasBox_110 : decode cX8_hasBox 110 = .ok (.goto 5, 3) := by decide +kernel
theorem dX8_hasBox_113 : decode cX8_hasBox 113 = .ok (.iload 4, 2) := by decide +kernel
theorem dX8_hasBox_115 : decode cX8_hasBox 115 = .ok (.istore 5, 2) := by decide +kernel
theorem dX8_hasBox_117 : decode cX8_hasBox 117 = .ok (.iload 5, 2) := by decide +kernel
theorem dX8_hasBox_119 : decode cX8_hasBox 119 = .ok (.ifCond .eq 5, 3) := by decide +kernel
theorem dX8_hasBox_122 : decode cX8_hasBox 122 = .ok (.iconst 1, 1) := by decide +kernel
theorem dX8_hasBox_123 : decode cX8_hasBox 123 = .ok (.ireturn, 1) := by decide +kernel
theorem dX8_hasBox_124 : decode cX8_hasBox 124 = .ok (.iinc 3 1, 3) := by decide +kernel
theorem dX8_hasBox_127 : decode cX8_hasBox 127 = .ok (.goto (-125), 3) := by decide +kernel
theorem dX8_hasBox_130 : decode cX8_hasBox 130 = .ok (.iconst 0, 1) := by decide +kernel
theorem dX8_hasBox_131 : decode cX8_hasBox 131 = .ok (.ireturn, 1) := by decide +kernel
theorem dX8_isWithoutBox_0 : decode cX8_isWithoutBox 0 = .ok (.iconst 0, 1) := by decide +kernel
theorem dX8_isWithoutBox_1 : decode cX8_isWithoutBox 1 = .ok (.istore_n 2, 1) := by decide +kernel
theorem dX8_isWithoutBox_2 : decode cX8_isWithoutBox 2 = .ok (.iload_n 2, 1) := by decide +kernel
theorem dX8_isWithoutBox_3 : decode cX8_isWithoutBox 3 = .ok (.aload_n 0, 1) := by decide +kernel
theorem dX8_isWithoutBox_4 : decode cX8_isWithoutBox 4 = .ok (.iconst 3, 1) := by decide +kernel
theorem dX8_isWithoutBox_5 : decode cX8_isWithoutBox 5 = .ok (.invokevirtual 44, 3) := by decide +kernel
theorem dX8_isWithoutBox_8 : decode cX8_isWithoutBox 8 = .ok (.if_icmp .ge 24, 3) := by decide +kernel
theorem dX8_isWithoutBox_11 : decode cX8_isWithoutBox 11 = .ok (.aload_n 0, 1) := by decide +kernel
theorem dX8_isWithoutBox_12 : decode cX8_isWithoutBox 12 = .ok (.getfield 13, 3) := by decide +kernel
theorem dX8_isWithoutBox_15 : decode cX8_isWithoutBox 15 = .ok (.bipush 44, 2) := by decide +kernel
theorem dX8_isWithoutBox_17 : decode cX8_isWithoutBox 17 = .ok (.iload_n 2, 1) := by decide +kernel
theorem dX8_isWithoutBox_18 : decode cX8_isWithoutBox 18 = .ok (.iadd, 1) := by decide +kernel
theorem dX8_isWithoutBox_19 : decode cX8_isWithoutBox 19 = .ok (.iaload, 1) := by decide +kernel
theorem dX8_isWithoutBox_20 : decode cX8_isWithoutBox 20 = .ok (.iload_n 1, 1) := by decide +kernel
theorem dX8_isWithoutBox_21 : decode cX8_isWithoutBox 21 = .ok (.if_icmp .ne 5, 3) := by decide +kernel
theorem dX8_isWithoutBox_24 : decode cX8_isWithoutBox 24 = .ok (.iconst 0, 1) := by decide +kernel
theorem dX8_isWithoutBox_25 : decode cX8_isWithoutBox 25 = .ok (.ireturn, 1) := by decide +kernel
theorem dX8_isWithoutBox_26 : decode cX8_isWithoutBox 26 = .ok (.iinc 2 1, 3) := by decide +kernel
theorem dX8_isWithoutBox_29 : decode cX8_isWithoutBox 29 = .ok (.goto (-27), 3) := by decide +kernel
theorem dX8_isWithoutBox_32 : decode cX8_isWithoutBox 32 = .ok (.iconst 1, 1) := by decide +kernel
theorem dX8_isWithoutBox_33 : decode cX8_isWithoutBox 33 = .ok (.ireturn, 1) := by decide +kernel
theorem dX8_against_0 : decode cX8_against 0 = .ok (.aload_n 0, 1) := by decide +kernel
theorem dX8_against_1 : decode cX8_against 1 = .ok (.iload_n 1, 1) := by decide +kernel
theorem dX8_against_2 : decode cX8_against 2 = .ok (.invokevirtual 109, 3) := by decide +kernel
theorem dX8_against_5 : decode cX8_against 5 = .ok (.ifCond .eq 5, 3) := by decide +kernel
theorem dX8_against_8 : decode cX8_against 8 = .ok (.iconst 1, 1) := by decide +kernel
theorem dX8_against_9 : decode cX8_against 9 = .ok (.ireturn, 1) := by decide +kernel
theorem dX8_against_10 : decode cX8_against 10 = .ok (.aload_n 0, 1) := by decide +kernel
theorem dX8_against_11 : decode cX8_against 11 = .ok (.iload_n 1, 1) := by decide +kernel
theorem dX8_against_12 : decode cX8_against 12 = .ok (.invokevirtual 112, 3) := by decide +kernel
theorem dX8_against_15 : decode cX8_against 15 = .ok (.ifCond .ne 12, 3) := by decide +kernel
theorem dX8_against_18 : decode cX8_against 18 = .ok (.aload_n 0, 1) := by decide +kernel
theorem dX8_against_19 : decode cX8_against 19 = .ok (.iload_n 1, 1) := by decide +kernel
theorem dX8_against_20 : decode cX8_against 20 = .ok (.iconst 0, 1) := by decide +kernel
theorem dX8_against_21 : decode cX8_against 21 = .ok (.invokevirtual 115, 3) := by decide +kernel
theorem dX8_against_24 : decode cX8_against 24 = .ok (.ifCond .eq 5, 3) := by decide +kernel
theorem dX8_against_27 : decode cX8_against 27 = .ok (.iconst 2, 1) := by decide +kernel
theorem dX8_against_28 : decode cX8_against 28 = .ok (.ireturn, 1) := by decide +kernel
theorem dX8_against_29 : decode cX8_against 29 = .ok (.aload_n 0, 1) := by decide +kernel
theorem dX8_against_30 : decode cX8_against 30 = .ok (.iload_n 1, 1) := by decide +kernel
theorem dX8_against_31 : decode cX8_against 31 = .ok (.iconst 1, 1) := by decide +kernel
theorem dX8_against_32 : decode cX8_against 32 = .ok (.invokevirtual 115, 3) := by decide +kernel
theorem dX8_against_35 : decode cX8_against 35 = .ok (.ifCond .eq 5, 3) := by decide +kernel
theorem dX8_against_38 : decode cX8_against 38 = .ok (.iconst 3, 1) := by decide +kernel
theorem dX8_against_39 : decode cX8_against 39 = .ok (.ireturn, 1) := by decide +kernel
theorem dX8_against_40 : decode cX8_against 40 = .ok (.aload_n 0, 1) := by decide +kernel
theorem dX8_against_41 : decode cX8_against 41 = .ok (.iload_n 1, 1) := by decide +kernel
theorem dX8_against_42 : decode cX8_against 42 = .ok (.iconst 2, 1) := by decide +kernel
theorem dX8_against_43 : decode cX8_against 43 = .ok (.invokevirtual 115, 3) := by decide +kernel
theorem dX8_against_46 : decode cX8_against 46 = .ok (.ifCond .eq 5, 3) := by decide +kernel
theorem dX8_against_49 : decode cX8_against 49 = .ok (.iconst 4, 1) := by decide +kernel
theorem dX8_against_50 : decode cX8_against 50 = .ok (.ireturn, 1) := by decide +kernel
theorem dX8_against_51 : decode cX8_against 51 = .ok (.aload_n 0, 1) := by decide +kernel
theorem dX8_against_52 : decode cX8_against 52 = .ok (.iload_n 1, 1) := by decide +kernel
theorem dX8_against_53 : decode cX8_against 53 = .ok (.invokevirtual 119, 3) := by decide +kernel
theorem dX8_against_56 : decode cX8_against 56 = .ok (.ifCond .eq 16, 3) := by decide +kernel
theorem dX8_against_59 : decode cX8_against 59 = .ok (.aload_n 0, 1) := by decide +kernel
theorem dX8_against_60 : decode cX8_against 60 = .ok (.iload_n 1, 1) := by decide +kernel
theorem dX8_against_61 : decode cX8_against 61 = .ok (.iconst 3, 1) := by decide +kernel
theorem dX8_against_62 : decode cX8_against 62 = .ok (.invokevirtual 115, 3) := by decide +kernel
theorem dX8_against_65 : decode cX8_against 65 = .ok (.ifCond .eq 7, 3) := by decide +kernel
theorem dX8_against_68 : decode cX8_against 68 = .ok (.iconst 5, 1) := by decide +kernel
theorem dX8_against_69 : decode cX8_against 69 = .ok (.goto 4, 3) := by decide +kernel
theorem dX8_against_72 : decode cX8_against 72 = .ok (.iconst 0, 1) := by decide +kernel
theorem dX8_against_73 : decode cX8_against 73 = .ok (.ireturn, 1) := by decide +kernel
theorem dX8_comes_0 : decode cX8_comes 0 = .ok (.iconst (-1), 1) := by decide +kernel
theorem dX8_comes_1 : decode cX8_comes 1 = .ok (.istore_n 1, 1) := by decide +kernel
theorem dX8_comes_2 : decode cX8_comes 2 = .ok (.ldc 122, 2) := by decide +kernel
theorem dX8_comes_4 : decode cX8_comes 4 = .ok (.istore_n 2, 1) := by decide +kernel
theorem dX8_comes_5 : decode cX8_comes 5 = .ok (.iconst 0, 1) := by decide +kernel
theorem dX8_comes_6 : decode cX8_comes 6 = .ok (.istore_n 3, 1) := by decide +kernel
theorem dX8_comes_7 : decode cX8_comes 7 = .ok (.iload_n 3, 1) := by decide +kernel
theorem dX8_comes_8 : decode cX8_comes 8 = .ok (.aload_n 0, 1) := by decide +kernel
theorem dX8_comes_9 : decode cX8_comes 9 = .ok (.iconst 2, 1) := by decide +kernel
theorem dX8_comes_10 : decode cX8_comes 10 = .ok (.invokevirtual 44, 3) := by decide +kernel
theorem dX8_comes_13 : decode cX8_comes 13 = .ok (.if_icmp .ge 52, 3) := by decide +kernel
theorem dX8_comes_16 : decode cX8_comes 16 = .ok (.aload_n 0, 1) := by decide +kernel
theorem dX8_comes_17 : decode cX8_comes 17 = .ok (.iload_n 3, 1) := by decide +kernel
theorem dX8_comes_18 : decode cX8_comes 18 = .ok (.invokevirtual 123, 3) := by decide +kernel
theorem dX8_comes_21 : decode cX8_comes 21 = .ok (.ifCond .eq 6, 3) := by decide +kernel
theorem dX8_comes_24 : decode cX8_comes 24 = .ok (.goto 35, 3) := by decide +kernel
theorem dX8_comes_27 : decode cX8_comes 27 = .ok (.aload_n 0, 1) := by decide +kernel
theorem dX8_comes_28 : decode cX8_comes 28 = .ok (.iload_n 3, 1) := by decide +kernel
theorem dX8_comes_29 : decode cX8_comes 29 = .ok (.invokevirtual 100, 3) := by decide +kernel
theorem dX8_comes_32 : decode cX8_comes 32 = .ok (.aload_n 0, 1) := by decide +kernel
theorem dX8_comes_33 : decode cX8_comes 33 = .ok (.iload_n 3, 1) := by decide +kernel
theorem dX8_comes_34 : decode cX8_comes 34 = .ok (.aload_n 0, 1) := by decide +kernel
theorem dX8_comes_35 : decode cX8_comes 35 = .ok (.iconst 0, 1) := by decide +kernel
theorem dX8_comes_36 : decode cX8_comes 36 = .ok (.invokevirtual 44, 3) := by decide +kernel
theorem dX8_comes_39 : decode cX8_comes 39 = .ok (.invokevirtual 91, 3) := by decide +kernel
theorem dX8_comes_42 : decode cX8_comes 42 = .ok (.iadd, 1) := by decide +kernel
theorem dX8_comes_43 : decode cX8_comes 43 = .ok (.istore 4, 2) := by decide +kernel
theorem dX8_comes_45 : decode cX8_comes 45 = .ok (.iload 4, 2) := by decide +kernel
theorem dX8_comes_47 : decode cX8_comes 47 = .ok (.iload_n 2, 1) := by decide +kernel
theorem dX8_comes_48 : decode cX8_comes 48 = .ok (.if_icmp .lt 6, 3) := by decide +kernel
theorem dX8_comes_51 : decode cX8_comes 51 = .ok (.goto 8, 3) := by decide +kernel
theorem dX8_comes_54 : decode cX8_comes 54 = .ok (.iload_n 3, 1) := by decide +kernel
theorem dX8_comes_55 : decode cX8_comes 55 = .ok (.istore_n 1, 1) := by decide +kernel
theorem dX8_comes_56 : decode cX8_comes 56 = .ok (.iload 4, 2) := by decide +kernel
theorem dX8_comes_58 : decode cX8_comes 58 = .ok (.istore_n 2, 1) := by decide +kernel
theorem dX8_comes_59 : decode cX8_comes 59 = .ok (.iinc 3 1, 3) := by decide +kernel
theorem dX8_comes_62 : decode cX8_comes 62 = .ok (.goto (-55), 3) := by decide +kernel
theorem dX8_comes_65 : decode cX8_comes 65 = .ok (.iload_n 1, 1) := by decide +kernel
theorem dX8_comes_66 : decode cX8_comes 66 = .ok (.ireturn, 1) := by decide +kernel
theorem dX8_mustBeCounted_0 : decode cX8_mustBeCounted 0 = .ok (.aload_n 0, 1) := by decide +kernel
theorem dX8_mustBeCounted_1 : decode cX8_mustBeCounted 1 = .ok (.getfield 13, 3) := by decide +kernel
theorem dX8_mustBeCounted_4 : decode cX8_mustBeCounted 4 = .ok (.bipush 44, 2) := by decide +kernel
theorem dX8_mustBeCounted_6 : decode cX8_mustBeCounted 6 = .ok (.iload_n 1, 1) := by decide +kernel
theorem dX8_mustBeCounted_7 : decode cX8_mustBeCounted 7 = .ok (.iadd, 1) := by decide +kernel
theorem dX8_mustBeCounted_8 : decode cX8_mustBeCounted 8 = .ok (.iaload, 1) := by decide +kernel
theorem dX8_mustBeCounted_9 : decode cX8_mustBeCounted 9 = .ok (.istore_n 2, 1) := by decide +kernel
theorem dX8_mustBeCounted_10 : decode cX8_mustBeCounted 10 = .ok (.aload_n 0, 1) := by decide +kernel
theorem dX8_mustBeCounted_11 : decode cX8_mustBeCounted 11 = .ok (.iload_n 2, 1) := by decide +kernel
theorem dX8_mustBeCounted_12 : decode cX8_mustBeCounted 12 = .ok (.invokevirtual 109, 3) := by decide +kernel
theorem dX8_mustBeCounted_15 : decode cX8_mustBeCounted 15 = .ok (.ifCond .eq 5, 3) := by decide +kernel
theorem dX8_mustBeCounted_18 : decode cX8_mustBeCounted 18 = .ok (.iconst 0, 1) := by decide +kernel
theorem dX8_mustBeCounted_19 : decode cX8_mustBeCounted 19 = .ok (.ireturn, 1) := by decide +kernel
theorem dX8_mustBeCounted_20 : decode cX8_mustBeCounted 20 = .ok (.aload_n 0, 1) := by decide +kernel
theorem dX8_mustBeCounted_21 : decode cX8_mustBeCounted 21 = .ok (.iload_n 1, 1) := by decide +kernel
theorem dX8_mustBeCounted_22 : decode cX8_mustBeCounted 22 = .ok (.invokevirtual 74, 3) := by decide +kernel
theorem dX8_mustBeCounted_25 : decode cX8_mustBeCounted 25 = .ok (.ifCond .ne 5, 3) := by decide +kernel
theorem dX8_mustBeCounted_28 : decode cX8_mustBeCounted 28 = .ok (.iconst 1, 1) := by decide +kernel
theorem dX8_mustBeCounted_29 : decode cX8_mustBeCounted 29 = .ok (.ireturn, 1) := by decide +kernel
theorem dX8_mustBeCounted_30 : decode cX8_mustBeCounted 30 = .ok (.aload_n 0, 1) := by decide +kernel
theorem dX8_mustBeCounted_31 : decode cX8_mustBeCounted 31 = .ok (.iload_n 1, 1) := by decide +kernel
theorem dX8_mustBeCounted_32 : decode cX8_mustBeCounted 32 = .ok (.invokevirtual 77, 3) := by decide +kernel
theorem dX8_mustBeCounted_35 : decode cX8_mustBeCounted 35 = .ok (.iconst (-1), 1) := by decide +kernel
theorem dX8_mustBeCounted_36 : decode cX8_mustBeCounted 36 = .ok (.if_icmp .ne 23, 3) := by decide +kernel
theorem dX8_mustBeCounted_39 : decode cX8_mustBeCounted 39 = .ok (.aload_n 0, 1) := by decide +kernel
theorem dX8_mustBeCounted_40 : decode cX8_mustBeCounted 40 = .ok (.iload_n 1, 1) := by decide +kernel
theorem dX8_mustBeCounted_41 : decode cX8_mustBeCounted 41 = .ok (.invokevirtual 106, 3) := by decide +kernel
theorem dX8_mustBeCounted_44 : decode cX8_mustBeCounted 44 = .ok (.ifCond .ne 11, 3) := by decide +kernel
theorem dX8_mustBeCounted_47 : decode cX8_mustBeCounted 47 = .ok (.aload_n 0, 1) := by decide +kernel
theorem dX8_mustBeCounted_48 : decode cX8_mustBeCounted 48 = .ok (.iload_n 2, 1) := by decide +kernel
theorem dX8_mustBeCounted_49 : decode cX8_mustBeCounted 49 = .ok (.invokevirtual 119, 3) := by decide +kernel
theorem dX8_mustBeCounted_52 : decode cX8_mustBeCounted 52 = .ok (.ifCond .eq 7, 3) := by decide +kernel
theorem dX8_mustBeCounted_55 : decode cX8_mustBeCounted 55 = .ok (.iconst 1, 1) := by decide +kernel
theorem dX8_mustBeCounted_56 : decode cX8_mustBeCounted 56 = .ok (.goto 4, 3) := by decide +kernel
theorem dX8_mustBeCounted_59 : decode cX8_mustBeCounted 59 = .ok (.iconst 0, 1) := by decide +kernel
theorem dX8_mustBeCounted_60 : decode cX8_mustBeCounted 60 = .ok (.ireturn, 1) := by decide +kernel
theorem dX8_due_0 : decode cX8_due 0 = .ok (.iconst 0, 1) := by decide +kernel
theorem dX8_due_1 : decode cX8_due 1 = .ok (.istore_n 1, 1) := by decide +kernel
theorem dX8_due_2 : decode cX8_due 2 = .ok (.iconst 0, 1) := by decide +kernel
theorem dX8_due_3 : decode cX8_due 3 = .ok (.istore_n 2, 1) := by decide +kernel
theorem dX8_due_4 : decode cX8_due 4 = .ok (.iload_n 2, 1) := by decide +kernel
theorem dX8_due_5 : decode cX8_due 5 = .ok (.aload_n 0, 1) := by decide +kernel
theorem dX8_due_6 : decode cX8_due 6 = .ok (.iconst 3, 1) := by decide +kernel
theorem dX8_due_7 : decode cX8_due 7 = .ok (.invokevirtual 44, 3) := by decide +kernel
theorem dX8_due_10 : decode cX8_due 10 = .ok (.if_icmp .ge 27, 3) := by decide +kernel
theorem dX8_due_13 : decode cX8_due 13 = .ok (.iload_n 1, 1) := by decide +kernel
theorem dX8_due_14 : decode cX8_due 14 = .ok (.aload_n 0, 1) := by decide +kernel
theorem dX8_due_15 : decode cX8_due 15 = .ok (.iload_n 2, 1) := by decide +kernel
theorem dX8_due_16 : decode cX8_due 16 = .ok (.invokevirtual 126, 3) := by decide +kernel
theorem dX8_due_19 : decode cX8_due 19 = .ok (.ifCond .eq 9, 3) := by decide +kernel
theorem dX8_due_22 : decode cX8_due 22 = .ok (.iconst 1, 1) := by decide +kernel
theorem dX8_due_23 : decode cX8_due 23 = .ok (.iload_n 2, 1) := by decide +kernel
theorem dX8_due_24 : decode cX8_due 24 = .ok (.ishl, 1) := by decide +kernel
theorem dX8_due_25 : decode cX8_due 25 = .ok (.goto 4, 3) := by decide +kernel
theorem dX8_due_28 : decode cX8_due 28 = .ok (.iconst 0, 1) := by decide +kernel
theorem dX8_due_29 : decode cX8_due 29 = .ok (.ior, 1) := by decide +kernel
theorem dX8_due_30 : decode cX8_due 30 = .ok (.istore_n 1, 1) := by decide +kernel
theorem dX8_due_31 : decode cX8_due 31 = .ok (.iinc 2 1, 3) := by decide +kernel
theorem dX8_due_34 : decode cX8_due 34 = .ok (.goto (-30), 3) := by decide +kernel
theorem dX8_due_37 : decode cX8_due 37 = .ok (.iload_n 1, 1) := by decide +kernel
theorem dX8_due_38 : decode cX8_due 38 = .ok (.ireturn, 1) := by decide +kernel
theorem dX8_isIn_0 : decode cX8_isIn 0 = .ok (.iload_n 1, 1) := by decide +kernel
theorem dX8_isIn_1 : decode cX8_isIn 1 = .ok (.istore_n 3, 1) := by decide +kernel
theorem dX8_isIn_2 : decode cX8_isIn 2 = .ok (.iload_n 3, 1) := by decide +kernel
theorem dX8_isIn_3 : decode cX8_isIn 3 = .ok (.iconst (-1), 1) := by decide +kernel
theorem dX8_isIn_4 : decode cX8_isIn 4 = .ok (.if_icmp .eq 23, 3) := by decide +kernel
theorem dX8_isIn_7 : decode cX8_isIn 7 = .ok (.iload_n 3, 1) := by decide +kernel
theorem dX8_isIn_8 : decode cX8_isIn 8 = .ok (.iload_n 2, 1) := by decide +kernel
theorem dX8_isIn_9 : decode cX8_isIn 9 = .ok (.if_icmp .ne 5, 3) := by decide +kernel
theorem dX8_isIn_12 : decode cX8_isIn 12 = .ok (.iconst 1, 1) := by decide +kernel
theorem dX8_isIn_13 : decode cX8_isIn 13 = .ok (.ireturn, 1) := by decide +kernel
theorem dX8_isIn_14 : decode cX8_isIn 14 = .ok (.aload_n 0, 1) := by decide +kernel
theorem dX8_isIn_15 : decode cX8_isIn 15 = .ok (.getfield 13, 3) := by decide +kernel
theorem dX8_isIn_18 : decode cX8_isIn 18 = .ok (.bipush 33, 2) := by decide +kernel
theorem dX8_isIn_20 : decode cX8_isIn 20 = .ok (.iload_n 3, 1) := by decide +kernel
theorem dX8_isIn_21 : decode cX8_isIn 21 = .ok (.iadd, 1) := by decide +kernel
theorem dX8_isIn_22 : decode cX8_isIn 22 = .ok (.iaload, 1) := by decide +kernel
theorem dX8_isIn_23 : decode cX8_isIn 23 = .ok (.istore_n 3, 1) := by decide +kernel
theorem dX8_isIn_24 : decode cX8_isIn 24 = .ok (.goto (-22), 3) := by decide +kernel
theorem dX8_isIn_27 : decode cX8_isIn 27 = .ok (.iconst 0, 1) := by decide +kernel
theorem dX8_isIn_28 : decode cX8_isIn 28 = .ok (.ireturn, 1) := by decide +kernel
theorem dX8_isWardIn_0 : decode cX8_isWardIn 0 = .ok (.aload_n 0, 1) := by decide +kernel
theorem dX8_isWardIn_1 : decode cX8_isWardIn 1 = .ok (.aload_n 0, 1) := by decide +kernel
theorem dX8_isWardIn_2 : decode cX8_isWardIn 2 = .ok (.getfield 13, 3) := by decide +kernel
theorem dX8_isWardIn_5 : decode cX8_isWardIn 5 = .ok (.bipush 38, 2) := by decide +kernel
theorem dX8_isWardIn_7 : decode cX8_isWardIn 7 = .ok (.iload_n 1, 1) := by decide +kernel
theorem dX8_isWardIn_8 : decode cX8_isWardIn 8 = .ok (.iadd, 1) := by decide +kernel
theorem dX8_isWardIn_9 : decode cX8_isWardIn 9 = .ok (.iaload, 1) := by decide +kernel
theorem dX8_isWardIn_10 : decode cX8_isWardIn 10 = .ok (.iload_n 2, 1) := by decide +kernel
theorem dX8_isWardIn_11 : decode cX8_isWardIn 11 = .ok (.invokevirtual 129, 3) := by decide +kernel
theorem dX8_isWardIn_14 : decode cX8_isWardIn 14 = .ok (.ireturn, 1) := by decide +kernel
theorem dX8_seats_0 : decode cX8_seats 0 = .ok (.iconst 0, 1) := by decide +kernel
theorem dX8_seats_1 : decode cX8_seats 1 = .ok (.istore_n 3, 1) := by decide +kernel
theorem dX8_seats_2 : decode cX8_seats 2 = .ok (.iconst 0, 1) := by decide +kernel
theorem dX8_seats_3 : decode cX8_seats 3 = .ok (.istore 4, 2) := by decide +kernel
theorem dX8_seats_5 : decode cX8_seats 5 = .ok (.iload 4, 2) := by decide +kernel
theorem dX8_seats_7 : decode cX8_seats 7 = .ok (.aload_n 0, 1) := by decide +kernel
theorem dX8_seats_8 : decode cX8_seats 8 = .ok (.iconst 2, 1) := by decide +kernel
theorem dX8_seats_9 : decode cX8_seats 9 = .ok (.invokevirtual 44, 3) := by decide +kernel
theorem dX8_seats_12 : decode cX8_seats 12 = .ok (.if_icmp .ge 46, 3) := by decide +kernel
theorem dX8_seats_15 : decode cX8_seats 15 = .ok (.iload_n 3, 1) := by decide +kernel
theorem dX8_seats_16 : decode cX8_seats 16 = .ok (.aload_n 0, 1) := by decide +kernel
theorem dX8_seats_17 : decode cX8_seats 17 = .ok (.iload 4, 2) := by decide +kernel
theorem dX8_seats_19 : decode cX8_seats 19 = .ok (.iload_n 1, 1) := by decide +kernel
theorem dX8_seats_20 : decode cX8_seats 20 = .ok (.invokevirtual 132, 3) := by decide +kernel
theorem dX8_seats_23 : decode cX8_seats 23 = .ok (.ifCond .eq 26, 3) := by decide +kernel
theorem dX8_seats_26 : decode cX8_seats 26 = .ok (.aload_n 0, 1) := by decide +kernel
theorem dX8_seats_27 : decode cX8_seats 27 = .ok (.iload 4, 2) := by decide +kernel
theorem dX8_seats_29 : decode cX8_seats 29 = .ok (.invokevirtual 109, 3) := by decide +kernel
theorem dX8_seats_32 : decode cX8_seats 32 = .ok (.ifCond .eq 17, 3) := by decide +kernel
theorem dX8_seats_35 : decode cX8_seats 35 = .ok (.aload_n 0, 1) := by decide +kernel
theorem dX8_seats_36 : decode cX8_seats 36 = .ok (.iload 4, 2) := by decide +kernel
theorem dX8_seats_38 : decode cX8_seats 38 = .ok (.invokevirtual 97, 3) := by decide +kernel
theorem dX8_seats_41 : decode cX8_seats 41 = .ok (.iload_n 2, 1) := by decide +kernel
theorem dX8_seats_42 : decode cX8_seats 42 = .ok (.if_icmp .ne 7, 3) := by decide +kernel
theorem dX8_seats_45 : decode cX8_seats 45 = .ok (.iconst 1, 1) := by decide +kernel
theorem dX8_seats_46 : decode cX8_seats 46 = .ok (.goto 4, 3) := by decide +kernel
theorem dX8_seats_49 : decode cX8_seats 49 = .ok (.iconst 0, 1) := by decide +kernel
theorem dX8_seats_50 : decode cX8_seats 50 = .ok (.iadd, 1) := by decide +kernel
theorem dX8_seats_51 : decode cX8_seats 51 = .ok (.istore_n 3, 1) := by decide +kernel
theorem dX8_seats_52 : decode cX8_seats 52 = .ok (.iinc 4 1, 3) := by decide +kernel
theorem dX8_seats_55 : decode cX8_seats 55 = .ok (.goto (-50), 3) := by decide +kernel
theorem dX8_seats_58 : decode cX8_seats 58 = .ok (.iload_n 3, 1) := by decide +kernel
theorem dX8_seats_59 : decode cX8_seats 59 = .ok (.ireturn, 1) := by decide +kernel
theorem dX8_undeclared_0 : decode cX8_undeclared 0 = .ok (.iconst 0, 1) := by decide +kernel
theorem dX8_undeclared_1 : decode cX8_undeclared 1 = .ok (.istore_n 2, 1) := by decide +kernel
theorem dX8_undeclared_2 : decode cX8_undeclared 2 = .ok (.iconst 0, 1) := by decide +kernel
theorem dX8_undeclared_3 : decode cX8_undeclared 3 = .ok (.istore_n 3, 1) := by decide +kernel
theorem dX8_undeclared_4 : decode cX8_undeclared 4 = .ok (.iload_n 3, 1) := by decide +kernel
theorem dX8_undeclared_5 : decode cX8_undeclared 5 = .ok (.aload_n 0, 1) := by decide +kernel
theorem dX8_undeclared_6 : decode cX8_undeclared 6 = .ok (.iconst 2, 1) := by decide +kernel
theorem dX8_undeclared_7 : decode cX8_undeclared 7 = .ok (.invokevirtual 44, 3) := by decide +kernel
theorem dX8_undeclared_10 : decode cX8_undeclared 10 = .ok (.if_icmp .ge 34, 3) := by decide +kernel
theorem dX8_undeclared_13 : decode cX8_undeclared 13 = .ok (.iload_n 2, 1) := by decide +kernel
theorem dX8_undeclared_14 : decode cX8_undeclared 14 = .ok (.aload_n 0, 1) := by decide +kernel
theorem dX8_undeclared_15 : decode cX8_undeclared 15 = .ok (.iload_n 3, 1) := by decide +kernel
theorem dX8_undeclared_16 : decode cX8_undeclared 16 = .ok (.iload_n 1, 1) := by decide +kernel
theorem dX8_undeclared_17 : decode cX8_undeclared 17 = .ok (.invokevirtual 132, 3) := by decide +kernel
theorem dX8_undeclared_20 : decode cX8_undeclared 20 = .ok (.ifCond .eq 15, 3) := by decide +kernel
theorem dX8_undeclared_23 : decode cX8_undeclared 23 = .ok (.aload_n 0, 1) := by decide +kernel
theorem dX8_undeclared_24 : decode cX8_undeclared 24 = .ok (.iload_n 3, 1) := by decide +kernel
theorem dX8_undeclared_25 : decode cX8_undeclared 25 = .ok (.invokevirtual 109, 3) := by decide +kernel
theorem dX8_undeclared_28 : decode cX8_undeclared 28 = .ok (.ifCond .ne 7, 3) := by decide +kernel
theorem dX8_undeclared_31 : decode cX8_undeclared 31 = .ok (.iconst 1, 1) := by decide +kernel
theorem dX8_undeclared_32 : decode cX8_undeclared 32 = .ok (.goto 4, 3) := by decide +kernel
theorem dX8_undeclared_35 : decode cX8_undeclared 35 = .ok (.iconst 0, 1) := by decide +kernel
theorem dX8_undeclared_36 : decode cX8_undeclared 36 = .ok (.iadd, 1) := by decide +kernel
theorem dX8_undeclared_37 : decode cX8_undeclared 37 = .ok (.istore_n 2, 1) := by decide +kernel
theorem dX8_undeclared_38 : decode cX8_undeclared 38 = .ok (.iinc 3 1, 3) := by decide +kernel
theorem dX8_undeclared_41 : decode cX8_undeclared 41 = .ok (.goto (-37), 3) := by decide +kernel
theorem dX8_undeclared_44 : decode cX8_undeclared 44 = .ok (.iload_n 2, 1) := by decide +kernel
theorem dX8_undeclared_45 : decode cX8_undeclared 45 = .ok (.ireturn, 1) := by decide +kernel
theorem dX8_here_0 : decode cX8_here 0 = .ok (.aload_n 0, 1) := by decide +kernel
theorem dX8_here_1 : decode cX8_here 1 = .ok (.getfield 135, 3) := by decide +kernel
theorem dX8_here_4 : decode cX8_here 4 = .ok (.aload_n 0, 1) := by decide +kernel
theorem dX8_here_5 : decode cX8_here 5 = .ok (.getfield 138, 3) := by decide +kernel
theorem dX8_here_8 : decode cX8_here 8 = .ok (.if_icmp .ge 15, 3) := by decide +kernel
theorem dX8_here_11 : decode cX8_here 11 = .ok (.aload_n 0, 1) := by decide +kernel
theorem dX8_here_12 : decode cX8_here 12 = .ok (.getfield 7, 3) := by decide +kernel
theorem dX8_here_15 : decode cX8_here 15 = .ok (.aload_n 0, 1) := by decide +kernel
theorem dX8_here_16 : decode cX8_here 16 = .ok (.getfield 135, 3) := by decide +kernel
theorem dX8_here_19 : decode cX8_here 19 = .ok (.iaload, 1) := by decide +kernel
theorem dX8_here_20 : decode cX8_here 20 = .ok (.goto 4, 3) := by decide +kernel
theorem dX8_here_23 : decode cX8_here 23 = .ok (.iconst (-1), 1) := by decide +kernel
theorem dX8_here_24 : decode cX8_here 24 = .ok (.ireturn, 1) := by decide +kernel
theorem dX8_isSmall_0 : decode cX8_isSmall 0 = .ok (.iload_n 0, 1) := by decide +kernel
theorem dX8_isSmall_1 : decode cX8_isSmall 1 = .ok (.bipush 97, 2) := by decide +kernel
theorem dX8_isSmall_3 : decode cX8_isSmall 3 = .ok (.if_icmp .lt 13, 3) := by decide +kernel
theorem dX8_isSmall_6 : decode cX8_isSmall 6 = .ok (.iload_n 0, 1) := by decide +kernel
theorem dX8_isSmall_7 : decode cX8_isSmall 7 = .ok (.bipush 122, 2) := by decide +kernel
theorem dX8_isSmall_9 : decode cX8_isSmall 9 = .ok (.if_icmp .gt 7, 3) := by decide +kernel
theorem dX8_isSmall_12 : decode cX8_isSmall 12 = .ok (.iconst 1, 1) := by decide +kernel
theorem dX8_isSmall_13 : decode cX8_isSmall 13 = .ok (.goto 4, 3) := by decide +kernel
theorem dX8_isSmall_16 : decode cX8_isSmall 16 = .ok (.iconst 0, 1) := by decide +kernel
theorem dX8_isSmall_17 : decode cX8_isSmall 17 = .ok (.ireturn, 1) := by decide +kernel
theorem dX8_isDigit_0 : decode cX8_isDigit 0 = .ok (.iload_n 0, 1) := by decide +kernel
theorem dX8_isDigit_1 : decode cX8_isDigit 1 = .ok (.bipush 48, 2) := by decide +kernel
theorem dX8_isDigit_3 : decode cX8_isDigit 3 = .ok (.if_icmp .lt 13, 3) := by decide +kernel
theorem dX8_isDigit_6 : decode cX8_isDigit 6 = .ok (.iload_n 0, 1) := by decide +kernel
theorem dX8_isDigit_7 : decode cX8_isDigit 7 = .ok (.bipush 57, 2) := by decide +kernel
theorem dX8_isDigit_9 : decode cX8_isDigit 9 = .ok (.if_icmp .gt 7, 3) := by decide +kernel
theorem dX8_isDigit_12 : decode cX8_isDigit 12 = .ok (.iconst 1, 1) := by decide +kernel
theorem dX8_isDigit_13 : decode cX8_isDigit 13 = .ok (.goto 4, 3) := by decide +kernel
theorem dX8_isDigit_16 : decode cX8_isDigit 16 = .ok (.iconst 0, 1) := by decide +kernel
theorem dX8_isDigit_17 : decode cX8_isDigit 17 = .ok (.ireturn, 1) := by decide +kernel
theorem dX8_next_0 : decode cX8_next 0 = .ok (.aload_n 0, 1) := by decide +kernel
theorem dX8_next_1 : decode cX8_next 1 = .ok (.invokevirtual 141, 3) := by decide +kernel
theorem dX8_next_4 : decode cX8_next 4 = .ok (.bipush 10, 2) := by decide +kernel
theorem dX8_next_6 : decode cX8_next 6 = .ok (.if_icmp .eq 12, 3) := by decide +kernel
theorem dX8_next_9 : decode cX8_next 9 = .ok (.aload_n 0, 1) := by decide +kernel
theorem dX8_next_10 : decode cX8_next 10 = .ok (.invokevirtual 141, 3) := by decide +kernel
theorem dX8_next_13 : decode cX8_next 13 = .ok (.bipush 32, 2) := by decide +kernel
theorem dX8_next_15 : decode cX8_next 15 = .ok (.if_icmp .ne 16, 3) := by decide +kernel
theorem dX8_next_18 : decode cX8_next 18 = .ok (.aload_n 0, 1) := by decide +kernel
theorem dX8_next_19 : decode cX8_next 19 = .ok (.dup, 1) := by decide +kernel
theorem dX8_next_20 : decode cX8_next 20 = .ok (.getfield 135, 3) := by decide +kernel
theorem dX8_next_23 : decode cX8_next 23 = .ok (.iconst 1, 1) := by decide +kernel
theorem dX8_next_24 : decode cX8_next 24 = .ok (.iadd, 1) := by decide +kernel
theorem dX8_next_25 : decode cX8_next 25 = .ok (.putfield 135, 3) := by decide +kernel
theorem dX8_next_28 : decode cX8_next 28 = .ok (.goto (-28), 3) := by decide +kernel
theorem dX8_next_31 : decode cX8_next 31 = .ok (.aload_n 0, 1) := by decide +kernel
theorem dX8_next_32 : decode cX8_next 32 = .ok (.aload_n 0, 1) := by decide +kernel
theorem dX8_next_33 : decode cX8_next 33 = .ok (.getfield 135, 3) := by decide +kernel
theorem dX8_next_36 : decode cX8_next 36 = .ok (.putfield 144, 3) := by decide +kernel
theorem dX8_next_39 : decode cX8_next 39 = .ok (.aload_n 0, 1) := by decide +kernel
theorem dX8_next_40 : decode cX8_next 40 = .ok (.invokevirtual 141, 3) := by decide +kernel
theorem dX8_next_43 : decode cX8_next 43 = .ok (.istore_n 1, 1) := by decide +kernel
theorem dX8_next_44 : decode cX8_next 44 = .ok (.iload_n 1, 1) := by decide +kernel
theorem dX8_next_45 : decode cX8_next 45 = .ok (.iconst (-1), 1) := by decide +kernel
theorem dX8_next_46 : decode cX8_next 46 = .ok (.if_icmp .ne 11, 3) := by decide +kernel
theorem dX8_next_49 : decode cX8_next 49 = .ok (.aload_n 0, 1) := by decide +kernel
theorem dX8_next_50 : decode cX8_next 50 = .ok (.iconst 3, 1) := by decide +kernel
theorem dX8_next_51 : decode cX8_next 51 = .ok (.putfield 147, 3) := by decide +kernel
theorem dX8_next_54 : decode cX8_next 54 = .ok (.goto 141, 3) := by decide +kernel
theorem dX8_next_57 : decode cX8_next 57 = .ok (.iload_n 1, 1) := by decide +kernel
theorem dX8_next_58 : decode cX8_next 58 = .ok (.invokestatic 150, 3) := by decide +kernel
theorem dX8_next_61 : decode cX8_next 61 = .ok (.ifCond .eq 34, 3) := by decide +kernel
theorem dX8_next_64 : decode cX8_next 64 = .ok (.aload_n 0, 1) := by decide +kernel
theorem dX8_next_65 : decode cX8_next 65 = .ok (.invokevirtual 141, 3) := by decide +kernel
theorem dX8_next_68 : decode cX8_next 68 = .ok (.invokestatic 150, 3) := by decide +kernel
theorem dX8_next_71 : decode cX8_next 71 = .ok (.ifCond .eq 16, 3) := by decide +kernel
theorem dX8_next_74 : decode cX8_next 74 = .ok (.aload_n 0, 1) := by decide +kernel
theorem dX8_next_75 : decode cX8_next 75 = .ok (.dup, 1) := by decide +kernel
theorem dX8_next_76 : decode cX8_next 76 = .ok (.getfield 135, 3) := by decide +kernel
theorem dX8_next_79 : decode cX8_next 79 = .ok (.iconst 1, 1) := by decide +kernel
theorem dX8_next_80 : decode cX8_next 80 = .ok (.iadd, 1) := by decide +kernel
theorem dX8_next_81 : decode cX8_next 81 = .ok (.putfield 135, 3) := by decide +kernel
theorem dX8_next_84 : decode cX8_next 84 = .ok (.goto (-20), 3) := by decide +kernel
theorem dX8_next_87 : decode cX8_next 87 = .ok (.aload_n 0, 1) := by decide +kernel
theorem dX8_next_88 : decode cX8_next 88 = .ok (.iconst 0, 1) := by decide +kernel
theorem dX8_next_89 : decode cX8_next 89 = .ok (.putfield 147, 3) := by decide +kernel
theorem dX8_next_92 : decode cX8_next 92 = .ok (.goto 103, 3) := by decide +kernel
theorem dX8_next_95 : decode cX8_next 95 = .ok (.iload_n 1, 1) := by decide +kernel
theorem dX8_next_96 : decode cX8_next 96 = .ok (.invokestatic 153, 3) := by decide +kernel
theorem dX8_next_99 : decode cX8_next 99 = .ok (.ifCond .eq 71, 3) := by decide +kernel
theorem dX8_next_102 : decode cX8_next 102 = .ok (.aload_n 0, 1) := by decide +kernel
theorem dX8_next_103 : decode cX8_next 103 = .ok (.iconst 1, 1) := by decide +kernel
theorem dX8_next_104 : decode cX8_next 104 = .ok (.putfield 147, 3) := by decide +kernel
theorem dX8_next_107 : decode cX8_next 107 = .ok (.aload_n 0, 1) := by decide +kernel
theorem dX8_next_108 : decode cX8_next 108 = .ok (.iconst 0, 1) := by decide +kernel
theorem dX8_next_109 : decode cX8_next 109 = .ok (.putfield 156, 3) := by decide +kernel
theorem dX8_next_112 : decode cX8_next 112 = .ok (.aload_n 0, 1) := by decide +kernel
theorem dX8_next_113 : decode cX8_next 113 = .ok (.invokevirtual 141, 3) := by decide +kernel
theorem dX8_next_116 : decode cX8_next 116 = .ok (.invokestatic 153, 3) := by decide +kernel
theorem dX8_next_119 : decode cX8_next 119 = .ok (.ifCond .eq 76, 3) := by decide +kernel
theorem dX8_next_122 : decode cX8_next 122 = .ok (.aload_n 0, 1) := by decide +kernel
theorem dX8_next_123 : decode cX8_next 123 = .ok (.aload_n 0, 1) := by decide +kernel
theorem dX8_next_124 : decode cX8_next 124 = .ok (.getfield 156, 3) := by decide +kernel
theorem dX8_next_127 : decode cX8_next 127 = .ok (.ldc 122, 2) := by decide +kernel
theorem dX8_next_129 : decode cX8_next 129 = .ok (.if_icmp .le 10, 3) := by decide +kernel
theorem dX8_next_132 : decode cX8_next 132 = .ok (.aload_n 0, 1) := by decide +kernel
theorem dX8_next_133 : decode cX8_next 133 = .ok (.getfield 156, 3) := by decide +kernel
theorem dX8_next_136 : decode cX8_next 136 = .ok (.goto 18, 3) := by decide +kernel
theorem dX8_next_139 : decode cX8_next 139 = .ok (.bipush 10, 2) := by decide +kernel
theorem dX8_next_141 : decode cX8_next 141 = .ok (.aload_n 0, 1) := by decide +kernel
theorem dX8_next_142 : decode cX8_next 142 = .ok (.getfield 156, 3) := by decide +kernel
theorem dX8_next_145 : decode cX8_next 145 = .ok (.imul, 1) := by decide +kernel
theorem dX8_next_146 : decode cX8_next 146 = .ok (.aload_n 0, 1) := by decide +kernel
theorem dX8_next_147 : decode cX8_next 147 = .ok (.invokevirtual 141, 3) := by decide +kernel
theorem dX8_next_150 : decode cX8_next 150 = .ok (.iadd, 1) := by decide +kernel
theorem dX8_next_151 : decode cX8_next 151 = .ok (.bipush 48, 2) := by decide +kernel
theorem dX8_next_153 : decode cX8_next 153 = .ok (.isub, 1) := by decide +kernel
theorem dX8_next_154 : decode cX8_next 154 = .ok (.putfield 156, 3) := by decide +kernel
theorem dX8_next_157 : decode cX8_next 157 = .ok (.aload_n 0, 1) := by decide +kernel
theorem dX8_next_158 : decode cX8_next 158 = .ok (.dup, 1) := by decide +kernel
theorem dX8_next_159 : decode cX8_next 159 = .ok (.getfield 135, 3) := by decide +kernel
theorem dX8_next_162 : decode cX8_next 162 = .ok (.iconst 1, 1) := by decide +kernel
theorem dX8_next_163 : decode cX8_next 163 = .ok (.iadd, 1) := by decide +kernel
theorem dX8_next_164 : decode cX8_next 164 = .ok (.putfield 135, 3) := by decide +kernel
theorem dX8_next_167 : decode cX8_next 167 = .ok (.goto (-55), 3) := by decide +kernel
theorem dX8_next_170 : decode cX8_next 170 = .ok (.aload_n 0, 1) := by decide +kernel
theorem dX8_next_171 : decode cX8_next 171 = .ok (.iload_n 1, 1) := by decide +kernel
theorem dX8_next_172 : decode cX8_next 172 = .ok (.bipush 59, 2) := by decide +kernel
theorem dX8_next_174 : decode cX8_next 174 = .ok (.if_icmp .ne 7, 3) := by decide +kernel
theorem dX8_next_177 : decode cX8_next 177 = .ok (.iconst 2, 1) := by decide +kernel
theorem dX8_next_178 : decode cX8_next 178 = .ok (.goto 4, 3) := by decide +kernel
theorem dX8_next_181 : decode cX8_next 181 = .ok (.iconst 4, 1) := by decide +kernel
theorem dX8_next_182 : decode cX8_next 182 = .ok (.putfield 147, 3) := by decide +kernel
theorem dX8_next_185 : decode cX8_next 185 = .ok (.aload_n 0, 1) := by decide +kernel
theorem dX8_next_186 : decode cX8_next 186 = .ok (.dup, 1) := by decide +kernel
theorem dX8_next_187 : decode cX8_next 187 = .ok (.getfield 135, 3) := by decide +kernel
theorem dX8_next_190 : decode cX8_next 190 = .ok (.iconst 1, 1) := by decide +kernel
theorem dX8_next_191 : decode cX8_next 191 = .ok (.iadd, 1) := by decide +kernel
theorem dX8_next_192 : decode cX8_next 192 = .ok (.putfield 135, 3) := by decide +kernel
theorem dX8_next_195 : decode cX8_next 195 = .ok (.return_, 1) := by decide +kernel
theorem dX8_wordOf_0 : decode cX8_wordOf 0 = .ok (.iconst 0, 1) := by decide +kernel
theorem dX8_wordOf_1 : decode cX8_wordOf 1 = .ok (.istore_n 2, 1) := by decide +kernel
theorem dX8_wordOf_2 : decode cX8_wordOf 2 = .ok (.iconst 0, 1) := by decide +kernel
theorem dX8_wordOf_3 : decode cX8_wordOf 3 = .ok (.istore_n 3, 1) := by decide +kernel
theorem dX8_wordOf_4 : decode cX8_wordOf 4 = .ok (.aload_n 0, 1) := by decide +kernel
theorem dX8_wordOf_5 : decode cX8_wordOf 5 = .ok (.getfield 147, 3) := by decide +kernel
theorem dX8_wordOf_8 : decode cX8_wordOf 8 = .ok (.ifCond .ne 124, 3) := by decide +kernel
theorem dX8_wordOf_11 : decode cX8_wordOf 11 = .ok (.iload_n 3, 1) := by decide +kernel
theorem dX8_wordOf_12 : decode cX8_wordOf 12 = .ok (.aload_n 1, 1) := by decide +kernel
theorem dX8_wordOf_13 : decode cX8_wordOf 13 = .ok (.invokevirtual 159, 3) := by decide +kernel
theorem dX8_wordOf_16 : decode cX8_wordOf 16 = .ok (.if_icmp .ge 116, 3) := by decide +kernel
theorem dX8_wordOf_19 : decode cX8_wordOf 19 = .ok (.iconst 0, 1) := by decide +kernel
theorem dX8_wordOf_20 : decode cX8_wordOf 20 = .ok (.istore 4, 2) := by decide +kernel
theorem dX8_wordOf_22 : decode cX8_wordOf 22 = .ok (.aload_n 1, 1) := by decide +kernel
theorem dX8_wordOf_23 : decode cX8_wordOf 23 = .ok (.iload_n 3, 1) := by decide +kernel
theorem dX8_wordOf_24 : decode cX8_wordOf 24 = .ok (.iload 4, 2) := by decide +kernel
theorem dX8_wordOf_26 : decode cX8_wordOf 26 = .ok (.iadd, 1) := by decide +kernel
theorem dX8_wordOf_27 : decode cX8_wordOf 27 = .ok (.invokevirtual 164, 3) := by decide +kernel
theorem dX8_wordOf_30 : decode cX8_wordOf 30 = .ok (.bipush 32, 2) := by decide +kernel
theorem dX8_wordOf_32 : decode cX8_wordOf 32 = .ok (.if_icmp .eq 46, 3) := by decide +kernel
theorem dX8_wordOf_35 : decode cX8_wordOf 35 = .ok (.aload_n 0, 1) := by decide +kernel
theorem dX8_wordOf_36 : decode cX8_wordOf 36 = .ok (.getfield 144, 3) := by decide +kernel
theorem dX8_wordOf_39 : decode cX8_wordOf 39 = .ok (.iload 4, 2) := by decide +kernel
theorem dX8_wordOf_41 : decode cX8_wordOf 41 = .ok (.iadd, 1) := by decide +kernel
theorem dX8_wordOf_42 : decode cX8_wordOf 42 = .ok (.aload_n 0, 1) := by decide +kernel
theorem dX8_wordOf_43 : decode cX8_wordOf 43 = .ok (.getfield 135, 3) := by decide +kernel
theorem dX8_wordOf_46 : decode cX8_wordOf 46 = .ok (.if_icmp .ge 32, 3) := by decide +kernel
theorem dX8_wordOf_49 : decode cX8_wordOf 49 = .ok (.aload_n 0, 1) := by decide +kernel
theorem dX8_wordOf_50 : decode cX8_wordOf 50 = .ok (.getfield 7, 3) := by decide +kernel
theorem dX8_wordOf_53 : decode cX8_wordOf 53 = .ok (.aload_n 0, 1) := by decide +kernel
theorem dX8_wordOf_54 : decode cX8_wordOf 54 = .ok (.getfield 144, 3) := by decide +kernel
theorem dX8_wordOf_57 : decode cX8_wordOf 57 = .ok (.iload 4, 2) := by decide +kernel
theorem dX8_wordOf_59 : decode cX8_wordOf 59 = .ok (.iadd, 1) := by decide +kernel
theorem dX8_wordOf_60 : decode cX8_wordOf 60 = .ok (.iaload, 1) := by decide +kernel
theorem dX8_wordOf_61 : decode cX8_wordOf 61 = .ok (.aload_n 1, 1) := by decide +kernel
theorem dX8_wordOf_62 : decode cX8_wordOf 62 = .ok (.iload_n 3, 1) := by decide +kernel
theorem dX8_wordOf_63 : decode cX8_wordOf 63 = .ok (.iload 4, 2) := by decide +kernel
theorem dX8_wordOf_65 : decode cX8_wordOf 65 = .ok (.iadd, 1) := by decide +kernel
theorem dX8_wordOf_66 : decode cX8_wordOf 66 = .ok (.invokevirtual 164, 3) := by decide +kernel
theorem dX8_wordOf_69 : decode cX8_wordOf 69 = .ok (.if_icmp .ne 9, 3) := by decide +kernel
theorem dX8_wordOf_72 : decode cX8_wordOf 72 = .ok (.iinc 4 1, 3) := by decide +kernel
theorem dX8_wordOf_75 : decode cX8_wordOf 75 = .ok (.goto (-53), 3) := by decide +kernel
theorem dX8_wordOf_78 : decode cX8_wordOf 78 = .ok (.aload_n 1, 1) := by decide +kernel
theorem dX8_wordOf_79 : decode cX8_wordOf 79 = .ok (.iload_n 3, 1) := by decide +kernel
theorem dX8_wordOf_80 : decode cX8_wordOf 80 = .ok (.iload 4, 2) := by decide +kernel
theorem dX8_wordOf_82 : decode cX8_wordOf 82 = .ok (.iadd, 1) := by decide +kernel
theorem dX8_wordOf_83 : decode cX8_wordOf 83 = .ok (.invokevirtual 164, 3) := by decide +kernel
theorem dX8_wordOf_86 : decode cX8_wordOf 86 = .ok (.bipush 32, 2) := by decide +kernel
theorem dX8_wordOf_88 : decode cX8_wordOf 88 = .ok (.if_icmp .ne 19, 3) := by decide +kernel
theorem dX8_wordOf_91 : decode cX8_wordOf 91 = .ok (.aload_n 0, 1) := by decide +kernel
theorem dX8_wordOf_92 : decode cX8_wordOf 92 = .ok (.getfield 144, 3) := by decide +kernel
theorem dX8_wordOf_95 : decode cX8_wordOf 95 = .ok (.iload 4, 2) := by decide +kernel
theorem dX8_wordOf_97 : decode cX8_wordOf 97 = .ok (.iadd, 1) := by decide +kernel
theorem dX8_wordOf_98 : decode cX8_wordOf 98 = .ok (.aload_n 0, 1) := by decide +kernel
theorem dX8_wordOf_99 : decode cX8_wordOf 99 = .ok (.getfield 135, 3) := by decide +kernel
theorem dX8_wordOf_102 : decode cX8_wordOf 102 = .ok (.if_icmp .ne 5, 3) := by decide +kernel
theorem dX8_wordOf_105 : decode cX8_wordOf 105 = .ok (.iload_n 2, 1) := by decide +kernel
theorem dX8_wordOf_106 : decode cX8_wordOf 106 = .ok (.ireturn, 1) := by decide +kernel
theorem dX8_wordOf_107 : decode cX8_wordOf 107 = .ok (.aload_n 1, 1) := by decide +kernel
theorem dX8_wordOf_108 : decode cX8_wordOf 108 = .ok (.iload_n 3, 1) := by decide +kernel
theorem dX8_wordOf_109 : decode cX8_wordOf 109 = .ok (.invokevirtual 164, 3) := by decide +kernel
theorem dX8_wordOf_112 : decode cX8_wordOf 112 = .ok (.bipush 32, 2) := by decide +kernel
theorem dX8_wordOf_114 : decode cX8_wordOf 114 = .ok (.if_icmp .eq 9, 3) := by decide +kernel
theorem dX8_wordOf_117 : decode cX8_wordOf 117 = .ok (.iinc 3 1, 3) := by decide +kernel
theorem dX8_wordOf_120 : decode cX8_wordOf 120 = .ok (.goto (-13), 3) := by decide +kernel
theorem dX8_wordOf_123 : decode cX8_wordOf 123 = .ok (.iinc 3 1, 3) := by decide +kernel
theorem dX8_wordOf_126 : decode cX8_wordOf 126 = .ok (.iinc 2 1, 3) := by decide +kernel
theorem dX8_wordOf_129 : decode cX8_wordOf 129 = .ok (.goto (-125), 3) := by decide +kernel
theorem dX8_wordOf_132 : decode cX8_wordOf 132 = .ok (.iconst (-1), 1) := by decide +kernel
theorem dX8_wordOf_133 : decode cX8_wordOf 133 = .ok (.ireturn, 1) := by decide +kernel
theorem dX8_failsIf_0 : decode cX8_failsIf 0 = .ok (.aload_n 0, 1) := by decide +kernel
theorem dX8_failsIf_1 : decode cX8_failsIf 1 = .ok (.getfield 168, 3) := by decide +kernel
theorem dX8_failsIf_4 : decode cX8_failsIf 4 = .ok (.ifCond .ne 7, 3) := by decide +kernel
theorem dX8_failsIf_7 : decode cX8_failsIf 7 = .ok (.iload_n 1, 1) := by decide +kernel
theorem dX8_failsIf_8 : decode cX8_failsIf 8 = .ok (.ifCond .ne 4, 3) := by decide +kernel
theorem dX8_failsIf_11 : decode cX8_failsIf 11 = .ok (.return_, 1) := by decide +kernel
theorem dX8_failsIf_12 : decode cX8_failsIf 12 = .ok (.aload_n 0, 1) := by decide +kernel
theorem dX8_failsIf_13 : decode cX8_failsIf 13 = .ok (.iload_n 2, 1) := by decide +kernel
theorem dX8_failsIf_14 : decode cX8_failsIf 14 = .ok (.putfield 168, 3) := by decide +kernel
theorem dX8_failsIf_17 : decode cX8_failsIf 17 = .ok (.aload_n 0, 1) := by decide +kernel
theorem dX8_failsIf_18 : decode cX8_failsIf 18 = .ok (.aload_n 0, 1) := by decide +kernel
theorem dX8_failsIf_19 : decode cX8_failsIf 19 = .ok (.getfield 144, 3) := by decide +kernel
theorem dX8_failsIf_22 : decode cX8_failsIf 22 = .ok (.putfield 171, 3) := by decide +kernel
theorem dX8_failsIf_25 : decode cX8_failsIf 25 = .ok (.return_, 1) := by decide +kernel
theorem dX8_goOn_0 : decode cX8_goOn 0 = .ok (.aload_n 0, 1) := by decide +kernel
theorem dX8_goOn_1 : decode cX8_goOn 1 = .ok (.getfield 168, 3) := by decide +kernel
theorem dX8_goOn_4 : decode cX8_goOn 4 = .ok (.ifCond .ne 7, 3) := by decide +kernel
theorem dX8_goOn_7 : decode cX8_goOn 7 = .ok (.aload_n 0, 1) := by decide +kernel
theorem dX8_goOn_8 : decode cX8_goOn 8 = .ok (.invokevirtual 174, 3) := by decide +kernel
theorem dX8_goOn_11 : decode cX8_goOn 11 = .ok (.return_, 1) := by decide +kernel
theorem dX8_integer_0 : decode cX8_integer 0 = .ok (.aload_n 0, 1) := by decide +kernel
theorem dX8_integer_1 : decode cX8_integer 1 = .ok (.aload_n 0, 1) := by decide +kernel
theorem dX8_integer_2 : decode cX8_integer 2 = .ok (.getfield 147, 3) := by decide +kernel
theorem dX8_integer_5 : decode cX8_integer 5 = .ok (.iconst 1, 1) := by decide +kernel
theorem dX8_integer_6 : decode cX8_integer 6 = .ok (.if_icmp .eq 7, 3) := by decide +kernel
theorem dX8_integer_9 : decode cX8_integer 9 = .ok (.iconst 1, 1) := by decide +kernel
theorem dX8_integer_10 : decode cX8_integer 10 = .ok (.goto 4, 3) := by decide +kernel
theorem dX8_integer_13 : decode cX8_integer 13 = .ok (.iconst 0, 1) := by decide +kernel
theorem dX8_integer_14 : decode cX8_integer 14 = .ok (.bipush (-11), 2) := by decide +kernel
theorem dX8_integer_16 : decode cX8_integer 16 = .ok (.invokevirtual 177, 3) := by decide +kernel
theorem dX8_integer_19 : decode cX8_integer 19 = .ok (.aload_n 0, 1) := by decide +kernel
theorem dX8_integer_20 : decode cX8_integer 20 = .ok (.aload_n 0, 1) := by decide +kernel
theorem dX8_integer_21 : decode cX8_integer 21 = .ok (.getfield 156, 3) := by decide +kernel
theorem dX8_integer_24 : decode cX8_integer 24 = .ok (.iload_n 1, 1) := by decide +kernel
theorem dX8_integer_25 : decode cX8_integer 25 = .ok (.if_icmp .lt 11, 3) := by decide +kernel
theorem dX8_integer_28 : decode cX8_integer 28 = .ok (.aload_n 0, 1) := by decide +kernel
theorem dX8_integer_29 : decode cX8_integer 29 = .ok (.getfield 156, 3) := by decide +kernel
theorem dX8_integer_32 : decode cX8_integer 32 = .ok (.iload_n 2, 1) := by decide +kernel
theorem dX8_integer_33 : decode cX8_integer 33 = .ok (.if_icmp .le 7, 3) := by decide +kernel
theorem dX8_integer_36 : decode cX8_integer 36 = .ok (.iconst 1, 1) := by decide +kernel
theorem dX8_integer_37 : decode cX8_integer 37 = .ok (.goto 4, 3) := by decide +kernel
theorem dX8_integer_40 : decode cX8_integer 40 = .ok (.iconst 0, 1) := by decide +kernel
theorem dX8_integer_41 : decode cX8_integer 41 = .ok (.bipush (-12), 2) := by decide +kernel
theorem dX8_integer_43 : decode cX8_integer 43 = .ok (.invokevirtual 177, 3) := by decide +kernel
theorem dX8_integer_46 : decode cX8_integer 46 = .ok (.aload_n 0, 1) := by decide +kernel
theorem dX8_integer_47 : decode cX8_integer 47 = .ok (.getfield 168, 3) := by decide +kernel
theorem dX8_integer_50 : decode cX8_integer 50 = .ok (.ifCond .ne 10, 3) := by decide +kernel
theorem dX8_integer_53 : decode cX8_integer 53 = .ok (.aload_n 0, 1) := by decide +kernel
theorem dX8_integer_54 : decode cX8_integer 54 = .ok (.getfield 156, 3) := by decide +kernel
theorem dX8_integer_57 : decode cX8_integer 57 = .ok (.goto 4, 3) := by decide +kernel
theorem dX8_integer_60 : decode cX8_integer 60 = .ok (.iload_n 1, 1) := by decide +kernel
theorem dX8_integer_61 : decode cX8_integer 61 = .ok (.istore_n 3, 1) := by decide +kernel
theorem dX8_integer_62 : decode cX8_integer 62 = .ok (.aload_n 0, 1) := by decide +kernel
theorem dX8_integer_63 : decode cX8_integer 63 = .ok (.invokevirtual 181, 3) := by decide +kernel
theorem dX8_integer_66 : decode cX8_integer 66 = .ok (.iload_n 3, 1) := by decide +kernel
theorem dX8_integer_67 : decode cX8_integer 67 = .ok (.ireturn, 1) := by decide +kernel
theorem dX8_nameHere_0 : decode cX8_nameHere 0 = .ok (.aload_n 0, 1) := by decide +kernel
theorem dX8_nameHere_1 : decode cX8_nameHere 1 = .ok (.aload_n 0, 1) := by decide +kernel
theorem dX8_nameHere_2 : decode cX8_nameHere 2 = .ok (.getfield 147, 3) := by decide +kernel
theorem dX8_nameHere_5 : decode cX8_nameHere 5 = .ok (.ifCond .ne 27, 3) := by decide +kernel
theorem dX8_nameHere_8 : decode cX8_nameHere 8 = .ok (.aload_n 0, 1) := by decide +kernel
theorem dX8_nameHere_9 : decode cX8_nameHere 9 = .ok (.getfield 135, 3) := by decide +kernel
theorem dX8_nameHere_12 : decode cX8_nameHere 12 = .ok (.aload_n 0, 1) := by decide +kernel
theorem dX8_nameHere_13 : decode cX8_nameHere 13 = .ok (.getfield 144, 3) := by decide +kernel
theorem dX8_nameHere_16 : decode cX8_nameHere 16 = .ok (.isub, 1) := by decide +kernel
theorem dX8_nameHere_17 : decode cX8_nameHere 17 = .ok (.bipush 6, 2) := by decide +kernel
theorem dX8_nameHere_19 : decode cX8_nameHere 19 = .ok (.if_icmp .gt 13, 3) := by decide +kernel
theorem dX8_nameHere_22 : decode cX8_nameHere 22 = .ok (.aload_n 0, 1) := by decide +kernel
theorem dX8_nameHere_23 : decode cX8_nameHere 23 = .ok (.ldc 184, 2) := by decide +kernel
theorem dX8_nameHere_25 : decode cX8_nameHere 25 = .ok (.invokevirtual 186, 3) := by decide +kernel
theorem dX8_nameHere_28 : decode cX8_nameHere 28 = .ok (.iconst (-1), 1) := by decide +kernel
theorem dX8_nameHere_29 : decode cX8_nameHere 29 = .ok (.if_icmp .eq 7, 3) := by decide +kernel
theorem dX8_nameHere_32 : decode cX8_nameHere 32 = .ok (.iconst 1, 1) := by decide +kernel
theorem dX8_nameHere_33 : decode cX8_nameHere 33 = .ok (.goto 4, 3) := by decide +kernel
theorem dX8_nameHere_36 : decode cX8_nameHere 36 = .ok (.iconst 0, 1) := by decide +kernel
theorem dX8_nameHere_37 : decode cX8_nameHere 37 = .ok (.bipush (-11), 2) := by decide +kernel
theorem dX8_nameHere_39 : decode cX8_nameHere 39 = .ok (.invokevirtual 177, 3) := by decide +kernel
theorem dX8_nameHere_42 : decode cX8_nameHere 42 = .ok (.iconst 0, 1) := by decide +kernel
theorem dX8_nameHere_43 : decode cX8_nameHere 43 = .ok (.istore_n 1, 1) := by decide +kernel
theorem dX8_nameHere_44 : decode cX8_nameHere 44 = .ok (.iconst 0, 1) := by decide +kernel
theorem dX8_nameHere_45 : decode cX8_nameHere 45 = .ok (.istore_n 2, 1) := by decide +kernel
theorem dX8_nameHere_46 : decode cX8_nameHere 46 = .ok (.iload_n 2, 1) := by decide +kernel
theorem dX8_nameHere_47 : decode cX8_nameHere 47 = .ok (.bipush 6, 2) := by decide +kernel
theorem dX8_nameHere_49 : decode cX8_nameHere 49 = .ok (.if_icmp .ge 54, 3) := by decide +kernel
theorem dX8_nameHere_52 : decode cX8_nameHere 52 = .ok (.aload_n 0, 1) := by decide +kernel
theorem dX8_nameHere_53 : decode cX8_nameHere 53 = .ok (.getfield 168, 3) := by decide +kernel
theorem dX8_nameHere_56 : decode cX8_nameHere 56 = .ok (.ifCond .ne 47, 3) := by decide +kernel
theorem dX8_nameHere_59 : decode cX8_nameHere 59 = .ok (.iload_n 1, 1) := by decide +kernel
theorem dX8_nameHere_60 : decode cX8_nameHere 60 = .ok (.iconst 5, 1) := by decide +kernel
theorem dX8_nameHere_61 : decode cX8_nameHere 61 = .ok (.ishl, 1) := by decide +kernel
theorem dX8_nameHere_62 : decode cX8_nameHere 62 = .ok (.aload_n 0, 1) := by decide +kernel
theorem dX8_nameHere_63 : decode cX8_nameHere 63 = .ok (.getfield 144, 3) := by decide +kernel
theorem dX8_nameHere_66 : decode cX8_nameHere 66 = .ok (.iload_n 2, 1) := by decide +kernel
theorem dX8_nameHere_67 : decode cX8_nameHere 67 = .ok (.iadd, 1) := by decide +kernel
theorem dX8_nameHere_68 : decode cX8_nameHere 68 = .ok (.aload_n 0, 1) := by decide +kernel
theorem dX8_nameHere_69 : decode cX8_nameHere 69 = .ok (.getfield 135, 3) := by decide +kernel
theorem dX8_nameHere_72 : decode cX8_nameHere 72 = .ok (.if_icmp .ge 22, 3) := by decide +kernel
theorem dX8_nameHere_75 : decode cX8_nameHere 75 = .ok (.aload_n 0, 1) := by decide +kernel
theorem dX8_nameHere_76 : decode cX8_nameHere 76 = .ok (.getfield 7, 3) := by decide +kernel
theorem dX8_nameHere_79 : decode cX8_nameHere 79 = .ok (.aload_n 0, 1) := by decide +kernel
theorem dX8_nameHere_80 : decode cX8_nameHere 80 = .ok (.getfield 144, 3) := by decide +kernel
theorem dX8_nameHere_83 : decode cX8_nameHere 83 = .ok (.iload_n 2, 1) := by decide +kernel
theorem dX8_nameHere_84 : decode cX8_nameHere 84 = .ok (.iadd, 1) := by decide +kernel
theorem dX8_nameHere_85 : decode cX8_nameHere 85 = .ok (.iaload, 1) := by decide +kernel
theorem dX8_nameHere_86 : decode cX8_nameHere 86 = .ok (.bipush 97, 2) := by decide +kernel
theorem dX8_nameHere_88 : decode cX8_nameHere 88 = .ok (.isub, 1) := by decide +kernel
theorem dX8_nameHere_89 : decode cX8_nameHere 89 = .ok (.iconst 1, 1) := by decide +kernel
theorem dX8_nameHere_90 : decode cX8_nameHere 90 = .ok (.iadd, 1) := by decide +kernel
theorem dX8_nameHere_91 : decode cX8_nameHere 91 = .ok (.goto 4, 3) := by decide +kernel
theorem dX8_nameHere_94 : decode cX8_nameHere 94 = .ok (.iconst 0, 1) := by decide +kernel
theorem dX8_nameHere_95 : decode cX8_nameHere 95 = .ok (.ior, 1) := by decide +kernel
theorem dX8_nameHere_96 : decode cX8_nameHere 96 = .ok (.istore_n 1, 1) := by decide +kernel
theorem dX8_nameHere_97 : decode cX8_nameHere 97 = .ok (.iinc 2 1, 3) := by decide +kernel
theorem dX8_nameHere_100 : decode cX8_nameHere 100 = .ok (.goto (-54), 3) := by decide +kernel
theorem dX8_nameHere_103 : decode cX8_nameHere 103 = .ok (.iload_n 1, 1) := by decide +kernel
theorem dX8_nameHere_104 : decode cX8_nameHere 104 = .ok (.ireturn, 1) := by decide +kernel
theorem dX8_nameAt_0 : decode cX8_nameAt 0 = .ok (.iload_n 0, 1) := by decide +kernel
theorem dX8_nameAt_1 : decode cX8_nameAt 1 = .ok (.ifCond .ne 7, 3) := by decide +kernel
theorem dX8_nameAt_4 : decode cX8_nameAt 4 = .ok (.iconst 5, 1) := by decide +kernel
theorem dX8_nameAt_5 : decode cX8_nameAt 5 = .ok (.goto 25, 3) := by decide +kernel
theorem dX8_nameAt_8 : decode cX8_nameAt 8 = .ok (.iload_n 0, 1) := by decide +kernel
theorem dX8_nameAt_9 : decode cX8_nameAt 9 = .ok (.iconst 1, 1) := by decide +kernel
theorem dX8_nameAt_10 : decode cX8_nameAt 10 = .ok (.if_icmp .ne 8, 3) := by decide +kernel
theorem dX8_nameAt_13 : decode cX8_nameAt 13 = .ok (.bipush 10, 2) := by decide +kernel
theorem dX8_nameAt_15 : decode cX8_nameAt 15 = .ok (.goto 15, 3) := by decide +kernel
theorem dX8_nameAt_18 : decode cX8_nameAt 18 = .ok (.iload_n 0, 1) := by decide +kernel
theorem dX8_nameAt_19 : decode cX8_nameAt 19 = .ok (.iconst 2, 1) := by decide +kernel
theorem dX8_nameAt_20 : decode cX8_nameAt 20 = .ok (.if_icmp .ne 8, 3) := by decide +kernel
theorem dX8_nameAt_23 : decode cX8_nameAt 23 = .ok (.bipush 15, 2) := by decide +kernel
theorem dX8_nameAt_25 : decode cX8_nameAt 25 = .ok (.goto 5, 3) := by decide +kernel
theorem dX8_nameAt_28 : decode cX8_nameAt 28 = .ok (.bipush 21, 2) := by decide +kernel
theorem dX8_nameAt_30 : decode cX8_nameAt 30 = .ok (.ireturn, 1) := by decide +kernel
theorem dX8_nameFound_0 : decode cX8_nameFound 0 = .ok (.iconst 0, 1) := by decide +kernel
theorem dX8_nameFound_1 : decode cX8_nameFound 1 = .ok (.istore_n 3, 1) := by decide +kernel
theorem dX8_nameFound_2 : decode cX8_nameFound 2 = .ok (.iload_n 3, 1) := by decide +kernel
theorem dX8_nameFound_3 : decode cX8_nameFound 3 = .ok (.aload_n 0, 1) := by decide +kernel
theorem dX8_nameFound_4 : decode cX8_nameFound 4 = .ok (.iload_n 1, 1) := by decide +kernel
theorem dX8_nameFound_5 : decode cX8_nameFound 5 = .ok (.invokevirtual 44, 3) := by decide +kernel
theorem dX8_nameFound_8 : decode cX8_nameFound 8 = .ok (.if_icmp .ge 26, 3) := by decide +kernel
theorem dX8_nameFound_11 : decode cX8_nameFound 11 = .ok (.aload_n 0, 1) := by decide +kernel
theorem dX8_nameFound_12 : decode cX8_nameFound 12 = .ok (.getfield 13, 3) := by decide +kernel
theorem dX8_nameFound_15 : decode cX8_nameFound 15 = .ok (.iload_n 1, 1) := by decide +kernel
theorem dX8_nameFound_16 : decode cX8_nameFound 16 = .ok (.invokestatic 190, 3) := by decide +kernel
theorem dX8_nameFound_19 : decode cX8_nameFound 19 = .ok (.iload_n 3, 1) := by decide +kernel
theorem dX8_nameFound_20 : decode cX8_nameFound 20 = .ok (.iadd, 1) := by decide +kernel
theorem dX8_nameFound_21 : decode cX8_nameFound 21 = .ok (.iaload, 1) := by decide +kernel
theorem dX8_nameFound_22 : decode cX8_nameFound 22 = .ok (.iload_n 2, 1) := by decide +kernel
theorem dX8_nameFound_23 : decode cX8_nameFound 23 = .ok (.if_icmp .ne 5, 3) := by decide +kernel
theorem dX8_nameFound_26 : decode cX8_nameFound 26 = .ok (.iload_n 3, 1) := by decide +kernel
theorem dX8_nameFound_27 : decode cX8_nameFound 27 = .ok (.ireturn, 1) := by decide +kernel
theorem dX8_nameFound_28 : decode cX8_nameFound 28 = .ok (.iinc 3 1, 3) := by decide +kernel
theorem dX8_nameFound_31 : decode cX8_nameFound 31 = .ok (.goto (-29), 3) := by decide +kernel
theorem dX8_nameFound_34 : decode cX8_nameFound 34 = .ok (.iconst (-1), 1) := by decide +kernel
theorem dX8_nameFound_35 : decode cX8_nameFound 35 = .ok (.ireturn, 1) := by decide +kernel
theorem dX8_newName_0 : decode cX8_newName 0 = .ok (.aload_n 0, 1) := by decide +kernel
theorem dX8_newName_1 : decode cX8_newName 1 = .ok (.invokevirtual 193, 3) := by decide +kernel
theorem dX8_newName_4 : decode cX8_newName 4 = .ok (.istore_n 2, 1) := by decide +kernel
theorem dX8_newName_5 : decode cX8_newName 5 = .ok (.aload_n 0, 1) := by decide +kernel
theorem dX8_newName_6 : decode cX8_newName 6 = .ok (.aload_n 0, 1) := by decide +kernel
theorem dX8_newName_7 : decode cX8_newName 7 = .ok (.getfield 168, 3) := by decide +kernel
theorem dX8_newName_10 : decode cX8_newName 10 = .ok (.ifCond .ne 17, 3) := by decide +kernel
theorem dX8_newName_13 : decode cX8_newName 13 = .ok (.aload_n 0, 1) := by decide +kernel
theorem dX8_newName_14 : decode cX8_newName 14 = .ok (.iload_n 1, 1) := by decide +kernel
theorem dX8_newName_15 : decode cX8_newName 15 = .ok (.iload_n 2, 1) := by decide +kernel
theorem dX8_newName_16 : decode cX8_newName 16 = .ok (.invokevirtual 196, 3) := by decide +kernel
theorem dX8_newName_19 : decode cX8_newName 19 = .ok (.iconst (-1), 1) := by decide +kernel
theorem dX8_newName_20 : decode cX8_newName 20 = .ok (.if_icmp .eq 7, 3) := by decide +kernel
theorem dX8_newName_23 : decode cX8_newName 23 = .ok (.iconst 1, 1) := by decide +kernel
theorem dX8_newName_24 : decode cX8_newName 24 = .ok (.goto 4, 3) := by decide +kernel
theorem dX8_newName_27 : decode cX8_newName 27 = .ok (.iconst 0, 1) := by decide +kernel
theorem dX8_newName_28 : decode cX8_newName 28 = .ok (.bipush (-14), 2) := by decide +kernel
theorem dX8_newName_30 : decode cX8_newName 30 = .ok (.invokevirtual 177, 3) := by decide +kernel
theorem dX8_newName_33 : decode cX8_newName 33 = .ok (.aload_n 0, 1) := by decide +kernel
theorem dX8_newName_34 : decode cX8_newName 34 = .ok (.getfield 168, 3) := by decide +kernel
theorem dX8_newName_37 : decode cX8_newName 37 = .ok (.ifCond .ne 19, 3) := by decide +kernel
theorem dX8_newName_40 : decode cX8_newName 40 = .ok (.aload_n 0, 1) := by decide +kernel
theorem dX8_newName_41 : decode cX8_newName 41 = .ok (.getfield 13, 3) := by decide +kernel
theorem dX8_newName_44 : decode cX8_newName 44 = .ok (.iload_n 1, 1) := by decide +kernel
theorem dX8_newName_45 : decode cX8_newName 45 = .ok (.invokestatic 190, 3) := by decide +kernel
theorem dX8_newName_48 : decode cX8_newName 48 = .ok (.aload_n 0, 1) := by decide +kernel
theorem dX8_newName_49 : decode cX8_newName 49 = .ok (.iload_n 1, 1) := by decide +kernel
theorem dX8_newName_50 : decode cX8_newName 50 = .ok (.invokevirtual 44, 3) := by decide +kernel
theorem dX8_newName_53 : decode cX8_newName 53 = .ok (.iadd, 1) := by decide +kernel
theorem dX8_newName_54 : decode cX8_newName 54 = .ok (.iload_n 2, 1) := by decide +kernel
theorem dX8_newName_55 : decode cX8_newName 55 = .ok (.iastore, 1) := by decide +kernel
theorem dX8_newName_56 : decode cX8_newName 56 = .ok (.aload_n 0, 1) := by decide +kernel
theorem dX8_newName_57 : decode cX8_newName 57 = .ok (.invokevirtual 181, 3) := by decide +kernel
theorem dX8_newName_60 : decode cX8_newName 60 = .ok (.return_, 1) := by decide +kernel
theorem dX8_thing_0 : decode cX8_thing 0 = .ok (.aload_n 0, 1) := by decide +kernel
theorem dX8_thing_1 : decode cX8_thing 1 = .ok (.invokevirtual 193, 3) := by decide +kernel
theorem dX8_thing_4 : decode cX8_thing 4 = .ok (.istore_n 2, 1) := by decide +kernel
theorem dX8_thing_5 : decode cX8_thing 5 = .ok (.aload_n 0, 1) := by decide +kernel
theorem dX8_thing_6 : decode cX8_thing 6 = .ok (.getfield 168, 3) := by decide +kernel
theorem dX8_thing_9 : decode cX8_thing 9 = .ok (.ifCond .ne 12, 3) := by decide +kernel
theorem dX8_thing_12 : decode cX8_thing 12 = .ok (.aload_n 0, 1) := by decide +kernel
theorem dX8_thing_13 : decode cX8_thing 13 = .ok (.iload_n 1, 1) := by decide +kernel
theorem dX8_thing_14 : decode cX8_thing 14 = .ok (.iload_n 2, 1) := by decide +kernel
theorem dX8_thing_15 : decode cX8_thing 15 = .ok (.invokevirtual 196, 3) := by decide +kernel
theorem dX8_thing_18 : decode cX8_thing 18 = .ok (.goto 4, 3) := by decide +kernel
theorem dX8_thing_21 : decode cX8_thing 21 = .ok (.iconst 0, 1) := by decide +kernel
theorem dX8_thing_22 : decode cX8_thing 22 = .ok (.istore_n 3, 1) := by decide +kernel
theorem dX8_thing_23 : decode cX8_thing 23 = .ok (.aload_n 0, 1) := by decide +kernel
theorem dX8_thing_24 : decode cX8_thing 24 = .ok (.iload_n 3, 1) := by decide +kernel
theorem dX8_thing_25 : decode cX8_thing 25 = .ok (.iconst (-1), 1) := by decide +kernel
theorem dX8_thing_26 : decode cX8_thing 26 = .ok (.if_icmp .ne 7, 3) := by decide +kernel
theorem dX8_thing_29 : decode cX8_thing 29 = .ok (.iconst 1, 1) := by decide +kernel
theorem dX8_thing_30 : decode cX8_thing 30 = .ok (.goto 4, 3) := by decide +kernel
theorem dX8_thing_33 : decode cX8_thing 33 = .ok (.iconst 0, 1) := by decide +kernel
theorem dX8_thing_34 : decode cX8_thing 34 = .ok (.bipush (-13), 2) := by decide +kernel
theorem dX8_thing_36 : decode cX8_thing 36 = .ok (.invokevirtual 177, 3) := by decide +kernel
theorem dX8_thing_39 : decode cX8_thing 39 = .ok (.aload_n 0, 1) := by decide +kernel
theorem dX8_thing_40 : decode cX8_thing 40 = .ok (.invokevirtual 181, 3) := by decide +kernel
theorem dX8_thing_43 : decode cX8_thing 43 = .ok (.aload_n 0, 1) := by decide +kernel
theorem dX8_thing_44 : decode cX8_thing 44 = .ok (.getfield 168, 3) := by decide +kernel
theorem dX8_thing_47 : decode cX8_thing 47 = .ok (.ifCond .ne 7, 3) := by decide +kernel
theorem dX8_thing_50 : decode cX8_thing 50 = .ok (.iload_n 3, 1) := by decide +kernel
theorem dX8_thing_51 : decode cX8_thing 51 = .ok (.goto 4, 3) := by decide +kernel
theorem dX8_thing_54 : decode cX8_thing 54 = .ok (.iconst 0, 1) := by decide +kernel
theorem dX8_thing_55 : decode cX8_thing 55 = .ok (.ireturn, 1) := by decide +kernel
theorem dX8_readParty_0 : decode cX8_readParty 0 = .ok (.aload_n 0, 1) := by decide +kernel
theorem dX8_readParty_1 : decode cX8_readParty 1 = .ok (.aload_n 0, 1) := by decide +kernel
theorem dX8_readParty_2 : decode cX8_readParty 2 = .ok (.iconst 3, 1) := by decide +kernel
theorem dX8_readParty_3 : decode cX8_readParty 3 = .ok (.invokevirtual 44, 3) := by decide +kernel
theorem dX8_readParty_6 : decode cX8_readParty 6 = .ok (.ifCond .le 7, 3) := by decide +kernel
theorem dX8_readParty_9 : decode cX8_readParty 9 = .ok (.iconst 1, 1) := by decide +kernel
theorem dX8_readParty_10 : decode cX8_readParty 10 = .ok (.goto 4, 3) := by decide +kernel
theorem dX8_readParty_13 : decode cX8_readParty 13 = .ok (.iconst 0, 1) := by decide +kernel
theorem dX8_readParty_14 : decode cX8_readParty 14 = .ok (.bipush (-11), 2) := by decide +kernel
theorem dX8_readParty_16 : decode cX8_readParty 16 = .ok (.invokevirtual 177, 3) := by decide +kernel
theorem dX8_readParty_19 : decode cX8_readParty 19 = .ok (.aload_n 0, 1) := by decide +kernel
theorem dX8_readParty_20 : decode cX8_readParty 20 = .ok (.aload_n 0, 1) := by decide +kernel
theorem dX8_readParty_21 : decode cX8_readParty 21 = .ok (.iconst 0, 1) := by decide +kernel
theorem dX8_readParty_22 : decode cX8_readParty 22 = .ok (.invokevirtual 44, 3) := by decide +kernel
theorem dX8_readParty_25 : decode cX8_readParty 25 = .ok (.iconst 5, 1) := by decide +kernel
theorem dX8_readParty_26 : decode cX8_readParty 26 = .ok (.if_icmp .ne 7, 3) := by decide +kernel
theorem dX8_readParty_29 : decode cX8_readParty 29 = .ok (.iconst 1, 1) := by decide +kernel
theorem dX8_readParty_30 : decode cX8_readParty 30 = .ok (.goto 4, 3) := by decide +kernel
theorem dX8_readParty_33 : decode cX8_readParty 33 = .ok (.iconst 0, 1) := by decide +kernel
theorem dX8_readParty_34 : decode cX8_readParty 34 = .ok (.bipush (-15), 2) := by decide +kernel
theorem dX8_readParty_36 : decode cX8_readParty 36 = .ok (.invokevirtual 177, 3) := by decide +kernel
theorem dX8_readParty_39 : decode cX8_readParty 39 = .ok (.aload_n 0, 1) := by decide +kernel
theorem dX8_readParty_40 : decode cX8_readParty 40 = .ok (.invokevirtual 181, 3) := by decide +kernel
theorem dX8_readParty_43 : decode cX8_readParty 43 = .ok (.aload_n 0, 1) := by decide +kernel
theorem dX8_readParty_44 : decode cX8_readParty 44 = .ok (.iconst 0, 1) := by decide +kernel
theorem dX8_readParty_45 : decode cX8_readParty 45 = .ok (.invokevirtual 199, 3) := by decide +kernel
theorem dX8_readParty_48 : decode cX8_readParty 48 = .ok (.return_, 1) := by decide +kernel
theorem dX8_readRegion_0 : decode cX8_readRegion 0 = .ok (.aload_n 0, 1) := by decide +kernel
theorem dX8_readRegion_1 : decode cX8_readRegion 1 = .ok (.aload_n 0, 1) := by decide +kernel
theorem dX8_readRegion_2 : decode cX8_readRegion 2 = .ok (.iconst 1, 1) := by decide +kernel
theorem dX8_readRegion_3 : decode cX8_readRegion 3 = .ok (.invokevirtual 44, 3) := by decide +kernel
theorem dX8_readRegion_6 : decode cX8_readRegion 6 = .ok (.iconst 5, 1) := by decide +kernel
theorem dX8_readRegion_7 : decode cX8_readRegion 7 = .ok (.if_icmp .ne 7, 3) := by decide +kernel
theorem dX8_readRegion_10 : decode cX8_readRegion 10 = .ok (.iconst 1, 1) := by decide +kernel
theorem dX8_readRegion_11 : decode cX8_readRegion 11 = .ok (.goto 4, 3) := by decide +kernel
theorem dX8_readRegion_14 : decode cX8_readRegion 14 = .ok (.iconst 0, 1) := by decide +kernel
theorem dX8_readRegion_15 : decode cX8_readRegion 15 = .ok (.bipush (-15), 2) := by decide +kernel
theorem dX8_readRegion_17 : decode cX8_readRegion 17 = .ok (.invokevirtual 177, 3) := by decide +kernel
theorem dX8_readRegion_20 : decode cX8_readRegion 20 = .ok (.aload_n 0, 1) := by decide +kernel
theorem dX8_readRegion_21 : decode cX8_readRegion 21 = .ok (.invokevirtual 181, 3) := by decide +kernel
theorem dX8_readRegion_24 : decode cX8_readRegion 24 = .ok (.aload_n 0, 1) := by decide +kernel
theorem dX8_readRegion_25 : decode cX8_readRegion 25 = .ok (.iconst 1, 1) := by decide +kernel
theorem dX8_readRegion_26 : decode cX8_readRegion 26 = .ok (.invokevirtual 199, 3) := by decide +kernel
theorem dX8_readRegion_29 : decode cX8_readRegion 29 = .ok (.iconst (-1), 1) := by decide +kernel
theorem dX8_readRegion_30 : decode cX8_readRegion 30 = .ok (.istore_n 1, 1) := by decide +kernel
theorem dX8_readRegion_31 : decode cX8_readRegion 31 = .ok (.aload_n 0, 1) := by decide +kernel
theorem dX8_readRegion_32 : decode cX8_readRegion 32 = .ok (.getfield 168, 3) := by decide +kernel
theorem dX8_readRegion_35 : decode cX8_readRegion 35 = .ok (.ifCond .ne 23, 3) := by decide +kernel
theorem dX8_readRegion_38 : decode cX8_readRegion 38 = .ok (.aload_n 0, 1) := by decide +kernel
theorem dX8_readRegion_39 : decode cX8_readRegion 39 = .ok (.ldc 184, 2) := by decide +kernel
theorem dX8_readRegion_41 : decode cX8_readRegion 41 = .ok (.invokevirtual 186, 3) := by decide +kernel
theorem dX8_readRegion_44 : decode cX8_readRegion 44 = .ok (.iconst 2, 1) := by decide +kernel
theorem dX8_readRegion_45 : decode cX8_readRegion 45 = .ok (.if_icmp .ne 13, 3) := by decide +kernel
theorem dX8_readRegion_48 : decode cX8_readRegion 48 = .ok (.aload_n 0, 1) := by decide +kernel
theorem dX8_readRegion_49 : decode cX8_readRegion 49 = .ok (.invokevirtual 174, 3) := by decide +kernel
theorem dX8_readRegion_52 : decode cX8_readRegion 52 = .ok (.aload_n 0, 1) := by decide +kernel
theorem dX8_readRegion_53 : decode cX8_readRegion 53 = .ok (.iconst 1, 1) := by decide +kernel
theorem dX8_readRegion_54 : decode cX8_readRegion 54 = .ok (.invokevirtual 203, 3) := by decide +kernel
theorem dX8_readRegion_57 : decode cX8_readRegion 57 = .ok (.istore_n 1, 1) := by decide +kernel
theorem dX8_readRegion_58 : decode cX8_readRegion 58 = .ok (.aload_n 0, 1) := by decide +kernel
theorem dX8_readRegion_59 : decode cX8_readRegion 59 = .ok (.getfield 168, 3) := by decide +kernel
theorem dX8_readRegion_62 : decode cX8_readRegion 62 = .ok (.ifCond .ne 17, 3) := by decide +kernel
theorem dX8_readRegion_65 : decode cX8_readRegion 65 = .ok (.aload_n 0, 1) := by decide +kernel
theorem dX8_readRegion_66 : decode cX8_readRegion 66 = .ok (.getfield 13, 3) := by decide +kernel
theorem dX8_readRegion_69 : decode cX8_readRegion 69 = .ok (.bipush 33, 2) := by decide +kernel
theorem dX8_readRegion_71 : decode cX8_readRegion 71 = .ok (.aload_n 0, 1) := by decide +kernel
theorem dX8_readRegion_72 : decode cX8_readRegion 72 = .ok (.iconst 1, 1) := by decide +kernel
theorem dX8_readRegion_73 : decode cX8_readRegion 73 = .ok (.invokevirtual 44, 3) := by decide +kernel
theorem dX8_readRegion_76 : decode cX8_readRegion 76 = .ok (.iadd, 1) := by decide +kernel
theorem dX8_readRegion_77 : decode cX8_readRegion 77 = .ok (.iload_n 1, 1) := by decide +kernel
theorem dX8_readRegion_78 : decode cX8_readRegion 78 = .ok (.iastore, 1) := by decide +kernel
theorem dX8_readRegion_79 : decode cX8_readRegion 79 = .ok (.return_, 1) := by decide +kernel
theorem dX8_readWard_0 : decode cX8_readWard 0 = .ok (.aload_n 0, 1) := by decide +kernel
theorem dX8_readWard_1 : decode cX8_readWard 1 = .ok (.aload_n 0, 1) := by decide +kernel
theorem dX8_readWard_2 : decode cX8_readWard 2 = .ok (.iconst 2, 1) := by decide +kernel
theorem dX8_readWard_3 : decode cX8_readWard 3 = .ok (.invokevirtual 44, 3) := by decide +kernel
theorem dX8_readWard_6 : decode cX8_readWard 6 = .ok (.bipush 6, 2) := by decide +kernel
theorem dX8_readWard_8 : decode cX8_readWard 8 = .ok (.if_icmp .ne 7, 3) := by decide +kernel
theorem dX8_readWard_11 : decode cX8_readWard 11 = .ok (.iconst 1, 1) := by decide +kernel
theorem dX8_readWard_12 : decode cX8_readWard 12 = .ok (.goto 4, 3) := by decide +kernel
theorem dX8_readWard_15 : decode cX8_readWard 15 = .ok (.iconst 0, 1) := by decide +kernel
theorem dX8_readWard_16 : decode cX8_readWard 16 = .ok (.bipush (-15), 2) := by decide +kernel
theorem dX8_readWard_18 : decode cX8_readWard 18 = .ok (.invokevirtual 177, 3) := by decide +kernel
theorem dX8_readWard_21 : decode cX8_readWard 21 = .ok (.aload_n 0, 1) := by decide +kernel
theorem dX8_readWard_22 : decode cX8_readWard 22 = .ok (.invokevirtual 181, 3) := by decide +kernel
theorem dX8_readWard_25 : decode cX8_readWard 25 = .ok (.aload_n 0, 1) := by decide +kernel
theorem dX8_readWard_26 : decode cX8_readWard 26 = .ok (.iconst 2, 1) := by decide +kernel
theorem dX8_readWard_27 : decode cX8_readWard 27 = .ok (.invokevirtual 199, 3) := by decide +kernel
theorem dX8_readWard_30 : decode cX8_readWard 30 = .ok (.aload_n 0, 1) := by decide +kernel
theorem dX8_readWard_31 : decode cX8_readWard 31 = .ok (.iconst 1, 1) := by decide +kernel
theorem dX8_readWard_32 : decode cX8_readWard 32 = .ok (.invokevirtual 203, 3) := by decide +kernel
theorem dX8_readWard_35 : decode cX8_readWard 35 = .ok (.istore_n 1, 1) := by decide +kernel
theorem dX8_readWard_36 : decode cX8_readWard 36 = .ok (.aload_n 0, 1) := by decide +kernel
theorem dX8_readWard_37 : decode cX8_readWard 37 = .ok (.getfield 168, 3) := by decide +kernel
theorem dX8_readWard_40 : decode cX8_readWard 40 = .ok (.ifCond .ne 17, 3) := by decide +kernel
theorem dX8_readWard_43 : decode cX8_readWard 43 = .ok (.aload_n 0, 1) := by decide +kernel
theorem dX8_readWard_44 : decode cX8_readWard 44 = .ok (.getfield 13, 3) := by decide +kernel
theorem dX8_readWard_47 : decode cX8_readWard 47 = .ok (.bipush 38, 2) := by decide +kernel
theorem dX8_readWard_49 : decode cX8_readWard 49 = .ok (.aload_n 0, 1) := by decide +kernel
theorem dX8_readWard_50 : decode cX8_readWard 50 = .ok (.iconst 2, 1) := by decide +kernel
theorem dX8_readWard_51 : decode cX8_readWard 51 = .ok (.invokevirtual 44, 3) := by decide +kernel
theorem dX8_readWard_54 : decode cX8_readWard 54 = .ok (.iadd, 1) := by decide +kernel
theorem dX8_readWard_55 : decode cX8_readWard 55 = .ok (.iload_n 1, 1) := by decide +kernel
theorem dX8_readWard_56 : decode cX8_readWard 56 = .ok (.iastore, 1) := by decide +kernel
theorem dX8_readWard_57 : decode cX8_readWard 57 = .ok (.return_, 1) := by decide +kernel
theorem dX8_readBox_0 : decode cX8_readBox 0 = .ok (.aload_n 0, 1) := by decide +kernel
theorem dX8_readBox_1 : decode cX8_readBox 1 = .ok (.iconst 3, 1) := by decide +kernel
theorem dX8_readBox_2 : decode cX8_readBox 2 = .ok (.invokevirtual 44, 3) := by decide +kernel
theorem dX8_readBox_5 : decode cX8_readBox 5 = .ok (.istore_n 1, 1) := by decide +kernel
theorem dX8_readBox_6 : decode cX8_readBox 6 = .ok (.aload_n 0, 1) := by decide +kernel
theorem dX8_readBox_7 : decode cX8_readBox 7 = .ok (.iload_n 1, 1) := by decide +kernel
theorem dX8_readBox_8 : decode cX8_readBox 8 = .ok (.bipush 12, 2) := by decide +kernel
theorem dX8_readBox_10 : decode cX8_readBox 10 = .ok (.if_icmp .ne 7, 3) := by decide +kernel
theorem dX8_readBox_13 : decode cX8_readBox 13 = .ok (.iconst 1, 1) := by decide +kernel
theorem dX8_readBox_14 : decode cX8_readBox 14 = .ok (.goto 4, 3) := by decide +kernel
theorem dX8_readBox_17 : decode cX8_readBox 17 = .ok (.iconst 0, 1) := by decide +kernel
theorem dX8_readBox_18 : decode cX8_readBox 18 = .ok (.bipush (-15), 2) := by decide +kernel
theorem dX8_readBox_20 : decode cX8_readBox 20 = .ok (.invokevirtual 177, 3) := by decide +kernel
theorem dX8_readBox_23 : decode cX8_readBox 23 = .ok (.aload_n 0, 1) := by decide +kernel
theorem dX8_readBox_24 : decode cX8_readBox 24 = .ok (.invokevirtual 181, 3) := by decide +kernel
theorem dX8_readBox_27 : decode cX8_readBox 27 = .ok (.aload_n 0, 1) := by decide +kernel
theorem dX8_readBox_28 : decode cX8_readBox 28 = .ok (.iconst 3, 1) := by decide +kernel
theorem dX8_readBox_29 : decode cX8_readBox 29 = .ok (.invokevirtual 199, 3) := by decide +kernel
theorem dX8_readBox_32 : decode cX8_readBox 32 = .ok (.aload_n 0, 1) := by decide +kernel
theorem dX8_readBox_33 : decode cX8_readBox 33 = .ok (.iconst 2, 1) := by decide +kernel
theorem dX8_readBox_34 : decode cX8_readBox 34 = .ok (.invokevirtual 203, 3) := by decide +kernel
theorem dX8_readBox_37 : decode cX8_readBox 37 = .ok (.istore_n 2, 1) := by decide +kernel
theorem dX8_readBox_38 : decode cX8_readBox 38 = .ok (.aload_n 0, 1) := by decide +kernel
theorem dX8_readBox_39 : decode cX8_readBox 39 = .ok (.iconst 0, 1) := by decide +kernel
theorem dX8_readBox_40 : decode cX8_readBox 40 = .ok (.sipush 999, 3) := by decide +kernel
theorem dX8_readBox_43 : decode cX8_readBox 43 = .ok (.invokevirtual 206, 3) := by decide +kernel
theorem dX8_readBox_46 : decode cX8_readBox 46 = .ok (.istore_n 3, 1) := by decide +kernel
theorem dX8_readBox_47 : decode cX8_readBox 47 = .ok (.aload_n 0, 1) := by decide +kernel
theorem dX8_readBox_48 : decode cX8_readBox 48 = .ok (.iconst 1, 1) := by decide +kernel
theorem dX8_readBox_49 : decode cX8_readBox 49 = .ok (.sipush 9999, 3) := by decide +kernel
theorem dX8_readBox_52 : decode cX8_readBox 52 = .ok (.invokevirtual 206, 3) := by decide +kernel
theorem dX8_readBox_55 : decode cX8_readBox 55 = .ok (.istore 4, 2) := by decide +kernel
theorem dX8_readBox_57 : decode cX8_readBox 57 = .ok (.iconst 0, 1) := by decide +kernel
theorem dX8_readBox_58 : decode cX8_readBox 58 = .ok (.istore 5, 2) := by decide +kernel
theorem dX8_readBox_60 : decode cX8_readBox 60 = .ok (.iload 5, 2) := by decide +kernel
theorem dX8_readBox_62 : decode cX8_readBox 62 = .ok (.aload_n 0, 1) := by decide +kernel
theorem dX8_readBox_63 : decode cX8_readBox 63 = .ok (.invokevirtual 59, 3) := by decide +kernel
theorem dX8_readBox_66 : decode cX8_readBox 66 = .ok (.if_icmp .ge 39, 3) := by decide +kernel
theorem dX8_readBox_69 : decode cX8_readBox 69 = .ok (.aload_n 0, 1) := by decide +kernel
theorem dX8_readBox_70 : decode cX8_readBox 70 = .ok (.getfield 168, 3) := by decide +kernel
theorem dX8_readBox_73 : decode cX8_readBox 73 = .ok (.ifCond .ne 32, 3) := by decide +kernel
theorem dX8_readBox_76 : decode cX8_readBox 76 = .ok (.aload_n 0, 1) := by decide +kernel
theorem dX8_readBox_77 : decode cX8_readBox 77 = .ok (.getfield 13, 3) := by decide +kernel
theorem dX8_readBox_80 : decode cX8_readBox 80 = .ok (.bipush 68, 2) := by decide +kernel
theorem dX8_readBox_82 : decode cX8_readBox 82 = .ok (.bipush 6, 2) := by decide +kernel
theorem dX8_readBox_84 : decode cX8_readBox 84 = .ok (.iload_n 1, 1) := by decide +kernel
theorem dX8_readBox_85 : decode cX8_readBox 85 = .ok (.imul, 1) := by decide +kernel
theorem dX8_readBox_86 : decode cX8_readBox 86 = .ok (.iadd, 1) := by decide +kernel
theorem dX8_readBox_87 : decode cX8_readBox 87 = .ok (.iload 5, 2) := by decide +kernel
theorem dX8_readBox_89 : decode cX8_readBox 89 = .ok (.iadd, 1) := by decide +kernel
theorem dX8_readBox_90 : decode cX8_readBox 90 = .ok (.aload_n 0, 1) := by decide +kernel
theorem dX8_readBox_91 : decode cX8_readBox 91 = .ok (.iconst 0, 1) := by decide +kernel
theorem dX8_readBox_92 : decode cX8_readBox 92 = .ok (.sipush 300, 3) := by decide +kernel
theorem dX8_readBox_95 : decode cX8_readBox 95 = .ok (.invokevirtual 206, 3) := by decide +kernel
theorem dX8_readBox_98 : decode cX8_readBox 98 = .ok (.iastore, 1) := by decide +kernel
theorem dX8_readBox_99 : decode cX8_readBox 99 = .ok (.iinc 5 1, 3) := by decide +kernel
theorem dX8_readBox_102 : decode cX8_readBox 102 = .ok (.goto (-42), 3) := by decide +kernel
theorem dX8_readBox_105 : decode cX8_readBox 105 = .ok (.aload_n 0, 1) := by decide +kernel
theorem dX8_readBox_106 : decode cX8_readBox 106 = .ok (.getfield 168, 3) := by decide +kernel
theorem dX8_readBox_109 : decode cX8_readBox 109 = .ok (.ifCond .eq 4, 3) := by decide +kernel
theorem dX8_readBox_112 : decode cX8_readBox 112 = .ok (.return_, 1) := by decide +kernel
theorem dX8_readBox_113 : decode cX8_readBox 113 = .ok (.aload_n 0, 1) := by decide +kernel
theorem dX8_readBox_114 : decode cX8_readBox 114 = .ok (.getfield 13, 3) := by decide +kernel
theorem dX8_readBox_117 : decode cX8_readBox 117 = .ok (.bipush 44, 2) := by decide +kernel
theorem dX8_readBox_119 : decode cX8_readBox 119 = .ok (.iload_n 1, 1) := by decide +kernel
theorem dX8_readBox_120 : decode cX8_readBox 120 = .ok (.iadd, 1) := by decide +kernel
theorem dX8_readBox_121 : decode cX8_readBox 121 = .ok (.iload_n 2, 1) := by decide +kernel
theorem dX8_readBox_122 : decode cX8_readBox 122 = .ok (.iastore, 1) := by decide +kernel
theorem dX8_readBox_123 : decode cX8_readBox 123 = .ok (.aload_n 0, 1) := by decide +kernel
theorem dX8_readBox_124 : decode cX8_readBox 124 = .ok (.getfield 13, 3) := by decide +kernel
theorem dX8_readBox_127 : decode cX8_readBox 127 = .ok (.bipush 56, 2) := by decide +kernel
theorem dX8_readBox_129 : decode cX8_readBox 129 = .ok (.iload_n 1, 1) := by decide +kernel
theorem dX8_readBox_130 : decode cX8_readBox 130 = .ok (.iadd, 1) := by decide +kernel
theorem dX8_readBox_131 : decode cX8_readBox 131 = .ok (.iload_n 3, 1) := by decide +kernel
theorem dX8_readBox_132 : decode cX8_readBox 132 = .ok (.iastore, 1) := by decide +kernel
theorem dX8_readBox_133 : decode cX8_readBox 133 = .ok (.aload_n 0, 1) := by decide +kernel
theorem dX8_readBox_134 : decode cX8_readBox 134 = .ok (.iload_n 1, 1) := by decide +kernel
theorem dX8_readBox_135 : decode cX8_readBox 135 = .ok (.iconst 0, 1) := by decide +kernel
theorem dX8_readBox_136 : decode cX8_readBox 136 = .ok (.bipush (-3), 2) := by decide +kernel
theorem dX8_readBox_138 : decode cX8_readBox 138 = .ok (.invokevirtual 209, 3) := by decide +kernel
theorem dX8_readBox_141 : decode cX8_readBox 141 = .ok (.aload_n 0, 1) := by decide +kernel
theorem dX8_readBox_142 : decode cX8_readBox 142 = .ok (.iload_n 1, 1) := by decide +kernel
theorem dX8_readBox_143 : decode cX8_readBox 143 = .ok (.iconst 1, 1) := by decide +kernel
theorem dX8_readBox_144 : decode cX8_readBox 144 = .ok (.iload 4, 2) := by decide +kernel
theorem dX8_readBox_146 : decode cX8_readBox 146 = .ok (.invokevirtual 209, 3) := by decide +kernel
theorem dX8_readBox_149 : decode cX8_readBox 149 = .ok (.aload_n 0, 1) := by decide +kernel
theorem dX8_readBox_150 : decode cX8_readBox 150 = .ok (.iload_n 1, 1) := by decide +kernel
theorem dX8_readBox_151 : decode cX8_readBox 151 = .ok (.iconst 2, 1) := by decide +kernel
theorem dX8_readBox_152 : decode cX8_readBox 152 = .ok (.iconst 1, 1) := by decide +kernel
theorem dX8_readBox_153 : decode cX8_readBox 153 = .ok (.invokevirtual 209, 3) := by decide +kernel
theorem dX8_readBox_156 : decode cX8_readBox 156 = .ok (.aload_n 0, 1) := by decide +kernel
theorem dX8_readBox_157 : decode cX8_readBox 157 = .ok (.iload_n 1, 1) := by decide +kernel
theorem dX8_readBox_158 : decode cX8_readBox 158 = .ok (.iconst 4, 1) := by decide +kernel
theorem dX8_readBox_159 : decode cX8_readBox 159 = .ok (.iload 4, 2) := by decide +kernel
theorem dX8_readBox_161 : decode cX8_readBox 161 = .ok (.invokevirtual 209, 3) := by decide +kernel
theorem dX8_readBox_164 : decode cX8_readBox 164 = .ok (.return_, 1) := by decide +kernel
theorem dX8_readTable_0 : decode cX8_readTable 0 = .ok (.aload_n 0, 1) := by decide +kernel
theorem dX8_readTable_1 : decode cX8_readTable 1 = .ok (.aload_n 0, 1) := by decide +kernel
theorem dX8_readTable_2 : decode cX8_readTable 2 = .ok (.iconst 4, 1) := by decide +kernel
theorem dX8_readTable_3 : decode cX8_readTable 3 = .ok (.invokevirtual 44, 3) := by decide +kernel
theorem dX8_readTable_6 : decode cX8_readTable 6 = .ok (.iconst 4, 1) := by decide +kernel
theorem dX8_readTable_7 : decode cX8_readTable 7 = .ok (.if_icmp .ne 7, 3) := by decide +kernel
theorem dX8_readTable_10 : decode cX8_readTable 10 = .ok (.iconst 1, 1) := by decide +kernel
theorem dX8_readTable_11 : decode cX8_readTable 11 = .ok (.goto 4, 3) := by decide +kernel
theorem dX8_readTable_14 : decode cX8_readTable 14 = .ok (.iconst 0, 1) := by decide +kernel
theorem dX8_readTable_15 : decode cX8_readTable 15 = .ok (.bipush (-15), 2) := by decide +kernel
theorem dX8_readTable_17 : decode cX8_readTable 17 = .ok (.invokevirtual 177, 3) := by decide +kernel
theorem dX8_readTable_20 : decode cX8_readTable 20 = .ok (.aload_n 0, 1) := by decide +kernel
theorem dX8_readTable_21 : decode cX8_readTable 21 = .ok (.invokevirtual 181, 3) := by decide +kernel
theorem dX8_readTable_24 : decode cX8_readTable 24 = .ok (.aload_n 0, 1) := by decide +kernel
theorem dX8_readTable_25 : decode cX8_readTable 25 = .ok (.iconst 0, 1) := by decide +kernel
theorem dX8_readTable_26 : decode cX8_readTable 26 = .ok (.bipush 99, 2) := by decide +kernel
theorem dX8_readTable_28 : decode cX8_readTable 28 = .ok (.invokevirtual 206, 3) := by decide +kernel
theorem dX8_readTable_31 : decode cX8_readTable 31 = .ok (.istore_n 1, 1) := by decide +kernel
theorem dX8_readTable_32 : decode cX8_readTable 32 = .ok (.aload_n 0, 1) := by decide +kernel
theorem dX8_readTable_33 : decode cX8_readTable 33 = .ok (.getfield 168, 3) := by decide +kernel
theorem dX8_readTable_36 : decode cX8_readTable 36 = .ok (.ifCond .ne 18, 3) := by decide +kernel
theorem dX8_readTable_39 : decode cX8_readTable 39 = .ok (.aload_n 0, 1) := by decide +kernel
theorem dX8_readTable_40 : decode cX8_readTable 40 = .ok (.getfield 13, 3) := by decide +kernel
theorem dX8_readTable_43 : decode cX8_readTable 43 = .ok (.sipush 140, 3) := by decide +kernel
theorem dX8_readTable_46 : decode cX8_readTable 46 = .ok (.aload_n 0, 1) := by decide +kernel
theorem dX8_readTable_47 : decode cX8_readTable 47 = .ok (.iconst 4, 1) := by decide +kernel
theorem dX8_readTable_48 : decode cX8_readTable 48 = .ok (.invokevirtual 44, 3) := by decide +kernel
theorem dX8_readTable_51 : decode cX8_readTable 51 = .ok (.iadd, 1) := by decide +kernel
theorem dX8_readTable_52 : decode cX8_readTable 52 = .ok (.iload_n 1, 1) := by decide +kernel
theorem dX8_readTable_53 : decode cX8_readTable 53 = .ok (.iastore, 1) := by decide +kernel
theorem dX8_readTable_54 : decode cX8_readTable 54 = .ok (.return_, 1) := by decide +kernel
theorem dX8_top_0 : decode cX8_top 0 = .ok (.iload_n 0, 1) := by decide +kernel
theorem dX8_top_1 : decode cX8_top 1 = .ok (.ifCond .ne 8, 3) := by decide +kernel
theorem dX8_top_4 : decode cX8_top 4 = .ok (.bipush 50, 2) := by decide +kernel
theorem dX8_top_6 : decode cX8_top 6 = .ok (.goto 5, 3) := by decide +kernel
theorem dX8_top_9 : decode cX8_top 9 = .ok (.bipush 9, 2) := by decide +kernel
theorem dX8_top_11 : decode cX8_top 11 = .ok (.ireturn, 1) := by decide +kernel
theorem dX8_readSetting_0 : decode cX8_readSetting 0 = .ok (.aload_n 0, 1) := by decide +kernel
theorem dX8_readSetting_1 : decode cX8_readSetting 1 = .ok (.invokevirtual 181, 3) := by decide +kernel
theorem dX8_readSetting_4 : decode cX8_readSetting 4 = .ok (.aload_n 0, 1) := by decide +kernel
theorem dX8_readSetting_5 : decode cX8_readSetting 5 = .ok (.ldc 213, 2) := by decide +kernel
theorem dX8_readSetting_7 : decode cX8_readSetting 7 = .ok (.invokevirtual 186, 3) := by decide +kernel
theorem dX8_readSetting_10 : decode cX8_readSetting 10 = .ok (.istore_n 1, 1) := by decide +kernel
theorem dX8_readSetting_11 : decode cX8_readSetting 11 = .ok (.aload_n 0, 1) := by decide +kernel
theorem dX8_readSetting_12 : decode cX8_readSetting 12 = .ok (.iload_n 1, 1) := by decide +kernel
theorem dX8_readSetting_13 : decode cX8_readSetting 13 = .ok (.iconst (-1), 1) := by decide +kernel
theorem dX8_readSetting_14 : decode cX8_readSetting 14 = .ok (.if_icmp .ne 7, 3) := by decide +kernel
theorem dX8_readSetting_17 : decode cX8_readSetting 17 = .ok (.iconst 1, 1) := by decide +kernel
theorem dX8_readSetting_18 : decode cX8_readSetting 18 = .ok (.goto 4, 3) := by decide +kernel
theorem dX8_readSetting_21 : decode cX8_readSetting 21 = .ok (.iconst 0, 1) := by decide +kernel
theorem dX8_readSetting_22 : decode cX8_readSetting 22 = .ok (.bipush (-11), 2) := by decide +kernel
theorem dX8_readSetting_24 : decode cX8_readSetting 24 = .ok (.invokevirtual 177, 3) := by decide +kernel
theorem dX8_readSetting_27 : decode cX8_readSetting 27 = .ok (.aload_n 0, 1) := by decide +kernel
theorem dX8_readSetting_28 : decode cX8_readSetting 28 = .ok (.getfield 168, 3) := by decide +kernel
theorem dX8_readSetting_31 : decode cX8_readSetting 31 = .ok (.ifCond .ne 7, 3) := by decide +kernel
theorem dX8_readSetting_34 : decode cX8_readSetting 34 = .ok (.iload_n 1, 1) := by decide +kernel
theorem dX8_readSetting_35 : decode cX8_readSetting 35 = .ok (.goto 4, 3) := by decide +kernel
theorem dX8_readSetting_38 : decode cX8_readSetting 38 = .ok (.iconst 0, 1) := by decide +kernel
theorem dX8_readSetting_39 : decode cX8_readSetting 39 = .ok (.istore_n 1, 1) := by decide +kernel
theorem dX8_readSetting_40 : decode cX8_readSetting 40 = .ok (.aload_n 0, 1) := by decide +kernel
theorem dX8_readSetting_41 : decode cX8_readSetting 41 = .ok (.aload_n 0, 1) := by decide +kernel
theorem dX8_readSetting_42 : decode cX8_readSetting 42 = .ok (.getfield 215, 3) := by decide +kernel
theorem dX8_readSetting_45 : decode cX8_readSetting 45 = .ok (.iload_n 1, 1) := by decide +kernel
theorem dX8_readSetting_46 : decode cX8_readSetting 46 = .ok (.ishr, 1) := by decide +kernel
theorem dX8_readSetting_47 : decode cX8_readSetting 47 = .ok (.iconst 1, 1) := by decide +kernel
theorem dX8_readSetting_48 : decode cX8_readSetting 48 = .ok (.iand, 1) := by decide +kernel
theorem dX8_readSetting_49 : decode cX8_readSetting 49 = .ok (.iconst 1, 1) := by decide +kernel
theorem dX8_readSetting_50 : decode cX8_readSetting 50 = .ok (.if_icmp .ne 7, 3) := by decide +kernel
theorem dX8_readSetting_53 : decode cX8_readSetting 53 = .ok (.iconst 1, 1) := by decide +kernel
theorem dX8_readSetting_54 : decode cX8_readSetting 54 = .ok (.goto 4, 3) := by decide +kernel
theorem dX8_readSetting_57 : decode cX8_readSetting 57 = .ok (.iconst 0, 1) := by decide +kernel
theorem dX8_readSetting_58 : decode cX8_readSetting 58 = .ok (.bipush (-14), 2) := by decide +kernel
theorem dX8_readSetting_60 : decode cX8_readSetting 60 = .ok (.invokevirtual 177, 3) := by decide +kernel
theorem dX8_readSetting_63 : decode cX8_readSetting 63 = .ok (.aload_n 0, 1) := by decide +kernel
theorem dX8_readSetting_64 : decode cX8_readSetting 64 = .ok (.dup, 1) := by decide +kernel
theorem dX8_readSetting_65 : decode cX8_readSetting 65 = .ok (.getfield 215, 3) := by decide +kernel
theorem dX8_readSetting_68 : decode cX8_readSetting 68 = .ok (.iconst 1, 1) := by decide +kernel
theorem dX8_readSetting_69 : decode cX8_readSetting 69 = .ok (.iload_n 1, 1) := by decide +kernel
theorem dX8_readSetting_70 : decode cX8_readSetting 70 = .ok (.ishl, 1) := by decide +kernel
theorem dX8_readSetting_71 : decode cX8_readSetting 71 = .ok (.ior, 1) := by decide +kernel
theorem dX8_readSetting_72 : decode cX8_readSetting 72 = .ok (.putfield 215, 3) := by decide +kernel
theorem dX8_readSetting_75 : decode cX8_readSetting 75 = .ok (.aload_n 0, 1) := by decide +kernel
theorem dX8_readSetting_76 : decode cX8_readSetting 76 = .ok (.invokevirtual 181, 3) := by decide +kernel
theorem dX8_readSetting_79 : decode cX8_readSetting 79 = .ok (.aload_n 0, 1) := by decide +kernel
theorem dX8_readSetting_80 : decode cX8_readSetting 80 = .ok (.iconst 0, 1) := by decide +kernel
theorem dX8_readSetting_81 : decode cX8_readSetting 81 = .ok (.iload_n 1, 1) := by decide +kernel
theorem dX8_readSetting_82 : decode cX8_readSetting 82 = .ok (.invokestatic 218, 3) := by decide +kernel
theorem dX8_readSetting_85 : decode cX8_readSetting 85 = .ok (.invokevirtual 206, 3) := by decide +kernel
theorem dX8_readSetting_88 : decode cX8_readSetting 88 = .ok (.istore_n 2, 1) := by decide +kernel
theorem dX8_readSetting_89 : decode cX8_readSetting 89 = .ok (.aload_n 0, 1) := by decide +kernel
theorem dX8_readSetting_90 : decode cX8_readSetting 90 = .ok (.getfield 168, 3) := by decide +kernel
theorem dX8_readSetting_93 : decode cX8_readSetting 93 = .ok (.ifCond .ne 12, 3) := by decide +kernel
theorem dX8_readSetting_96 : decode cX8_readSetting 96 = .ok (.aload_n 0, 1) := by decide +kernel
theorem dX8_readSetting_97 : decode cX8_readSetting 97 = .ok (.getfield 19, 3) := by decide +kernel
theorem dX8_readSetting_100 : decode cX8_readSetting 100 = .ok (.iconst 0, 1) := by decide +kernel
theorem dX8_readSetting_101 : decode cX8_readSetting 101 = .ok (.iload_n 1, 1) := by decide +kernel
theorem dX8_readSetting_102 : decode cX8_readSetting 102 = .ok (.iadd, 1) := by decide +kernel
theorem dX8_readSetting_103 : decode cX8_readSetting 103 = .ok (.iload_n 2, 1) := by decide +kernel
theorem dX8_readSetting_104 : decode cX8_readSetting 104 = .ok (.iastore, 1) := by decide +kernel
theorem dX8_readSetting_105 : decode cX8_readSetting 105 = .ok (.return_, 1) := by decide +kernel
theorem dX8_readStatement_0 : decode cX8_readStatement 0 = .ok (.iconst (-1), 1) := by decide +kernel
theorem dX8_readStatement_1 : decode cX8_readStatement 1 = .ok (.istore_n 1, 1) := by decide +kernel
theorem dX8_readStatement_2 : decode cX8_readStatement 2 = .ok (.aload_n 0, 1) := by decide +kernel
theorem dX8_readStatement_3 : decode cX8_readStatement 3 = .ok (.ldc 184, 2) := by decide +kernel
theorem dX8_readStatement_5 : decode cX8_readStatement 5 = .ok (.invokevirtual 186, 3) := by decide +kernel
theorem dX8_readStatement_8 : decode cX8_readStatement 8 = .ok (.tableswitch 96 0 6 #[44, 53, 96, 62, 71, 80, 89], 44) := by decide +kernel
theorem dX8_readStatement_52 : decode cX8_readStatement 52 = .ok (.iconst 0, 1) := by decide +kernel
theorem dX8_readStatement_53 : decode cX8_readStatement 53 = .ok (.istore_n 1, 1) := by decide +kernel
theorem dX8_readStatement_54 : decode cX8_readStatement 54 = .ok (.aload_n 0, 1) := by decide +kernel
theorem dX8_readStatement_55 : decode cX8_readStatement 55 = .ok (.invokevirtual 221, 3) := by decide +kernel
theorem dX8_readStatement_58 : decode cX8_readStatement 58 = .ok (.goto 53, 3) := by decide +kernel
theorem dX8_readStatement_61 : decode cX8_readStatement 61 = .ok (.iconst 1, 1) := by decide +kernel
theorem dX8_readStatement_62 : decode cX8_readStatement 62 = .ok (.istore_n 1, 1) := by decide +kernel
theorem dX8_readStatement_63 : decode cX8_readStatement 63 = .ok (.aload_n 0, 1) := by decide +kernel
theorem dX8_readStatement_64 : decode cX8_readStatement 64 = .ok (.invokevirtual 224, 3) := by decide +kernel
theorem dX8_readStatement_67 : decode cX8_readStatement 67 = .ok (.goto 44, 3) := by decide +kernel
theorem dX8_readStatement_70 : decode cX8_readStatement 70 = .ok (.iconst 2, 1) := by decide +kernel
theorem dX8_readStatement_71 : decode cX8_readStatement 71 = .ok (.istore_n 1, 1) := by decide +kernel
theorem dX8_readStatement_72 : decode cX8_readStatement 72 = .ok (.aload_n 0, 1) := by decide +kernel
theorem dX8_readStatement_73 : decode cX8_readStatement 73 = .ok (.invokevirtual 227, 3) := by decide +kernel
theorem dX8_readStatement_76 : decode cX8_readStatement 76 = .ok (.goto 35, 3) := by decide +kernel
theorem dX8_readStatement_79 : decode cX8_readStatement 79 = .ok (.iconst 3, 1) := by decide +kernel
theorem dX8_readStatement_80 : decode cX8_readStatement 80 = .ok (.istore_n 1, 1) := by decide +kernel
theorem dX8_readStatement_81 : decode cX8_readStatement 81 = .ok (.aload_n 0, 1) := by decide +kernel
theorem dX8_readStatement_82 : decode cX8_readStatement 82 = .ok (.invokevirtual 230, 3) := by decide +kernel
theorem dX8_readStatement_85 : decode cX8_readStatement 85 = .ok (.goto 26, 3) := by decide +kernel
theorem dX8_readStatement_88 : decode cX8_readStatement 88 = .ok (.iconst 4, 1) := by decide +kernel
theorem dX8_readStatement_89 : decode cX8_readStatement 89 = .ok (.istore_n 1, 1) := by decide +kernel
theorem dX8_readStatement_90 : decode cX8_readStatement 90 = .ok (.aload_n 0, 1) := by decide +kernel
theorem dX8_readStatement_91 : decode cX8_readStatement 91 = .ok (.invokevirtual 233, 3) := by decide +kernel
theorem dX8_readStatement_94 : decode cX8_readStatement 94 = .ok (.goto 17, 3) := by decide +kernel
theorem dX8_readStatement_97 : decode cX8_readStatement 97 = .ok (.aload_n 0, 1) := by decide +kernel
theorem dX8_readStatement_98 : decode cX8_readStatement 98 = .ok (.invokevirtual 236, 3) := by decide +kernel
theorem dX8_readStatement_101 : decode cX8_readStatement 101 = .ok (.goto 10, 3) := by decide +kernel
theorem dX8_readStatement_104 : decode cX8_readStatement 104 = .ok (.aload_n 0, 1) := by decide +kernel
theorem dX8_readStatement_105 : decode cX8_readStatement 105 = .ok (.iconst 1, 1) := by decide +kernel
theorem dX8_readStatement_106 : decode cX8_readStatement 106 = .ok (.bipush (-11), 2) := by decide +kernel
theorem dX8_readStatement_108 : decode cX8_readStatement 108 = .ok (.invokevirtual 177, 3) := by decide +kernel
theorem dX8_readStatement_111 : decode cX8_readStatement 111 = .ok (.aload_n 0, 1) := by decide +kernel
theorem dX8_readStatement_112 : decode cX8_readStatement 112 = .ok (.aload_n 0, 1) := by decide +kernel
theorem dX8_readStatement_113 : decode cX8_readStatement 113 = .ok (.getfield 147, 3) := by decide +kernel
theorem dX8_readStatement_116 : decode cX8_readStatement 116 = .ok (.iconst 2, 1) := by decide +kernel
theorem dX8_readStatement_117 : decode cX8_readStatement 117 = .ok (.if_icmp .eq 7, 3) := by decide +kernel
theorem dX8_readStatement_120 : decode cX8_readStatement 120 = .ok (.iconst 1, 1) := by decide +kernel
theorem dX8_readStatement_121 : decode cX8_readStatement 121 = .ok (.goto 4, 3) := by decide +kernel
theorem dX8_readStatement_124 : decode cX8_readStatement 124 = .ok (.iconst 0, 1) := by decide +kernel
theorem dX8_readStatement_125 : decode cX8_readStatement 125 = .ok (.bipush (-11), 2) := by decide +kernel
theorem dX8_readStatement_127 : decode cX8_readStatement 127 = .ok (.invokevirtual 177, 3) := by decide +kernel
theorem dX8_readStatement_130 : decode cX8_readStatement 130 = .ok (.aload_n 0, 1) := by decide +kernel
theorem dX8_readStatement_131 : decode cX8_readStatement 131 = .ok (.getfield 168, 3) := by decide +kernel
theorem dX8_readStatement_134 : decode cX8_readStatement 134 = .ok (.ifCond .ne 20, 3) := by decide +kernel
theorem dX8_readStatement_137 : decode cX8_readStatement 137 = .ok (.iload_n 1, 1) := by decide +kernel
theorem dX8_readStatement_138 : decode cX8_readStatement 138 = .ok (.iconst (-1), 1) := by decide +kernel
theorem dX8_readStatement_139 : decode cX8_readStatement 139 = .ok (.if_icmp .eq 15, 3) := by decide +kernel
theorem dX8_readStatement_142 : decode cX8_readStatement 142 = .ok (.aload_n 0, 1) := by decide +kernel
theorem dX8_readStatement_143 : decode cX8_readStatement 143 = .ok (.getfield 13, 3) := by decide +kernel
theorem dX8_readStatement_146 : decode cX8_readStatement 146 = .ok (.iconst 0, 1) := by decide +kernel
theorem dX8_readStatement_147 : decode cX8_readStatement 147 = .ok (.iload_n 1, 1) := by decide +kernel
theorem dX8_readStatement_148 : decode cX8_readStatement 148 = .ok (.iadd, 1) := by decide +kernel
theorem dX8_readStatement_149 : decode cX8_readStatement 149 = .ok (.dup2, 1) := by decide +kernel
theorem dX8_readStatement_150 : decode cX8_readStatement 150 = .ok (.iaload, 1) := by decide +kernel
theorem dX8_readStatement_151 : decode cX8_readStatement 151 = .ok (.iconst 1, 1) := by decide +kernel
theorem dX8_readStatement_152 : decode cX8_readStatement 152 = .ok (.iadd, 1) := by decide +kernel
theorem dX8_readStatement_153 : decode cX8_readStatement 153 = .ok (.iastore, 1) := by decide +kernel
theorem dX8_readStatement_154 : decode cX8_readStatement 154 = .ok (.aload_n 0, 1) := by decide +kernel
theorem dX8_readStatement_155 : decode cX8_readStatement 155 = .ok (.invokevirtual 181, 3) := by decide +kernel
theorem dX8_readStatement_158 : decode cX8_readStatement 158 = .ok (.aload_n 0, 1) := by decide +kernel
theorem dX8_readStatement_159 : decode cX8_readStatement 159 = .ok (.dup, 1) := by decide +kernel
theorem dX8_readStatement_160 : decode cX8_readStatement 160 = .ok (.getfield 239, 3) := by decide +kernel
theorem dX8_readStatement_163 : decode cX8_readStatement 163 = .ok (.iconst 1, 1) := by decide +kernel
theorem dX8_readStatement_164 : decode cX8_readStatement 164 = .ok (.iadd, 1) := by decide +kernel
theorem dX8_readStatement_165 : decode cX8_readStatement 165 = .ok (.putfield 239, 3) := by decide +kernel
theorem dX8_readStatement_168 : decode cX8_readStatement 168 = .ok (.return_, 1) := by decide +kernel
theorem dX8_load_0 : decode cX8_load 0 = .ok (.aload_n 0, 1) := by decide +kernel
theorem dX8_load_1 : decode cX8_load 1 = .ok (.iconst 0, 1) := by decide +kernel
theorem dX8_load_2 : decode cX8_load 2 = .ok (.putfield 38, 3) := by decide +kernel
theorem dX8_load_5 : decode cX8_load 5 = .ok (.iload_n 1, 1) := by decide +kernel
theorem dX8_load_6 : decode cX8_load 6 = .ok (.ifCond .lt 11, 3) := by decide +kernel
theorem dX8_load_9 : decode cX8_load 9 = .ok (.iload_n 1, 1) := by decide +kernel
theorem dX8_load_10 : decode cX8_load 10 = .ok (.aload_n 0, 1) := by decide +kernel
theorem dX8_load_11 : decode cX8_load 11 = .ok (.getfield 41, 3) := by decide +kernel
theorem dX8_load_14 : decode cX8_load 14 = .ok (.if_icmp .le 6, 3) := by decide +kernel
theorem dX8_load_17 : decode cX8_load 17 = .ok (.bipush (-2), 2) := by decide +kernel
theorem dX8_load_19 : decode cX8_load 19 = .ok (.ireturn, 1) := by decide +kernel
theorem dX8_load_20 : decode cX8_load 20 = .ok (.aload_n 0, 1) := by decide +kernel
theorem dX8_load_21 : decode cX8_load 21 = .ok (.getfield 13, 3) := by decide +kernel
theorem dX8_load_24 : decode cX8_load 24 = .ok (.aload_n 0, 1) := by decide +kernel
theorem dX8_load_25 : decode cX8_load 25 = .ok (.getfield 16, 3) := by decide +kernel
theorem dX8_load_28 : decode cX8_load 28 = .ok (.invokestatic 242, 3) := by decide +kernel
theorem dX8_load_31 : decode cX8_load 31 = .ok (.aload_n 0, 1) := by decide +kernel
theorem dX8_load_32 : decode cX8_load 32 = .ok (.getfield 19, 3) := by decide +kernel
theorem dX8_load_35 : decode cX8_load 35 = .ok (.aload_n 0, 1) := by decide +kernel
theorem dX8_load_36 : decode cX8_load 36 = .ok (.getfield 22, 3) := by decide +kernel
theorem dX8_load_39 : decode cX8_load 39 = .ok (.invokestatic 242, 3) := by decide +kernel
theorem dX8_load_42 : decode cX8_load 42 = .ok (.aload_n 0, 1) := by decide +kernel
theorem dX8_load_43 : decode cX8_load 43 = .ok (.invokevirtual 35, 3) := by decide +kernel
theorem dX8_load_46 : decode cX8_load 46 = .ok (.aload_n 0, 1) := by decide +kernel
theorem dX8_load_47 : decode cX8_load 47 = .ok (.iload_n 1, 1) := by decide +kernel
theorem dX8_load_48 : decode cX8_load 48 = .ok (.putfield 138, 3) := by decide +kernel
theorem dX8_load_51 : decode cX8_load 51 = .ok (.aload_n 0, 1) := by decide +kernel
theorem dX8_load_52 : decode cX8_load 52 = .ok (.iconst 0, 1) := by decide +kernel
theorem dX8_load_53 : decode cX8_load 53 = .ok (.putfield 135, 3) := by decide +kernel
theorem dX8_load_56 : decode cX8_load 56 = .ok (.aload_n 0, 1) := by decide +kernel
theorem dX8_load_57 : decode cX8_load 57 = .ok (.iconst 0, 1) := by decide +kernel
theorem dX8_load_58 : decode cX8_load 58 = .ok (.putfield 168, 3) := by decide +kernel
theorem dX8_load_61 : decode cX8_load 61 = .ok (.aload_n 0, 1) := by decide +kernel
theorem dX8_load_62 : decode cX8_load 62 = .ok (.iconst 0, 1) := by decide +kernel
theorem dX8_load_63 : decode cX8_load 63 = .ok (.putfield 239, 3) := by decide +kernel
theorem dX8_load_66 : decode cX8_load 66 = .ok (.aload_n 0, 1) := by decide +kernel
theorem dX8_load_67 : decode cX8_load 67 = .ok (.iconst 0, 1) := by decide +kernel
theorem dX8_load_68 : decode cX8_load 68 = .ok (.putfield 215, 3) := by decide +kernel
theorem dX8_load_71 : decode cX8_load 71 = .ok (.aload_n 0, 1) := by decide +kernel
theorem dX8_load_72 : decode cX8_load 72 = .ok (.invokevirtual 174, 3) := by decide +kernel
theorem dX8_load_75 : decode cX8_load 75 = .ok (.aload_n 0, 1) := by decide +kernel
theorem dX8_load_76 : decode cX8_load 76 = .ok (.getfield 168, 3) := by decide +kernel
theorem dX8_load_79 : decode cX8_load 79 = .ok (.ifCond .ne 18, 3) := by decide +kernel
theorem dX8_load_82 : decode cX8_load 82 = .ok (.aload_n 0, 1) := by decide +kernel
theorem dX8_load_83 : decode cX8_load 83 = .ok (.getfield 147, 3) := by decide +kernel
theorem dX8_load_86 : decode cX8_load 86 = .ok (.iconst 3, 1) := by decide +kernel
theorem dX8_load_87 : decode cX8_load 87 = .ok (.if_icmp .eq 10, 3) := by decide +kernel
theorem dX8_load_90 : decode cX8_load 90 = .ok (.aload_n 0, 1) := by decide +kernel
theorem dX8_load_91 : decode cX8_load 91 = .ok (.invokevirtual 246, 3) := by decide +kernel
theorem dX8_load_94 : decode cX8_load 94 = .ok (.goto (-19), 3) := by decide +kernel
theorem dX8_load_97 : decode cX8_load 97 = .ok (.aload_n 0, 1) := by decide +kernel
theorem dX8_load_98 : decode cX8_load 98 = .ok (.iconst 0, 1) := by decide +kernel
theorem dX8_load_99 : decode cX8_load 99 = .ok (.putfield 41, 3) := by decide +kernel
theorem dX8_load_102 : decode cX8_load 102 = .ok (.aload_n 0, 1) := by decide +kernel
theorem dX8_load_103 : decode cX8_load 103 = .ok (.aload_n 0, 1) := by decide +kernel
theorem dX8_load_104 : decode cX8_load 104 = .ok (.getfield 168, 3) := by decide +kernel
theorem dX8_load_107 : decode cX8_load 107 = .ok (.ifCond .ne 7, 3) := by decide +kernel
theorem dX8_load_110 : decode cX8_load 110 = .ok (.iconst (-1), 1) := by decide +kernel
theorem dX8_load_111 : decode cX8_load 111 = .ok (.goto 7, 3) := by decide +kernel
theorem dX8_load_114 : decode cX8_load 114 = .ok (.aload_n 0, 1) := by decide +kernel
theorem dX8_load_115 : decode cX8_load 115 = .ok (.getfield 171, 3) := by decide +kernel
theorem dX8_load_118 : decode cX8_load 118 = .ok (.putfield 28, 3) := by decide +kernel
theorem dX8_load_121 : decode cX8_load 121 = .ok (.aload_n 0, 1) := by decide +kernel
theorem dX8_load_122 : decode cX8_load 122 = .ok (.getfield 168, 3) := by decide +kernel
theorem dX8_load_125 : decode cX8_load 125 = .ok (.ifCond .eq 30, 3) := by decide +kernel
theorem dX8_load_128 : decode cX8_load 128 = .ok (.aload_n 0, 1) := by decide +kernel
theorem dX8_load_129 : decode cX8_load 129 = .ok (.getfield 16, 3) := by decide +kernel
theorem dX8_load_132 : decode cX8_load 132 = .ok (.aload_n 0, 1) := by decide +kernel
theorem dX8_load_133 : decode cX8_load 133 = .ok (.getfield 13, 3) := by decide +kernel
theorem dX8_load_136 : decode cX8_load 136 = .ok (.invokestatic 242, 3) := by decide +kernel
theorem dX8_load_139 : decode cX8_load 139 = .ok (.aload_n 0, 1) := by decide +kernel
theorem dX8_load_140 : decode cX8_load 140 = .ok (.getfield 22, 3) := by decide +kernel
theorem dX8_load_143 : decode cX8_load 143 = .ok (.aload_n 0, 1) := by decide +kernel
theorem dX8_load_144 : decode cX8_load 144 = .ok (.getfield 19, 3) := by decide +kernel
theorem dX8_load_147 : decode cX8_load 147 = .ok (.invokestatic 242, 3) := by decide +kernel
theorem dX8_load_150 : decode cX8_load 150 = .ok (.aload_n 0, 1) := by decide +kernel
theorem dX8_load_151 : decode cX8_load 151 = .ok (.getfield 168, 3) := by decide +kernel
theorem dX8_load_154 : decode cX8_load 154 = .ok (.ireturn, 1) := by decide +kernel
theorem dX8_load_155 : decode cX8_load 155 = .ok (.aload_n 0, 1) := by decide +kernel
theorem dX8_load_156 : decode cX8_load 156 = .ok (.iconst 0, 1) := by decide +kernel
theorem dX8_load_157 : decode cX8_load 157 = .ok (.putfield 249, 3) := by decide +kernel
theorem dX8_load_160 : decode cX8_load 160 = .ok (.aload_n 0, 1) := by decide +kernel
theorem dX8_load_161 : decode cX8_load 161 = .ok (.getfield 239, 3) := by decide +kernel
theorem dX8_load_164 : decode cX8_load 164 = .ok (.ireturn, 1) := by decide +kernel
theorem dX8_errorPosition_0 : decode cX8_errorPosition 0 = .ok (.aload_n 0, 1) := by decide +kernel
theorem dX8_errorPosition_1 : decode cX8_errorPosition 1 = .ok (.iconst 0, 1) := by decide +kernel
theorem dX8_errorPosition_2 : decode cX8_errorPosition 2 = .ok (.putfield 38, 3) := by decide +kernel
theorem dX8_errorPosition_5 : decode cX8_errorPosition 5 = .ok (.aload_n 0, 1) := by decide +kernel
theorem dX8_errorPosition_6 : decode cX8_errorPosition 6 = .ok (.getfield 28, 3) := by decide +kernel
theorem dX8_errorPosition_9 : decode cX8_errorPosition 9 = .ok (.ireturn, 1) := by decide +kernel
theorem dX8_is_0 : decode cX8_is 0 = .ok (.iload_n 2, 1) := by decide +kernel
theorem dX8_is_1 : decode cX8_is 1 = .ok (.ifCond .lt 16, 3) := by decide +kernel
theorem dX8_is_4 : decode cX8_is 4 = .ok (.iload_n 2, 1) := by decide +kernel
theorem dX8_is_5 : decode cX8_is 5 = .ok (.aload_n 0, 1) := by decide +kernel
theorem dX8_is_6 : decode cX8_is 6 = .ok (.iload_n 1, 1) := by decide +kernel
theorem dX8_is_7 : decode cX8_is 7 = .ok (.invokevirtual 44, 3) := by decide +kernel
theorem dX8_is_10 : decode cX8_is 10 = .ok (.if_icmp .ge 7, 3) := by decide +kernel
theorem dX8_is_13 : decode cX8_is 13 = .ok (.iconst 1, 1) := by decide +kernel
theorem dX8_is_14 : decode cX8_is 14 = .ok (.goto 4, 3) := by decide +kernel
theorem dX8_is_17 : decode cX8_is 17 = .ok (.iconst 0, 1) := by decide +kernel
theorem dX8_is_18 : decode cX8_is 18 = .ok (.ireturn, 1) := by decide +kernel
theorem dX8_isPile_0 : decode cX8_isPile 0 = .ok (.iload_n 1, 1) := by decide +kernel
theorem dX8_isPile_1 : decode cX8_isPile 1 = .ok (.ifCond .lt 15, 3) := by decide +kernel
theorem dX8_isPile_4 : decode cX8_isPile 4 = .ok (.iload_n 1, 1) := by decide +kernel
theorem dX8_isPile_5 : decode cX8_isPile 5 = .ok (.aload_n 0, 1) := by decide +kernel
theorem dX8_isPile_6 : decode cX8_isPile 6 = .ok (.invokevirtual 59, 3) := by decide +kernel
theorem dX8_isPile_9 : decode cX8_isPile 9 = .ok (.if_icmp .ge 7, 3) := by decide +kernel
theorem dX8_isPile_12 : decode cX8_isPile 12 = .ok (.iconst 1, 1) := by decide +kernel
theorem dX8_isPile_13 : decode cX8_isPile 13 = .ok (.goto 4, 3) := by decide +kernel
theorem dX8_isPile_16 : decode cX8_isPile 16 = .ok (.iconst 0, 1) := by decide +kernel
theorem dX8_isPile_17 : decode cX8_isPile 17 = .ok (.ireturn, 1) := by decide +kernel
theorem dX8_isSetting_0 : decode cX8_isSetting 0 = .ok (.iload_n 0, 1) := by decide +kernel
theorem dX8_isSetting_1 : decode cX8_isSetting 1 = .ok (.ifCond .eq 8, 3) := by decide +kernel
theorem dX8_isSetting_4 : decode cX8_isSetting 4 = .ok (.iload_n 0, 1) := by decide +kernel
theorem dX8_isSetting_5 : decode cX8_isSetting 5 = .ok (.iconst 1, 1) := by decide +kernel
theorem dX8_isSetting_6 : decode cX8_isSetting 6 = .ok (.if_icmp .ne 7, 3) := by decide +kernel
theorem dX8_isSetting_9 : decode cX8_isSetting 9 = .ok (.iconst 1, 1) := by decide +kernel
theorem dX8_isSetting_10 : decode cX8_isSetting 10 = .ok (.goto 4, 3) := by decide +kernel
theorem dX8_isSetting_13 : decode cX8_isSetting 13 = .ok (.iconst 0, 1) := by decide +kernel
theorem dX8_isSetting_14 : decode cX8_isSetting 14 = .ok (.ireturn, 1) := by decide +kernel
theorem dX8_checks_0 : decode cX8_checks 0 = .ok (.aload_n 0, 1) := by decide +kernel
theorem dX8_checks_1 : decode cX8_checks 1 = .ok (.iload_n 1, 1) := by decide +kernel
theorem dX8_checks_2 : decode cX8_checks 2 = .ok (.ifCond .eq 7, 3) := by decide +kernel
theorem dX8_checks_5 : decode cX8_checks 5 = .ok (.iconst 0, 1) := by decide +kernel
theorem dX8_checks_6 : decode cX8_checks 6 = .ok (.goto 4, 3) := by decide +kernel
theorem dX8_checks_9 : decode cX8_checks 9 = .ok (.iconst 1, 1) := by decide +kernel
theorem dX8_checks_10 : decode cX8_checks 10 = .ok (.putfield 38, 3) := by decide +kernel
theorem dX8_checks_13 : decode cX8_checks 13 = .ok (.iload_n 1, 1) := by decide +kernel
theorem dX8_checks_14 : decode cX8_checks 14 = .ok (.ireturn, 1) := by decide +kernel
theorem dX8_count_0 : decode cX8_count 0 = .ok (.aload_n 0, 1) := by decide +kernel
theorem dX8_count_1 : decode cX8_count 1 = .ok (.iconst 0, 1) := by decide +kernel
theorem dX8_count_2 : decode cX8_count 2 = .ok (.putfield 38, 3) := by decide +kernel
theorem dX8_count_5 : decode cX8_count 5 = .ok (.iload_n 1, 1) := by decide +kernel
theorem dX8_count_6 : decode cX8_count 6 = .ok (.ifCond .lt 8, 3) := by decide +kernel
theorem dX8_count_9 : decode cX8_count 9 = .ok (.iload_n 1, 1) := by decide +kernel
theorem dX8_count_10 : decode cX8_count 10 = .ok (.iconst 4, 1) := by decide +kernel
theorem dX8_count_11 : decode cX8_count 11 = .ok (.if_icmp .le 8, 3) := by decide +kernel
theorem dX8_count_14 : decode cX8_count 14 = .ok (.bipush (-2), 2) := by decide +kernel
theorem dX8_count_16 : decode cX8_count 16 = .ok (.goto 8, 3) := by decide +kernel
theorem dX8_count_19 : decode cX8_count 19 = .ok (.aload_n 0, 1) := by decide +kernel
theorem dX8_count_20 : decode cX8_count 20 = .ok (.iload_n 1, 1) := by decide +kernel
theorem dX8_count_21 : decode cX8_count 21 = .ok (.invokevirtual 44, 3) := by decide +kernel
theorem dX8_count_24 : decode cX8_count 24 = .ok (.ireturn, 1) := by decide +kernel
theorem dX8_undoCount_0 : decode cX8_undoCount 0 = .ok (.aload_n 0, 1) := by decide +kernel
theorem dX8_undoCount_1 : decode cX8_undoCount 1 = .ok (.iconst 0, 1) := by decide +kernel
theorem dX8_undoCount_2 : decode cX8_undoCount 2 = .ok (.putfield 38, 3) := by decide +kernel
theorem dX8_undoCount_5 : decode cX8_undoCount 5 = .ok (.aload_n 0, 1) := by decide +kernel
theorem dX8_undoCount_6 : decode cX8_undoCount 6 = .ok (.getfield 249, 3) := by decide +kernel
theorem dX8_undoCount_9 : decode cX8_undoCount 9 = .ok (.ireturn, 1) := by decide +kernel
theorem dX8_named_0 : decode cX8_named 0 = .ok (.aload_n 0, 1) := by decide +kernel
theorem dX8_named_1 : decode cX8_named 1 = .ok (.iconst 0, 1) := by decide +kernel
theorem dX8_named_2 : decode cX8_named 2 = .ok (.putfield 38, 3) := by decide +kernel
theorem dX8_named_5 : decode cX8_named 5 = .ok (.iload_n 1, 1) := by decide +kernel
theorem dX8_named_6 : decode cX8_named 6 = .ok (.ifCond .lt 8, 3) := by decide +kernel
theorem dX8_named_9 : decode cX8_named 9 = .ok (.iload_n 1, 1) := by decide +kernel
theorem dX8_named_10 : decode cX8_named 10 = .ok (.iconst 3, 1) := by decide +kernel
theorem dX8_named_11 : decode cX8_named 11 = .ok (.if_icmp .le 8, 3) := by decide +kernel
theorem dX8_named_14 : decode cX8_named 14 = .ok (.bipush (-2), 2) := by decide +kernel
theorem dX8_named_16 : decode cX8_named 16 = .ok (.goto 9, 3) := by decide +kernel
theorem dX8_named_19 : decode cX8_named 19 = .ok (.aload_n 0, 1) := by decide +kernel
theorem dX8_named_20 : decode cX8_named 20 = .ok (.iload_n 1, 1) := by decide +kernel
theorem dX8_named_21 : decode cX8_named 21 = .ok (.iload_n 2, 1) := by decide +kernel
theorem dX8_named_22 : decode cX8_named 22 = .ok (.invokevirtual 196, 3) := by decide +kernel
theorem dX8_named_25 : decode cX8_named 25 = .ok (.ireturn, 1) := by decide +kernel
theorem dX8_getSetting_0 : decode cX8_getSetting 0 = .ok (.aload_n 0, 1) := by decide +kernel
theorem dX8_getSetting_1 : decode cX8_getSetting 1 = .ok (.iconst 0, 1) := by decide +kernel
theorem dX8_getSetting_2 : decode cX8_getSetting 2 = .ok (.putfield 38, 3) := by decide +kernel
theorem dX8_getSetting_5 : decode cX8_getSetting 5 = .ok (.iload_n 1, 1) := by decide +kernel
theorem dX8_getSetting_6 : decode cX8_getSetting 6 = .ok (.invokestatic 252, 3) := by decide +kernel
theorem dX8_getSetting_9 : decode cX8_getSetting 9 = .ok (.ifCond .eq 14, 3) := by decide +kernel
theorem dX8_getSetting_12 : decode cX8_getSetting 12 = .ok (.aload_n 0, 1) := by decide +kernel
theorem dX8_getSetting_13 : decode cX8_getSetting 13 = .ok (.getfield 19, 3) := by decide +kernel
theorem dX8_getSetting_16 : decode cX8_getSetting 16 = .ok (.iconst 0, 1) := by decide +kernel
theorem dX8_getSetting_17 : decode cX8_getSetting 17 = .ok (.iload_n 1, 1) := by decide +kernel
theorem dX8_getSetting_18 : decode cX8_getSetting 18 = .ok (.iadd, 1) := by decide +kernel
theorem dX8_getSetting_19 : decode cX8_getSetting 19 = .ok (.iaload, 1) := by decide +kernel
theorem dX8_getSetting_20 : decode cX8_getSetting 20 = .ok (.goto 5, 3) := by decide +kernel
theorem dX8_getSetting_23 : decode cX8_getSetting 23 = .ok (.bipush (-2), 2) := by decide +kernel
theorem dX8_getSetting_25 : decode cX8_getSetting 25 = .ok (.ireturn, 1) := by decide +kernel
theorem dX8_regionAround_0 : decode cX8_regionAround 0 = .ok (.aload_n 0, 1) := by decide +kernel
theorem dX8_regionAround_1 : decode cX8_regionAround 1 = .ok (.aload_n 0, 1) := by decide +kernel
theorem dX8_regionAround_2 : decode cX8_regionAround 2 = .ok (.iconst 1, 1) := by decide +kernel
theorem dX8_regionAround_3 : decode cX8_regionAround 3 = .ok (.iload_n 1, 1) := by decide +kernel
theorem dX8_regionAround_4 : decode cX8_regionAround 4 = .ok (.invokevirtual 255, 3) := by decide +kernel
theorem dX8_regionAround_7 : decode cX8_regionAround 7 = .ok (.invokevirtual 258, 3) := by decide +kernel
theorem dX8_regionAround_10 : decode cX8_regionAround 10 = .ok (.ifCond .eq 15, 3) := by decide +kernel
theorem dX8_regionAround_13 : decode cX8_regionAround 13 = .ok (.aload_n 0, 1) := by decide +kernel
theorem dX8_regionAround_14 : decode cX8_regionAround 14 = .ok (.getfield 13, 3) := by decide +kernel
theorem dX8_regionAround_17 : decode cX8_regionAround 17 = .ok (.bipush 33, 2) := by decide +kernel
theorem dX8_regionAround_19 : decode cX8_regionAround 19 = .ok (.iload_n 1, 1) := by decide +kernel
theorem dX8_regionAround_20 : decode cX8_regionAround 20 = .ok (.iadd, 1) := by decide +kernel
theorem dX8_regionAround_21 : decode cX8_regionAround 21 = .ok (.iaload, 1) := by decide +kernel
theorem dX8_regionAround_22 : decode cX8_regionAround 22 = .ok (.goto 4, 3) := by decide +kernel
theorem dX8_regionAround_25 : decode cX8_regionAround 25 = .ok (.iconst 0, 1) := by decide +kernel
theorem dX8_regionAround_26 : decode cX8_regionAround 26 = .ok (.ireturn, 1) := by decide +kernel
theorem dX8_regionOf_0 : decode cX8_regionOf 0 = .ok (.aload_n 0, 1) := by decide +kernel
theorem dX8_regionOf_1 : decode cX8_regionOf 1 = .ok (.aload_n 0, 1) := by decide +kernel
theorem dX8_regionOf_2 : decode cX8_regionOf 2 = .ok (.iconst 2, 1) := by decide +kernel
theorem dX8_regionOf_3 : decode cX8_regionOf 3 = .ok (.iload_n 1, 1) := by decide +kernel
theorem dX8_regionOf_4 : decode cX8_regionOf 4 = .ok (.invokevirtual 255, 3) := by decide +kernel
theorem dX8_regionOf_7 : decode cX8_regionOf 7 = .ok (.invokevirtual 258, 3) := by decide +kernel
theorem dX8_regionOf_10 : decode cX8_regionOf 10 = .ok (.ifCond .eq 15, 3) := by decide +kernel
theorem dX8_regionOf_13 : decode cX8_regionOf 13 = .ok (.aload_n 0, 1) := by decide +kernel
theorem dX8_regionOf_14 : decode cX8_regionOf 14 = .ok (.getfield 13, 3) := by decide +kernel
theorem dX8_regionOf_17 : decode cX8_regionOf 17 = .ok (.bipush 38, 2) := by decide +kernel
theorem dX8_regionOf_19 : decode cX8_regionOf 19 = .ok (.iload_n 1, 1) := by decide +kernel
theorem dX8_regionOf_20 : decode cX8_regionOf 20 = .ok (.iadd, 1) := by decide +kernel
theorem dX8_regionOf_21 : decode cX8_regionOf 21 = .ok (.iaload, 1) := by decide +kernel
theorem dX8_regionOf_22 : decode cX8_regionOf 22 = .ok (.goto 4, 3) := by decide +kernel
theorem dX8_regionOf_25 : decode cX8_regionOf 25 = .ok (.iconst 0, 1) := by decide +kernel
theorem dX8_regionOf_26 : decode cX8_regionOf 26 = .ok (.ireturn, 1) := by decide +kernel
theorem dX8_wardsIn_0 : decode cX8_wardsIn 0 = .ok (.aload_n 0, 1) := by decide +kernel
theorem dX8_wardsIn_1 : decode cX8_wardsIn 1 = .ok (.aload_n 0, 1) := by decide +kernel
theorem dX8_wardsIn_2 : decode cX8_wardsIn 2 = .ok (.iconst 1, 1) := by decide +kernel
theorem dX8_wardsIn_3 : decode cX8_wardsIn 3 = .ok (.iload_n 1, 1) := by decide +kernel
theorem dX8_wardsIn_4 : decode cX8_wardsIn 4 = .ok (.invokevirtual 255, 3) := by decide +kernel
theorem dX8_wardsIn_7 : decode cX8_wardsIn 7 = .ok (.invokevirtual 258, 3) := by decide +kernel
theorem dX8_wardsIn_10 : decode cX8_wardsIn 10 = .ok (.ifCond .ne 5, 3) := by decide +kernel
theorem dX8_wardsIn_13 : decode cX8_wardsIn 13 = .ok (.iconst 0, 1) := by decide +kernel
theorem dX8_wardsIn_14 : decode cX8_wardsIn 14 = .ok (.ireturn, 1) := by decide +kernel
theorem dX8_wardsIn_15 : decode cX8_wardsIn 15 = .ok (.iconst 0, 1) := by decide +kernel
theorem dX8_wardsIn_16 : decode cX8_wardsIn 16 = .ok (.istore_n 2, 1) := by decide +kernel
theorem dX8_wardsIn_17 : decode cX8_wardsIn 17 = .ok (.iconst 0, 1) := by decide +kernel
theorem dX8_wardsIn_18 : decode cX8_wardsIn 18 = .ok (.istore_n 3, 1) := by decide +kernel
theorem dX8_wardsIn_19 : decode cX8_wardsIn 19 = .ok (.iload_n 3, 1) := by decide +kernel
theorem dX8_wardsIn_20 : decode cX8_wardsIn 20 = .ok (.aload_n 0, 1) := by decide +kernel
theorem dX8_wardsIn_21 : decode cX8_wardsIn 21 = .ok (.iconst 2, 1) := by decide +kernel
theorem dX8_wardsIn_22 : decode cX8_wardsIn 22 = .ok (.invokevirtual 44, 3) := by decide +kernel
theorem dX8_wardsIn_25 : decode cX8_wardsIn 25 = .ok (.if_icmp .ge 28, 3) := by decide +kernel
theorem dX8_wardsIn_28 : decode cX8_wardsIn 28 = .ok (.iload_n 2, 1) := by decide +kernel
theorem dX8_wardsIn_29 : decode cX8_wardsIn 29 = .ok (.aload_n 0, 1) := by decide +kernel
theorem dX8_wardsIn_30 : decode cX8_wardsIn 30 = .ok (.iload_n 3, 1) := by decide +kernel
theorem dX8_wardsIn_31 : decode cX8_wardsIn 31 = .ok (.iload_n 1, 1) := by decide +kernel
theorem dX8_wardsIn_32 : decode cX8_wardsIn 32 = .ok (.invokevirtual 132, 3) := by decide +kernel
theorem dX8_wardsIn_35 : decode cX8_wardsIn 35 = .ok (.ifCond .eq 9, 3) := by decide +kernel
theorem dX8_wardsIn_38 : decode cX8_wardsIn 38 = .ok (.iconst 1, 1) := by decide +kernel
theorem dX8_wardsIn_39 : decode cX8_wardsIn 39 = .ok (.iload_n 3, 1) := by decide +kernel
theorem dX8_wardsIn_40 : decode cX8_wardsIn 40 = .ok (.ishl, 1) := by decide +kernel
theorem dX8_wardsIn_41 : decode cX8_wardsIn 41 = .ok (.goto 4, 3) := by decide +kernel
theorem dX8_wardsIn_44 : decode cX8_wardsIn 44 = .ok (.iconst 0, 1) := by decide +kernel
theorem dX8_wardsIn_45 : decode cX8_wardsIn 45 = .ok (.ior, 1) := by decide +kernel
theorem dX8_wardsIn_46 : decode cX8_wardsIn 46 = .ok (.istore_n 2, 1) := by decide +kernel
theorem dX8_wardsIn_47 : decode cX8_wardsIn 47 = .ok (.iinc 3 1, 3) := by decide +kernel
theorem dX8_wardsIn_50 : decode cX8_wardsIn 50 = .ok (.goto (-31), 3) := by decide +kernel
theorem dX8_wardsIn_53 : decode cX8_wardsIn 53 = .ok (.iload_n 2, 1) := by decide +kernel
theorem dX8_wardsIn_54 : decode cX8_wardsIn 54 = .ok (.ireturn, 1) := by decide +kernel
theorem dX8_depthOf_0 : decode cX8_depthOf 0 = .ok (.aload_n 0, 1) := by decide +kernel
theorem dX8_depthOf_1 : decode cX8_depthOf 1 = .ok (.aload_n 0, 1) := by decide +kernel
theorem dX8_depthOf_2 : decode cX8_depthOf 2 = .ok (.iconst 1, 1) := by decide +kernel
theorem dX8_depthOf_3 : decode cX8_depthOf 3 = .ok (.iload_n 1, 1) := by decide +kernel
theorem dX8_depthOf_4 : decode cX8_depthOf 4 = .ok (.invokevirtual 255, 3) := by decide +kernel
theorem dX8_depthOf_7 : decode cX8_depthOf 7 = .ok (.invokevirtual 258, 3) := by decide +kernel
theorem dX8_depthOf_10 : decode cX8_depthOf 10 = .ok (.ifCond .ne 5, 3) := by decide +kernel
theorem dX8_depthOf_13 : decode cX8_depthOf 13 = .ok (.iconst 0, 1) := by decide +kernel
theorem dX8_depthOf_14 : decode cX8_depthOf 14 = .ok (.ireturn, 1) := by decide +kernel
theorem dX8_depthOf_15 : decode cX8_depthOf 15 = .ok (.iconst 0, 1) := by decide +kernel
theorem dX8_depthOf_16 : decode cX8_depthOf 16 = .ok (.istore_n 2, 1) := by decide +kernel
theorem dX8_depthOf_17 : decode cX8_depthOf 17 = .ok (.aload_n 0, 1) := by decide +kernel
theorem dX8_depthOf_18 : decode cX8_depthOf 18 = .ok (.getfield 13, 3) := by decide +kernel
theorem dX8_depthOf_21 : decode cX8_depthOf 21 = .ok (.bipush 33, 2) := by decide +kernel
theorem dX8_depthOf_23 : decode cX8_depthOf 23 = .ok (.iload_n 1, 1) := by decide +kernel
theorem dX8_depthOf_24 : decode cX8_depthOf 24 = .ok (.iadd, 1) := by decide +kernel
theorem dX8_depthOf_25 : decode cX8_depthOf 25 = .ok (.iaload, 1) := by decide +kernel
theorem dX8_depthOf_26 : decode cX8_depthOf 26 = .ok (.istore_n 3, 1) := by decide +kernel
theorem dX8_depthOf_27 : decode cX8_depthOf 27 = .ok (.iload_n 3, 1) := by decide +kernel
theorem dX8_depthOf_28 : decode cX8_depthOf 28 = .ok (.iconst (-1), 1) := by decide +kernel
theorem dX8_depthOf_29 : decode cX8_depthOf 29 = .ok (.if_icmp .eq 19, 3) := by decide +kernel
theorem dX8_depthOf_32 : decode cX8_depthOf 32 = .ok (.iinc 2 1, 3) := by decide +kernel
theorem dX8_depthOf_35 : decode cX8_depthOf 35 = .ok (.aload_n 0, 1) := by decide +kernel
theorem dX8_depthOf_36 : decode cX8_depthOf 36 = .ok (.getfield 13, 3) := by decide +kernel
theorem dX8_depthOf_39 : decode cX8_depthOf 39 = .ok (.bipush 33, 2) := by decide +kernel
theorem dX8_depthOf_41 : decode cX8_depthOf 41 = .ok (.iload_n 3, 1) := by decide +kernel
theorem dX8_depthOf_42 : decode cX8_depthOf 42 = .ok (.iadd, 1) := by decide +kernel
theorem dX8_depthOf_43 : decode cX8_depthOf 43 = .ok (.iaload, 1) := by decide +kernel
theorem dX8_depthOf_44 : decode cX8_depthOf 44 = .ok (.istore_n 3, 1) := by decide +kernel
theorem dX8_depthOf_45 : decode cX8_depthOf 45 = .ok (.goto (-18), 3) := by decide +kernel
theorem dX8_depthOf_48 : decode cX8_depthOf 48 = .ok (.iload_n 2, 1) := by decide +kernel
theorem dX8_depthOf_49 : decode cX8_depthOf 49 = .ok (.ireturn, 1) := by decide +kernel
theorem dX8_boxProperty_0 : decode cX8_boxProperty 0 = .ok (.aload_n 0, 1) := by decide +kernel
theorem dX8_boxProperty_1 : decode cX8_boxProperty 1 = .ok (.aload_n 0, 1) := by decide +kernel
theorem dX8_boxProperty_2 : decode cX8_boxProperty 2 = .ok (.iconst 3, 1) := by decide +kernel
theorem dX8_boxProperty_3 : decode cX8_boxProperty 3 = .ok (.iload_n 1, 1) := by decide +kernel
theorem dX8_boxProperty_4 : decode cX8_boxProperty 4 = .ok (.invokevirtual 255, 3) := by decide +kernel
theorem dX8_boxProperty_7 : decode cX8_boxProperty 7 = .ok (.invokevirtual 258, 3) := by decide +kernel
theorem dX8_boxProperty_10 : decode cX8_boxProperty 10 = .ok (.ifCond .ne 5, 3) := by decide +kernel
theorem dX8_boxProperty_13 : decode cX8_boxProperty 13 = .ok (.iconst 0, 1) := by decide +kernel
theorem dX8_boxProperty_14 : decode cX8_boxProperty 14 = .ok (.ireturn, 1) := by decide +kernel
theorem dX8_boxProperty_15 : decode cX8_boxProperty 15 = .ok (.iload_n 2, 1) := by decide +kernel
theorem dX8_boxProperty_16 : decode cX8_boxProperty 16 = .ok (.tableswitch 66 0 3 #[32, 42, 52, 59], 32) := by decide +kernel
theorem dX8_boxProperty_48 : decode cX8_boxProperty 48 = .ok (.aload_n 0, 1) := by decide +kernel
theorem dX8_boxProperty_49 : decode cX8_boxProperty 49 = .ok (.getfield 13, 3) := by decide +kernel
theorem dX8_boxProperty_52 : decode cX8_boxProperty 52 = .ok (.bipush 44, 2) := by decide +kernel
theorem dX8_boxProperty_54 : decode cX8_boxProperty 54 = .ok (.iload_n 1, 1) := by decide +kernel
theorem dX8_boxProperty_55 : decode cX8_boxProperty 55 = .ok (.iadd, 1) := by decide +kernel
theorem dX8_boxProperty_56 : decode cX8_boxProperty 56 = .ok (.iaload, 1) := by decide +kernel
theorem dX8_boxProperty_57 : decode cX8_boxProperty 57 = .ok (.ireturn, 1) := by decide +kernel
theorem dX8_boxProperty_58 : decode cX8_boxProperty 58 = .ok (.aload_n 0, 1) := by decide +kernel
theorem dX8_boxProperty_59 : decode cX8_boxProperty 59 = .ok (.getfield 13, 3) := by decide +kernel
theorem dX8_boxProperty_62 : decode cX8_boxProperty 62 = .ok (.bipush 56, 2) := by decide +kernel
theorem dX8_boxProperty_64 : decode cX8_boxProperty 64 = .ok (.iload_n 1, 1) := by decide +kernel
theorem dX8_boxProperty_65 : decode cX8_boxProperty 65 = .ok (.iadd, 1) := by decide +kernel
theorem dX8_boxProperty_66 : decode cX8_boxProperty 66 = .ok (.iaload, 1) := by decide +kernel
theorem dX8_boxProperty_67 : decode cX8_boxProperty 67 = .ok (.ireturn, 1) := by decide +kernel
theorem dX8_boxProperty_68 : decode cX8_boxProperty 68 = .ok (.aload_n 0, 1) := by decide +kernel
theorem dX8_boxProperty_69 : decode cX8_boxProperty 69 = .ok (.iload_n 1, 1) := by decide +kernel
theorem dX8_boxProperty_70 : decode cX8_boxProperty 70 = .ok (.iconst 1, 1) := by decide +kernel
theorem dX8_boxProperty_71 : decode cX8_boxProperty 71 = .ok (.invokevirtual 48, 3) := by decide +kernel
theorem dX8_boxProperty_74 : decode cX8_boxProperty 74 = .ok (.ireturn, 1) := by decide +kernel
theorem dX8_boxProperty_75 : decode cX8_boxProperty 75 = .ok (.aload_n 0, 1) := by decide +kernel
theorem dX8_boxProperty_76 : decode cX8_boxProperty 76 = .ok (.iload_n 1, 1) := by decide +kernel
theorem dX8_boxProperty_77 : decode cX8_boxProperty 77 = .ok (.iconst 3, 1) := by decide +kernel
theorem dX8_boxProperty_78 : decode cX8_boxProperty 78 = .ok (.invokevirtual 48, 3) := by decide +kernel
theorem dX8_boxProperty_81 : decode cX8_boxProperty 81 = .ok (.ireturn, 1) := by decide +kernel
theorem dX8_boxProperty_82 : decode cX8_boxProperty 82 = .ok (.bipush (-2), 2) := by decide +kernel
theorem dX8_boxProperty_84 : decode cX8_boxProperty 84 = .ok (.ireturn, 1) := by decide +kernel
theorem dX8_placeOf_0 : decode cX8_placeOf 0 = .ok (.aload_n 0, 1) := by decide +kernel
theorem dX8_placeOf_1 : decode cX8_placeOf 1 = .ok (.aload_n 0, 1) := by decide +kernel
theorem dX8_placeOf_2 : decode cX8_placeOf 2 = .ok (.iconst 3, 1) := by decide +kernel
theorem dX8_placeOf_3 : decode cX8_placeOf 3 = .ok (.iload_n 1, 1) := by decide +kernel
theorem dX8_placeOf_4 : decode cX8_placeOf 4 = .ok (.invokevirtual 255, 3) := by decide +kernel
theorem dX8_placeOf_7 : decode cX8_placeOf 7 = .ok (.invokevirtual 258, 3) := by decide +kernel
theorem dX8_placeOf_10 : decode cX8_placeOf 10 = .ok (.ifCond .eq 12, 3) := by decide +kernel
theorem dX8_placeOf_13 : decode cX8_placeOf 13 = .ok (.aload_n 0, 1) := by decide +kernel
theorem dX8_placeOf_14 : decode cX8_placeOf 14 = .ok (.iload_n 1, 1) := by decide +kernel
theorem dX8_placeOf_15 : decode cX8_placeOf 15 = .ok (.iconst 0, 1) := by decide +kernel
theorem dX8_placeOf_16 : decode cX8_placeOf 16 = .ok (.invokevirtual 48, 3) := by decide +kernel
theorem dX8_placeOf_19 : decode cX8_placeOf 19 = .ok (.goto 4, 3) := by decide +kernel
theorem dX8_placeOf_22 : decode cX8_placeOf 22 = .ok (.iconst 0, 1) := by decide +kernel
theorem dX8_placeOf_23 : decode cX8_placeOf 23 = .ok (.ireturn, 1) := by decide +kernel
theorem dX8_papers_0 : decode cX8_papers 0 = .ok (.aload_n 0, 1) := by decide +kernel
theorem dX8_papers_1 : decode cX8_papers 1 = .ok (.aload_n 0, 1) := by decide +kernel
theorem dX8_papers_2 : decode cX8_papers 2 = .ok (.iconst 3, 1) := by decide +kernel
theorem dX8_papers_3 : decode cX8_papers 3 = .ok (.iload_n 1, 1) := by decide +kernel
theorem dX8_papers_4 : decode cX8_papers 4 = .ok (.invokevirtual 255, 3) := by decide +kernel
theorem dX8_papers_7 : decode cX8_papers 7 = .ok (.invokevirtual 258, 3) := by decide +kernel
theorem dX8_papers_10 : decode cX8_papers 10 = .ok (.ifCond .ne 5, 3) := by decide +kernel
theorem dX8_papers_13 : decode cX8_papers 13 = .ok (.iconst 0, 1) := by decide +kernel
theorem dX8_papers_14 : decode cX8_papers 14 = .ok (.ireturn, 1) := by decide +kernel
theorem dX8_papers_15 : decode cX8_papers 15 = .ok (.aload_n 0, 1) := by decide +kernel
theorem dX8_papers_16 : decode cX8_papers 16 = .ok (.iload_n 2, 1) := by decide +kernel
theorem dX8_papers_17 : decode cX8_papers 17 = .ok (.invokevirtual 262, 3) := by decide +kernel
theorem dX8_papers_20 : decode cX8_papers 20 = .ok (.ifCond .eq 12, 3) := by decide +kernel
theorem dX8_papers_23 : decode cX8_papers 23 = .ok (.aload_n 0, 1) := by decide +kernel
theorem dX8_papers_24 : decode cX8_papers 24 = .ok (.iload_n 1, 1) := by decide +kernel
theorem dX8_papers_25 : decode cX8_papers 25 = .ok (.iload_n 2, 1) := by decide +kernel
theorem dX8_papers_26 : decode cX8_papers 26 = .ok (.invokevirtual 56, 3) := by decide +kernel
theorem dX8_papers_29 : decode cX8_papers 29 = .ok (.goto 5, 3) := by decide +kernel
theorem dX8_papers_32 : decode cX8_papers 32 = .ok (.bipush (-2), 2) := by decide +kernel
theorem dX8_papers_34 : decode cX8_papers 34 = .ok (.ireturn, 1) := by decide +kernel
theorem dX8_isSealGood_0 : decode cX8_isSealGood 0 = .ok (.aload_n 0, 1) := by decide +kernel
theorem dX8_isSealGood_1 : decode cX8_isSealGood 1 = .ok (.aload_n 0, 1) := by decide +kernel
theorem dX8_isSealGood_2 : decode cX8_isSealGood 2 = .ok (.iconst 3, 1) := by decide +kernel
theorem dX8_isSealGood_3 : decode cX8_isSealGood 3 = .ok (.iload_n 1, 1) := by decide +kernel
theorem dX8_isSealGood_4 : decode cX8_isSealGood 4 = .ok (.invokevirtual 255, 3) := by decide +kernel
theorem dX8_isSealGood_7 : decode cX8_isSealGood 7 = .ok (.invokevirtual 258, 3) := by decide +kernel
theorem dX8_isSealGood_10 : decode cX8_isSealGood 10 = .ok (.ifCond .eq 15, 3) := by decide +kernel
theorem dX8_isSealGood_13 : decode cX8_isSealGood 13 = .ok (.aload_n 0, 1) := by decide +kernel
theorem dX8_isSealGood_14 : decode cX8_isSealGood 14 = .ok (.iload_n 1, 1) := by decide +kernel
theorem dX8_isSealGood_15 : decode cX8_isSealGood 15 = .ok (.invokevirtual 265, 3) := by decide +kernel
theorem dX8_isSealGood_18 : decode cX8_isSealGood 18 = .ok (.ifCond .eq 7, 3) := by decide +kernel
theorem dX8_isSealGood_21 : decode cX8_isSealGood 21 = .ok (.iconst 1, 1) := by decide +kernel
theorem dX8_isSealGood_22 : decode cX8_isSealGood 22 = .ok (.goto 4, 3) := by decide +kernel
theorem dX8_isSealGood_25 : decode cX8_isSealGood 25 = .ok (.iconst 0, 1) := by decide +kernel
theorem dX8_isSealGood_26 : decode cX8_isSealGood 26 = .ok (.ireturn, 1) := by decide +kernel
theorem dX8_ledgerSize_0 : decode cX8_ledgerSize 0 = .ok (.aload_n 0, 1) := by decide +kernel
theorem dX8_ledgerSize_1 : decode cX8_ledgerSize 1 = .ok (.aload_n 0, 1) := by decide +kernel
theorem dX8_ledgerSize_2 : decode cX8_ledgerSize 2 = .ok (.iconst 3, 1) := by decide +kernel
theorem dX8_ledgerSize_3 : decode cX8_ledgerSize 3 = .ok (.iload_n 1, 1) := by decide +kernel
theorem dX8_ledgerSize_4 : decode cX8_ledgerSize 4 = .ok (.invokevirtual 255, 3) := by decide +kernel
theorem dX8_ledgerSize_7 : decode cX8_ledgerSize 7 = .ok (.invokevirtual 258, 3) := by decide +kernel
theorem dX8_ledgerSize_10 : decode cX8_ledgerSize 10 = .ok (.ifCond .eq 12, 3) := by decide +kernel
theorem dX8_ledgerSize_13 : decode cX8_ledgerSize 13 = .ok (.aload_n 0, 1) := by decide +kernel
theorem dX8_ledgerSize_14 : decode cX8_ledgerSize 14 = .ok (.iload_n 1, 1) := by decide +kernel
theorem dX8_ledgerSize_15 : decode cX8_ledgerSize 15 = .ok (.iconst 2, 1) := by decide +kernel
theorem dX8_ledgerSize_16 : decode cX8_ledgerSize 16 = .ok (.invokevirtual 48, 3) := by decide +kernel
theorem dX8_ledgerSize_19 : decode cX8_ledgerSize 19 = .ok (.goto 4, 3) := by decide +kernel
theorem dX8_ledgerSize_22 : decode cX8_ledgerSize 22 = .ok (.iconst 0, 1) := by decide +kernel
theorem dX8_ledgerSize_23 : decode cX8_ledgerSize 23 = .ok (.ireturn, 1) := by decide +kernel
theorem dX8_ledger_0 : decode cX8_ledger 0 = .ok (.aload_n 0, 1) := by decide +kernel
theorem dX8_ledger_1 : decode cX8_ledger 1 = .ok (.aload_n 0, 1) := by decide +kernel
theorem dX8_ledger_2 : decode cX8_ledger 2 = .ok (.iconst 3, 1) := by decide +kernel
theorem dX8_ledger_3 : decode cX8_ledger 3 = .ok (.iload_n 1, 1) := by decide +kernel
theorem dX8_ledger_4 : decode cX8_ledger 4 = .ok (.invokevirtual 255, 3) := by decide +kernel
theorem dX8_ledger_7 : decode cX8_ledger 7 = .ok (.invokevirtual 258, 3) := by decide +kernel
theorem dX8_ledger_10 : decode cX8_ledger 10 = .ok (.ifCond .ne 5, 3) := by decide +kernel
theorem dX8_ledger_13 : decode cX8_ledger 13 = .ok (.iconst 0, 1) := by decide +kernel
theorem dX8_ledger_14 : decode cX8_ledger 14 = .ok (.ireturn, 1) := by decide +kernel
theorem dX8_ledger_15 : decode cX8_ledger 15 = .ok (.iload_n 2, 1) := by decide +kernel
theorem dX8_ledger_16 : decode cX8_ledger 16 = .ok (.ifCond .lt 13, 3) := by decide +kernel
theorem dX8_ledger_19 : decode cX8_ledger 19 = .ok (.iload_n 2, 1) := by decide +kernel
theorem dX8_ledger_20 : decode cX8_ledger 20 = .ok (.aload_n 0, 1) := by decide +kernel
theorem dX8_ledger_21 : decode cX8_ledger 21 = .ok (.iload_n 1, 1) := by decide +kernel
theorem dX8_ledger_22 : decode cX8_ledger 22 = .ok (.iconst 2, 1) := by decide +kernel
theorem dX8_ledger_23 : decode cX8_ledger 23 = .ok (.invokevirtual 48, 3) := by decide +kernel
theorem dX8_ledger_26 : decode cX8_ledger 26 = .ok (.if_icmp .lt 7, 3) := by decide +kernel
theorem dX8_ledger_29 : decode cX8_ledger 29 = .ok (.iconst (-1), 1) := by decide +kernel
theorem dX8_ledger_30 : decode cX8_ledger 30 = .ok (.goto 11, 3) := by decide +kernel
theorem dX8_ledger_33 : decode cX8_ledger 33 = .ok (.aload_n 0, 1) := by decide +kernel
theorem dX8_ledger_34 : decode cX8_ledger 34 = .ok (.iload_n 1, 1) := by decide +kernel
theorem dX8_ledger_35 : decode cX8_ledger 35 = .ok (.iconst 4, 1) := by decide +kernel
theorem dX8_ledger_36 : decode cX8_ledger 36 = .ok (.iload_n 2, 1) := by decide +kernel
theorem dX8_ledger_37 : decode cX8_ledger 37 = .ok (.iadd, 1) := by decide +kernel
theorem dX8_ledger_38 : decode cX8_ledger 38 = .ok (.invokevirtual 48, 3) := by decide +kernel
theorem dX8_ledger_41 : decode cX8_ledger 41 = .ok (.ireturn, 1) := by decide +kernel
theorem dX8_boxAt_0 : decode cX8_boxAt 0 = .ok (.aload_n 0, 1) := by decide +kernel
theorem dX8_boxAt_1 : decode cX8_boxAt 1 = .ok (.aload_n 0, 1) := by decide +kernel
theorem dX8_boxAt_2 : decode cX8_boxAt 2 = .ok (.iconst 4, 1) := by decide +kernel
theorem dX8_boxAt_3 : decode cX8_boxAt 3 = .ok (.iload_n 1, 1) := by decide +kernel
theorem dX8_boxAt_4 : decode cX8_boxAt 4 = .ok (.invokevirtual 255, 3) := by decide +kernel
theorem dX8_boxAt_7 : decode cX8_boxAt 7 = .ok (.invokevirtual 258, 3) := by decide +kernel
theorem dX8_boxAt_10 : decode cX8_boxAt 10 = .ok (.ifCond .eq 11, 3) := by decide +kernel
theorem dX8_boxAt_13 : decode cX8_boxAt 13 = .ok (.aload_n 0, 1) := by decide +kernel
theorem dX8_boxAt_14 : decode cX8_boxAt 14 = .ok (.iload_n 1, 1) := by decide +kernel
theorem dX8_boxAt_15 : decode cX8_boxAt 15 = .ok (.invokevirtual 268, 3) := by decide +kernel
theorem dX8_boxAt_18 : decode cX8_boxAt 18 = .ok (.goto 4, 3) := by decide +kernel
theorem dX8_boxAt_21 : decode cX8_boxAt 21 = .ok (.iconst 0, 1) := by decide +kernel
theorem dX8_boxAt_22 : decode cX8_boxAt 22 = .ok (.ireturn, 1) := by decide +kernel
theorem dX8_slipOf_0 : decode cX8_slipOf 0 = .ok (.aload_n 0, 1) := by decide +kernel
theorem dX8_slipOf_1 : decode cX8_slipOf 1 = .ok (.aload_n 0, 1) := by decide +kernel
theorem dX8_slipOf_2 : decode cX8_slipOf 2 = .ok (.iconst 4, 1) := by decide +kernel
theorem dX8_slipOf_3 : decode cX8_slipOf 3 = .ok (.iload_n 1, 1) := by decide +kernel
theorem dX8_slipOf_4 : decode cX8_slipOf 4 = .ok (.invokevirtual 255, 3) := by decide +kernel
theorem dX8_slipOf_7 : decode cX8_slipOf 7 = .ok (.invokevirtual 258, 3) := by decide +kernel
theorem dX8_slipOf_10 : decode cX8_slipOf 10 = .ok (.ifCond .eq 16, 3) := by decide +kernel
theorem dX8_slipOf_13 : decode cX8_slipOf 13 = .ok (.aload_n 0, 1) := by decide +kernel
theorem dX8_slipOf_14 : decode cX8_slipOf 14 = .ok (.getfield 13, 3) := by decide +kernel
theorem dX8_slipOf_17 : decode cX8_slipOf 17 = .ok (.sipush 140, 3) := by decide +kernel
theorem dX8_slipOf_20 : decode cX8_slipOf 20 = .ok (.iload_n 1, 1) := by decide +kernel
theorem dX8_slipOf_21 : decode cX8_slipOf 21 = .ok (.iadd, 1) := by decide +kernel
theorem dX8_slipOf_22 : decode cX8_slipOf 22 = .ok (.iaload, 1) := by decide +kernel
theorem dX8_slipOf_23 : decode cX8_slipOf 23 = .ok (.goto 4, 3) := by decide +kernel
theorem dX8_slipOf_26 : decode cX8_slipOf 26 = .ok (.iconst 0, 1) := by decide +kernel
theorem dX8_slipOf_27 : decode cX8_slipOf 27 = .ok (.ireturn, 1) := by decide +kernel
theorem dX8_isCount_0 : decode cX8_isCount 0 = .ok (.iload_n 2, 1) := by decide +kernel
theorem dX8_isCount_1 : decode cX8_isCount 1 = .ok (.ifCond .lt 17, 3) := by decide +kernel
theorem dX8_isCount_4 : decode cX8_isCount 4 = .ok (.iload_n 2, 1) := by decide +kernel
theorem dX8_isCount_5 : decode cX8_isCount 5 = .ok (.aload_n 0, 1) := by decide +kernel
theorem dX8_isCount_6 : decode cX8_isCount 6 = .ok (.iload_n 1, 1) := by decide +kernel
theorem dX8_isCount_7 : decode cX8_isCount 7 = .ok (.iconst 3, 1) := by decide +kernel
theorem dX8_isCount_8 : decode cX8_isCount 8 = .ok (.invokevirtual 48, 3) := by decide +kernel
theorem dX8_isCount_11 : decode cX8_isCount 11 = .ok (.if_icmp .ge 7, 3) := by decide +kernel
theorem dX8_isCount_14 : decode cX8_isCount 14 = .ok (.iconst 1, 1) := by decide +kernel
theorem dX8_isCount_15 : decode cX8_isCount 15 = .ok (.goto 4, 3) := by decide +kernel
theorem dX8_isCount_18 : decode cX8_isCount 18 = .ok (.iconst 0, 1) := by decide +kernel
theorem dX8_isCount_19 : decode cX8_isCount 19 = .ok (.ireturn, 1) := by decide +kernel
theorem dX8_counted_0 : decode cX8_counted 0 = .ok (.aload_n 0, 1) := by decide +kernel
theorem dX8_counted_1 : decode cX8_counted 1 = .ok (.aload_n 0, 1) := by decide +kernel
theorem dX8_counted_2 : decode cX8_counted 2 = .ok (.iconst 3, 1) := by decide +kernel
theorem dX8_counted_3 : decode cX8_counted 3 = .ok (.iload_n 1, 1) := by decide +kernel
theorem dX8_counted_4 : decode cX8_counted 4 = .ok (.invokevirtual 255, 3) := by decide +kernel
theorem dX8_counted_7 : decode cX8_counted 7 = .ok (.invokevirtual 258, 3) := by decide +kernel
theorem dX8_counted_10 : decode cX8_counted 10 = .ok (.ifCond .ne 5, 3) := by decide +kernel
theorem dX8_counted_13 : decode cX8_counted 13 = .ok (.iconst 0, 1) := by decide +kernel
theorem dX8_counted_14 : decode cX8_counted 14 = .ok (.ireturn, 1) := by decide +kernel
theorem dX8_counted_15 : decode cX8_counted 15 = .ok (.aload_n 0, 1) := by decide +kernel
theorem dX8_counted_16 : decode cX8_counted 16 = .ok (.iload_n 1, 1) := by decide +kernel
theorem dX8_counted_17 : decode cX8_counted 17 = .ok (.iload_n 2, 1) := by decide +kernel
theorem dX8_counted_18 : decode cX8_counted 18 = .ok (.invokevirtual 271, 3) := by decide +kernel
theorem dX8_counted_21 : decode cX8_counted 21 = .ok (.ifCond .ne 5, 3) := by decide +kernel
theorem dX8_counted_24 : decode cX8_counted 24 = .ok (.iconst (-1), 1) := by decide +kernel
theorem dX8_counted_25 : decode cX8_counted 25 = .ok (.ireturn, 1) := by decide +kernel
theorem dX8_counted_26 : decode cX8_counted 26 = .ok (.aload_n 0, 1) := by decide +kernel
theorem dX8_counted_27 : decode cX8_counted 27 = .ok (.iload_n 3, 1) := by decide +kernel
theorem dX8_counted_28 : decode cX8_counted 28 = .ok (.invokevirtual 262, 3) := by decide +kernel
theorem dX8_counted_31 : decode cX8_counted 31 = .ok (.ifCond .eq 13, 3) := by decide +kernel
theorem dX8_counted_34 : decode cX8_counted 34 = .ok (.aload_n 0, 1) := by decide +kernel
theorem dX8_counted_35 : decode cX8_counted 35 = .ok (.iload_n 1, 1) := by decide +kernel
theorem dX8_counted_36 : decode cX8_counted 36 = .ok (.iload_n 2, 1) := by decide +kernel
theorem dX8_counted_37 : decode cX8_counted 37 = .ok (.iload_n 3, 1) := by decide +kernel
theorem dX8_counted_38 : decode cX8_counted 38 = .ok (.invokevirtual 67, 3) := by decide +kernel
theorem dX8_counted_41 : decode cX8_counted 41 = .ok (.goto 5, 3) := by decide +kernel
theorem dX8_counted_44 : decode cX8_counted 44 = .ok (.bipush (-2), 2) := by decide +kernel
theorem dX8_counted_46 : decode cX8_counted 46 = .ok (.ireturn, 1) := by decide +kernel
theorem dX8_countedAt_0 : decode cX8_countedAt 0 = .ok (.aload_n 0, 1) := by decide +kernel
theorem dX8_countedAt_1 : decode cX8_countedAt 1 = .ok (.aload_n 0, 1) := by decide +kernel
theorem dX8_countedAt_2 : decode cX8_countedAt 2 = .ok (.iconst 3, 1) := by decide +kernel
theorem dX8_countedAt_3 : decode cX8_countedAt 3 = .ok (.iload_n 1, 1) := by decide +kernel
theorem dX8_countedAt_4 : decode cX8_countedAt 4 = .ok (.invokevirtual 255, 3) := by decide +kernel
theorem dX8_countedAt_7 : decode cX8_countedAt 7 = .ok (.invokevirtual 258, 3) := by decide +kernel
theorem dX8_countedAt_10 : decode cX8_countedAt 10 = .ok (.ifCond .ne 5, 3) := by decide +kernel
theorem dX8_countedAt_13 : decode cX8_countedAt 13 = .ok (.iconst 0, 1) := by decide +kernel
theorem dX8_countedAt_14 : decode cX8_countedAt 14 = .ok (.ireturn, 1) := by decide +kernel
theorem dX8_countedAt_15 : decode cX8_countedAt 15 = .ok (.aload_n 0, 1) := by decide +kernel
theorem dX8_countedAt_16 : decode cX8_countedAt 16 = .ok (.iload_n 1, 1) := by decide +kernel
theorem dX8_countedAt_17 : decode cX8_countedAt 17 = .ok (.iload_n 2, 1) := by decide +kernel
theorem dX8_countedAt_18 : decode cX8_countedAt 18 = .ok (.invokevirtual 271, 3) := by decide +kernel
theorem dX8_countedAt_21 : decode cX8_countedAt 21 = .ok (.ifCond .eq 15, 3) := by decide +kernel
theorem dX8_countedAt_24 : decode cX8_countedAt 24 = .ok (.aload_n 0, 1) := by decide +kernel
theorem dX8_countedAt_25 : decode cX8_countedAt 25 = .ok (.iload_n 1, 1) := by decide +kernel
theorem dX8_countedAt_26 : decode cX8_countedAt 26 = .ok (.bipush 16, 2) := by decide +kernel
theorem dX8_countedAt_28 : decode cX8_countedAt 28 = .ok (.iload_n 2, 1) := by decide +kernel
theorem dX8_countedAt_29 : decode cX8_countedAt 29 = .ok (.iadd, 1) := by decide +kernel
theorem dX8_countedAt_30 : decode cX8_countedAt 30 = .ok (.invokevirtual 48, 3) := by decide +kernel
theorem dX8_countedAt_33 : decode cX8_countedAt 33 = .ok (.goto 4, 3) := by decide +kernel
theorem dX8_countedAt_36 : decode cX8_countedAt 36 = .ok (.iconst (-1), 1) := by decide +kernel
theorem dX8_countedAt_37 : decode cX8_countedAt 37 = .ok (.ireturn, 1) := by decide +kernel
theorem dX8_wouldCount_0 : decode cX8_wouldCount 0 = .ok (.aload_n 0, 1) := by decide +kernel
theorem dX8_wouldCount_1 : decode cX8_wouldCount 1 = .ok (.aload_n 0, 1) := by decide +kernel
theorem dX8_wouldCount_2 : decode cX8_wouldCount 2 = .ok (.iconst 4, 1) := by decide +kernel
theorem dX8_wouldCount_3 : decode cX8_wouldCount 3 = .ok (.iload_n 1, 1) := by decide +kernel
theorem dX8_wouldCount_4 : decode cX8_wouldCount 4 = .ok (.invokevirtual 255, 3) := by decide +kernel
theorem dX8_wouldCount_7 : decode cX8_wouldCount 7 = .ok (.ifCond .eq 16, 3) := by decide +kernel
theorem dX8_wouldCount_10 : decode cX8_wouldCount 10 = .ok (.aload_n 0, 1) := by decide +kernel
theorem dX8_wouldCount_11 : decode cX8_wouldCount 11 = .ok (.iconst 3, 1) := by decide +kernel
theorem dX8_wouldCount_12 : decode cX8_wouldCount 12 = .ok (.iload_n 2, 1) := by decide +kernel
theorem dX8_wouldCount_13 : decode cX8_wouldCount 13 = .ok (.invokevirtual 255, 3) := by decide +kernel
theorem dX8_wouldCount_16 : decode cX8_wouldCount 16 = .ok (.ifCond .eq 7, 3) := by decide +kernel
theorem dX8_wouldCount_19 : decode cX8_wouldCount 19 = .ok (.iconst 1, 1) := by decide +kernel
theorem dX8_wouldCount_20 : decode cX8_wouldCount 20 = .ok (.goto 4, 3) := by decide +kernel
theorem dX8_wouldCount_23 : decode cX8_wouldCount 23 = .ok (.iconst 0, 1) := by decide +kernel
theorem dX8_wouldCount_24 : decode cX8_wouldCount 24 = .ok (.invokevirtual 258, 3) := by decide +kernel
theorem dX8_wouldCount_27 : decode cX8_wouldCount 27 = .ok (.ifCond .ne 5, 3) := by decide +kernel
theorem dX8_wouldCount_30 : decode cX8_wouldCount 30 = .ok (.iconst 0, 1) := by decide +kernel
theorem dX8_wouldCount_31 : decode cX8_wouldCount 31 = .ok (.ireturn, 1) := by decide +kernel
theorem dX8_wouldCount_32 : decode cX8_wouldCount 32 = .ok (.aload_n 0, 1) := by decide +kernel
theorem dX8_wouldCount_33 : decode cX8_wouldCount 33 = .ok (.iload_n 3, 1) := by decide +kernel
theorem dX8_wouldCount_34 : decode cX8_wouldCount 34 = .ok (.invokevirtual 262, 3) := by decide +kernel
theorem dX8_wouldCount_37 : decode cX8_wouldCount 37 = .ok (.ifCond .eq 13, 3) := by decide +kernel
theorem dX8_wouldCount_40 : decode cX8_wouldCount 40 = .ok (.aload_n 0, 1) := by decide +kernel
theorem dX8_wouldCount_41 : decode cX8_wouldCount 41 = .ok (.iload_n 1, 1) := by decide +kernel
theorem dX8_wouldCount_42 : decode cX8_wouldCount 42 = .ok (.iload_n 2, 1) := by decide +kernel
theorem dX8_wouldCount_43 : decode cX8_wouldCount 43 = .ok (.iload_n 3, 1) := by decide +kernel
theorem dX8_wouldCount_44 : decode cX8_wouldCount 44 = .ok (.invokevirtual 274, 3) := by decide +kernel
theorem dX8_wouldCount_47 : decode cX8_wouldCount 47 = .ok (.goto 5, 3) := by decide +kernel
theorem dX8_wouldCount_50 : decode cX8_wouldCount 50 = .ok (.bipush (-2), 2) := by decide +kernel
theorem dX8_wouldCount_52 : decode cX8_wouldCount 52 = .ok (.ireturn, 1) := by decide +kernel
theorem dX8_isConfirmed_0 : decode cX8_isConfirmed 0 = .ok (.aload_n 0, 1) := by decide +kernel
theorem dX8_isConfirmed_1 : decode cX8_isConfirmed 1 = .ok (.aload_n 0, 1) := by decide +kernel
theorem dX8_isConfirmed_2 : decode cX8_isConfirmed 2 = .ok (.iconst 3, 1) := by decide +kernel
theorem dX8_isConfirmed_3 : decode cX8_isConfirmed 3 = .ok (.iload_n 1, 1) := by decide +kernel
theorem dX8_isConfirmed_4 : decode cX8_isConfirmed 4 = .ok (.invokevirtual 255, 3) := by decide +kernel
theorem dX8_isConfirmed_7 : decode cX8_isConfirmed 7 = .ok (.invokevirtual 258, 3) := by decide +kernel
theorem dX8_isConfirmed_10 : decode cX8_isConfirmed 10 = .ok (.ifCond .eq 16, 3) := by decide +kernel
theorem dX8_isConfirmed_13 : decode cX8_isConfirmed 13 = .ok (.aload_n 0, 1) := by decide +kernel
theorem dX8_isConfirmed_14 : decode cX8_isConfirmed 14 = .ok (.iload_n 1, 1) := by decide +kernel
theorem dX8_isConfirmed_15 : decode cX8_isConfirmed 15 = .ok (.invokevirtual 77, 3) := by decide +kernel
theorem dX8_isConfirmed_18 : decode cX8_isConfirmed 18 = .ok (.iconst (-1), 1) := by decide +kernel
theorem dX8_isConfirmed_19 : decode cX8_isConfirmed 19 = .ok (.if_icmp .eq 7, 3) := by decide +kernel
theorem dX8_isConfirmed_22 : decode cX8_isConfirmed 22 = .ok (.iconst 1, 1) := by decide +kernel
theorem dX8_isConfirmed_23 : decode cX8_isConfirmed 23 = .ok (.goto 4, 3) := by decide +kernel
theorem dX8_isConfirmed_26 : decode cX8_isConfirmed 26 = .ok (.iconst 0, 1) := by decide +kernel
theorem dX8_isConfirmed_27 : decode cX8_isConfirmed 27 = .ok (.ireturn, 1) := by decide +kernel
theorem dX8_result_0 : decode cX8_result 0 = .ok (.aload_n 0, 1) := by decide +kernel
theorem dX8_result_1 : decode cX8_result 1 = .ok (.aload_n 0, 1) := by decide +kernel
theorem dX8_result_2 : decode cX8_result 2 = .ok (.iconst 3, 1) := by decide +kernel
theorem dX8_result_3 : decode cX8_result 3 = .ok (.iload_n 1, 1) := by decide +kernel
theorem dX8_result_4 : decode cX8_result 4 = .ok (.invokevirtual 255, 3) := by decide +kernel
theorem dX8_result_7 : decode cX8_result 7 = .ok (.invokevirtual 258, 3) := by decide +kernel
theorem dX8_result_10 : decode cX8_result 10 = .ok (.ifCond .ne 5, 3) := by decide +kernel
theorem dX8_result_13 : decode cX8_result 13 = .ok (.iconst 0, 1) := by decide +kernel
theorem dX8_result_14 : decode cX8_result 14 = .ok (.ireturn, 1) := by decide +kernel
theorem dX8_result_15 : decode cX8_result 15 = .ok (.aload_n 0, 1) := by decide +kernel
theorem dX8_result_16 : decode cX8_result 16 = .ok (.iload_n 1, 1) := by decide +kernel
theorem dX8_result_17 : decode cX8_result 17 = .ok (.invokevirtual 74, 3) := by decide +kernel
theorem dX8_result_20 : decode cX8_result 20 = .ok (.ifCond .ne 5, 3) := by decide +kernel
theorem dX8_result_23 : decode cX8_result 23 = .ok (.iconst (-1), 1) := by decide +kernel
theorem dX8_result_24 : decode cX8_result 24 = .ok (.ireturn, 1) := by decide +kernel
theorem dX8_result_25 : decode cX8_result 25 = .ok (.aload_n 0, 1) := by decide +kernel
theorem dX8_result_26 : decode cX8_result 26 = .ok (.iload_n 2, 1) := by decide +kernel
theorem dX8_result_27 : decode cX8_result 27 = .ok (.invokevirtual 262, 3) := by decide +kernel
theorem dX8_result_30 : decode cX8_result 30 = .ok (.ifCond .eq 12, 3) := by decide +kernel
theorem dX8_result_33 : decode cX8_result 33 = .ok (.aload_n 0, 1) := by decide +kernel
theorem dX8_result_34 : decode cX8_result 34 = .ok (.iload_n 1, 1) := by decide +kernel
theorem dX8_result_35 : decode cX8_result 35 = .ok (.iload_n 2, 1) := by decide +kernel
theorem dX8_result_36 : decode cX8_result 36 = .ok (.invokevirtual 80, 3) := by decide +kernel
theorem dX8_result_39 : decode cX8_result 39 = .ok (.goto 5, 3) := by decide +kernel
theorem dX8_result_42 : decode cX8_result 42 = .ok (.bipush (-2), 2) := by decide +kernel
theorem dX8_result_44 : decode cX8_result 44 = .ok (.ireturn, 1) := by decide +kernel
theorem dX8_surplus_0 : decode cX8_surplus 0 = .ok (.aload_n 0, 1) := by decide +kernel
theorem dX8_surplus_1 : decode cX8_surplus 1 = .ok (.aload_n 0, 1) := by decide +kernel
theorem dX8_surplus_2 : decode cX8_surplus 2 = .ok (.iconst 3, 1) := by decide +kernel
theorem dX8_surplus_3 : decode cX8_surplus 3 = .ok (.iload_n 1, 1) := by decide +kernel
theorem dX8_surplus_4 : decode cX8_surplus 4 = .ok (.invokevirtual 255, 3) := by decide +kernel
theorem dX8_surplus_7 : decode cX8_surplus 7 = .ok (.invokevirtual 258, 3) := by decide +kernel
theorem dX8_surplus_10 : decode cX8_surplus 10 = .ok (.ifCond .eq 11, 3) := by decide +kernel
theorem dX8_surplus_13 : decode cX8_surplus 13 = .ok (.aload_n 0, 1) := by decide +kernel
theorem dX8_surplus_14 : decode cX8_surplus 14 = .ok (.iload_n 1, 1) := by decide +kernel
theorem dX8_surplus_15 : decode cX8_surplus 15 = .ok (.invokevirtual 83, 3) := by decide +kernel
theorem dX8_surplus_18 : decode cX8_surplus 18 = .ok (.goto 4, 3) := by decide +kernel
theorem dX8_surplus_21 : decode cX8_surplus 21 = .ok (.iconst 0, 1) := by decide +kernel
theorem dX8_surplus_22 : decode cX8_surplus 22 = .ok (.ireturn, 1) := by decide +kernel
theorem dX8_isOff_0 : decode cX8_isOff 0 = .ok (.aload_n 0, 1) := by decide +kernel
theorem dX8_isOff_1 : decode cX8_isOff 1 = .ok (.aload_n 0, 1) := by decide +kernel
theorem dX8_isOff_2 : decode cX8_isOff 2 = .ok (.iconst 3, 1) := by decide +kernel
theorem dX8_isOff_3 : decode cX8_isOff 3 = .ok (.iload_n 1, 1) := by decide +kernel
theorem dX8_isOff_4 : decode cX8_isOff 4 = .ok (.invokevirtual 255, 3) := by decide +kernel
theorem dX8_isOff_7 : decode cX8_isOff 7 = .ok (.invokevirtual 258, 3) := by decide +kernel
theorem dX8_isOff_10 : decode cX8_isOff 10 = .ok (.ifCond .eq 15, 3) := by decide +kernel
theorem dX8_isOff_13 : decode cX8_isOff 13 = .ok (.aload_n 0, 1) := by decide +kernel
theorem dX8_isOff_14 : decode cX8_isOff 14 = .ok (.iload_n 1, 1) := by decide +kernel
theorem dX8_isOff_15 : decode cX8_isOff 15 = .ok (.invokevirtual 106, 3) := by decide +kernel
theorem dX8_isOff_18 : decode cX8_isOff 18 = .ok (.ifCond .eq 7, 3) := by decide +kernel
theorem dX8_isOff_21 : decode cX8_isOff 21 = .ok (.iconst 1, 1) := by decide +kernel
theorem dX8_isOff_22 : decode cX8_isOff 22 = .ok (.goto 4, 3) := by decide +kernel
theorem dX8_isOff_25 : decode cX8_isOff 25 = .ok (.iconst 0, 1) := by decide +kernel
theorem dX8_isOff_26 : decode cX8_isOff 26 = .ok (.ireturn, 1) := by decide +kernel
theorem dX8_wardVotes_0 : decode cX8_wardVotes 0 = .ok (.aload_n 0, 1) := by decide +kernel
theorem dX8_wardVotes_1 : decode cX8_wardVotes 1 = .ok (.aload_n 0, 1) := by decide +kernel
theorem dX8_wardVotes_2 : decode cX8_wardVotes 2 = .ok (.iconst 2, 1) := by decide +kernel
theorem dX8_wardVotes_3 : decode cX8_wardVotes 3 = .ok (.iload_n 1, 1) := by decide +kernel
theorem dX8_wardVotes_4 : decode cX8_wardVotes 4 = .ok (.invokevirtual 255, 3) := by decide +kernel
theorem dX8_wardVotes_7 : decode cX8_wardVotes 7 = .ok (.invokevirtual 258, 3) := by decide +kernel
theorem dX8_wardVotes_10 : decode cX8_wardVotes 10 = .ok (.ifCond .ne 5, 3) := by decide +kernel
theorem dX8_wardVotes_13 : decode cX8_wardVotes 13 = .ok (.iconst 0, 1) := by decide +kernel
theorem dX8_wardVotes_14 : decode cX8_wardVotes 14 = .ok (.ireturn, 1) := by decide +kernel
theorem dX8_wardVotes_15 : decode cX8_wardVotes 15 = .ok (.aload_n 0, 1) := by decide +kernel
theorem dX8_wardVotes_16 : decode cX8_wardVotes 16 = .ok (.iload_n 2, 1) := by decide +kernel
theorem dX8_wardVotes_17 : decode cX8_wardVotes 17 = .ok (.invokevirtual 262, 3) := by decide +kernel
theorem dX8_wardVotes_20 : decode cX8_wardVotes 20 = .ok (.ifCond .eq 12, 3) := by decide +kernel
theorem dX8_wardVotes_23 : decode cX8_wardVotes 23 = .ok (.aload_n 0, 1) := by decide +kernel
theorem dX8_wardVotes_24 : decode cX8_wardVotes 24 = .ok (.iload_n 1, 1) := by decide +kernel
theorem dX8_wardVotes_25 : decode cX8_wardVotes 25 = .ok (.iload_n 2, 1) := by decide +kernel
theorem dX8_wardVotes_26 : decode cX8_wardVotes 26 = .ok (.invokevirtual 91, 3) := by decide +kernel
theorem dX8_wardVotes_29 : decode cX8_wardVotes 29 = .ok (.goto 5, 3) := by decide +kernel
theorem dX8_wardVotes_32 : decode cX8_wardVotes 32 = .ok (.bipush (-2), 2) := by decide +kernel
theorem dX8_wardVotes_34 : decode cX8_wardVotes 34 = .ok (.ireturn, 1) := by decide +kernel
theorem dX8_leader_0 : decode cX8_leader 0 = .ok (.aload_n 0, 1) := by decide +kernel
theorem dX8_leader_1 : decode cX8_leader 1 = .ok (.aload_n 0, 1) := by decide +kernel
theorem dX8_leader_2 : decode cX8_leader 2 = .ok (.iconst 2, 1) := by decide +kernel
theorem dX8_leader_3 : decode cX8_leader 3 = .ok (.iload_n 1, 1) := by decide +kernel
theorem dX8_leader_4 : decode cX8_leader 4 = .ok (.invokevirtual 255, 3) := by decide +kernel
theorem dX8_leader_7 : decode cX8_leader 7 = .ok (.invokevirtual 258, 3) := by decide +kernel
theorem dX8_leader_10 : decode cX8_leader 10 = .ok (.ifCond .eq 11, 3) := by decide +kernel
theorem dX8_leader_13 : decode cX8_leader 13 = .ok (.aload_n 0, 1) := by decide +kernel
theorem dX8_leader_14 : decode cX8_leader 14 = .ok (.iload_n 1, 1) := by decide +kernel
theorem dX8_leader_15 : decode cX8_leader 15 = .ok (.invokevirtual 97, 3) := by decide +kernel
theorem dX8_leader_18 : decode cX8_leader 18 = .ok (.goto 4, 3) := by decide +kernel
theorem dX8_leader_21 : decode cX8_leader 21 = .ok (.iconst 0, 1) := by decide +kernel
theorem dX8_leader_22 : decode cX8_leader 22 = .ok (.ireturn, 1) := by decide +kernel
theorem dX8_margin_0 : decode cX8_margin 0 = .ok (.aload_n 0, 1) := by decide +kernel
theorem dX8_margin_1 : decode cX8_margin 1 = .ok (.aload_n 0, 1) := by decide +kernel
theorem dX8_margin_2 : decode cX8_margin 2 = .ok (.iconst 2, 1) := by decide +kernel
theorem dX8_margin_3 : decode cX8_margin 3 = .ok (.iload_n 1, 1) := by decide +kernel
theorem dX8_margin_4 : decode cX8_margin 4 = .ok (.invokevirtual 255, 3) := by decide +kernel
theorem dX8_margin_7 : decode cX8_margin 7 = .ok (.invokevirtual 258, 3) := by decide +kernel
theorem dX8_margin_10 : decode cX8_margin 10 = .ok (.ifCond .eq 11, 3) := by decide +kernel
theorem dX8_margin_13 : decode cX8_margin 13 = .ok (.aload_n 0, 1) := by decide +kernel
theorem dX8_margin_14 : decode cX8_margin 14 = .ok (.iload_n 1, 1) := by decide +kernel
theorem dX8_margin_15 : decode cX8_margin 15 = .ok (.invokevirtual 103, 3) := by decide +kernel
theorem dX8_margin_18 : decode cX8_margin 18 = .ok (.goto 4, 3) := by decide +kernel
theorem dX8_margin_21 : decode cX8_margin 21 = .ok (.iconst 0, 1) := by decide +kernel
theorem dX8_margin_22 : decode cX8_margin 22 = .ok (.ireturn, 1) := by decide +kernel
theorem dX8_isClose_0 : decode cX8_isClose 0 = .ok (.aload_n 0, 1) := by decide +kernel
theorem dX8_isClose_1 : decode cX8_isClose 1 = .ok (.aload_n 0, 1) := by decide +kernel
theorem dX8_isClose_2 : decode cX8_isClose 2 = .ok (.iconst 2, 1) := by decide +kernel
theorem dX8_isClose_3 : decode cX8_isClose 3 = .ok (.iload_n 1, 1) := by decide +kernel
theorem dX8_isClose_4 : decode cX8_isClose 4 = .ok (.invokevirtual 255, 3) := by decide +kernel
theorem dX8_isClose_7 : decode cX8_isClose 7 = .ok (.invokevirtual 258, 3) := by decide +kernel
theorem dX8_isClose_10 : decode cX8_isClose 10 = .ok (.ifCond .eq 15, 3) := by decide +kernel
theorem dX8_isClose_13 : decode cX8_isClose 13 = .ok (.aload_n 0, 1) := by decide +kernel
theorem dX8_isClose_14 : decode cX8_isClose 14 = .ok (.iload_n 1, 1) := by decide +kernel
theorem dX8_isClose_15 : decode cX8_isClose 15 = .ok (.invokevirtual 119, 3) := by decide +kernel
theorem dX8_isClose_18 : decode cX8_isClose 18 = .ok (.ifCond .eq 7, 3) := by decide +kernel
theorem dX8_isClose_21 : decode cX8_isClose 21 = .ok (.iconst 1, 1) := by decide +kernel
theorem dX8_isClose_22 : decode cX8_isClose 22 = .ok (.goto 4, 3) := by decide +kernel
theorem dX8_isClose_25 : decode cX8_isClose 25 = .ok (.iconst 0, 1) := by decide +kernel
theorem dX8_isClose_26 : decode cX8_isClose 26 = .ok (.ireturn, 1) := by decide +kernel
theorem dX8_whyNot_0 : decode cX8_whyNot 0 = .ok (.aload_n 0, 1) := by decide +kernel
theorem dX8_whyNot_1 : decode cX8_whyNot 1 = .ok (.aload_n 0, 1) := by decide +kernel
theorem dX8_whyNot_2 : decode cX8_whyNot 2 = .ok (.iconst 2, 1) := by decide +kernel
theorem dX8_whyNot_3 : decode cX8_whyNot 3 = .ok (.iload_n 1, 1) := by decide +kernel
theorem dX8_whyNot_4 : decode cX8_whyNot 4 = .ok (.invokevirtual 255, 3) := by decide +kernel
theorem dX8_whyNot_7 : decode cX8_whyNot 7 = .ok (.invokevirtual 258, 3) := by decide +kernel
theorem dX8_whyNot_10 : decode cX8_whyNot 10 = .ok (.ifCond .eq 11, 3) := by decide +kernel
theorem dX8_whyNot_13 : decode cX8_whyNot 13 = .ok (.aload_n 0, 1) := by decide +kernel
theorem dX8_whyNot_14 : decode cX8_whyNot 14 = .ok (.iload_n 1, 1) := by decide +kernel
theorem dX8_whyNot_15 : decode cX8_whyNot 15 = .ok (.invokevirtual 123, 3) := by decide +kernel
theorem dX8_whyNot_18 : decode cX8_whyNot 18 = .ok (.goto 4, 3) := by decide +kernel
theorem dX8_whyNot_21 : decode cX8_whyNot 21 = .ok (.iconst 0, 1) := by decide +kernel
theorem dX8_whyNot_22 : decode cX8_whyNot 22 = .ok (.ireturn, 1) := by decide +kernel
theorem dX8_toCount_0 : decode cX8_toCount 0 = .ok (.aload_n 0, 1) := by decide +kernel
theorem dX8_toCount_1 : decode cX8_toCount 1 = .ok (.iconst 0, 1) := by decide +kernel
theorem dX8_toCount_2 : decode cX8_toCount 2 = .ok (.putfield 38, 3) := by decide +kernel
theorem dX8_toCount_5 : decode cX8_toCount 5 = .ok (.aload_n 0, 1) := by decide +kernel
theorem dX8_toCount_6 : decode cX8_toCount 6 = .ok (.invokevirtual 277, 3) := by decide +kernel
theorem dX8_toCount_9 : decode cX8_toCount 9 = .ok (.ireturn, 1) := by decide +kernel
theorem dX8_wouldAgree_0 : decode cX8_wouldAgree 0 = .ok (.aload_n 0, 1) := by decide +kernel
theorem dX8_wouldAgree_1 : decode cX8_wouldAgree 1 = .ok (.iload_n 2, 1) := by decide +kernel
theorem dX8_wouldAgree_2 : decode cX8_wouldAgree 2 = .ok (.bipush 16, 2) := by decide +kernel
theorem dX8_wouldAgree_4 : decode cX8_wouldAgree 4 = .ok (.iload_n 3, 1) := by decide +kernel
theorem dX8_wouldAgree_5 : decode cX8_wouldAgree 5 = .ok (.iadd, 1) := by decide +kernel
theorem dX8_wouldAgree_6 : decode cX8_wouldAgree 6 = .ok (.invokevirtual 48, 3) := by decide +kernel
theorem dX8_wouldAgree_9 : decode cX8_wouldAgree 9 = .ok (.iload_n 1, 1) := by decide +kernel
theorem dX8_wouldAgree_10 : decode cX8_wouldAgree 10 = .ok (.if_icmp .ne 5, 3) := by decide +kernel
theorem dX8_wouldAgree_13 : decode cX8_wouldAgree 13 = .ok (.iconst 0, 1) := by decide +kernel
theorem dX8_wouldAgree_14 : decode cX8_wouldAgree 14 = .ok (.ireturn, 1) := by decide +kernel
theorem dX8_wouldAgree_15 : decode cX8_wouldAgree 15 = .ok (.iconst 0, 1) := by decide +kernel
theorem dX8_wouldAgree_16 : decode cX8_wouldAgree 16 = .ok (.istore 4, 2) := by decide +kernel
theorem dX8_wouldAgree_18 : decode cX8_wouldAgree 18 = .ok (.iload 4, 2) := by decide +kernel
theorem dX8_wouldAgree_20 : decode cX8_wouldAgree 20 = .ok (.aload_n 0, 1) := by decide +kernel
theorem dX8_wouldAgree_21 : decode cX8_wouldAgree 21 = .ok (.invokevirtual 59, 3) := by decide +kernel
theorem dX8_wouldAgree_24 : decode cX8_wouldAgree 24 = .ok (.if_icmp .ge 30, 3) := by decide +kernel
theorem dX8_wouldAgree_27 : decode cX8_wouldAgree 27 = .ok (.aload_n 0, 1) := by decide +kernel
theorem dX8_wouldAgree_28 : decode cX8_wouldAgree 28 = .ok (.iload_n 1, 1) := by decide +kernel
theorem dX8_wouldAgree_29 : decode cX8_wouldAgree 29 = .ok (.iload_n 2, 1) := by decide +kernel
theorem dX8_wouldAgree_30 : decode cX8_wouldAgree 30 = .ok (.iload 4, 2) := by decide +kernel
theorem dX8_wouldAgree_32 : decode cX8_wouldAgree 32 = .ok (.invokevirtual 274, 3) := by decide +kernel
theorem dX8_wouldAgree_35 : decode cX8_wouldAgree 35 = .ok (.aload_n 0, 1) := by decide +kernel
theorem dX8_wouldAgree_36 : decode cX8_wouldAgree 36 = .ok (.iload_n 2, 1) := by decide +kernel
theorem dX8_wouldAgree_37 : decode cX8_wouldAgree 37 = .ok (.iload_n 3, 1) := by decide +kernel
theorem dX8_wouldAgree_38 : decode cX8_wouldAgree 38 = .ok (.iload 4, 2) := by decide +kernel
theorem dX8_wouldAgree_40 : decode cX8_wouldAgree 40 = .ok (.invokevirtual 67, 3) := by decide +kernel
theorem dX8_wouldAgree_43 : decode cX8_wouldAgree 43 = .ok (.if_icmp .eq 5, 3) := by decide +kernel
theorem dX8_wouldAgree_46 : decode cX8_wouldAgree 46 = .ok (.iconst 0, 1) := by decide +kernel
theorem dX8_wouldAgree_47 : decode cX8_wouldAgree 47 = .ok (.ireturn, 1) := by decide +kernel
theorem dX8_wouldAgree_48 : decode cX8_wouldAgree 48 = .ok (.iinc 4 1, 3) := by decide +kernel
theorem dX8_wouldAgree_51 : decode cX8_wouldAgree 51 = .ok (.goto (-33), 3) := by decide +kernel
theorem dX8_wouldAgree_54 : decode cX8_wouldAgree 54 = .ok (.iconst 1, 1) := by decide +kernel
theorem dX8_wouldAgree_55 : decode cX8_wouldAgree 55 = .ok (.ireturn, 1) := by decide +kernel
theorem dX8_findAlike_0 : decode cX8_findAlike 0 = .ok (.iconst 0, 1) := by decide +kernel
theorem dX8_findAlike_1 : decode cX8_findAlike 1 = .ok (.istore 4, 2) := by decide +kernel
theorem dX8_findAlike_3 : decode cX8_findAlike 3 = .ok (.iload 4, 2) := by decide +kernel
theorem dX8_findAlike_5 : decode cX8_findAlike 5 = .ok (.aload_n 0, 1) := by decide +kernel
theorem dX8_findAlike_6 : decode cX8_findAlike 6 = .ok (.invokevirtual 59, 3) := by decide +kernel
theorem dX8_findAlike_9 : decode cX8_findAlike 9 = .ok (.if_icmp .ge 30, 3) := by decide +kernel
theorem dX8_findAlike_12 : decode cX8_findAlike 12 = .ok (.aload_n 0, 1) := by decide +kernel
theorem dX8_findAlike_13 : decode cX8_findAlike 13 = .ok (.iload_n 1, 1) := by decide +kernel
theorem dX8_findAlike_14 : decode cX8_findAlike 14 = .ok (.iload_n 3, 1) := by decide +kernel
theorem dX8_findAlike_15 : decode cX8_findAlike 15 = .ok (.iload 4, 2) := by decide +kernel
theorem dX8_findAlike_17 : decode cX8_findAlike 17 = .ok (.invokevirtual 274, 3) := by decide +kernel
theorem dX8_findAlike_20 : decode cX8_findAlike 20 = .ok (.aload_n 0, 1) := by decide +kernel
theorem dX8_findAlike_21 : decode cX8_findAlike 21 = .ok (.iload_n 2, 1) := by decide +kernel
theorem dX8_findAlike_22 : decode cX8_findAlike 22 = .ok (.iload_n 3, 1) := by decide +kernel
theorem dX8_findAlike_23 : decode cX8_findAlike 23 = .ok (.iload 4, 2) := by decide +kernel
theorem dX8_findAlike_25 : decode cX8_findAlike 25 = .ok (.invokevirtual 274, 3) := by decide +kernel
theorem dX8_findAlike_28 : decode cX8_findAlike 28 = .ok (.if_icmp .eq 5, 3) := by decide +kernel
theorem dX8_findAlike_31 : decode cX8_findAlike 31 = .ok (.iconst 0, 1) := by decide +kernel
theorem dX8_findAlike_32 : decode cX8_findAlike 32 = .ok (.ireturn, 1) := by decide +kernel
theorem dX8_findAlike_33 : decode cX8_findAlike 33 = .ok (.iinc 4 1, 3) := by decide +kernel
theorem dX8_findAlike_36 : decode cX8_findAlike 36 = .ok (.goto (-33), 3) := by decide +kernel
theorem dX8_findAlike_39 : decode cX8_findAlike 39 = .ok (.iconst 1, 1) := by decide +kernel
theorem dX8_findAlike_40 : decode cX8_findAlike 40 = .ok (.ireturn, 1) := by decide +kernel
theorem dX8_isOneEnough_0 : decode cX8_isOneEnough 0 = .ok (.iconst 0, 1) := by decide +kernel
theorem dX8_isOneEnough_1 : decode cX8_isOneEnough 1 = .ok (.istore_n 2, 1) := by decide +kernel
theorem dX8_isOneEnough_2 : decode cX8_isOneEnough 2 = .ok (.iload_n 2, 1) := by decide +kernel
theorem dX8_isOneEnough_3 : decode cX8_isOneEnough 3 = .ok (.aload_n 0, 1) := by decide +kernel
theorem dX8_isOneEnough_4 : decode cX8_isOneEnough 4 = .ok (.iconst 4, 1) := by decide +kernel
theorem dX8_isOneEnough_5 : decode cX8_isOneEnough 5 = .ok (.invokevirtual 44, 3) := by decide +kernel
theorem dX8_isOneEnough_8 : decode cX8_isOneEnough 8 = .ok (.if_icmp .ge 39, 3) := by decide +kernel
theorem dX8_isOneEnough_11 : decode cX8_isOneEnough 11 = .ok (.iconst 0, 1) := by decide +kernel
theorem dX8_isOneEnough_12 : decode cX8_isOneEnough 12 = .ok (.istore_n 3, 1) := by decide +kernel
theorem dX8_isOneEnough_13 : decode cX8_isOneEnough 13 = .ok (.iload_n 3, 1) := by decide +kernel
theorem dX8_isOneEnough_14 : decode cX8_isOneEnough 14 = .ok (.aload_n 0, 1) := by decide +kernel
theorem dX8_isOneEnough_15 : decode cX8_isOneEnough 15 = .ok (.iload_n 1, 1) := by decide +kernel
theorem dX8_isOneEnough_16 : decode cX8_isOneEnough 16 = .ok (.iconst 3, 1) := by decide +kernel
theorem dX8_isOneEnough_17 : decode cX8_isOneEnough 17 = .ok (.invokevirtual 48, 3) := by decide +kernel
theorem dX8_isOneEnough_20 : decode cX8_isOneEnough 20 = .ok (.if_icmp .ge 21, 3) := by decide +kernel
theorem dX8_isOneEnough_23 : decode cX8_isOneEnough 23 = .ok (.aload_n 0, 1) := by decide +kernel
theorem dX8_isOneEnough_24 : decode cX8_isOneEnough 24 = .ok (.iload_n 2, 1) := by decide +kernel
theorem dX8_isOneEnough_25 : decode cX8_isOneEnough 25 = .ok (.iload_n 1, 1) := by decide +kernel
theorem dX8_isOneEnough_26 : decode cX8_isOneEnough 26 = .ok (.iload_n 3, 1) := by decide +kernel
theorem dX8_isOneEnough_27 : decode cX8_isOneEnough 27 = .ok (.invokevirtual 280, 3) := by decide +kernel
theorem dX8_isOneEnough_30 : decode cX8_isOneEnough 30 = .ok (.ifCond .eq 5, 3) := by decide +kernel
theorem dX8_isOneEnough_33 : decode cX8_isOneEnough 33 = .ok (.iconst 1, 1) := by decide +kernel
theorem dX8_isOneEnough_34 : decode cX8_isOneEnough 34 = .ok (.ireturn, 1) := by decide +kernel
theorem dX8_isOneEnough_35 : decode cX8_isOneEnough 35 = .ok (.iinc 3 1, 3) := by decide +kernel
theorem dX8_isOneEnough_38 : decode cX8_isOneEnough 38 = .ok (.goto (-25), 3) := by decide +kernel
theorem dX8_isOneEnough_41 : decode cX8_isOneEnough 41 = .ok (.iinc 2 1, 3) := by decide +kernel
theorem dX8_isOneEnough_44 : decode cX8_isOneEnough 44 = .ok (.goto (-42), 3) := by decide +kernel
theorem dX8_isOneEnough_47 : decode cX8_isOneEnough 47 = .ok (.iconst 0, 1) := by decide +kernel
theorem dX8_isOneEnough_48 : decode cX8_isOneEnough 48 = .ok (.ireturn, 1) := by decide +kernel
theorem dX8_areTwoEnough_0 : decode cX8_areTwoEnough 0 = .ok (.iconst 0, 1) := by decide +kernel
theorem dX8_areTwoEnough_1 : decode cX8_areTwoEnough 1 = .ok (.istore_n 2, 1) := by decide +kernel
theorem dX8_areTwoEnough_2 : decode cX8_areTwoEnough 2 = .ok (.iload_n 2, 1) := by decide +kernel
theorem dX8_areTwoEnough_3 : decode cX8_areTwoEnough 3 = .ok (.aload_n 0, 1) := by decide +kernel
theorem dX8_areTwoEnough_4 : decode cX8_areTwoEnough 4 = .ok (.iconst 4, 1) := by decide +kernel
theorem dX8_areTwoEnough_5 : decode cX8_areTwoEnough 5 = .ok (.invokevirtual 44, 3) := by decide +kernel
theorem dX8_areTwoEnough_8 : decode cX8_areTwoEnough 8 = .ok (.if_icmp .ge 34, 3) := by decide +kernel
theorem dX8_areTwoEnough_11 : decode cX8_areTwoEnough 11 = .ok (.iconst 0, 1) := by decide +kernel
theorem dX8_areTwoEnough_12 : decode cX8_areTwoEnough 12 = .ok (.istore_n 3, 1) := by decide +kernel
theorem dX8_areTwoEnough_13 : decode cX8_areTwoEnough 13 = .ok (.iload_n 3, 1) := by decide +kernel
theorem dX8_areTwoEnough_14 : decode cX8_areTwoEnough 14 = .ok (.iload_n 2, 1) := by decide +kernel
theorem dX8_areTwoEnough_15 : decode cX8_areTwoEnough 15 = .ok (.if_icmp .ge 21, 3) := by decide +kernel
theorem dX8_areTwoEnough_18 : decode cX8_areTwoEnough 18 = .ok (.aload_n 0, 1) := by decide +kernel
theorem dX8_areTwoEnough_19 : decode cX8_areTwoEnough 19 = .ok (.iload_n 2, 1) := by decide +kernel
theorem dX8_areTwoEnough_20 : decode cX8_areTwoEnough 20 = .ok (.iload_n 3, 1) := by decide +kernel
theorem dX8_areTwoEnough_21 : decode cX8_areTwoEnough 21 = .ok (.iload_n 1, 1) := by decide +kernel
theorem dX8_areTwoEnough_22 : decode cX8_areTwoEnough 22 = .ok (.invokevirtual 283, 3) := by decide +kernel
theorem dX8_areTwoEnough_25 : decode cX8_areTwoEnough 25 = .ok (.ifCond .eq 5, 3) := by decide +kernel
theorem dX8_areTwoEnough_28 : decode cX8_areTwoEnough 28 = .ok (.iconst 1, 1) := by decide +kernel
theorem dX8_areTwoEnough_29 : decode cX8_areTwoEnough 29 = .ok (.ireturn, 1) := by decide +kernel
theorem dX8_areTwoEnough_30 : decode cX8_areTwoEnough 30 = .ok (.iinc 3 1, 3) := by decide +kernel
theorem dX8_areTwoEnough_33 : decode cX8_areTwoEnough 33 = .ok (.goto (-20), 3) := by decide +kernel
theorem dX8_areTwoEnough_36 : decode cX8_areTwoEnough 36 = .ok (.iinc 2 1, 3) := by decide +kernel
theorem dX8_areTwoEnough_39 : decode cX8_areTwoEnough 39 = .ok (.goto (-37), 3) := by decide +kernel
theorem dX8_areTwoEnough_42 : decode cX8_areTwoEnough 42 = .ok (.iconst 0, 1) := by decide +kernel
theorem dX8_areTwoEnough_43 : decode cX8_areTwoEnough 43 = .ok (.ireturn, 1) := by decide +kernel
theorem dX8_countsLeft_0 : decode cX8_countsLeft 0 = .ok (.aload_n 0, 1) := by decide +kernel
theorem dX8_countsLeft_1 : decode cX8_countsLeft 1 = .ok (.aload_n 0, 1) := by decide +kernel
theorem dX8_countsLeft_2 : decode cX8_countsLeft 2 = .ok (.iconst 3, 1) := by decide +kernel
theorem dX8_countsLeft_3 : decode cX8_countsLeft 3 = .ok (.iload_n 1, 1) := by decide +kernel
theorem dX8_countsLeft_4 : decode cX8_countsLeft 4 = .ok (.invokevirtual 255, 3) := by decide +kernel
theorem dX8_countsLeft_7 : decode cX8_countsLeft 7 = .ok (.invokevirtual 258, 3) := by decide +kernel
theorem dX8_countsLeft_10 : decode cX8_countsLeft 10 = .ok (.ifCond .ne 5, 3) := by decide +kernel
theorem dX8_countsLeft_13 : decode cX8_countsLeft 13 = .ok (.iconst 0, 1) := by decide +kernel
theorem dX8_countsLeft_14 : decode cX8_countsLeft 14 = .ok (.ireturn, 1) := by decide +kernel
theorem dX8_countsLeft_15 : decode cX8_countsLeft 15 = .ok (.aload_n 0, 1) := by decide +kernel
theorem dX8_countsLeft_16 : decode cX8_countsLeft 16 = .ok (.iload_n 1, 1) := by decide +kernel
theorem dX8_countsLeft_17 : decode cX8_countsLeft 17 = .ok (.invokevirtual 77, 3) := by decide +kernel
theorem dX8_countsLeft_20 : decode cX8_countsLeft 20 = .ok (.iconst (-1), 1) := by decide +kernel
theorem dX8_countsLeft_21 : decode cX8_countsLeft 21 = .ok (.if_icmp .eq 5, 3) := by decide +kernel
theorem dX8_countsLeft_24 : decode cX8_countsLeft 24 = .ok (.iconst 0, 1) := by decide +kernel
theorem dX8_countsLeft_25 : decode cX8_countsLeft 25 = .ok (.ireturn, 1) := by decide +kernel
theorem dX8_countsLeft_26 : decode cX8_countsLeft 26 = .ok (.aload_n 0, 1) := by decide +kernel
theorem dX8_countsLeft_27 : decode cX8_countsLeft 27 = .ok (.iload_n 1, 1) := by decide +kernel
theorem dX8_countsLeft_28 : decode cX8_countsLeft 28 = .ok (.iconst 3, 1) := by decide +kernel
theorem dX8_countsLeft_29 : decode cX8_countsLeft 29 = .ok (.invokevirtual 48, 3) := by decide +kernel
theorem dX8_countsLeft_32 : decode cX8_countsLeft 32 = .ok (.istore_n 2, 1) := by decide +kernel
theorem dX8_countsLeft_33 : decode cX8_countsLeft 33 = .ok (.iload_n 2, 1) := by decide +kernel
theorem dX8_countsLeft_34 : decode cX8_countsLeft 34 = .ok (.iconst 4, 1) := by decide +kernel
theorem dX8_countsLeft_35 : decode cX8_countsLeft 35 = .ok (.if_icmp .ge 13, 3) := by decide +kernel
theorem dX8_countsLeft_38 : decode cX8_countsLeft 38 = .ok (.aload_n 0, 1) := by decide +kernel
theorem dX8_countsLeft_39 : decode cX8_countsLeft 39 = .ok (.iload_n 1, 1) := by decide +kernel
theorem dX8_countsLeft_40 : decode cX8_countsLeft 40 = .ok (.invokevirtual 286, 3) := by decide +kernel
theorem dX8_countsLeft_43 : decode cX8_countsLeft 43 = .ok (.ifCond .eq 5, 3) := by decide +kernel
theorem dX8_countsLeft_46 : decode cX8_countsLeft 46 = .ok (.iconst 1, 1) := by decide +kernel
theorem dX8_countsLeft_47 : decode cX8_countsLeft 47 = .ok (.ireturn, 1) := by decide +kernel
theorem dX8_countsLeft_48 : decode cX8_countsLeft 48 = .ok (.iload_n 2, 1) := by decide +kernel
theorem dX8_countsLeft_49 : decode cX8_countsLeft 49 = .ok (.iconst 2, 1) := by decide +kernel
theorem dX8_countsLeft_50 : decode cX8_countsLeft 50 = .ok (.iadd, 1) := by decide +kernel
theorem dX8_countsLeft_51 : decode cX8_countsLeft 51 = .ok (.iconst 4, 1) := by decide +kernel
theorem dX8_countsLeft_52 : decode cX8_countsLeft 52 = .ok (.if_icmp .gt 15, 3) := by decide +kernel
theorem dX8_countsLeft_55 : decode cX8_countsLeft 55 = .ok (.aload_n 0, 1) := by decide +kernel
theorem dX8_countsLeft_56 : decode cX8_countsLeft 56 = .ok (.iload_n 1, 1) := by decide +kernel
theorem dX8_countsLeft_57 : decode cX8_countsLeft 57 = .ok (.invokevirtual 289, 3) := by decide +kernel
theorem dX8_countsLeft_60 : decode cX8_countsLeft 60 = .ok (.ifCond .eq 7, 3) := by decide +kernel
theorem dX8_countsLeft_63 : decode cX8_countsLeft 63 = .ok (.iconst 2, 1) := by decide +kernel
theorem dX8_countsLeft_64 : decode cX8_countsLeft 64 = .ok (.goto 4, 3) := by decide +kernel
theorem dX8_countsLeft_67 : decode cX8_countsLeft 67 = .ok (.iconst (-1), 1) := by decide +kernel
theorem dX8_countsLeft_68 : decode cX8_countsLeft 68 = .ok (.ireturn, 1) := by decide +kernel
theorem dX8_rightTable_0 : decode cX8_rightTable 0 = .ok (.aload_n 0, 1) := by decide +kernel
theorem dX8_rightTable_1 : decode cX8_rightTable 1 = .ok (.aload_n 0, 1) := by decide +kernel
theorem dX8_rightTable_2 : decode cX8_rightTable 2 = .ok (.iconst 3, 1) := by decide +kernel
theorem dX8_rightTable_3 : decode cX8_rightTable 3 = .ok (.iload_n 1, 1) := by decide +kernel
theorem dX8_rightTable_4 : decode cX8_rightTable 4 = .ok (.invokevirtual 255, 3) := by decide +kernel
theorem dX8_rightTable_7 : decode cX8_rightTable 7 = .ok (.invokevirtual 258, 3) := by decide +kernel
theorem dX8_rightTable_10 : decode cX8_rightTable 10 = .ok (.ifCond .ne 5, 3) := by decide +kernel
theorem dX8_rightTable_13 : decode cX8_rightTable 13 = .ok (.iconst 0, 1) := by decide +kernel
theorem dX8_rightTable_14 : decode cX8_rightTable 14 = .ok (.ireturn, 1) := by decide +kernel
theorem dX8_rightTable_15 : decode cX8_rightTable 15 = .ok (.iconst 0, 1) := by decide +kernel
theorem dX8_rightTable_16 : decode cX8_rightTable 16 = .ok (.istore_n 2, 1) := by decide +kernel
theorem dX8_rightTable_17 : decode cX8_rightTable 17 = .ok (.iload_n 2, 1) := by decide +kernel
theorem dX8_rightTable_18 : decode cX8_rightTable 18 = .ok (.aload_n 0, 1) := by decide +kernel
theorem dX8_rightTable_19 : decode cX8_rightTable 19 = .ok (.iconst 4, 1) := by decide +kernel
theorem dX8_rightTable_20 : decode cX8_rightTable 20 = .ok (.invokevirtual 44, 3) := by decide +kernel
theorem dX8_rightTable_23 : decode cX8_rightTable 23 = .ok (.if_icmp .ge 63, 3) := by decide +kernel
theorem dX8_rightTable_26 : decode cX8_rightTable 26 = .ok (.iconst 1, 1) := by decide +kernel
theorem dX8_rightTable_27 : decode cX8_rightTable 27 = .ok (.istore_n 3, 1) := by decide +kernel
theorem dX8_rightTable_28 : decode cX8_rightTable 28 = .ok (.iconst 0, 1) := by decide +kernel
theorem dX8_rightTable_29 : decode cX8_rightTable 29 = .ok (.istore 4, 2) := by decide +kernel
theorem dX8_rightTable_31 : decode cX8_rightTable 31 = .ok (.iload 4, 2) := by decide +kernel
theorem dX8_rightTable_33 : decode cX8_rightTable 33 = .ok (.aload_n 0, 1) := by decide +kernel
theorem dX8_rightTable_34 : decode cX8_rightTable 34 = .ok (.invokevirtual 59, 3) := by decide +kernel
theorem dX8_rightTable_37 : decode cX8_rightTable 37 = .ok (.if_icmp .ge 37, 3) := by decide +kernel
theorem dX8_rightTable_40 : decode cX8_rightTable 40 = .ok (.iload_n 3, 1) := by decide +kernel
theorem dX8_rightTable_41 : decode cX8_rightTable 41 = .ok (.ifCond .eq 25, 3) := by decide +kernel
theorem dX8_rightTable_44 : decode cX8_rightTable 44 = .ok (.aload_n 0, 1) := by decide +kernel
theorem dX8_rightTable_45 : decode cX8_rightTable 45 = .ok (.iload_n 2, 1) := by decide +kernel
theorem dX8_rightTable_46 : decode cX8_rightTable 46 = .ok (.iload_n 1, 1) := by decide +kernel
theorem dX8_rightTable_47 : decode cX8_rightTable 47 = .ok (.iload 4, 2) := by decide +kernel
theorem dX8_rightTable_49 : decode cX8_rightTable 49 = .ok (.invokevirtual 274, 3) := by decide +kernel
theorem dX8_rightTable_52 : decode cX8_rightTable 52 = .ok (.aload_n 0, 1) := by decide +kernel
theorem dX8_rightTable_53 : decode cX8_rightTable 53 = .ok (.iload_n 1, 1) := by decide +kernel
theorem dX8_rightTable_54 : decode cX8_rightTable 54 = .ok (.iload 4, 2) := by decide +kernel
theorem dX8_rightTable_56 : decode cX8_rightTable 56 = .ok (.invokevirtual 56, 3) := by decide +kernel
theorem dX8_rightTable_59 : decode cX8_rightTable 59 = .ok (.if_icmp .ne 7, 3) := by decide +kernel
theorem dX8_rightTable_62 : decode cX8_rightTable 62 = .ok (.iconst 1, 1) := by decide +kernel
theorem dX8_rightTable_63 : decode cX8_rightTable 63 = .ok (.goto 4, 3) := by decide +kernel
theorem dX8_rightTable_66 : decode cX8_rightTable 66 = .ok (.iconst 0, 1) := by decide +kernel
theorem dX8_rightTable_67 : decode cX8_rightTable 67 = .ok (.istore_n 3, 1) := by decide +kernel
theorem dX8_rightTable_68 : decode cX8_rightTable 68 = .ok (.iinc 4 1, 3) := by decide +kernel
theorem dX8_rightTable_71 : decode cX8_rightTable 71 = .ok (.goto (-40), 3) := by decide +kernel
theorem dX8_rightTable_74 : decode cX8_rightTable 74 = .ok (.iload_n 3, 1) := by decide +kernel
theorem dX8_rightTable_75 : decode cX8_rightTable 75 = .ok (.ifCond .eq 5, 3) := by decide +kernel
theorem dX8_rightTable_78 : decode cX8_rightTable 78 = .ok (.iload_n 2, 1) := by decide +kernel
theorem dX8_rightTable_79 : decode cX8_rightTable 79 = .ok (.ireturn, 1) := by decide +kernel
theorem dX8_rightTable_80 : decode cX8_rightTable 80 = .ok (.iinc 2 1, 3) := by decide +kernel
theorem dX8_rightTable_83 : decode cX8_rightTable 83 = .ok (.goto (-66), 3) := by decide +kernel
theorem dX8_rightTable_86 : decode cX8_rightTable 86 = .ok (.iconst (-1), 1) := by decide +kernel
theorem dX8_rightTable_87 : decode cX8_rightTable 87 = .ok (.ireturn, 1) := by decide +kernel
theorem dX8_nextWard_0 : decode cX8_nextWard 0 = .ok (.aload_n 0, 1) := by decide +kernel
theorem dX8_nextWard_1 : decode cX8_nextWard 1 = .ok (.iconst 0, 1) := by decide +kernel
theorem dX8_nextWard_2 : decode cX8_nextWard 2 = .ok (.putfield 38, 3) := by decide +kernel
theorem dX8_nextWard_5 : decode cX8_nextWard 5 = .ok (.aload_n 0, 1) := by decide +kernel
theorem dX8_nextWard_6 : decode cX8_nextWard 6 = .ok (.invokevirtual 292, 3) := by decide +kernel
theorem dX8_nextWard_9 : decode cX8_nextWard 9 = .ok (.ireturn, 1) := by decide +kernel
theorem dX8_declaredCount_0 : decode cX8_declaredCount 0 = .ok (.aload_n 0, 1) := by decide +kernel
theorem dX8_declaredCount_1 : decode cX8_declaredCount 1 = .ok (.iconst 0, 1) := by decide +kernel
theorem dX8_declaredCount_2 : decode cX8_declaredCount 2 = .ok (.putfield 38, 3) := by decide +kernel
theorem dX8_declaredCount_5 : decode cX8_declaredCount 5 = .ok (.aload_n 0, 1) := by decide +kernel
theorem dX8_declaredCount_6 : decode cX8_declaredCount 6 = .ok (.getfield 19, 3) := by decide +kernel
theorem dX8_declaredCount_9 : decode cX8_declaredCount 9 = .ok (.bipush 9, 2) := by decide +kernel
theorem dX8_declaredCount_11 : decode cX8_declaredCount 11 = .ok (.iaload, 1) := by decide +kernel
theorem dX8_declaredCount_12 : decode cX8_declaredCount 12 = .ok (.ireturn, 1) := by decide +kernel
theorem dX8_declared_0 : decode cX8_declared 0 = .ok (.aload_n 0, 1) := by decide +kernel
theorem dX8_declared_1 : decode cX8_declared 1 = .ok (.iconst 0, 1) := by decide +kernel
theorem dX8_declared_2 : decode cX8_declared 2 = .ok (.putfield 38, 3) := by decide +kernel
theorem dX8_declared_5 : decode cX8_declared 5 = .ok (.iload_n 1, 1) := by decide +kernel
theorem dX8_declared_6 : decode cX8_declared 6 = .ok (.ifCond .lt 14, 3) := by decide +kernel
theorem dX8_declared_9 : decode cX8_declared 9 = .ok (.iload_n 1, 1) := by decide +kernel
theorem dX8_declared_10 : decode cX8_declared 10 = .ok (.aload_n 0, 1) := by decide +kernel
theorem dX8_declared_11 : decode cX8_declared 11 = .ok (.getfield 19, 3) := by decide +kernel
theorem dX8_declared_14 : decode cX8_declared 14 = .ok (.bipush 9, 2) := by decide +kernel
theorem dX8_declared_16 : decode cX8_declared 16 = .ok (.iaload, 1) := by decide +kernel
theorem dX8_declared_17 : decode cX8_declared 17 = .ok (.if_icmp .lt 7, 3) := by decide +kernel
theorem dX8_declared_20 : decode cX8_declared 20 = .ok (.iconst (-1), 1) := by decide +kernel
theorem dX8_declared_21 : decode cX8_declared 21 = .ok (.goto 11, 3) := by decide +kernel
theorem dX8_declared_24 : decode cX8_declared 24 = .ok (.aload_n 0, 1) := by decide +kernel
theorem dX8_declared_25 : decode cX8_declared 25 = .ok (.getfield 19, 3) := by decide +kernel
theorem dX8_declared_28 : decode cX8_declared 28 = .ok (.iconst 3, 1) := by decide +kernel
theorem dX8_declared_29 : decode cX8_declared 29 = .ok (.iload_n 1, 1) := by decide +kernel
theorem dX8_declared_30 : decode cX8_declared 30 = .ok (.iadd, 1) := by decide +kernel
theorem dX8_declared_31 : decode cX8_declared 31 = .ok (.iaload, 1) := by decide +kernel
theorem dX8_declared_32 : decode cX8_declared 32 = .ok (.ireturn, 1) := by decide +kernel
theorem dX8_isRegionDeclared_0 : decode cX8_isRegionDeclared 0 = .ok (.aload_n 0, 1) := by decide +kernel
theorem dX8_isRegionDeclared_1 : decode cX8_isRegionDeclared 1 = .ok (.aload_n 0, 1) := by decide +kernel
theorem dX8_isRegionDeclared_2 : decode cX8_isRegionDeclared 2 = .ok (.iconst 1, 1) := by decide +kernel
theorem dX8_isRegionDeclared_3 : decode cX8_isRegionDeclared 3 = .ok (.iload_n 1, 1) := by decide +kernel
theorem dX8_isRegionDeclared_4 : decode cX8_isRegionDeclared 4 = .ok (.invokevirtual 255, 3) := by decide +kernel
theorem dX8_isRegionDeclared_7 : decode cX8_isRegionDeclared 7 = .ok (.invokevirtual 258, 3) := by decide +kernel
theorem dX8_isRegionDeclared_10 : decode cX8_isRegionDeclared 10 = .ok (.ifCond .ne 5, 3) := by decide +kernel
theorem dX8_isRegionDeclared_13 : decode cX8_isRegionDeclared 13 = .ok (.iconst 0, 1) := by decide +kernel
theorem dX8_isRegionDeclared_14 : decode cX8_isRegionDeclared 14 = .ok (.ireturn, 1) := by decide +kernel
theorem dX8_isRegionDeclared_15 : decode cX8_isRegionDeclared 15 = .ok (.iconst 0, 1) := by decide +kernel
theorem dX8_isRegionDeclared_16 : decode cX8_isRegionDeclared 16 = .ok (.istore_n 2, 1) := by decide +kernel
theorem dX8_isRegionDeclared_17 : decode cX8_isRegionDeclared 17 = .ok (.iconst 0, 1) := by decide +kernel
theorem dX8_isRegionDeclared_18 : decode cX8_isRegionDeclared 18 = .ok (.istore_n 3, 1) := by decide +kernel
theorem dX8_isRegionDeclared_19 : decode cX8_isRegionDeclared 19 = .ok (.iload_n 3, 1) := by decide +kernel
theorem dX8_isRegionDeclared_20 : decode cX8_isRegionDeclared 20 = .ok (.aload_n 0, 1) := by decide +kernel
theorem dX8_isRegionDeclared_21 : decode cX8_isRegionDeclared 21 = .ok (.iconst 2, 1) := by decide +kernel
theorem dX8_isRegionDeclared_22 : decode cX8_isRegionDeclared 22 = .ok (.invokevirtual 44, 3) := by decide +kernel
theorem dX8_isRegionDeclared_25 : decode cX8_isRegionDeclared 25 = .ok (.if_icmp .ge 26, 3) := by decide +kernel
theorem dX8_isRegionDeclared_28 : decode cX8_isRegionDeclared 28 = .ok (.iload_n 2, 1) := by decide +kernel
theorem dX8_isRegionDeclared_29 : decode cX8_isRegionDeclared 29 = .ok (.aload_n 0, 1) := by decide +kernel
theorem dX8_isRegionDeclared_30 : decode cX8_isRegionDeclared 30 = .ok (.iload_n 3, 1) := by decide +kernel
theorem dX8_isRegionDeclared_31 : decode cX8_isRegionDeclared 31 = .ok (.iload_n 1, 1) := by decide +kernel
theorem dX8_isRegionDeclared_32 : decode cX8_isRegionDeclared 32 = .ok (.invokevirtual 132, 3) := by decide +kernel
theorem dX8_isRegionDeclared_35 : decode cX8_isRegionDeclared 35 = .ok (.ifCond .eq 7, 3) := by decide +kernel
theorem dX8_isRegionDeclared_38 : decode cX8_isRegionDeclared 38 = .ok (.iconst 1, 1) := by decide +kernel
theorem dX8_isRegionDeclared_39 : decode cX8_isRegionDeclared 39 = .ok (.goto 4, 3) := by decide +kernel
theorem dX8_isRegionDeclared_42 : decode cX8_isRegionDeclared 42 = .ok (.iconst 0, 1) := by decide +kernel
theorem dX8_isRegionDeclared_43 : decode cX8_isRegionDeclared 43 = .ok (.iadd, 1) := by decide +kernel
theorem dX8_isRegionDeclared_44 : decode cX8_isRegionDeclared 44 = .ok (.istore_n 2, 1) := by decide +kernel
theorem dX8_isRegionDeclared_45 : decode cX8_isRegionDeclared 45 = .ok (.iinc 3 1, 3) := by decide +kernel
theorem dX8_isRegionDeclared_48 : decode cX8_isRegionDeclared 48 = .ok (.goto (-29), 3) := by decide +kernel
theorem dX8_isRegionDeclared_51 : decode cX8_isRegionDeclared 51 = .ok (.iload_n 2, 1) := by decide +kernel
theorem dX8_isRegionDeclared_52 : decode cX8_isRegionDeclared 52 = .ok (.ifCond .le 15, 3) := by decide +kernel
theorem dX8_isRegionDeclared_55 : decode cX8_isRegionDeclared 55 = .ok (.aload_n 0, 1) := by decide +kernel
theorem dX8_isRegionDeclared_56 : decode cX8_isRegionDeclared 56 = .ok (.iload_n 1, 1) := by decide +kernel
theorem dX8_isRegionDeclared_57 : decode cX8_isRegionDeclared 57 = .ok (.invokevirtual 295, 3) := by decide +kernel
theorem dX8_isRegionDeclared_60 : decode cX8_isRegionDeclared 60 = .ok (.ifCond .ne 7, 3) := by decide +kernel
theorem dX8_isRegionDeclared_63 : decode cX8_isRegionDeclared 63 = .ok (.iconst 1, 1) := by decide +kernel
theorem dX8_isRegionDeclared_64 : decode cX8_isRegionDeclared 64 = .ok (.goto 4, 3) := by decide +kernel
theorem dX8_isRegionDeclared_67 : decode cX8_isRegionDeclared 67 = .ok (.iconst 0, 1) := by decide +kernel
theorem dX8_isRegionDeclared_68 : decode cX8_isRegionDeclared 68 = .ok (.ireturn, 1) := by decide +kernel
theorem dX8_regionVotes_0 : decode cX8_regionVotes 0 = .ok (.aload_n 0, 1) := by decide +kernel
theorem dX8_regionVotes_1 : decode cX8_regionVotes 1 = .ok (.aload_n 0, 1) := by decide +kernel
theorem dX8_regionVotes_2 : decode cX8_regionVotes 2 = .ok (.iconst 1, 1) := by decide +kernel
theorem dX8_regionVotes_3 : decode cX8_regionVotes 3 = .ok (.iload_n 1, 1) := by decide +kernel
theorem dX8_regionVotes_4 : decode cX8_regionVotes 4 = .ok (.invokevirtual 255, 3) := by decide +kernel
theorem dX8_regionVotes_7 : decode cX8_regionVotes 7 = .ok (.invokevirtual 258, 3) := by decide +kernel
theorem dX8_regionVotes_10 : decode cX8_regionVotes 10 = .ok (.ifCond .ne 5, 3) := by decide +kernel
theorem dX8_regionVotes_13 : decode cX8_regionVotes 13 = .ok (.iconst 0, 1) := by decide +kernel
theorem dX8_regionVotes_14 : decode cX8_regionVotes 14 = .ok (.ireturn, 1) := by decide +kernel
theorem dX8_regionVotes_15 : decode cX8_regionVotes 15 = .ok (.aload_n 0, 1) := by decide +kernel
theorem dX8_regionVotes_16 : decode cX8_regionVotes 16 = .ok (.iconst 0, 1) := by decide +kernel
theorem dX8_regionVotes_17 : decode cX8_regionVotes 17 = .ok (.iload_n 2, 1) := by decide +kernel
theorem dX8_regionVotes_18 : decode cX8_regionVotes 18 = .ok (.invokevirtual 255, 3) := by decide +kernel
theorem dX8_regionVotes_21 : decode cX8_regionVotes 21 = .ok (.ifCond .ne 6, 3) := by decide +kernel
theorem dX8_regionVotes_24 : decode cX8_regionVotes 24 = .ok (.bipush (-2), 2) := by decide +kernel
theorem dX8_regionVotes_26 : decode cX8_regionVotes 26 = .ok (.ireturn, 1) := by decide +kernel
theorem dX8_regionVotes_27 : decode cX8_regionVotes 27 = .ok (.iconst 0, 1) := by decide +kernel
theorem dX8_regionVotes_28 : decode cX8_regionVotes 28 = .ok (.istore_n 3, 1) := by decide +kernel
theorem dX8_regionVotes_29 : decode cX8_regionVotes 29 = .ok (.iconst 0, 1) := by decide +kernel
theorem dX8_regionVotes_30 : decode cX8_regionVotes 30 = .ok (.istore 4, 2) := by decide +kernel
theorem dX8_regionVotes_32 : decode cX8_regionVotes 32 = .ok (.iload 4, 2) := by decide +kernel
theorem dX8_regionVotes_34 : decode cX8_regionVotes 34 = .ok (.aload_n 0, 1) := by decide +kernel
theorem dX8_regionVotes_35 : decode cX8_regionVotes 35 = .ok (.iconst 2, 1) := by decide +kernel
theorem dX8_regionVotes_36 : decode cX8_regionVotes 36 = .ok (.invokevirtual 44, 3) := by decide +kernel
theorem dX8_regionVotes_39 : decode cX8_regionVotes 39 = .ok (.if_icmp .ge 42, 3) := by decide +kernel
theorem dX8_regionVotes_42 : decode cX8_regionVotes 42 = .ok (.iload_n 3, 1) := by decide +kernel
theorem dX8_regionVotes_43 : decode cX8_regionVotes 43 = .ok (.aload_n 0, 1) := by decide +kernel
theorem dX8_regionVotes_44 : decode cX8_regionVotes 44 = .ok (.iload 4, 2) := by decide +kernel
theorem dX8_regionVotes_46 : decode cX8_regionVotes 46 = .ok (.iload_n 1, 1) := by decide +kernel
theorem dX8_regionVotes_47 : decode cX8_regionVotes 47 = .ok (.invokevirtual 132, 3) := by decide +kernel
theorem dX8_regionVotes_50 : decode cX8_regionVotes 50 = .ok (.ifCond .eq 22, 3) := by decide +kernel
theorem dX8_regionVotes_53 : decode cX8_regionVotes 53 = .ok (.aload_n 0, 1) := by decide +kernel
theorem dX8_regionVotes_54 : decode cX8_regionVotes 54 = .ok (.iload 4, 2) := by decide +kernel
theorem dX8_regionVotes_56 : decode cX8_regionVotes 56 = .ok (.invokevirtual 109, 3) := by decide +kernel
theorem dX8_regionVotes_59 : decode cX8_regionVotes 59 = .ok (.ifCond .eq 13, 3) := by decide +kernel
theorem dX8_regionVotes_62 : decode cX8_regionVotes 62 = .ok (.aload_n 0, 1) := by decide +kernel
theorem dX8_regionVotes_63 : decode cX8_regionVotes 63 = .ok (.iload 4, 2) := by decide +kernel
theorem dX8_regionVotes_65 : decode cX8_regionVotes 65 = .ok (.iload_n 2, 1) := by decide +kernel
theorem dX8_regionVotes_66 : decode cX8_regionVotes 66 = .ok (.invokevirtual 91, 3) := by decide +kernel
theorem dX8_regionVotes_69 : decode cX8_regionVotes 69 = .ok (.goto 4, 3) := by decide +kernel
theorem dX8_regionVotes_72 : decode cX8_regionVotes 72 = .ok (.iconst 0, 1) := by decide +kernel
theorem dX8_regionVotes_73 : decode cX8_regionVotes 73 = .ok (.iadd, 1) := by decide +kernel
theorem dX8_regionVotes_74 : decode cX8_regionVotes 74 = .ok (.istore_n 3, 1) := by decide +kernel
theorem dX8_regionVotes_75 : decode cX8_regionVotes 75 = .ok (.iinc 4 1, 3) := by decide +kernel
theorem dX8_regionVotes_78 : decode cX8_regionVotes 78 = .ok (.goto (-46), 3) := by decide +kernel
theorem dX8_regionVotes_81 : decode cX8_regionVotes 81 = .ok (.iload_n 3, 1) := by decide +kernel
theorem dX8_regionVotes_82 : decode cX8_regionVotes 82 = .ok (.ireturn, 1) := by decide +kernel
theorem dX8_regionSeats_0 : decode cX8_regionSeats 0 = .ok (.aload_n 0, 1) := by decide +kernel
theorem dX8_regionSeats_1 : decode cX8_regionSeats 1 = .ok (.aload_n 0, 1) := by decide +kernel
theorem dX8_regionSeats_2 : decode cX8_regionSeats 2 = .ok (.iconst 1, 1) := by decide +kernel
theorem dX8_regionSeats_3 : decode cX8_regionSeats 3 = .ok (.iload_n 1, 1) := by decide +kernel
theorem dX8_regionSeats_4 : decode cX8_regionSeats 4 = .ok (.invokevirtual 255, 3) := by decide +kernel
theorem dX8_regionSeats_7 : decode cX8_regionSeats 7 = .ok (.invokevirtual 258, 3) := by decide +kernel
theorem dX8_regionSeats_10 : decode cX8_regionSeats 10 = .ok (.ifCond .ne 5, 3) := by decide +kernel
theorem dX8_regionSeats_13 : decode cX8_regionSeats 13 = .ok (.iconst 0, 1) := by decide +kernel
theorem dX8_regionSeats_14 : decode cX8_regionSeats 14 = .ok (.ireturn, 1) := by decide +kernel
theorem dX8_regionSeats_15 : decode cX8_regionSeats 15 = .ok (.aload_n 0, 1) := by decide +kernel
theorem dX8_regionSeats_16 : decode cX8_regionSeats 16 = .ok (.iconst 0, 1) := by decide +kernel
theorem dX8_regionSeats_17 : decode cX8_regionSeats 17 = .ok (.iload_n 2, 1) := by decide +kernel
theorem dX8_regionSeats_18 : decode cX8_regionSeats 18 = .ok (.invokevirtual 255, 3) := by decide +kernel
theorem dX8_regionSeats_21 : decode cX8_regionSeats 21 = .ok (.ifCond .eq 12, 3) := by decide +kernel
theorem dX8_regionSeats_24 : decode cX8_regionSeats 24 = .ok (.aload_n 0, 1) := by decide +kernel
theorem dX8_regionSeats_25 : decode cX8_regionSeats 25 = .ok (.iload_n 1, 1) := by decide +kernel
theorem dX8_regionSeats_26 : decode cX8_regionSeats 26 = .ok (.iload_n 2, 1) := by decide +kernel
theorem dX8_regionSeats_27 : decode cX8_regionSeats 27 = .ok (.invokevirtual 298, 3) := by decide +kernel
theorem dX8_regionSeats_30 : decode cX8_regionSeats 30 = .ok (.goto 5, 3) := by decide +kernel
theorem dX8_regionSeats_33 : decode cX8_regionSeats 33 = .ok (.bipush (-2), 2) := by decide +kernel
theorem dX8_regionSeats_35 : decode cX8_regionSeats 35 = .ok (.ireturn, 1) := by decide +kernel
theorem dX8_isBeyond_0 : decode cX8_isBeyond 0 = .ok (.iconst 0, 1) := by decide +kernel
theorem dX8_isBeyond_1 : decode cX8_isBeyond 1 = .ok (.istore_n 3, 1) := by decide +kernel
theorem dX8_isBeyond_2 : decode cX8_isBeyond 2 = .ok (.iload_n 3, 1) := by decide +kernel
theorem dX8_isBeyond_3 : decode cX8_isBeyond 3 = .ok (.aload_n 0, 1) := by decide +kernel
theorem dX8_isBeyond_4 : decode cX8_isBeyond 4 = .ok (.iconst 0, 1) := by decide +kernel
theorem dX8_isBeyond_5 : decode cX8_isBeyond 5 = .ok (.invokevirtual 44, 3) := by decide +kernel
theorem dX8_isBeyond_8 : decode cX8_isBeyond 8 = .ok (.if_icmp .ge 37, 3) := by decide +kernel
theorem dX8_isBeyond_11 : decode cX8_isBeyond 11 = .ok (.iload_n 3, 1) := by decide +kernel
theorem dX8_isBeyond_12 : decode cX8_isBeyond 12 = .ok (.iload_n 2, 1) := by decide +kernel
theorem dX8_isBeyond_13 : decode cX8_isBeyond 13 = .ok (.if_icmp .eq 26, 3) := by decide +kernel
theorem dX8_isBeyond_16 : decode cX8_isBeyond 16 = .ok (.aload_n 0, 1) := by decide +kernel
theorem dX8_isBeyond_17 : decode cX8_isBeyond 17 = .ok (.iload_n 1, 1) := by decide +kernel
theorem dX8_isBeyond_18 : decode cX8_isBeyond 18 = .ok (.iload_n 3, 1) := by decide +kernel
theorem dX8_isBeyond_19 : decode cX8_isBeyond 19 = .ok (.invokevirtual 298, 3) := by decide +kernel
theorem dX8_isBeyond_22 : decode cX8_isBeyond 22 = .ok (.aload_n 0, 1) := by decide +kernel
theorem dX8_isBeyond_23 : decode cX8_isBeyond 23 = .ok (.iload_n 1, 1) := by decide +kernel
theorem dX8_isBeyond_24 : decode cX8_isBeyond 24 = .ok (.invokevirtual 295, 3) := by decide +kernel
theorem dX8_isBeyond_27 : decode cX8_isBeyond 27 = .ok (.iadd, 1) := by decide +kernel
theorem dX8_isBeyond_28 : decode cX8_isBeyond 28 = .ok (.aload_n 0, 1) := by decide +kernel
theorem dX8_isBeyond_29 : decode cX8_isBeyond 29 = .ok (.iload_n 1, 1) := by decide +kernel
theorem dX8_isBeyond_30 : decode cX8_isBeyond 30 = .ok (.iload_n 2, 1) := by decide +kernel
theorem dX8_isBeyond_31 : decode cX8_isBeyond 31 = .ok (.invokevirtual 298, 3) := by decide +kernel
theorem dX8_isBeyond_34 : decode cX8_isBeyond 34 = .ok (.if_icmp .lt 5, 3) := by decide +kernel
theorem dX8_isBeyond_37 : decode cX8_isBeyond 37 = .ok (.iconst 0, 1) := by decide +kernel
theorem dX8_isBeyond_38 : decode cX8_isBeyond 38 = .ok (.ireturn, 1) := by decide +kernel
theorem dX8_isBeyond_39 : decode cX8_isBeyond 39 = .ok (.iinc 3 1, 3) := by decide +kernel
theorem dX8_isBeyond_42 : decode cX8_isBeyond 42 = .ok (.goto (-40), 3) := by decide +kernel
theorem dX8_isBeyond_45 : decode cX8_isBeyond 45 = .ok (.iconst 1, 1) := by decide +kernel
theorem dX8_isBeyond_46 : decode cX8_isBeyond 46 = .ok (.ireturn, 1) := by decide +kernel
theorem dX8_isDecided_0 : decode cX8_isDecided 0 = .ok (.aload_n 0, 1) := by decide +kernel
theorem dX8_isDecided_1 : decode cX8_isDecided 1 = .ok (.aload_n 0, 1) := by decide +kernel
theorem dX8_isDecided_2 : decode cX8_isDecided 2 = .ok (.iconst 1, 1) := by decide +kernel
theorem dX8_isDecided_3 : decode cX8_isDecided 3 = .ok (.iload_n 1, 1) := by decide +kernel
theorem dX8_isDecided_4 : decode cX8_isDecided 4 = .ok (.invokevirtual 255, 3) := by decide +kernel
theorem dX8_isDecided_7 : decode cX8_isDecided 7 = .ok (.invokevirtual 258, 3) := by decide +kernel
theorem dX8_isDecided_10 : decode cX8_isDecided 10 = .ok (.ifCond .ne 5, 3) := by decide +kernel
theorem dX8_isDecided_13 : decode cX8_isDecided 13 = .ok (.iconst 0, 1) := by decide +kernel
theorem dX8_isDecided_14 : decode cX8_isDecided 14 = .ok (.ireturn, 1) := by decide +kernel
theorem dX8_isDecided_15 : decode cX8_isDecided 15 = .ok (.iconst 0, 1) := by decide +kernel
theorem dX8_isDecided_16 : decode cX8_isDecided 16 = .ok (.istore_n 2, 1) := by decide +kernel
theorem dX8_isDecided_17 : decode cX8_isDecided 17 = .ok (.iload_n 2, 1) := by decide +kernel
theorem dX8_isDecided_18 : decode cX8_isDecided 18 = .ok (.aload_n 0, 1) := by decide +kernel
theorem dX8_isDecided_19 : decode cX8_isDecided 19 = .ok (.iconst 0, 1) := by decide +kernel
theorem dX8_isDecided_20 : decode cX8_isDecided 20 = .ok (.invokevirtual 44, 3) := by decide +kernel
theorem dX8_isDecided_23 : decode cX8_isDecided 23 = .ok (.if_icmp .ge 20, 3) := by decide +kernel
theorem dX8_isDecided_26 : decode cX8_isDecided 26 = .ok (.aload_n 0, 1) := by decide +kernel
theorem dX8_isDecided_27 : decode cX8_isDecided 27 = .ok (.iload_n 1, 1) := by decide +kernel
theorem dX8_isDecided_28 : decode cX8_isDecided 28 = .ok (.iload_n 2, 1) := by decide +kernel
theorem dX8_isDecided_29 : decode cX8_isDecided 29 = .ok (.invokevirtual 301, 3) := by decide +kernel
theorem dX8_isDecided_32 : decode cX8_isDecided 32 = .ok (.ifCond .eq 5, 3) := by decide +kernel
theorem dX8_isDecided_35 : decode cX8_isDecided 35 = .ok (.iconst 1, 1) := by decide +kernel
theorem dX8_isDecided_36 : decode cX8_isDecided 36 = .ok (.ireturn, 1) := by decide +kernel
theorem dX8_isDecided_37 : decode cX8_isDecided 37 = .ok (.iinc 2 1, 3) := by decide +kernel
theorem dX8_isDecided_40 : decode cX8_isDecided 40 = .ok (.goto (-23), 3) := by decide +kernel
theorem dX8_isDecided_43 : decode cX8_isDecided 43 = .ok (.iconst 0, 1) := by decide +kernel
theorem dX8_isDecided_44 : decode cX8_isDecided 44 = .ok (.ireturn, 1) := by decide +kernel
theorem dX8_misplaced_0 : decode cX8_misplaced 0 = .ok (.aload_n 0, 1) := by decide +kernel
theorem dX8_misplaced_1 : decode cX8_misplaced 1 = .ok (.iconst 0, 1) := by decide +kernel
theorem dX8_misplaced_2 : decode cX8_misplaced 2 = .ok (.putfield 38, 3) := by decide +kernel
theorem dX8_misplaced_5 : decode cX8_misplaced 5 = .ok (.iconst 0, 1) := by decide +kernel
theorem dX8_misplaced_6 : decode cX8_misplaced 6 = .ok (.istore_n 1, 1) := by decide +kernel
theorem dX8_misplaced_7 : decode cX8_misplaced 7 = .ok (.iconst 0, 1) := by decide +kernel
theorem dX8_misplaced_8 : decode cX8_misplaced 8 = .ok (.istore_n 2, 1) := by decide +kernel
theorem dX8_misplaced_9 : decode cX8_misplaced 9 = .ok (.iload_n 2, 1) := by decide +kernel
theorem dX8_misplaced_10 : decode cX8_misplaced 10 = .ok (.aload_n 0, 1) := by decide +kernel
theorem dX8_misplaced_11 : decode cX8_misplaced 11 = .ok (.iconst 3, 1) := by decide +kernel
theorem dX8_misplaced_12 : decode cX8_misplaced 12 = .ok (.invokevirtual 44, 3) := by decide +kernel
theorem dX8_misplaced_15 : decode cX8_misplaced 15 = .ok (.if_icmp .ge 52, 3) := by decide +kernel
theorem dX8_misplaced_18 : decode cX8_misplaced 18 = .ok (.iconst 0, 1) := by decide +kernel
theorem dX8_misplaced_19 : decode cX8_misplaced 19 = .ok (.istore_n 3, 1) := by decide +kernel
theorem dX8_misplaced_20 : decode cX8_misplaced 20 = .ok (.iload_n 3, 1) := by decide +kernel
theorem dX8_misplaced_21 : decode cX8_misplaced 21 = .ok (.aload_n 0, 1) := by decide +kernel
theorem dX8_misplaced_22 : decode cX8_misplaced 22 = .ok (.invokevirtual 59, 3) := by decide +kernel
theorem dX8_misplaced_25 : decode cX8_misplaced 25 = .ok (.if_icmp .ge 36, 3) := by decide +kernel
theorem dX8_misplaced_28 : decode cX8_misplaced 28 = .ok (.aload_n 0, 1) := by decide +kernel
theorem dX8_misplaced_29 : decode cX8_misplaced 29 = .ok (.iload_n 2, 1) := by decide +kernel
theorem dX8_misplaced_30 : decode cX8_misplaced 30 = .ok (.invokevirtual 74, 3) := by decide +kernel
theorem dX8_misplaced_33 : decode cX8_misplaced 33 = .ok (.ifCond .eq 28, 3) := by decide +kernel
theorem dX8_misplaced_36 : decode cX8_misplaced 36 = .ok (.iload_n 1, 1) := by decide +kernel
theorem dX8_misplaced_37 : decode cX8_misplaced 37 = .ok (.aload_n 0, 1) := by decide +kernel
theorem dX8_misplaced_38 : decode cX8_misplaced 38 = .ok (.iload_n 2, 1) := by decide +kernel
theorem dX8_misplaced_39 : decode cX8_misplaced 39 = .ok (.iload_n 3, 1) := by decide +kernel
theorem dX8_misplaced_40 : decode cX8_misplaced 40 = .ok (.invokevirtual 80, 3) := by decide +kernel
theorem dX8_misplaced_43 : decode cX8_misplaced 43 = .ok (.aload_n 0, 1) := by decide +kernel
theorem dX8_misplaced_44 : decode cX8_misplaced 44 = .ok (.iload_n 2, 1) := by decide +kernel
theorem dX8_misplaced_45 : decode cX8_misplaced 45 = .ok (.iload_n 3, 1) := by decide +kernel
theorem dX8_misplaced_46 : decode cX8_misplaced 46 = .ok (.invokevirtual 56, 3) := by decide +kernel
theorem dX8_misplaced_49 : decode cX8_misplaced 49 = .ok (.isub, 1) := by decide +kernel
theorem dX8_misplaced_50 : decode cX8_misplaced 50 = .ok (.invokestatic 86, 3) := by decide +kernel
theorem dX8_misplaced_53 : decode cX8_misplaced 53 = .ok (.iadd, 1) := by decide +kernel
theorem dX8_misplaced_54 : decode cX8_misplaced 54 = .ok (.istore_n 1, 1) := by decide +kernel
theorem dX8_misplaced_55 : decode cX8_misplaced 55 = .ok (.iinc 3 1, 3) := by decide +kernel
theorem dX8_misplaced_58 : decode cX8_misplaced 58 = .ok (.goto (-38), 3) := by decide +kernel
theorem dX8_misplaced_61 : decode cX8_misplaced 61 = .ok (.iinc 2 1, 3) := by decide +kernel
theorem dX8_misplaced_64 : decode cX8_misplaced 64 = .ok (.goto (-55), 3) := by decide +kernel
theorem dX8_misplaced_67 : decode cX8_misplaced 67 = .ok (.iload_n 1, 1) := by decide +kernel
theorem dX8_misplaced_68 : decode cX8_misplaced 68 = .ok (.iconst 2, 1) := by decide +kernel
theorem dX8_misplaced_69 : decode cX8_misplaced 69 = .ok (.idiv, 1) := by decide +kernel
theorem dX8_misplaced_70 : decode cX8_misplaced 70 = .ok (.ireturn, 1) := by decide +kernel
theorem dX8_isWrong_0 : decode cX8_isWrong 0 = .ok (.iconst 0, 1) := by decide +kernel
theorem dX8_isWrong_1 : decode cX8_isWrong 1 = .ok (.istore_n 3, 1) := by decide +kernel
theorem dX8_isWrong_2 : decode cX8_isWrong 2 = .ok (.iload_n 3, 1) := by decide +kernel
theorem dX8_isWrong_3 : decode cX8_isWrong 3 = .ok (.aload_n 0, 1) := by decide +kernel
theorem dX8_isWrong_4 : decode cX8_isWrong 4 = .ok (.invokevirtual 59, 3) := by decide +kernel
theorem dX8_isWrong_7 : decode cX8_isWrong 7 = .ok (.if_icmp .ge 27, 3) := by decide +kernel
theorem dX8_isWrong_10 : decode cX8_isWrong 10 = .ok (.aload_n 0, 1) := by decide +kernel
theorem dX8_isWrong_11 : decode cX8_isWrong 11 = .ok (.iload_n 1, 1) := by decide +kernel
theorem dX8_isWrong_12 : decode cX8_isWrong 12 = .ok (.iload_n 2, 1) := by decide +kernel
theorem dX8_isWrong_13 : decode cX8_isWrong 13 = .ok (.iload_n 3, 1) := by decide +kernel
theorem dX8_isWrong_14 : decode cX8_isWrong 14 = .ok (.invokevirtual 67, 3) := by decide +kernel
theorem dX8_isWrong_17 : decode cX8_isWrong 17 = .ok (.aload_n 0, 1) := by decide +kernel
theorem dX8_isWrong_18 : decode cX8_isWrong 18 = .ok (.iload_n 1, 1) := by decide +kernel
theorem dX8_isWrong_19 : decode cX8_isWrong 19 = .ok (.iload_n 3, 1) := by decide +kernel
theorem dX8_isWrong_20 : decode cX8_isWrong 20 = .ok (.invokevirtual 56, 3) := by decide +kernel
theorem dX8_isWrong_23 : decode cX8_isWrong 23 = .ok (.if_icmp .eq 5, 3) := by decide +kernel
theorem dX8_isWrong_26 : decode cX8_isWrong 26 = .ok (.iconst 1, 1) := by decide +kernel
theorem dX8_isWrong_27 : decode cX8_isWrong 27 = .ok (.ireturn, 1) := by decide +kernel
theorem dX8_isWrong_28 : decode cX8_isWrong 28 = .ok (.iinc 3 1, 3) := by decide +kernel
theorem dX8_isWrong_31 : decode cX8_isWrong 31 = .ok (.goto (-29), 3) := by decide +kernel
theorem dX8_isWrong_34 : decode cX8_isWrong 34 = .ok (.iconst 0, 1) := by decide +kernel
theorem dX8_isWrong_35 : decode cX8_isWrong 35 = .ok (.ireturn, 1) := by decide +kernel
theorem dX8_worstTable_0 : decode cX8_worstTable 0 = .ok (.aload_n 0, 1) := by decide +kernel
theorem dX8_worstTable_1 : decode cX8_worstTable 1 = .ok (.iconst 0, 1) := by decide +kernel
theorem dX8_worstTable_2 : decode cX8_worstTable 2 = .ok (.putfield 38, 3) := by decide +kernel
theorem dX8_worstTable_5 : decode cX8_worstTable 5 = .ok (.iconst (-1), 1) := by decide +kernel
theorem dX8_worstTable_6 : decode cX8_worstTable 6 = .ok (.istore_n 1, 1) := by decide +kernel
theorem dX8_worstTable_7 : decode cX8_worstTable 7 = .ok (.iconst 0, 1) := by decide +kernel
theorem dX8_worstTable_8 : decode cX8_worstTable 8 = .ok (.istore_n 2, 1) := by decide +kernel
theorem dX8_worstTable_9 : decode cX8_worstTable 9 = .ok (.iconst 0, 1) := by decide +kernel
theorem dX8_worstTable_10 : decode cX8_worstTable 10 = .ok (.istore_n 3, 1) := by decide +kernel
theorem dX8_worstTable_11 : decode cX8_worstTable 11 = .ok (.iload_n 3, 1) := by decide +kernel
theorem dX8_worstTable_12 : decode cX8_worstTable 12 = .ok (.aload_n 0, 1) := by decide +kernel
theorem dX8_worstTable_13 : decode cX8_worstTable 13 = .ok (.iconst 4, 1) := by decide +kernel
theorem dX8_worstTable_14 : decode cX8_worstTable 14 = .ok (.invokevirtual 44, 3) := by decide +kernel
theorem dX8_worstTable_17 : decode cX8_worstTable 17 = .ok (.if_icmp .ge 107, 3) := by decide +kernel
theorem dX8_worstTable_20 : decode cX8_worstTable 20 = .ok (.iconst 0, 1) := by decide +kernel
theorem dX8_worstTable_21 : decode cX8_worstTable 21 = .ok (.istore 4, 2) := by decide +kernel
theorem dX8_worstTable_23 : decode cX8_worstTable 23 = .ok (.iconst 0, 1) := by decide +kernel
theorem dX8_worstTable_24 : decode cX8_worstTable 24 = .ok (.istore 5, 2) := by decide +kernel
theorem dX8_worstTable_26 : decode cX8_worstTable 26 = .ok (.iload 5, 2) := by decide +kernel
theorem dX8_worstTable_28 : decode cX8_worstTable 28 = .ok (.aload_n 0, 1) := by decide +kernel
theorem dX8_worstTable_29 : decode cX8_worstTable 29 = .ok (.iconst 3, 1) := by decide +kernel
theorem dX8_worstTable_30 : decode cX8_worstTable 30 = .ok (.invokevirtual 44, 3) := by decide +kernel
theorem dX8_worstTable_33 : decode cX8_worstTable 33 = .ok (.if_icmp .ge 66, 3) := by decide +kernel
theorem dX8_worstTable_36 : decode cX8_worstTable 36 = .ok (.iconst 0, 1) := by decide +kernel
theorem dX8_worstTable_37 : decode cX8_worstTable 37 = .ok (.istore 6, 2) := by decide +kernel
theorem dX8_worstTable_39 : decode cX8_worstTable 39 = .ok (.iload 6, 2) := by decide +kernel
theorem dX8_worstTable_41 : decode cX8_worstTable 41 = .ok (.aload_n 0, 1) := by decide +kernel
theorem dX8_worstTable_42 : decode cX8_worstTable 42 = .ok (.iload 5, 2) := by decide +kernel
theorem dX8_worstTable_44 : decode cX8_worstTable 44 = .ok (.iconst 3, 1) := by decide +kernel
theorem dX8_worstTable_45 : decode cX8_worstTable 45 = .ok (.invokevirtual 48, 3) := by decide +kernel
theorem dX8_worstTable_48 : decode cX8_worstTable 48 = .ok (.if_icmp .ge 45, 3) := by decide +kernel
theorem dX8_worstTable_51 : decode cX8_worstTable 51 = .ok (.iload 4, 2) := by decide +kernel
theorem dX8_worstTable_53 : decode cX8_worstTable 53 = .ok (.aload_n 0, 1) := by decide +kernel
theorem dX8_worstTable_54 : decode cX8_worstTable 54 = .ok (.iload 5, 2) := by decide +kernel
theorem dX8_worstTable_56 : decode cX8_worstTable 56 = .ok (.bipush 16, 2) := by decide +kernel
theorem dX8_worstTable_58 : decode cX8_worstTable 58 = .ok (.iload 6, 2) := by decide +kernel
theorem dX8_worstTable_60 : decode cX8_worstTable 60 = .ok (.iadd, 1) := by decide +kernel
theorem dX8_worstTable_61 : decode cX8_worstTable 61 = .ok (.invokevirtual 48, 3) := by decide +kernel
theorem dX8_worstTable_64 : decode cX8_worstTable 64 = .ok (.iload_n 3, 1) := by decide +kernel
theorem dX8_worstTable_65 : decode cX8_worstTable 65 = .ok (.if_icmp .ne 18, 3) := by decide +kernel
theorem dX8_worstTable_68 : decode cX8_worstTable 68 = .ok (.aload_n 0, 1) := by decide +kernel
theorem dX8_worstTable_69 : decode cX8_worstTable 69 = .ok (.iload 5, 2) := by decide +kernel
theorem dX8_worstTable_71 : decode cX8_worstTable 71 = .ok (.iload 6, 2) := by decide +kernel
theorem dX8_worstTable_73 : decode cX8_worstTable 73 = .ok (.invokevirtual 304, 3) := by decide +kernel
theorem dX8_worstTable_76 : decode cX8_worstTable 76 = .ok (.ifCond .eq 7, 3) := by decide +kernel
theorem dX8_worstTable_79 : decode cX8_worstTable 79 = .ok (.iconst 1, 1) := by decide +kernel
theorem dX8_worstTable_80 : decode cX8_worstTable 80 = .ok (.goto 4, 3) := by decide +kernel
theorem dX8_worstTable_83 : decode cX8_worstTable 83 = .ok (.iconst 0, 1) := by decide +kernel
theorem dX8_worstTable_84 : decode cX8_worstTable 84 = .ok (.iadd, 1) := by decide +kernel
theorem dX8_worstTable_85 : decode cX8_worstTable 85 = .ok (.istore 4, 2) := by decide +kernel
theorem dX8_worstTable_87 : decode cX8_worstTable 87 = .ok (.iinc 6 1, 3) := by decide +kernel
theorem dX8_worstTable_90 : decode cX8_worstTable 90 = .ok (.goto (-51), 3) := by decide +kernel
theorem dX8_worstTable_93 : decode cX8_worstTable 93 = .ok (.iinc 5 1, 3) := by decide +kernel
theorem dX8_worstTable_96 : decode cX8_worstTable 96 = .ok (.goto (-70), 3) := by decide +kernel
theorem dX8_worstTable_99 : decode cX8_worstTable 99 = .ok (.iload 4, 2) := by decide +kernel
theorem dX8_worstTable_101 : decode cX8_worstTable 101 = .ok (.iload_n 2, 1) := by decide +kernel
theorem dX8_worstTable_102 : decode cX8_worstTable 102 = .ok (.if_icmp .le 7, 3) := by decide +kernel
theorem dX8_worstTable_105 : decode cX8_worstTable 105 = .ok (.iload_n 3, 1) := by decide +kernel
theorem dX8_worstTable_106 : decode cX8_worstTable 106 = .ok (.goto 4, 3) := by decide +kernel
theorem dX8_worstTable_109 : decode cX8_worstTable 109 = .ok (.iload_n 1, 1) := by decide +kernel
theorem dX8_worstTable_110 : decode cX8_worstTable 110 = .ok (.istore_n 1, 1) := by decide +kernel
theorem dX8_worstTable_111 : decode cX8_worstTable 111 = .ok (.iload_n 2, 1) := by decide +kernel
theorem dX8_worstTable_112 : decode cX8_worstTable 112 = .ok (.iload 4, 2) := by decide +kernel
theorem dX8_worstTable_114 : decode cX8_worstTable 114 = .ok (.invokestatic 94, 3) := by decide +kernel
theorem dX8_worstTable_117 : decode cX8_worstTable 117 = .ok (.istore_n 2, 1) := by decide +kernel
theorem dX8_worstTable_118 : decode cX8_worstTable 118 = .ok (.iinc 3 1, 3) := by decide +kernel
theorem dX8_worstTable_121 : decode cX8_worstTable 121 = .ok (.goto (-110), 3) := by decide +kernel
theorem dX8_worstTable_124 : decode cX8_worstTable 124 = .ok (.iload_n 1, 1) := by decide +kernel
theorem dX8_worstTable_125 : decode cX8_worstTable 125 = .ok (.ireturn, 1) := by decide +kernel
theorem dX8_keeps_0 : decode cX8_keeps 0 = .ok (.aload_n 0, 1) := by decide +kernel
theorem dX8_keeps_1 : decode cX8_keeps 1 = .ok (.getfield 249, 3) := by decide +kernel
theorem dX8_keeps_4 : decode cX8_keeps 4 = .ok (.bipush 10, 2) := by decide +kernel
theorem dX8_keeps_6 : decode cX8_keeps 6 = .ok (.if_icmp .ne 46, 3) := by decide +kernel
theorem dX8_keeps_9 : decode cX8_keeps 9 = .ok (.sipush 538, 3) := by decide +kernel
theorem dX8_keeps_12 : decode cX8_keeps 12 = .ok (.istore_n 1, 1) := by decide +kernel
theorem dX8_keeps_13 : decode cX8_keeps 13 = .ok (.iload_n 1, 1) := by decide +kernel
theorem dX8_keeps_14 : decode cX8_keeps 14 = .ok (.sipush 5380, 3) := by decide +kernel
theorem dX8_keeps_17 : decode cX8_keeps 17 = .ok (.if_icmp .ge 25, 3) := by decide +kernel
theorem dX8_keeps_20 : decode cX8_keeps 20 = .ok (.aload_n 0, 1) := by decide +kernel
theorem dX8_keeps_21 : decode cX8_keeps 21 = .ok (.getfield 25, 3) := by decide +kernel
theorem dX8_keeps_24 : decode cX8_keeps 24 = .ok (.iload_n 1, 1) := by decide +kernel
theorem dX8_keeps_25 : decode cX8_keeps 25 = .ok (.sipush 538, 3) := by decide +kernel
theorem dX8_keeps_28 : decode cX8_keeps 28 = .ok (.isub, 1) := by decide +kernel
theorem dX8_keeps_29 : decode cX8_keeps 29 = .ok (.aload_n 0, 1) := by decide +kernel
theorem dX8_keeps_30 : decode cX8_keeps 30 = .ok (.getfield 25, 3) := by decide +kernel
theorem dX8_keeps_33 : decode cX8_keeps 33 = .ok (.iload_n 1, 1) := by decide +kernel
theorem dX8_keeps_34 : decode cX8_keeps 34 = .ok (.iaload, 1) := by decide +kernel
theorem dX8_keeps_35 : decode cX8_keeps 35 = .ok (.iastore, 1) := by decide +kernel
theorem dX8_keeps_36 : decode cX8_keeps 36 = .ok (.iinc 1 1, 3) := by decide +kernel
theorem dX8_keeps_39 : decode cX8_keeps 39 = .ok (.goto (-26), 3) := by decide +kernel
theorem dX8_keeps_42 : decode cX8_keeps 42 = .ok (.aload_n 0, 1) := by decide +kernel
theorem dX8_keeps_43 : decode cX8_keeps 43 = .ok (.dup, 1) := by decide +kernel
theorem dX8_keeps_44 : decode cX8_keeps 44 = .ok (.getfield 249, 3) := by decide +kernel
theorem dX8_keeps_47 : decode cX8_keeps 47 = .ok (.iconst 1, 1) := by decide +kernel
theorem dX8_keeps_48 : decode cX8_keeps 48 = .ok (.isub, 1) := by decide +kernel
theorem dX8_keeps_49 : decode cX8_keeps 49 = .ok (.putfield 249, 3) := by decide +kernel
theorem dX8_keeps_52 : decode cX8_keeps 52 = .ok (.iconst 0, 1) := by decide +kernel
theorem dX8_keeps_53 : decode cX8_keeps 53 = .ok (.istore_n 1, 1) := by decide +kernel
theorem dX8_keeps_54 : decode cX8_keeps 54 = .ok (.iload_n 1, 1) := by decide +kernel
theorem dX8_keeps_55 : decode cX8_keeps 55 = .ok (.sipush 538, 3) := by decide +kernel
theorem dX8_keeps_58 : decode cX8_keeps 58 = .ok (.if_icmp .ge 30, 3) := by decide +kernel
theorem dX8_keeps_61 : decode cX8_keeps 61 = .ok (.aload_n 0, 1) := by decide +kernel
theorem dX8_keeps_62 : decode cX8_keeps 62 = .ok (.getfield 25, 3) := by decide +kernel
theorem dX8_keeps_65 : decode cX8_keeps 65 = .ok (.sipush 538, 3) := by decide +kernel
theorem dX8_keeps_68 : decode cX8_keeps 68 = .ok (.aload_n 0, 1) := by decide +kernel
theorem dX8_keeps_69 : decode cX8_keeps 69 = .ok (.getfield 249, 3) := by decide +kernel
theorem dX8_keeps_72 : decode cX8_keeps 72 = .ok (.imul, 1) := by decide +kernel
theorem dX8_keeps_73 : decode cX8_keeps 73 = .ok (.iload_n 1, 1) := by decide +kernel
theorem dX8_keeps_74 : decode cX8_keeps 74 = .ok (.iadd, 1) := by decide +kernel
theorem dX8_keeps_75 : decode cX8_keeps 75 = .ok (.aload_n 0, 1) := by decide +kernel
theorem dX8_keeps_76 : decode cX8_keeps 76 = .ok (.getfield 19, 3) := by decide +kernel
theorem dX8_keeps_79 : decode cX8_keeps 79 = .ok (.iload_n 1, 1) := by decide +kernel
theorem dX8_keeps_80 : decode cX8_keeps 80 = .ok (.iaload, 1) := by decide +kernel
theorem dX8_keeps_81 : decode cX8_keeps 81 = .ok (.iastore, 1) := by decide +kernel
theorem dX8_keeps_82 : decode cX8_keeps 82 = .ok (.iinc 1 1, 3) := by decide +kernel
theorem dX8_keeps_85 : decode cX8_keeps 85 = .ok (.goto (-31), 3) := by decide +kernel
theorem dX8_keeps_88 : decode cX8_keeps 88 = .ok (.aload_n 0, 1) := by decide +kernel
theorem dX8_keeps_89 : decode cX8_keeps 89 = .ok (.dup, 1) := by decide +kernel
theorem dX8_keeps_90 : decode cX8_keeps 90 = .ok (.getfield 249, 3) := by decide +kernel
theorem dX8_keeps_93 : decode cX8_keeps 93 = .ok (.iconst 1, 1) := by decide +kernel
theorem dX8_keeps_94 : decode cX8_keeps 94 = .ok (.iadd, 1) := by decide +kernel
theorem dX8_keeps_95 : decode cX8_keeps 95 = .ok (.putfield 249, 3) := by decide +kernel
theorem dX8_keeps_98 : decode cX8_keeps 98 = .ok (.return_, 1) := by decide +kernel
theorem dX8_undo_0 : decode cX8_undo 0 = .ok (.aload_n 0, 1) := by decide +kernel
theorem dX8_undo_1 : decode cX8_undo 1 = .ok (.iconst 0, 1) := by decide +kernel
theorem dX8_undo_2 : decode cX8_undo 2 = .ok (.putfield 38, 3) := by decide +kernel
theorem dX8_undo_5 : decode cX8_undo 5 = .ok (.aload_n 0, 1) := by decide +kernel
theorem dX8_undo_6 : decode cX8_undo 6 = .ok (.getfield 249, 3) := by decide +kernel
theorem dX8_undo_9 : decode cX8_undo 9 = .ok (.ifCond .ne 5, 3) := by decide +kernel
theorem dX8_undo_12 : decode cX8_undo 12 = .ok (.iconst (-1), 1) := by decide +kernel
theorem dX8_undo_13 : decode cX8_undo 13 = .ok (.ireturn, 1) := by decide +kernel
theorem dX8_undo_14 : decode cX8_undo 14 = .ok (.aload_n 0, 1) := by decide +kernel
theorem dX8_undo_15 : decode cX8_undo 15 = .ok (.dup, 1) := by decide +kernel
theorem dX8_undo_16 : decode cX8_undo 16 = .ok (.getfield 249, 3) := by decide +kernel
theorem dX8_undo_19 : decode cX8_undo 19 = .ok (.iconst 1, 1) := by decide +kernel
theorem dX8_undo_20 : decode cX8_undo 20 = .ok (.isub, 1) := by decide +kernel
theorem dX8_undo_21 : decode cX8_undo 21 = .ok (.putfield 249, 3) := by decide +kernel
theorem dX8_undo_24 : decode cX8_undo 24 = .ok (.iconst 0, 1) := by decide +kernel
theorem dX8_undo_25 : decode cX8_undo 25 = .ok (.istore_n 1, 1) := by decide +kernel
theorem dX8_undo_26 : decode cX8_undo 26 = .ok (.iload_n 1, 1) := by decide +kernel
theorem dX8_undo_27 : decode cX8_undo 27 = .ok (.sipush 538, 3) := by decide +kernel
theorem dX8_undo_30 : decode cX8_undo 30 = .ok (.if_icmp .ge 30, 3) := by decide +kernel
theorem dX8_undo_33 : decode cX8_undo 33 = .ok (.aload_n 0, 1) := by decide +kernel
theorem dX8_undo_34 : decode cX8_undo 34 = .ok (.getfield 19, 3) := by decide +kernel
theorem dX8_undo_37 : decode cX8_undo 37 = .ok (.iload_n 1, 1) := by decide +kernel
theorem dX8_undo_38 : decode cX8_undo 38 = .ok (.aload_n 0, 1) := by decide +kernel
theorem dX8_undo_39 : decode cX8_undo 39 = .ok (.getfield 25, 3) := by decide +kernel
theorem dX8_undo_42 : decode cX8_undo 42 = .ok (.sipush 538, 3) := by decide +kernel
theorem dX8_undo_45 : decode cX8_undo 45 = .ok (.aload_n 0, 1) := by decide +kernel
theorem dX8_undo_46 : decode cX8_undo 46 = .ok (.getfield 249, 3) := by decide +kernel
theorem dX8_undo_49 : decode cX8_undo 49 = .ok (.imul, 1) := by decide +kernel
theorem dX8_undo_50 : decode cX8_undo 50 = .ok (.iload_n 1, 1) := by decide +kernel
theorem dX8_undo_51 : decode cX8_undo 51 = .ok (.iadd, 1) := by decide +kernel
theorem dX8_undo_52 : decode cX8_undo 52 = .ok (.iaload, 1) := by decide +kernel
theorem dX8_undo_53 : decode cX8_undo 53 = .ok (.iastore, 1) := by decide +kernel
theorem dX8_undo_54 : decode cX8_undo 54 = .ok (.iinc 1 1, 3) := by decide +kernel
theorem dX8_undo_57 : decode cX8_undo 57 = .ok (.goto (-31), 3) := by decide +kernel
theorem dX8_undo_60 : decode cX8_undo 60 = .ok (.aload_n 0, 1) := by decide +kernel
theorem dX8_undo_61 : decode cX8_undo 61 = .ok (.getfield 249, 3) := by decide +kernel
theorem dX8_undo_64 : decode cX8_undo 64 = .ok (.ireturn, 1) := by decide +kernel
theorem dX8_inHall_0 : decode cX8_inHall 0 = .ok (.iconst 0, 1) := by decide +kernel
theorem dX8_inHall_1 : decode cX8_inHall 1 = .ok (.istore_n 1, 1) := by decide +kernel
theorem dX8_inHall_2 : decode cX8_inHall 2 = .ok (.iconst 0, 1) := by decide +kernel
theorem dX8_inHall_3 : decode cX8_inHall 3 = .ok (.istore_n 2, 1) := by decide +kernel
theorem dX8_inHall_4 : decode cX8_inHall 4 = .ok (.iload_n 2, 1) := by decide +kernel
theorem dX8_inHall_5 : decode cX8_inHall 5 = .ok (.aload_n 0, 1) := by decide +kernel
theorem dX8_inHall_6 : decode cX8_inHall 6 = .ok (.iconst 3, 1) := by decide +kernel
theorem dX8_inHall_7 : decode cX8_inHall 7 = .ok (.invokevirtual 44, 3) := by decide +kernel
theorem dX8_inHall_10 : decode cX8_inHall 10 = .ok (.if_icmp .ge 28, 3) := by decide +kernel
theorem dX8_inHall_13 : decode cX8_inHall 13 = .ok (.iload_n 1, 1) := by decide +kernel
theorem dX8_inHall_14 : decode cX8_inHall 14 = .ok (.aload_n 0, 1) := by decide +kernel
theorem dX8_inHall_15 : decode cX8_inHall 15 = .ok (.iload_n 2, 1) := by decide +kernel
theorem dX8_inHall_16 : decode cX8_inHall 16 = .ok (.iconst 0, 1) := by decide +kernel
theorem dX8_inHall_17 : decode cX8_inHall 17 = .ok (.invokevirtual 48, 3) := by decide +kernel
theorem dX8_inHall_20 : decode cX8_inHall 20 = .ok (.bipush (-4), 2) := by decide +kernel
theorem dX8_inHall_22 : decode cX8_inHall 22 = .ok (.if_icmp .ne 7, 3) := by decide +kernel
theorem dX8_inHall_25 : decode cX8_inHall 25 = .ok (.iconst 1, 1) := by decide +kernel
theorem dX8_inHall_26 : decode cX8_inHall 26 = .ok (.goto 4, 3) := by decide +kernel
theorem dX8_inHall_29 : decode cX8_inHall 29 = .ok (.iconst 0, 1) := by decide +kernel
theorem dX8_inHall_30 : decode cX8_inHall 30 = .ok (.iadd, 1) := by decide +kernel
theorem dX8_inHall_31 : decode cX8_inHall 31 = .ok (.istore_n 1, 1) := by decide +kernel
theorem dX8_inHall_32 : decode cX8_inHall 32 = .ok (.iinc 2 1, 3) := by decide +kernel
theorem dX8_inHall_35 : decode cX8_inHall 35 = .ok (.goto (-31), 3) := by decide +kernel
theorem dX8_inHall_38 : decode cX8_inHall 38 = .ok (.iload_n 1, 1) := by decide +kernel
theorem dX8_inHall_39 : decode cX8_inHall 39 = .ok (.ireturn, 1) := by decide +kernel
theorem dX8_bring_0 : decode cX8_bring 0 = .ok (.aload_n 0, 1) := by decide +kernel
theorem dX8_bring_1 : decode cX8_bring 1 = .ok (.iconst 0, 1) := by decide +kernel
theorem dX8_bring_2 : decode cX8_bring 2 = .ok (.putfield 38, 3) := by decide +kernel
theorem dX8_bring_5 : decode cX8_bring 5 = .ok (.aload_n 0, 1) := by decide +kernel
theorem dX8_bring_6 : decode cX8_bring 6 = .ok (.iconst 3, 1) := by decide +kernel
theorem dX8_bring_7 : decode cX8_bring 7 = .ok (.iload_n 1, 1) := by decide +kernel
theorem dX8_bring_8 : decode cX8_bring 8 = .ok (.invokevirtual 255, 3) := by decide +kernel
theorem dX8_bring_11 : decode cX8_bring 11 = .ok (.ifCond .ne 5, 3) := by decide +kernel
theorem dX8_bring_14 : decode cX8_bring 14 = .ok (.iconst (-1), 1) := by decide +kernel
theorem dX8_bring_15 : decode cX8_bring 15 = .ok (.ireturn, 1) := by decide +kernel
theorem dX8_bring_16 : decode cX8_bring 16 = .ok (.aload_n 0, 1) := by decide +kernel
theorem dX8_bring_17 : decode cX8_bring 17 = .ok (.iload_n 1, 1) := by decide +kernel
theorem dX8_bring_18 : decode cX8_bring 18 = .ok (.iconst 0, 1) := by decide +kernel
theorem dX8_bring_19 : decode cX8_bring 19 = .ok (.invokevirtual 48, 3) := by decide +kernel
theorem dX8_bring_22 : decode cX8_bring 22 = .ok (.bipush (-3), 2) := by decide +kernel
theorem dX8_bring_24 : decode cX8_bring 24 = .ok (.if_icmp .eq 6, 3) := by decide +kernel
theorem dX8_bring_27 : decode cX8_bring 27 = .ok (.bipush (-6), 2) := by decide +kernel
theorem dX8_bring_29 : decode cX8_bring 29 = .ok (.ireturn, 1) := by decide +kernel
theorem dX8_bring_30 : decode cX8_bring 30 = .ok (.aload_n 0, 1) := by decide +kernel
theorem dX8_bring_31 : decode cX8_bring 31 = .ok (.invokevirtual 307, 3) := by decide +kernel
theorem dX8_bring_34 : decode cX8_bring 34 = .ok (.aload_n 0, 1) := by decide +kernel
theorem dX8_bring_35 : decode cX8_bring 35 = .ok (.iload_n 1, 1) := by decide +kernel
theorem dX8_bring_36 : decode cX8_bring 36 = .ok (.iconst 0, 1) := by decide +kernel
theorem dX8_bring_37 : decode cX8_bring 37 = .ok (.bipush (-4), 2) := by decide +kernel
theorem dX8_bring_39 : decode cX8_bring 39 = .ok (.invokevirtual 209, 3) := by decide +kernel
theorem dX8_bring_42 : decode cX8_bring 42 = .ok (.aload_n 0, 1) := by decide +kernel
theorem dX8_bring_43 : decode cX8_bring 43 = .ok (.invokevirtual 310, 3) := by decide +kernel
theorem dX8_bring_46 : decode cX8_bring 46 = .ok (.ireturn, 1) := by decide +kernel
theorem dX8_opens_0 : decode cX8_opens 0 = .ok (.aload_n 0, 1) := by decide +kernel
theorem dX8_opens_1 : decode cX8_opens 1 = .ok (.iload_n 1, 1) := by decide +kernel
theorem dX8_opens_2 : decode cX8_opens 2 = .ok (.iconst 0, 1) := by decide +kernel
theorem dX8_opens_3 : decode cX8_opens 3 = .ok (.iload_n 2, 1) := by decide +kernel
theorem dX8_opens_4 : decode cX8_opens 4 = .ok (.invokevirtual 209, 3) := by decide +kernel
theorem dX8_opens_7 : decode cX8_opens 7 = .ok (.aload_n 0, 1) := by decide +kernel
theorem dX8_opens_8 : decode cX8_opens 8 = .ok (.iload_n 1, 1) := by decide +kernel
theorem dX8_opens_9 : decode cX8_opens 9 = .ok (.iconst 1, 1) := by decide +kernel
theorem dX8_opens_10 : decode cX8_opens 10 = .ok (.iconst 0, 1) := by decide +kernel
theorem dX8_opens_11 : decode cX8_opens 11 = .ok (.invokevirtual 209, 3) := by decide +kernel
theorem dX8_opens_14 : decode cX8_opens 14 = .ok (.return_, 1) := by decide +kernel
theorem dX8_open_0 : decode cX8_open 0 = .ok (.aload_n 0, 1) := by decide +kernel
theorem dX8_open_1 : decode cX8_open 1 = .ok (.iconst 0, 1) := by decide +kernel
theorem dX8_open_2 : decode cX8_open 2 = .ok (.putfield 38, 3) := by decide +kernel
theorem dX8_open_5 : decode cX8_open 5 = .ok (.aload_n 0, 1) := by decide +kernel
theorem dX8_open_6 : decode cX8_open 6 = .ok (.iconst 3, 1) := by decide +kernel
theorem dX8_open_7 : decode cX8_open 7 = .ok (.iload_n 1, 1) := by decide +kernel
theorem dX8_open_8 : decode cX8_open 8 = .ok (.invokevirtual 255, 3) := by decide +kernel
theorem dX8_open_11 : decode cX8_open 11 = .ok (.ifCond .eq 12, 3) := by decide +kernel
theorem dX8_open_14 : decode cX8_open 14 = .ok (.aload_n 0, 1) := by decide +kernel
theorem dX8_open_15 : decode cX8_open 15 = .ok (.iconst 4, 1) := by decide +kernel
theorem dX8_open_16 : decode cX8_open 16 = .ok (.iload_n 2, 1) := by decide +kernel
theorem dX8_open_17 : decode cX8_open 17 = .ok (.invokevirtual 255, 3) := by decide +kernel
theorem dX8_open_20 : decode cX8_open 20 = .ok (.ifCond .ne 5, 3) := by decide +kernel
theorem dX8_open_23 : decode cX8_open 23 = .ok (.iconst (-1), 1) := by decide +kernel
theorem dX8_open_24 : decode cX8_open 24 = .ok (.ireturn, 1) := by decide +kernel
theorem dX8_open_25 : decode cX8_open 25 = .ok (.aload_n 0, 1) := by decide +kernel
theorem dX8_open_26 : decode cX8_open 26 = .ok (.iload_n 1, 1) := by decide +kernel
theorem dX8_open_27 : decode cX8_open 27 = .ok (.iconst 0, 1) := by decide +kernel
theorem dX8_open_28 : decode cX8_open 28 = .ok (.invokevirtual 48, 3) := by decide +kernel
theorem dX8_open_31 : decode cX8_open 31 = .ok (.bipush (-4), 2) := by decide +kernel
theorem dX8_open_33 : decode cX8_open 33 = .ok (.if_icmp .ne 28, 3) := by decide +kernel
theorem dX8_open_36 : decode cX8_open 36 = .ok (.aload_n 0, 1) := by decide +kernel
theorem dX8_open_37 : decode cX8_open 37 = .ok (.iload_n 2, 1) := by decide +kernel
theorem dX8_open_38 : decode cX8_open 38 = .ok (.invokevirtual 268, 3) := by decide +kernel
theorem dX8_open_41 : decode cX8_open 41 = .ok (.iconst (-1), 1) := by decide +kernel
theorem dX8_open_42 : decode cX8_open 42 = .ok (.if_icmp .ne 19, 3) := by decide +kernel
theorem dX8_open_45 : decode cX8_open 45 = .ok (.aload_n 0, 1) := by decide +kernel
theorem dX8_open_46 : decode cX8_open 46 = .ok (.aload_n 0, 1) := by decide +kernel
theorem dX8_open_47 : decode cX8_open 47 = .ok (.getfield 13, 3) := by decide +kernel
theorem dX8_open_50 : decode cX8_open 50 = .ok (.bipush 44, 2) := by decide +kernel
theorem dX8_open_52 : decode cX8_open 52 = .ok (.iload_n 1, 1) := by decide +kernel
theorem dX8_open_53 : decode cX8_open 53 = .ok (.iadd, 1) := by decide +kernel
theorem dX8_open_54 : decode cX8_open 54 = .ok (.iaload, 1) := by decide +kernel
theorem dX8_open_55 : decode cX8_open 55 = .ok (.invokevirtual 109, 3) := by decide +kernel
theorem dX8_open_58 : decode cX8_open 58 = .ok (.ifCond .eq 6, 3) := by decide +kernel
theorem dX8_open_61 : decode cX8_open 61 = .ok (.bipush (-6), 2) := by decide +kernel
theorem dX8_open_63 : decode cX8_open 63 = .ok (.ireturn, 1) := by decide +kernel
theorem dX8_open_64 : decode cX8_open 64 = .ok (.aload_n 0, 1) := by decide +kernel
theorem dX8_open_65 : decode cX8_open 65 = .ok (.iload_n 1, 1) := by decide +kernel
theorem dX8_open_66 : decode cX8_open 66 = .ok (.invokevirtual 265, 3) := by decide +kernel
theorem dX8_open_69 : decode cX8_open 69 = .ok (.ifCond .ne 6, 3) := by decide +kernel
theorem dX8_open_72 : decode cX8_open 72 = .ok (.bipush (-7), 2) := by decide +kernel
theorem dX8_open_74 : decode cX8_open 74 = .ok (.ireturn, 1) := by decide +kernel
theorem dX8_open_75 : decode cX8_open 75 = .ok (.aload_n 0, 1) := by decide +kernel
theorem dX8_open_76 : decode cX8_open 76 = .ok (.invokevirtual 307, 3) := by decide +kernel
theorem dX8_open_79 : decode cX8_open 79 = .ok (.aload_n 0, 1) := by decide +kernel
theorem dX8_open_80 : decode cX8_open 80 = .ok (.iload_n 1, 1) := by decide +kernel
theorem dX8_open_81 : decode cX8_open 81 = .ok (.iconst 1, 1) := by decide +kernel
theorem dX8_open_82 : decode cX8_open 82 = .ok (.invokevirtual 48, 3) := by decide +kernel
theorem dX8_open_85 : decode cX8_open 85 = .ok (.istore_n 3, 1) := by decide +kernel
theorem dX8_open_86 : decode cX8_open 86 = .ok (.aload_n 0, 1) := by decide +kernel
theorem dX8_open_87 : decode cX8_open 87 = .ok (.iload_n 1, 1) := by decide +kernel
theorem dX8_open_88 : decode cX8_open 88 = .ok (.iload_n 2, 1) := by decide +kernel
theorem dX8_open_89 : decode cX8_open 89 = .ok (.invokevirtual 313, 3) := by decide +kernel
theorem dX8_open_92 : decode cX8_open 92 = .ok (.iload_n 3, 1) := by decide +kernel
theorem dX8_open_93 : decode cX8_open 93 = .ok (.ireturn, 1) := by decide +kernel
theorem dX8_counts_0 : decode cX8_counts 0 = .ok (.aload_n 0, 1) := by decide +kernel
theorem dX8_counts_1 : decode cX8_counts 1 = .ok (.iload_n 1, 1) := by decide +kernel
theorem dX8_counts_2 : decode cX8_counts 2 = .ok (.iconst 3, 1) := by decide +kernel
theorem dX8_counts_3 : decode cX8_counts 3 = .ok (.invokevirtual 48, 3) := by decide +kernel
theorem dX8_counts_6 : decode cX8_counts 6 = .ok (.istore_n 3, 1) := by decide +kernel
theorem dX8_counts_7 : decode cX8_counts 7 = .ok (.aload_n 0, 1) := by decide +kernel
theorem dX8_counts_8 : decode cX8_counts 8 = .ok (.iload_n 1, 1) := by decide +kernel
theorem dX8_counts_9 : decode cX8_counts 9 = .ok (.bipush 16, 2) := by decide +kernel
theorem dX8_counts_11 : decode cX8_counts 11 = .ok (.iload_n 3, 1) := by decide +kernel
theorem dX8_counts_12 : decode cX8_counts 12 = .ok (.iadd, 1) := by decide +kernel
theorem dX8_counts_13 : decode cX8_counts 13 = .ok (.iload_n 2, 1) := by decide +kernel
theorem dX8_counts_14 : decode cX8_counts 14 = .ok (.invokevirtual 209, 3) := by decide +kernel
theorem dX8_counts_17 : decode cX8_counts 17 = .ok (.iconst 0, 1) := by decide +kernel
theorem dX8_counts_18 : decode cX8_counts 18 = .ok (.istore 4, 2) := by decide +kernel
theorem dX8_counts_20 : decode cX8_counts 20 = .ok (.iload 4, 2) := by decide +kernel
theorem dX8_counts_22 : decode cX8_counts 22 = .ok (.aload_n 0, 1) := by decide +kernel
theorem dX8_counts_23 : decode cX8_counts 23 = .ok (.invokevirtual 59, 3) := by decide +kernel
theorem dX8_counts_26 : decode cX8_counts 26 = .ok (.if_icmp .ge 32, 3) := by decide +kernel
theorem dX8_counts_29 : decode cX8_counts 29 = .ok (.aload_n 0, 1) := by decide +kernel
theorem dX8_counts_30 : decode cX8_counts 30 = .ok (.iload_n 1, 1) := by decide +kernel
theorem dX8_counts_31 : decode cX8_counts 31 = .ok (.bipush 20, 2) := by decide +kernel
theorem dX8_counts_33 : decode cX8_counts 33 = .ok (.bipush 6, 2) := by decide +kernel
theorem dX8_counts_35 : decode cX8_counts 35 = .ok (.iload_n 3, 1) := by decide +kernel
theorem dX8_counts_36 : decode cX8_counts 36 = .ok (.imul, 1) := by decide +kernel
theorem dX8_counts_37 : decode cX8_counts 37 = .ok (.iadd, 1) := by decide +kernel
theorem dX8_counts_38 : decode cX8_counts 38 = .ok (.iload 4, 2) := by decide +kernel
theorem dX8_counts_40 : decode cX8_counts 40 = .ok (.iadd, 1) := by decide +kernel
theorem dX8_counts_41 : decode cX8_counts 41 = .ok (.aload_n 0, 1) := by decide +kernel
theorem dX8_counts_42 : decode cX8_counts 42 = .ok (.iload_n 2, 1) := by decide +kernel
theorem dX8_counts_43 : decode cX8_counts 43 = .ok (.iload_n 1, 1) := by decide +kernel
theorem dX8_counts_44 : decode cX8_counts 44 = .ok (.iload 4, 2) := by decide +kernel
theorem dX8_counts_46 : decode cX8_counts 46 = .ok (.invokevirtual 274, 3) := by decide +kernel
theorem dX8_counts_49 : decode cX8_counts 49 = .ok (.invokevirtual 209, 3) := by decide +kernel
theorem dX8_counts_52 : decode cX8_counts 52 = .ok (.iinc 4 1, 3) := by decide +kernel
theorem dX8_counts_55 : decode cX8_counts 55 = .ok (.goto (-35), 3) := by decide +kernel
theorem dX8_counts_58 : decode cX8_counts 58 = .ok (.aload_n 0, 1) := by decide +kernel
theorem dX8_counts_59 : decode cX8_counts 59 = .ok (.iload_n 1, 1) := by decide +kernel
theorem dX8_counts_60 : decode cX8_counts 60 = .ok (.iconst 3, 1) := by decide +kernel
theorem dX8_counts_61 : decode cX8_counts 61 = .ok (.iload_n 3, 1) := by decide +kernel
theorem dX8_counts_62 : decode cX8_counts 62 = .ok (.iconst 1, 1) := by decide +kernel
theorem dX8_counts_63 : decode cX8_counts 63 = .ok (.iadd, 1) := by decide +kernel
theorem dX8_counts_64 : decode cX8_counts 64 = .ok (.invokevirtual 209, 3) := by decide +kernel
theorem dX8_counts_67 : decode cX8_counts 67 = .ok (.return_, 1) := by decide +kernel
theorem dX8_countBox_0 : decode cX8_countBox 0 = .ok (.aload_n 0, 1) := by decide +kernel
theorem dX8_countBox_1 : decode cX8_countBox 1 = .ok (.iconst 0, 1) := by decide +kernel
theorem dX8_countBox_2 : decode cX8_countBox 2 = .ok (.putfield 38, 3) := by decide +kernel
theorem dX8_countBox_5 : decode cX8_countBox 5 = .ok (.aload_n 0, 1) := by decide +kernel
theorem dX8_countBox_6 : decode cX8_countBox 6 = .ok (.iconst 4, 1) := by decide +kernel
theorem dX8_countBox_7 : decode cX8_countBox 7 = .ok (.iload_n 1, 1) := by decide +kernel
theorem dX8_countBox_8 : decode cX8_countBox 8 = .ok (.invokevirtual 255, 3) := by decide +kernel
theorem dX8_countBox_11 : decode cX8_countBox 11 = .ok (.ifCond .ne 5, 3) := by decide +kernel
theorem dX8_countBox_14 : decode cX8_countBox 14 = .ok (.iconst (-1), 1) := by decide +kernel
theorem dX8_countBox_15 : decode cX8_countBox 15 = .ok (.ireturn, 1) := by decide +kernel
theorem dX8_countBox_16 : decode cX8_countBox 16 = .ok (.aload_n 0, 1) := by decide +kernel
theorem dX8_countBox_17 : decode cX8_countBox 17 = .ok (.iload_n 1, 1) := by decide +kernel
theorem dX8_countBox_18 : decode cX8_countBox 18 = .ok (.invokevirtual 268, 3) := by decide +kernel
theorem dX8_countBox_21 : decode cX8_countBox 21 = .ok (.istore_n 2, 1) := by decide +kernel
theorem dX8_countBox_22 : decode cX8_countBox 22 = .ok (.iload_n 2, 1) := by decide +kernel
theorem dX8_countBox_23 : decode cX8_countBox 23 = .ok (.iconst (-1), 1) := by decide +kernel
theorem dX8_countBox_24 : decode cX8_countBox 24 = .ok (.if_icmp .ne 6, 3) := by decide +kernel
theorem dX8_countBox_27 : decode cX8_countBox 27 = .ok (.bipush (-6), 2) := by decide +kernel
theorem dX8_countBox_29 : decode cX8_countBox 29 = .ok (.ireturn, 1) := by decide +kernel
theorem dX8_countBox_30 : decode cX8_countBox 30 = .ok (.aload_n 0, 1) := by decide +kernel
theorem dX8_countBox_31 : decode cX8_countBox 31 = .ok (.iload_n 2, 1) := by decide +kernel
theorem dX8_countBox_32 : decode cX8_countBox 32 = .ok (.iconst 3, 1) := by decide +kernel
theorem dX8_countBox_33 : decode cX8_countBox 33 = .ok (.invokevirtual 48, 3) := by decide +kernel
theorem dX8_countBox_36 : decode cX8_countBox 36 = .ok (.iconst 4, 1) := by decide +kernel
theorem dX8_countBox_37 : decode cX8_countBox 37 = .ok (.if_icmp .ne 6, 3) := by decide +kernel
theorem dX8_countBox_40 : decode cX8_countBox 40 = .ok (.bipush (-5), 2) := by decide +kernel
theorem dX8_countBox_42 : decode cX8_countBox 42 = .ok (.ireturn, 1) := by decide +kernel
theorem dX8_countBox_43 : decode cX8_countBox 43 = .ok (.aload_n 0, 1) := by decide +kernel
theorem dX8_countBox_44 : decode cX8_countBox 44 = .ok (.invokevirtual 307, 3) := by decide +kernel
theorem dX8_countBox_47 : decode cX8_countBox 47 = .ok (.aload_n 0, 1) := by decide +kernel
theorem dX8_countBox_48 : decode cX8_countBox 48 = .ok (.iload_n 2, 1) := by decide +kernel
theorem dX8_countBox_49 : decode cX8_countBox 49 = .ok (.iload_n 1, 1) := by decide +kernel
theorem dX8_countBox_50 : decode cX8_countBox 50 = .ok (.invokevirtual 317, 3) := by decide +kernel
theorem dX8_countBox_53 : decode cX8_countBox 53 = .ok (.aload_n 0, 1) := by decide +kernel
theorem dX8_countBox_54 : decode cX8_countBox 54 = .ok (.iload_n 2, 1) := by decide +kernel
theorem dX8_countBox_55 : decode cX8_countBox 55 = .ok (.iconst 3, 1) := by decide +kernel
theorem dX8_countBox_56 : decode cX8_countBox 56 = .ok (.invokevirtual 48, 3) := by decide +kernel
theorem dX8_countBox_59 : decode cX8_countBox 59 = .ok (.ireturn, 1) := by decide +kernel
theorem dX8_enters_0 : decode cX8_enters 0 = .ok (.aload_n 0, 1) := by decide +kernel
theorem dX8_enters_1 : decode cX8_enters 1 = .ok (.iload_n 1, 1) := by decide +kernel
theorem dX8_enters_2 : decode cX8_enters 2 = .ok (.iconst 4, 1) := by decide +kernel
theorem dX8_enters_3 : decode cX8_enters 3 = .ok (.aload_n 0, 1) := by decide +kernel
theorem dX8_enters_4 : decode cX8_enters 4 = .ok (.iload_n 1, 1) := by decide +kernel
theorem dX8_enters_5 : decode cX8_enters 5 = .ok (.iconst 2, 1) := by decide +kernel
theorem dX8_enters_6 : decode cX8_enters 6 = .ok (.invokevirtual 48, 3) := by decide +kernel
theorem dX8_enters_9 : decode cX8_enters 9 = .ok (.iadd, 1) := by decide +kernel
theorem dX8_enters_10 : decode cX8_enters 10 = .ok (.iload_n 2, 1) := by decide +kernel
theorem dX8_enters_11 : decode cX8_enters 11 = .ok (.invokevirtual 209, 3) := by decide +kernel
theorem dX8_enters_14 : decode cX8_enters 14 = .ok (.aload_n 0, 1) := by decide +kernel
theorem dX8_enters_15 : decode cX8_enters 15 = .ok (.iload_n 1, 1) := by decide +kernel
theorem dX8_enters_16 : decode cX8_enters 16 = .ok (.iconst 2, 1) := by decide +kernel
theorem dX8_enters_17 : decode cX8_enters 17 = .ok (.aload_n 0, 1) := by decide +kernel
theorem dX8_enters_18 : decode cX8_enters 18 = .ok (.iload_n 1, 1) := by decide +kernel
theorem dX8_enters_19 : decode cX8_enters 19 = .ok (.iconst 2, 1) := by decide +kernel
theorem dX8_enters_20 : decode cX8_enters 20 = .ok (.invokevirtual 48, 3) := by decide +kernel
theorem dX8_enters_23 : decode cX8_enters 23 = .ok (.iconst 1, 1) := by decide +kernel
theorem dX8_enters_24 : decode cX8_enters 24 = .ok (.iadd, 1) := by decide +kernel
theorem dX8_enters_25 : decode cX8_enters 25 = .ok (.invokevirtual 209, 3) := by decide +kernel
theorem dX8_enters_28 : decode cX8_enters 28 = .ok (.return_, 1) := by decide +kernel
theorem dX8_seals_0 : decode cX8_seals 0 = .ok (.aload_n 0, 1) := by decide +kernel
theorem dX8_seals_1 : decode cX8_seals 1 = .ok (.iload_n 1, 1) := by decide +kernel
theorem dX8_seals_2 : decode cX8_seals 2 = .ok (.aload_n 0, 1) := by decide +kernel
theorem dX8_seals_3 : decode cX8_seals 3 = .ok (.getfield 19, 3) := by decide +kernel
theorem dX8_seals_6 : decode cX8_seals 6 = .ok (.iconst 2, 1) := by decide +kernel
theorem dX8_seals_7 : decode cX8_seals 7 = .ok (.iaload, 1) := by decide +kernel
theorem dX8_seals_8 : decode cX8_seals 8 = .ok (.invokevirtual 320, 3) := by decide +kernel
theorem dX8_seals_11 : decode cX8_seals 11 = .ok (.aload_n 0, 1) := by decide +kernel
theorem dX8_seals_12 : decode cX8_seals 12 = .ok (.iload_n 1, 1) := by decide +kernel
theorem dX8_seals_13 : decode cX8_seals 13 = .ok (.iconst 1, 1) := by decide +kernel
theorem dX8_seals_14 : decode cX8_seals 14 = .ok (.aload_n 0, 1) := by decide +kernel
theorem dX8_seals_15 : decode cX8_seals 15 = .ok (.getfield 19, 3) := by decide +kernel
theorem dX8_seals_18 : decode cX8_seals 18 = .ok (.iconst 2, 1) := by decide +kernel
theorem dX8_seals_19 : decode cX8_seals 19 = .ok (.iaload, 1) := by decide +kernel
theorem dX8_seals_20 : decode cX8_seals 20 = .ok (.invokevirtual 209, 3) := by decide +kernel
theorem dX8_seals_23 : decode cX8_seals 23 = .ok (.aload_n 0, 1) := by decide +kernel
theorem dX8_seals_24 : decode cX8_seals 24 = .ok (.iload_n 1, 1) := by decide +kernel
theorem dX8_seals_25 : decode cX8_seals 25 = .ok (.iconst 0, 1) := by decide +kernel
theorem dX8_seals_26 : decode cX8_seals 26 = .ok (.bipush (-4), 2) := by decide +kernel
theorem dX8_seals_28 : decode cX8_seals 28 = .ok (.invokevirtual 209, 3) := by decide +kernel
theorem dX8_seals_31 : decode cX8_seals 31 = .ok (.aload_n 0, 1) := by decide +kernel
theorem dX8_seals_32 : decode cX8_seals 32 = .ok (.getfield 19, 3) := by decide +kernel
theorem dX8_seals_35 : decode cX8_seals 35 = .ok (.iconst 2, 1) := by decide +kernel
theorem dX8_seals_36 : decode cX8_seals 36 = .ok (.dup2, 1) := by decide +kernel
theorem dX8_seals_37 : decode cX8_seals 37 = .ok (.iaload, 1) := by decide +kernel
theorem dX8_seals_38 : decode cX8_seals 38 = .ok (.iconst 1, 1) := by decide +kernel
theorem dX8_seals_39 : decode cX8_seals 39 = .ok (.iadd, 1) := by decide +kernel
theorem dX8_seals_40 : decode cX8_seals 40 = .ok (.iastore, 1) := by decide +kernel
theorem dX8_seals_41 : decode cX8_seals 41 = .ok (.return_, 1) := by decide +kernel
theorem dX8_seal_0 : decode cX8_seal 0 = .ok (.aload_n 0, 1) := by decide +kernel
theorem dX8_seal_1 : decode cX8_seal 1 = .ok (.iconst 0, 1) := by decide +kernel
theorem dX8_seal_2 : decode cX8_seal 2 = .ok (.putfield 38, 3) := by decide +kernel
theorem dX8_seal_5 : decode cX8_seal 5 = .ok (.aload_n 0, 1) := by decide +kernel
theorem dX8_seal_6 : decode cX8_seal 6 = .ok (.iconst 4, 1) := by decide +kernel
theorem dX8_seal_7 : decode cX8_seal 7 = .ok (.iload_n 1, 1) := by decide +kernel
theorem dX8_seal_8 : decode cX8_seal 8 = .ok (.invokevirtual 255, 3) := by decide +kernel
theorem dX8_seal_11 : decode cX8_seal 11 = .ok (.ifCond .ne 5, 3) := by decide +kernel
theorem dX8_seal_14 : decode cX8_seal 14 = .ok (.iconst (-1), 1) := by decide +kernel
theorem dX8_seal_15 : decode cX8_seal 15 = .ok (.ireturn, 1) := by decide +kernel
theorem dX8_seal_16 : decode cX8_seal 16 = .ok (.aload_n 0, 1) := by decide +kernel
theorem dX8_seal_17 : decode cX8_seal 17 = .ok (.iload_n 1, 1) := by decide +kernel
theorem dX8_seal_18 : decode cX8_seal 18 = .ok (.invokevirtual 268, 3) := by decide +kernel
theorem dX8_seal_21 : decode cX8_seal 21 = .ok (.istore_n 2, 1) := by decide +kernel
theorem dX8_seal_22 : decode cX8_seal 22 = .ok (.iload_n 2, 1) := by decide +kernel
theorem dX8_seal_23 : decode cX8_seal 23 = .ok (.iconst (-1), 1) := by decide +kernel
theorem dX8_seal_24 : decode cX8_seal 24 = .ok (.if_icmp .ne 6, 3) := by decide +kernel
theorem dX8_seal_27 : decode cX8_seal 27 = .ok (.bipush (-6), 2) := by decide +kernel
theorem dX8_seal_29 : decode cX8_seal 29 = .ok (.ireturn, 1) := by decide +kernel
theorem dX8_seal_30 : decode cX8_seal 30 = .ok (.aload_n 0, 1) := by decide +kernel
theorem dX8_seal_31 : decode cX8_seal 31 = .ok (.iload_n 2, 1) := by decide +kernel
theorem dX8_seal_32 : decode cX8_seal 32 = .ok (.iconst 2, 1) := by decide +kernel
theorem dX8_seal_33 : decode cX8_seal 33 = .ok (.invokevirtual 48, 3) := by decide +kernel
theorem dX8_seal_36 : decode cX8_seal 36 = .ok (.bipush 12, 2) := by decide +kernel
theorem dX8_seal_38 : decode cX8_seal 38 = .ok (.if_icmp .ne 6, 3) := by decide +kernel
theorem dX8_seal_41 : decode cX8_seal 41 = .ok (.bipush (-5), 2) := by decide +kernel
theorem dX8_seal_43 : decode cX8_seal 43 = .ok (.ireturn, 1) := by decide +kernel
theorem dX8_seal_44 : decode cX8_seal 44 = .ok (.aload_n 0, 1) := by decide +kernel
theorem dX8_seal_45 : decode cX8_seal 45 = .ok (.invokevirtual 307, 3) := by decide +kernel
theorem dX8_seal_48 : decode cX8_seal 48 = .ok (.aload_n 0, 1) := by decide +kernel
theorem dX8_seal_49 : decode cX8_seal 49 = .ok (.iload_n 2, 1) := by decide +kernel
theorem dX8_seal_50 : decode cX8_seal 50 = .ok (.invokevirtual 323, 3) := by decide +kernel
theorem dX8_seal_53 : decode cX8_seal 53 = .ok (.aload_n 0, 1) := by decide +kernel
theorem dX8_seal_54 : decode cX8_seal 54 = .ok (.iload_n 2, 1) := by decide +kernel
theorem dX8_seal_55 : decode cX8_seal 55 = .ok (.iconst 1, 1) := by decide +kernel
theorem dX8_seal_56 : decode cX8_seal 56 = .ok (.invokevirtual 48, 3) := by decide +kernel
theorem dX8_seal_59 : decode cX8_seal 59 = .ok (.ireturn, 1) := by decide +kernel
theorem dX8_tamper_0 : decode cX8_tamper 0 = .ok (.aload_n 0, 1) := by decide +kernel
theorem dX8_tamper_1 : decode cX8_tamper 1 = .ok (.iconst 0, 1) := by decide +kernel
theorem dX8_tamper_2 : decode cX8_tamper 2 = .ok (.putfield 38, 3) := by decide +kernel
theorem dX8_tamper_5 : decode cX8_tamper 5 = .ok (.aload_n 0, 1) := by decide +kernel
theorem dX8_tamper_6 : decode cX8_tamper 6 = .ok (.iconst 3, 1) := by decide +kernel
theorem dX8_tamper_7 : decode cX8_tamper 7 = .ok (.iload_n 1, 1) := by decide +kernel
theorem dX8_tamper_8 : decode cX8_tamper 8 = .ok (.invokevirtual 255, 3) := by decide +kernel
theorem dX8_tamper_11 : decode cX8_tamper 11 = .ok (.ifCond .ne 5, 3) := by decide +kernel
theorem dX8_tamper_14 : decode cX8_tamper 14 = .ok (.iconst (-1), 1) := by decide +kernel
theorem dX8_tamper_15 : decode cX8_tamper 15 = .ok (.ireturn, 1) := by decide +kernel
theorem dX8_tamper_16 : decode cX8_tamper 16 = .ok (.iload_n 2, 1) := by decide +kernel
theorem dX8_tamper_17 : decode cX8_tamper 17 = .ok (.iconst 1, 1) := by decide +kernel
theorem dX8_tamper_18 : decode cX8_tamper 18 = .ok (.if_icmp .lt 10, 3) := by decide +kernel
theorem dX8_tamper_21 : decode cX8_tamper 21 = .ok (.iload_n 2, 1) := by decide +kernel
theorem dX8_tamper_22 : decode cX8_tamper 22 = .ok (.sipush 9999, 3) := by decide +kernel
theorem dX8_tamper_25 : decode cX8_tamper 25 = .ok (.if_icmp .le 6, 3) := by decide +kernel
theorem dX8_tamper_28 : decode cX8_tamper 28 = .ok (.bipush (-2), 2) := by decide +kernel
theorem dX8_tamper_30 : decode cX8_tamper 30 = .ok (.ireturn, 1) := by decide +kernel
theorem dX8_tamper_31 : decode cX8_tamper 31 = .ok (.aload_n 0, 1) := by decide +kernel
theorem dX8_tamper_32 : decode cX8_tamper 32 = .ok (.iload_n 1, 1) := by decide +kernel
theorem dX8_tamper_33 : decode cX8_tamper 33 = .ok (.invokevirtual 52, 3) := by decide +kernel
theorem dX8_tamper_36 : decode cX8_tamper 36 = .ok (.ifCond .eq 6, 3) := by decide +kernel
theorem dX8_tamper_39 : decode cX8_tamper 39 = .ok (.bipush (-6), 2) := by decide +kernel
theorem dX8_tamper_41 : decode cX8_tamper 41 = .ok (.ireturn, 1) := by decide +kernel
theorem dX8_tamper_42 : decode cX8_tamper 42 = .ok (.aload_n 0, 1) := by decide +kernel
theorem dX8_tamper_43 : decode cX8_tamper 43 = .ok (.invokevirtual 307, 3) := by decide +kernel
theorem dX8_tamper_46 : decode cX8_tamper 46 = .ok (.aload_n 0, 1) := by decide +kernel
theorem dX8_tamper_47 : decode cX8_tamper 47 = .ok (.iload_n 1, 1) := by decide +kernel
theorem dX8_tamper_48 : decode cX8_tamper 48 = .ok (.iconst 1, 1) := by decide +kernel
theorem dX8_tamper_49 : decode cX8_tamper 49 = .ok (.invokevirtual 48, 3) := by decide +kernel
theorem dX8_tamper_52 : decode cX8_tamper 52 = .ok (.istore_n 3, 1) := by decide +kernel
theorem dX8_tamper_53 : decode cX8_tamper 53 = .ok (.aload_n 0, 1) := by decide +kernel
theorem dX8_tamper_54 : decode cX8_tamper 54 = .ok (.iload_n 1, 1) := by decide +kernel
theorem dX8_tamper_55 : decode cX8_tamper 55 = .ok (.iconst 1, 1) := by decide +kernel
theorem dX8_tamper_56 : decode cX8_tamper 56 = .ok (.iload_n 2, 1) := by decide +kernel
theorem dX8_tamper_57 : decode cX8_tamper 57 = .ok (.invokevirtual 209, 3) := by decide +kernel
theorem dX8_tamper_60 : decode cX8_tamper 60 = .ok (.iload_n 3, 1) := by decide +kernel
theorem dX8_tamper_61 : decode cX8_tamper 61 = .ok (.ireturn, 1) := by decide +kernel
theorem dX8_accept_0 : decode cX8_accept 0 = .ok (.aload_n 0, 1) := by decide +kernel
theorem dX8_accept_1 : decode cX8_accept 1 = .ok (.iconst 0, 1) := by decide +kernel
theorem dX8_accept_2 : decode cX8_accept 2 = .ok (.putfield 38, 3) := by decide +kernel
theorem dX8_accept_5 : decode cX8_accept 5 = .ok (.aload_n 0, 1) := by decide +kernel
theorem dX8_accept_6 : decode cX8_accept 6 = .ok (.iconst 3, 1) := by decide +kernel
theorem dX8_accept_7 : decode cX8_accept 7 = .ok (.iload_n 1, 1) := by decide +kernel
theorem dX8_accept_8 : decode cX8_accept 8 = .ok (.invokevirtual 255, 3) := by decide +kernel
theorem dX8_accept_11 : decode cX8_accept 11 = .ok (.ifCond .ne 5, 3) := by decide +kernel
theorem dX8_accept_14 : decode cX8_accept 14 = .ok (.iconst (-1), 1) := by decide +kernel
theorem dX8_accept_15 : decode cX8_accept 15 = .ok (.ireturn, 1) := by decide +kernel
theorem dX8_accept_16 : decode cX8_accept 16 = .ok (.aload_n 0, 1) := by decide +kernel
theorem dX8_accept_17 : decode cX8_accept 17 = .ok (.iload_n 1, 1) := by decide +kernel
theorem dX8_accept_18 : decode cX8_accept 18 = .ok (.invokevirtual 52, 3) := by decide +kernel
theorem dX8_accept_21 : decode cX8_accept 21 = .ok (.ifCond .ne 11, 3) := by decide +kernel
theorem dX8_accept_24 : decode cX8_accept 24 = .ok (.aload_n 0, 1) := by decide +kernel
theorem dX8_accept_25 : decode cX8_accept 25 = .ok (.iload_n 1, 1) := by decide +kernel
theorem dX8_accept_26 : decode cX8_accept 26 = .ok (.invokevirtual 265, 3) := by decide +kernel
theorem dX8_accept_29 : decode cX8_accept 29 = .ok (.ifCond .eq 6, 3) := by decide +kernel
theorem dX8_accept_32 : decode cX8_accept 32 = .ok (.bipush (-6), 2) := by decide +kernel
theorem dX8_accept_34 : decode cX8_accept 34 = .ok (.ireturn, 1) := by decide +kernel
theorem dX8_accept_35 : decode cX8_accept 35 = .ok (.aload_n 0, 1) := by decide +kernel
theorem dX8_accept_36 : decode cX8_accept 36 = .ok (.iload_n 1, 1) := by decide +kernel
theorem dX8_accept_37 : decode cX8_accept 37 = .ok (.iconst 2, 1) := by decide +kernel
theorem dX8_accept_38 : decode cX8_accept 38 = .ok (.invokevirtual 48, 3) := by decide +kernel
theorem dX8_accept_41 : decode cX8_accept 41 = .ok (.bipush 12, 2) := by decide +kernel
theorem dX8_accept_43 : decode cX8_accept 43 = .ok (.if_icmp .ne 6, 3) := by decide +kernel
theorem dX8_accept_46 : decode cX8_accept 46 = .ok (.bipush (-5), 2) := by decide +kernel
theorem dX8_accept_48 : decode cX8_accept 48 = .ok (.ireturn, 1) := by decide +kernel
theorem dX8_accept_49 : decode cX8_accept 49 = .ok (.aload_n 0, 1) := by decide +kernel
theorem dX8_accept_50 : decode cX8_accept 50 = .ok (.invokevirtual 307, 3) := by decide +kernel
theorem dX8_accept_53 : decode cX8_accept 53 = .ok (.aload_n 0, 1) := by decide +kernel
theorem dX8_accept_54 : decode cX8_accept 54 = .ok (.iload_n 1, 1) := by decide +kernel
theorem dX8_accept_55 : decode cX8_accept 55 = .ok (.aload_n 0, 1) := by decide +kernel
theorem dX8_accept_56 : decode cX8_accept 56 = .ok (.iload_n 1, 1) := by decide +kernel
theorem dX8_accept_57 : decode cX8_accept 57 = .ok (.iconst 1, 1) := by decide +kernel
theorem dX8_accept_58 : decode cX8_accept 58 = .ok (.invokevirtual 48, 3) := by decide +kernel
theorem dX8_accept_61 : decode cX8_accept 61 = .ok (.invokevirtual 320, 3) := by decide +kernel
theorem dX8_accept_64 : decode cX8_accept 64 = .ok (.aload_n 0, 1) := by decide +kernel
theorem dX8_accept_65 : decode cX8_accept 65 = .ok (.iload_n 1, 1) := by decide +kernel
theorem dX8_accept_66 : decode cX8_accept 66 = .ok (.iconst 2, 1) := by decide +kernel
theorem dX8_accept_67 : decode cX8_accept 67 = .ok (.invokevirtual 48, 3) := by decide +kernel
theorem dX8_accept_70 : decode cX8_accept 70 = .ok (.ireturn, 1) := by decide +kernel
theorem dX8_declare_0 : decode cX8_declare 0 = .ok (.aload_n 0, 1) := by decide +kernel
theorem dX8_declare_1 : decode cX8_declare 1 = .ok (.iconst 0, 1) := by decide +kernel
theorem dX8_declare_2 : decode cX8_declare 2 = .ok (.putfield 38, 3) := by decide +kernel
theorem dX8_declare_5 : decode cX8_declare 5 = .ok (.aload_n 0, 1) := by decide +kernel
theorem dX8_declare_6 : decode cX8_declare 6 = .ok (.invokevirtual 292, 3) := by decide +kernel
theorem dX8_declare_9 : decode cX8_declare 9 = .ok (.istore_n 1, 1) := by decide +kernel
theorem dX8_declare_10 : decode cX8_declare 10 = .ok (.iload_n 1, 1) := by decide +kernel
theorem dX8_declare_11 : decode cX8_declare 11 = .ok (.iconst (-1), 1) := by decide +kernel
theorem dX8_declare_12 : decode cX8_declare 12 = .ok (.if_icmp .ne 5, 3) := by decide +kernel
theorem dX8_declare_15 : decode cX8_declare 15 = .ok (.iconst (-1), 1) := by decide +kernel
theorem dX8_declare_16 : decode cX8_declare 16 = .ok (.ireturn, 1) := by decide +kernel
theorem dX8_declare_17 : decode cX8_declare 17 = .ok (.aload_n 0, 1) := by decide +kernel
theorem dX8_declare_18 : decode cX8_declare 18 = .ok (.invokevirtual 307, 3) := by decide +kernel
theorem dX8_declare_21 : decode cX8_declare 21 = .ok (.aload_n 0, 1) := by decide +kernel
theorem dX8_declare_22 : decode cX8_declare 22 = .ok (.getfield 19, 3) := by decide +kernel
theorem dX8_declare_25 : decode cX8_declare 25 = .ok (.iconst 3, 1) := by decide +kernel
theorem dX8_declare_26 : decode cX8_declare 26 = .ok (.aload_n 0, 1) := by decide +kernel
theorem dX8_declare_27 : decode cX8_declare 27 = .ok (.getfield 19, 3) := by decide +kernel
theorem dX8_declare_30 : decode cX8_declare 30 = .ok (.bipush 9, 2) := by decide +kernel
theorem dX8_declare_32 : decode cX8_declare 32 = .ok (.iaload, 1) := by decide +kernel
theorem dX8_declare_33 : decode cX8_declare 33 = .ok (.iadd, 1) := by decide +kernel
theorem dX8_declare_34 : decode cX8_declare 34 = .ok (.iload_n 1, 1) := by decide +kernel
theorem dX8_declare_35 : decode cX8_declare 35 = .ok (.iastore, 1) := by decide +kernel
theorem dX8_declare_36 : decode cX8_declare 36 = .ok (.aload_n 0, 1) := by decide +kernel
theorem dX8_declare_37 : decode cX8_declare 37 = .ok (.getfield 19, 3) := by decide +kernel
theorem dX8_declare_40 : decode cX8_declare 40 = .ok (.bipush 9, 2) := by decide +kernel
theorem dX8_declare_42 : decode cX8_declare 42 = .ok (.dup2, 1) := by decide +kernel
theorem dX8_declare_43 : decode cX8_declare 43 = .ok (.iaload, 1) := by decide +kernel
theorem dX8_declare_44 : decode cX8_declare 44 = .ok (.iconst 1, 1) := by decide +kernel
theorem dX8_declare_45 : decode cX8_declare 45 = .ok (.iadd, 1) := by decide +kernel
theorem dX8_declare_46 : decode cX8_declare 46 = .ok (.iastore, 1) := by decide +kernel
theorem dX8_declare_47 : decode cX8_declare 47 = .ok (.iload_n 1, 1) := by decide +kernel
theorem dX8_declare_48 : decode cX8_declare 48 = .ok (.ireturn, 1) := by decide +kernel
theorem dX8_wasCountedAt_0 : decode cX8_wasCountedAt 0 = .ok (.iconst 0, 1) := by decide +kernel
theorem dX8_wasCountedAt_1 : decode cX8_wasCountedAt 1 = .ok (.istore_n 3, 1) := by decide +kernel
theorem dX8_wasCountedAt_2 : decode cX8_wasCountedAt 2 = .ok (.iload_n 3, 1) := by decide +kernel
theorem dX8_wasCountedAt_3 : decode cX8_wasCountedAt 3 = .ok (.aload_n 0, 1) := by decide +kernel
theorem dX8_wasCountedAt_4 : decode cX8_wasCountedAt 4 = .ok (.iload_n 1, 1) := by decide +kernel
theorem dX8_wasCountedAt_5 : decode cX8_wasCountedAt 5 = .ok (.iconst 3, 1) := by decide +kernel
theorem dX8_wasCountedAt_6 : decode cX8_wasCountedAt 6 = .ok (.invokevirtual 48, 3) := by decide +kernel
theorem dX8_wasCountedAt_9 : decode cX8_wasCountedAt 9 = .ok (.if_icmp .ge 24, 3) := by decide +kernel
theorem dX8_wasCountedAt_12 : decode cX8_wasCountedAt 12 = .ok (.aload_n 0, 1) := by decide +kernel
theorem dX8_wasCountedAt_13 : decode cX8_wasCountedAt 13 = .ok (.iload_n 1, 1) := by decide +kernel
theorem dX8_wasCountedAt_14 : decode cX8_wasCountedAt 14 = .ok (.bipush 16, 2) := by decide +kernel
theorem dX8_wasCountedAt_16 : decode cX8_wasCountedAt 16 = .ok (.iload_n 3, 1) := by decide +kernel
theorem dX8_wasCountedAt_17 : decode cX8_wasCountedAt 17 = .ok (.iadd, 1) := by decide +kernel
theorem dX8_wasCountedAt_18 : decode cX8_wasCountedAt 18 = .ok (.invokevirtual 48, 3) := by decide +kernel
theorem dX8_wasCountedAt_21 : decode cX8_wasCountedAt 21 = .ok (.iload_n 2, 1) := by decide +kernel
theorem dX8_wasCountedAt_22 : decode cX8_wasCountedAt 22 = .ok (.if_icmp .ne 5, 3) := by decide +kernel
theorem dX8_wasCountedAt_25 : decode cX8_wasCountedAt 25 = .ok (.iconst 1, 1) := by decide +kernel
theorem dX8_wasCountedAt_26 : decode cX8_wasCountedAt 26 = .ok (.ireturn, 1) := by decide +kernel
theorem dX8_wasCountedAt_27 : decode cX8_wasCountedAt 27 = .ok (.iinc 3 1, 3) := by decide +kernel
theorem dX8_wasCountedAt_30 : decode cX8_wasCountedAt 30 = .ok (.goto (-28), 3) := by decide +kernel
theorem dX8_wasCountedAt_33 : decode cX8_wasCountedAt 33 = .ok (.iconst 0, 1) := by decide +kernel
theorem dX8_wasCountedAt_34 : decode cX8_wasCountedAt 34 = .ok (.ireturn, 1) := by decide +kernel
theorem dX8_toOpen_0 : decode cX8_toOpen 0 = .ok (.iconst 0, 1) := by decide +kernel
theorem dX8_toOpen_1 : decode cX8_toOpen 1 = .ok (.istore_n 3, 1) := by decide +kernel
theorem dX8_toOpen_2 : decode cX8_toOpen 2 = .ok (.iload_n 3, 1) := by decide +kernel
theorem dX8_toOpen_3 : decode cX8_toOpen 3 = .ok (.aload_n 0, 1) := by decide +kernel
theorem dX8_toOpen_4 : decode cX8_toOpen 4 = .ok (.iconst 3, 1) := by decide +kernel
theorem dX8_toOpen_5 : decode cX8_toOpen 5 = .ok (.invokevirtual 44, 3) := by decide +kernel
theorem dX8_toOpen_8 : decode cX8_toOpen 8 = .ok (.if_icmp .ge 48, 3) := by decide +kernel
theorem dX8_toOpen_11 : decode cX8_toOpen 11 = .ok (.iload_n 1, 1) := by decide +kernel
theorem dX8_toOpen_12 : decode cX8_toOpen 12 = .ok (.iload_n 3, 1) := by decide +kernel
theorem dX8_toOpen_13 : decode cX8_toOpen 13 = .ok (.ishr, 1) := by decide +kernel
theorem dX8_toOpen_14 : decode cX8_toOpen 14 = .ok (.iconst 1, 1) := by decide +kernel
theorem dX8_toOpen_15 : decode cX8_toOpen 15 = .ok (.iand, 1) := by decide +kernel
theorem dX8_toOpen_16 : decode cX8_toOpen 16 = .ok (.iconst 1, 1) := by decide +kernel
theorem dX8_toOpen_17 : decode cX8_toOpen 17 = .ok (.if_icmp .ne 33, 3) := by decide +kernel
theorem dX8_toOpen_20 : decode cX8_toOpen 20 = .ok (.aload_n 0, 1) := by decide +kernel
theorem dX8_toOpen_21 : decode cX8_toOpen 21 = .ok (.iload_n 3, 1) := by decide +kernel
theorem dX8_toOpen_22 : decode cX8_toOpen 22 = .ok (.iconst 0, 1) := by decide +kernel
theorem dX8_toOpen_23 : decode cX8_toOpen 23 = .ok (.invokevirtual 48, 3) := by decide +kernel
theorem dX8_toOpen_26 : decode cX8_toOpen 26 = .ok (.bipush (-4), 2) := by decide +kernel
theorem dX8_toOpen_28 : decode cX8_toOpen 28 = .ok (.if_icmp .ne 22, 3) := by decide +kernel
theorem dX8_toOpen_31 : decode cX8_toOpen 31 = .ok (.aload_n 0, 1) := by decide +kernel
theorem dX8_toOpen_32 : decode cX8_toOpen 32 = .ok (.iload_n 3, 1) := by decide +kernel
theorem dX8_toOpen_33 : decode cX8_toOpen 33 = .ok (.invokevirtual 265, 3) := by decide +kernel
theorem dX8_toOpen_36 : decode cX8_toOpen 36 = .ok (.ifCond .eq 14, 3) := by decide +kernel
theorem dX8_toOpen_39 : decode cX8_toOpen 39 = .ok (.aload_n 0, 1) := by decide +kernel
theorem dX8_toOpen_40 : decode cX8_toOpen 40 = .ok (.iload_n 3, 1) := by decide +kernel
theorem dX8_toOpen_41 : decode cX8_toOpen 41 = .ok (.iload_n 2, 1) := by decide +kernel
theorem dX8_toOpen_42 : decode cX8_toOpen 42 = .ok (.invokevirtual 326, 3) := by decide +kernel
theorem dX8_toOpen_45 : decode cX8_toOpen 45 = .ok (.ifCond .ne 5, 3) := by decide +kernel
theorem dX8_toOpen_48 : decode cX8_toOpen 48 = .ok (.iload_n 3, 1) := by decide +kernel
theorem dX8_toOpen_49 : decode cX8_toOpen 49 = .ok (.ireturn, 1) := by decide +kernel
theorem dX8_toOpen_50 : decode cX8_toOpen 50 = .ok (.iinc 3 1, 3) := by decide +kernel
theorem dX8_toOpen_53 : decode cX8_toOpen 53 = .ok (.goto (-51), 3) := by decide +kernel
theorem dX8_toOpen_56 : decode cX8_toOpen 56 = .ok (.iconst (-1), 1) := by decide +kernel
theorem dX8_toOpen_57 : decode cX8_toOpen 57 = .ok (.ireturn, 1) := by decide +kernel
theorem dX8_work_0 : decode cX8_work 0 = .ok (.aload_n 0, 1) := by decide +kernel
theorem dX8_work_1 : decode cX8_work 1 = .ok (.iconst 0, 1) := by decide +kernel
theorem dX8_work_2 : decode cX8_work 2 = .ok (.putfield 38, 3) := by decide +kernel
theorem dX8_work_5 : decode cX8_work 5 = .ok (.aload_n 0, 1) := by decide +kernel
theorem dX8_work_6 : decode cX8_work 6 = .ok (.invokevirtual 307, 3) := by decide +kernel
theorem dX8_work_9 : decode cX8_work 9 = .ok (.aload_n 0, 1) := by decide +kernel
theorem dX8_work_10 : decode cX8_work 10 = .ok (.invokevirtual 277, 3) := by decide +kernel
theorem dX8_work_13 : decode cX8_work 13 = .ok (.istore_n 1, 1) := by decide +kernel
theorem dX8_work_14 : decode cX8_work 14 = .ok (.iconst 0, 1) := by decide +kernel
theorem dX8_work_15 : decode cX8_work 15 = .ok (.istore_n 2, 1) := by decide +kernel
theorem dX8_work_16 : decode cX8_work 16 = .ok (.iload_n 2, 1) := by decide +kernel
theorem dX8_work_17 : decode cX8_work 17 = .ok (.aload_n 0, 1) := by decide +kernel
theorem dX8_work_18 : decode cX8_work 18 = .ok (.iconst 4, 1) := by decide +kernel
theorem dX8_work_19 : decode cX8_work 19 = .ok (.invokevirtual 44, 3) := by decide +kernel
theorem dX8_work_22 : decode cX8_work 22 = .ok (.if_icmp .ge 40, 3) := by decide +kernel
theorem dX8_work_25 : decode cX8_work 25 = .ok (.aload_n 0, 1) := by decide +kernel
theorem dX8_work_26 : decode cX8_work 26 = .ok (.iload_n 2, 1) := by decide +kernel
theorem dX8_work_27 : decode cX8_work 27 = .ok (.invokevirtual 268, 3) := by decide +kernel
theorem dX8_work_30 : decode cX8_work 30 = .ok (.iconst (-1), 1) := by decide +kernel
theorem dX8_work_31 : decode cX8_work 31 = .ok (.if_icmp .ne 12, 3) := by decide +kernel
theorem dX8_work_34 : decode cX8_work 34 = .ok (.aload_n 0, 1) := by decide +kernel
theorem dX8_work_35 : decode cX8_work 35 = .ok (.iload_n 1, 1) := by decide +kernel
theorem dX8_work_36 : decode cX8_work 36 = .ok (.iload_n 2, 1) := by decide +kernel
theorem dX8_work_37 : decode cX8_work 37 = .ok (.invokevirtual 329, 3) := by decide +kernel
theorem dX8_work_40 : decode cX8_work 40 = .ok (.goto 4, 3) := by decide +kernel
theorem dX8_work_43 : decode cX8_work 43 = .ok (.iconst (-1), 1) := by decide +kernel
theorem dX8_work_44 : decode cX8_work 44 = .ok (.istore_n 3, 1) := by decide +kernel
theorem dX8_work_45 : decode cX8_work 45 = .ok (.iload_n 3, 1) := by decide +kernel
theorem dX8_work_46 : decode cX8_work 46 = .ok (.iconst (-1), 1) := by decide +kernel
theorem dX8_work_47 : decode cX8_work 47 = .ok (.if_icmp .eq 9, 3) := by decide +kernel
theorem dX8_work_50 : decode cX8_work 50 = .ok (.aload_n 0, 1) := by decide +kernel
theorem dX8_work_51 : decode cX8_work 51 = .ok (.iload_n 3, 1) := by decide +kernel
theorem dX8_work_52 : decode cX8_work 52 = .ok (.iload_n 2, 1) := by decide +kernel
theorem dX8_work_53 : decode cX8_work 53 = .ok (.invokevirtual 313, 3) := by decide +kernel
theorem dX8_work_56 : decode cX8_work 56 = .ok (.iinc 2 1, 3) := by decide +kernel
theorem dX8_work_59 : decode cX8_work 59 = .ok (.goto (-43), 3) := by decide +kernel
theorem dX8_work_62 : decode cX8_work 62 = .ok (.iconst 0, 1) := by decide +kernel
theorem dX8_work_63 : decode cX8_work 63 = .ok (.istore_n 2, 1) := by decide +kernel
theorem dX8_work_64 : decode cX8_work 64 = .ok (.iconst 0, 1) := by decide +kernel
theorem dX8_work_65 : decode cX8_work 65 = .ok (.istore_n 3, 1) := by decide +kernel
theorem dX8_work_66 : decode cX8_work 66 = .ok (.iload_n 3, 1) := by decide +kernel
theorem dX8_work_67 : decode cX8_work 67 = .ok (.aload_n 0, 1) := by decide +kernel
theorem dX8_work_68 : decode cX8_work 68 = .ok (.iconst 4, 1) := by decide +kernel
theorem dX8_work_69 : decode cX8_work 69 = .ok (.invokevirtual 44, 3) := by decide +kernel
theorem dX8_work_72 : decode cX8_work 72 = .ok (.if_icmp .ge 64, 3) := by decide +kernel
theorem dX8_work_75 : decode cX8_work 75 = .ok (.aload_n 0, 1) := by decide +kernel
theorem dX8_work_76 : decode cX8_work 76 = .ok (.iload_n 3, 1) := by decide +kernel
theorem dX8_work_77 : decode cX8_work 77 = .ok (.invokevirtual 268, 3) := by decide +kernel
theorem dX8_work_80 : decode cX8_work 80 = .ok (.istore 4, 2) := by decide +kernel
theorem dX8_work_82 : decode cX8_work 82 = .ok (.iload 4, 2) := by decide +kernel
theorem dX8_work_84 : decode cX8_work 84 = .ok (.iconst (-1), 1) := by decide +kernel
theorem dX8_work_85 : decode cX8_work 85 = .ok (.if_icmp .ne 6, 3) := by decide +kernel
theorem dX8_work_88 : decode cX8_work 88 = .ok (.goto 42, 3) := by decide +kernel
theorem dX8_work_91 : decode cX8_work 91 = .ok (.aload_n 0, 1) := by decide +kernel
theorem dX8_work_92 : decode cX8_work 92 = .ok (.iload 4, 2) := by decide +kernel
theorem dX8_work_94 : decode cX8_work 94 = .ok (.iconst 3, 1) := by decide +kernel
theorem dX8_work_95 : decode cX8_work 95 = .ok (.invokevirtual 48, 3) := by decide +kernel
theorem dX8_work_98 : decode cX8_work 98 = .ok (.iconst 4, 1) := by decide +kernel
theorem dX8_work_99 : decode cX8_work 99 = .ok (.if_icmp .ge 13, 3) := by decide +kernel
theorem dX8_work_102 : decode cX8_work 102 = .ok (.aload_n 0, 1) := by decide +kernel
theorem dX8_work_103 : decode cX8_work 103 = .ok (.iload 4, 2) := by decide +kernel
theorem dX8_work_105 : decode cX8_work 105 = .ok (.iload_n 3, 1) := by decide +kernel
theorem dX8_work_106 : decode cX8_work 106 = .ok (.invokevirtual 317, 3) := by decide +kernel
theorem dX8_work_109 : decode cX8_work 109 = .ok (.iinc 2 1, 3) := by decide +kernel
theorem dX8_work_112 : decode cX8_work 112 = .ok (.aload_n 0, 1) := by decide +kernel
theorem dX8_work_113 : decode cX8_work 113 = .ok (.iload 4, 2) := by decide +kernel
theorem dX8_work_115 : decode cX8_work 115 = .ok (.iconst 2, 1) := by decide +kernel
theorem dX8_work_116 : decode cX8_work 116 = .ok (.invokevirtual 48, 3) := by decide +kernel
theorem dX8_work_119 : decode cX8_work 119 = .ok (.bipush 12, 2) := by decide +kernel
theorem dX8_work_121 : decode cX8_work 121 = .ok (.if_icmp .ge 9, 3) := by decide +kernel
theorem dX8_work_124 : decode cX8_work 124 = .ok (.aload_n 0, 1) := by decide +kernel
theorem dX8_work_125 : decode cX8_work 125 = .ok (.iload 4, 2) := by decide +kernel
theorem dX8_work_127 : decode cX8_work 127 = .ok (.invokevirtual 323, 3) := by decide +kernel
theorem dX8_work_130 : decode cX8_work 130 = .ok (.iinc 3 1, 3) := by decide +kernel
theorem dX8_work_133 : decode cX8_work 133 = .ok (.goto (-67), 3) := by decide +kernel
theorem dX8_work_136 : decode cX8_work 136 = .ok (.iload_n 2, 1) := by decide +kernel
theorem dX8_work_137 : decode cX8_work 137 = .ok (.ireturn, 1) := by decide +kernel
theorem dX8_setSetting_0 : decode cX8_setSetting 0 = .ok (.aload_n 0, 1) := by decide +kernel
theorem dX8_setSetting_1 : decode cX8_setSetting 1 = .ok (.iconst 0, 1) := by decide +kernel
theorem dX8_setSetting_2 : decode cX8_setSetting 2 = .ok (.putfield 38, 3) := by decide +kernel
theorem dX8_setSetting_5 : decode cX8_setSetting 5 = .ok (.iload_n 1, 1) := by decide +kernel
theorem dX8_setSetting_6 : decode cX8_setSetting 6 = .ok (.invokestatic 252, 3) := by decide +kernel
theorem dX8_setSetting_9 : decode cX8_setSetting 9 = .ok (.ifCond .eq 15, 3) := by decide +kernel
theorem dX8_setSetting_12 : decode cX8_setSetting 12 = .ok (.iload_n 2, 1) := by decide +kernel
theorem dX8_setSetting_13 : decode cX8_setSetting 13 = .ok (.ifCond .lt 11, 3) := by decide +kernel
theorem dX8_setSetting_16 : decode cX8_setSetting 16 = .ok (.iload_n 2, 1) := by decide +kernel
theorem dX8_setSetting_17 : decode cX8_setSetting 17 = .ok (.iload_n 1, 1) := by decide +kernel
theorem dX8_setSetting_18 : decode cX8_setSetting 18 = .ok (.invokestatic 218, 3) := by decide +kernel
theorem dX8_setSetting_21 : decode cX8_setSetting 21 = .ok (.if_icmp .le 6, 3) := by decide +kernel
theorem dX8_setSetting_24 : decode cX8_setSetting 24 = .ok (.bipush (-2), 2) := by decide +kernel
theorem dX8_setSetting_26 : decode cX8_setSetting 26 = .ok (.ireturn, 1) := by decide +kernel
theorem dX8_setSetting_27 : decode cX8_setSetting 27 = .ok (.aload_n 0, 1) := by decide +kernel
theorem dX8_setSetting_28 : decode cX8_setSetting 28 = .ok (.invokevirtual 307, 3) := by decide +kernel
theorem dX8_setSetting_31 : decode cX8_setSetting 31 = .ok (.aload_n 0, 1) := by decide +kernel
theorem dX8_setSetting_32 : decode cX8_setSetting 32 = .ok (.getfield 19, 3) := by decide +kernel
theorem dX8_setSetting_35 : decode cX8_setSetting 35 = .ok (.iconst 0, 1) := by decide +kernel
theorem dX8_setSetting_36 : decode cX8_setSetting 36 = .ok (.iload_n 1, 1) := by decide +kernel
theorem dX8_setSetting_37 : decode cX8_setSetting 37 = .ok (.iadd, 1) := by decide +kernel
theorem dX8_setSetting_38 : decode cX8_setSetting 38 = .ok (.iaload, 1) := by decide +kernel
theorem dX8_setSetting_39 : decode cX8_setSetting 39 = .ok (.istore_n 3, 1) := by decide +kernel
theorem dX8_setSetting_40 : decode cX8_setSetting 40 = .ok (.aload_n 0, 1) := by decide +kernel
theorem dX8_setSetting_41 : decode cX8_setSetting 41 = .ok (.getfield 19, 3) := by decide +kernel
theorem dX8_setSetting_44 : decode cX8_setSetting 44 = .ok (.iconst 0, 1) := by decide +kernel
theorem dX8_setSetting_45 : decode cX8_setSetting 45 = .ok (.iload_n 1, 1) := by decide +kernel
theorem dX8_setSetting_46 : decode cX8_setSetting 46 = .ok (.iadd, 1) := by decide +kernel
theorem dX8_setSetting_47 : decode cX8_setSetting 47 = .ok (.iload_n 2, 1) := by decide +kernel
theorem dX8_setSetting_48 : decode cX8_setSetting 48 = .ok (.iastore, 1) := by decide +kernel
theorem dX8_setSetting_49 : decode cX8_setSetting 49 = .ok (.iload_n 3, 1) := by decide +kernel
theorem dX8_setSetting_50 : decode cX8_setSetting 50 = .ok (.ireturn, 1) := by decide +kernel
theorem dX8_writes_0 : decode cX8_writes 0 = .ok (.aload_n 0, 1) := by decide +kernel
theorem dX8_writes_1 : decode cX8_writes 1 = .ok (.getfield 32, 3) := by decide +kernel
theorem dX8_writes_4 : decode cX8_writes 4 = .ok (.aload_n 0, 1) := by decide +kernel
theorem dX8_writes_5 : decode cX8_writes 5 = .ok (.getfield 332, 3) := by decide +kernel
theorem dX8_writes_8 : decode cX8_writes 8 = .ok (.iload_n 1, 1) := by decide +kernel
theorem dX8_writes_9 : decode cX8_writes 9 = .ok (.iastore, 1) := by decide +kernel
theorem dX8_writes_10 : decode cX8_writes 10 = .ok (.aload_n 0, 1) := by decide +kernel
theorem dX8_writes_11 : decode cX8_writes 11 = .ok (.dup, 1) := by decide +kernel
theorem dX8_writes_12 : decode cX8_writes 12 = .ok (.getfield 332, 3) := by decide +kernel
theorem dX8_writes_15 : decode cX8_writes 15 = .ok (.iconst 1, 1) := by decide +kernel
theorem dX8_writes_16 : decode cX8_writes 16 = .ok (.iadd, 1) := by decide +kernel
theorem dX8_writes_17 : decode cX8_writes 17 = .ok (.putfield 332, 3) := by decide +kernel
theorem dX8_writes_20 : decode cX8_writes 20 = .ok (.return_, 1) := by decide +kernel
theorem dX8_writesName_0 : decode cX8_writesName 0 = .ok (.iconst 5, 1) := by decide +kernel
theorem dX8_writesName_1 : decode cX8_writesName 1 = .ok (.istore_n 2, 1) := by decide +kernel
theorem dX8_writesName_2 : decode cX8_writesName 2 = .ok (.iload_n 2, 1) := by decide +kernel
theorem dX8_writesName_3 : decode cX8_writesName 3 = .ok (.ifCond .lt 30, 3) := by decide +kernel
theorem dX8_writesName_6 : decode cX8_writesName 6 = .ok (.iload_n 1, 1) := by decide +kernel
theorem dX8_writesName_7 : decode cX8_writesName 7 = .ok (.iconst 5, 1) := by decide +kernel
theorem dX8_writesName_8 : decode cX8_writesName 8 = .ok (.iload_n 2, 1) := by decide +kernel
theorem dX8_writesName_9 : decode cX8_writesName 9 = .ok (.imul, 1) := by decide +kernel
theorem dX8_writesName_10 : decode cX8_writesName 10 = .ok (.ishr, 1) := by decide +kernel
theorem dX8_writesName_11 : decode cX8_writesName 11 = .ok (.bipush 31, 2) := by decide +kernel
theorem dX8_writesName_13 : decode cX8_writesName 13 = .ok (.iand, 1) := by decide +kernel
theorem dX8_writesName_14 : decode cX8_writesName 14 = .ok (.istore_n 3, 1) := by decide +kernel
theorem dX8_writesName_15 : decode cX8_writesName 15 = .ok (.iload_n 3, 1) := by decide +kernel
theorem dX8_writesName_16 : decode cX8_writesName 16 = .ok (.ifCond .le 11, 3) := by decide +kernel
theorem dX8_writesName_19 : decode cX8_writesName 19 = .ok (.aload_n 0, 1) := by decide +kernel
theorem dX8_writesName_20 : decode cX8_writesName 20 = .ok (.bipush 96, 2) := by decide +kernel
theorem dX8_writesName_22 : decode cX8_writesName 22 = .ok (.iload_n 3, 1) := by decide +kernel
theorem dX8_writesName_23 : decode cX8_writesName 23 = .ok (.iadd, 1) := by decide +kernel
theorem dX8_writesName_24 : decode cX8_writesName 24 = .ok (.invokevirtual 335, 3) := by decide +kernel
theorem dX8_writesName_27 : decode cX8_writesName 27 = .ok (.iinc 2 (-1), 3) := by decide +kernel
theorem dX8_writesName_30 : decode cX8_writesName 30 = .ok (.goto (-28), 3) := by decide +kernel
theorem dX8_writesName_33 : decode cX8_writesName 33 = .ok (.return_, 1) := by decide +kernel
theorem dX8_writesNumber_0 : decode cX8_writesNumber 0 = .ok (.iconst 1, 1) := by decide +kernel
theorem dX8_writesNumber_1 : decode cX8_writesNumber 1 = .ok (.istore_n 2, 1) := by decide +kernel
theorem dX8_writesNumber_2 : decode cX8_writesNumber 2 = .ok (.iload_n 1, 1) := by decide +kernel
theorem dX8_writesNumber_3 : decode cX8_writesNumber 3 = .ok (.iload_n 2, 1) := by decide +kernel
theorem dX8_writesNumber_4 : decode cX8_writesNumber 4 = .ok (.idiv, 1) := by decide +kernel
theorem dX8_writesNumber_5 : decode cX8_writesNumber 5 = .ok (.bipush 9, 2) := by decide +kernel
theorem dX8_writesNumber_7 : decode cX8_writesNumber 7 = .ok (.if_icmp .le 11, 3) := by decide +kernel
theorem dX8_writesNumber_10 : decode cX8_writesNumber 10 = .ok (.iload_n 2, 1) := by decide +kernel
theorem dX8_writesNumber_11 : decode cX8_writesNumber 11 = .ok (.bipush 10, 2) := by decide +kernel
theorem dX8_writesNumber_13 : decode cX8_writesNumber 13 = .ok (.imul, 1) := by decide +kernel
theorem dX8_writesNumber_14 : decode cX8_writesNumber 14 = .ok (.istore_n 2, 1) := by decide +kernel
theorem dX8_writesNumber_15 : decode cX8_writesNumber 15 = .ok (.goto (-13), 3) := by decide +kernel
theorem dX8_writesNumber_18 : decode cX8_writesNumber 18 = .ok (.iload_n 2, 1) := by decide +kernel
theorem dX8_writesNumber_19 : decode cX8_writesNumber 19 = .ok (.ifCond .le 24, 3) := by decide +kernel
theorem dX8_writesNumber_22 : decode cX8_writesNumber 22 = .ok (.aload_n 0, 1) := by decide +kernel
theorem dX8_writesNumber_23 : decode cX8_writesNumber 23 = .ok (.bipush 48, 2) := by decide +kernel
theorem dX8_writesNumber_25 : decode cX8_writesNumber 25 = .ok (.iload_n 1, 1) := by decide +kernel
theorem dX8_writesNumber_26 : decode cX8_writesNumber 26 = .ok (.iload_n 2, 1) := by decide +kernel
theorem dX8_writesNumber_27 : decode cX8_writesNumber 27 = .ok (.idiv, 1) := by decide +kernel
theorem dX8_writesNumber_28 : decode cX8_writesNumber 28 = .ok (.bipush 10, 2) := by decide +kernel
theorem dX8_writesNumber_30 : decode cX8_writesNumber 30 = .ok (.irem, 1) := by decide +kernel
theorem dX8_writesNumber_31 : decode cX8_writesNumber 31 = .ok (.iadd, 1) := by decide +kernel
theorem dX8_writesNumber_32 : decode cX8_writesNumber 32 = .ok (.invokevirtual 335, 3) := by decide +kernel
theorem dX8_writesNumber_35 : decode cX8_writesNumber 35 = .ok (.iload_n 2, 1) := by decide +kernel
theorem dX8_writesNumber_36 : decode cX8_writesNumber 36 = .ok (.bipush 10, 2) := by decide +kernel
theorem dX8_writesNumber_38 : decode cX8_writesNumber 38 = .ok (.idiv, 1) := by decide +kernel
theorem dX8_writesNumber_39 : decode cX8_writesNumber 39 = .ok (.istore_n 2, 1) := by decide +kernel
theorem dX8_writesNumber_40 : decode cX8_writesNumber 40 = .ok (.goto (-22), 3) := by decide +kernel
theorem dX8_writesNumber_43 : decode cX8_writesNumber 43 = .ok (.return_, 1) := by decide +kernel
theorem dX8_write_0 : decode cX8_write 0 = .ok (.aload_n 0, 1) := by decide +kernel
theorem dX8_write_1 : decode cX8_write 1 = .ok (.aload_n 0, 1) := by decide +kernel
theorem dX8_write_2 : decode cX8_write 2 = .ok (.iconst 2, 1) := by decide +kernel
theorem dX8_write_3 : decode cX8_write 3 = .ok (.iload_n 1, 1) := by decide +kernel
theorem dX8_write_4 : decode cX8_write 4 = .ok (.invokevirtual 255, 3) := by decide +kernel
theorem dX8_write_7 : decode cX8_write 7 = .ok (.invokevirtual 258, 3) := by decide +kernel
theorem dX8_write_10 : decode cX8_write 10 = .ok (.ifCond .ne 5, 3) := by decide +kernel
theorem dX8_write_13 : decode cX8_write 13 = .ok (.iconst 0, 1) := by decide +kernel
theorem dX8_write_14 : decode cX8_write 14 = .ok (.ireturn, 1) := by decide +kernel
theorem dX8_write_15 : decode cX8_write 15 = .ok (.aload_n 0, 1) := by decide +kernel
theorem dX8_write_16 : decode cX8_write 16 = .ok (.iconst 0, 1) := by decide +kernel
theorem dX8_write_17 : decode cX8_write 17 = .ok (.putfield 332, 3) := by decide +kernel
theorem dX8_write_20 : decode cX8_write 20 = .ok (.aload_n 0, 1) := by decide +kernel
theorem dX8_write_21 : decode cX8_write 21 = .ok (.aload_n 0, 1) := by decide +kernel
theorem dX8_write_22 : decode cX8_write 22 = .ok (.getfield 13, 3) := by decide +kernel
theorem dX8_write_25 : decode cX8_write 25 = .ok (.iconst 2, 1) := by decide +kernel
theorem dX8_write_26 : decode cX8_write 26 = .ok (.invokestatic 190, 3) := by decide +kernel
theorem dX8_write_29 : decode cX8_write 29 = .ok (.iload_n 1, 1) := by decide +kernel
theorem dX8_write_30 : decode cX8_write 30 = .ok (.iadd, 1) := by decide +kernel
theorem dX8_write_31 : decode cX8_write 31 = .ok (.iaload, 1) := by decide +kernel
theorem dX8_write_32 : decode cX8_write 32 = .ok (.invokevirtual 338, 3) := by decide +kernel
theorem dX8_write_35 : decode cX8_write 35 = .ok (.iconst 0, 1) := by decide +kernel
theorem dX8_write_36 : decode cX8_write 36 = .ok (.istore_n 2, 1) := by decide +kernel
theorem dX8_write_37 : decode cX8_write 37 = .ok (.iload_n 2, 1) := by decide +kernel
theorem dX8_write_38 : decode cX8_write 38 = .ok (.aload_n 0, 1) := by decide +kernel
theorem dX8_write_39 : decode cX8_write 39 = .ok (.iconst 0, 1) := by decide +kernel
theorem dX8_write_40 : decode cX8_write 40 = .ok (.invokevirtual 44, 3) := by decide +kernel
theorem dX8_write_43 : decode cX8_write 43 = .ok (.if_icmp .ge 46, 3) := by decide +kernel
theorem dX8_write_46 : decode cX8_write 46 = .ok (.aload_n 0, 1) := by decide +kernel
theorem dX8_write_47 : decode cX8_write 47 = .ok (.bipush 32, 2) := by decide +kernel
theorem dX8_write_49 : decode cX8_write 49 = .ok (.invokevirtual 335, 3) := by decide +kernel
theorem dX8_write_52 : decode cX8_write 52 = .ok (.aload_n 0, 1) := by decide +kernel
theorem dX8_write_53 : decode cX8_write 53 = .ok (.aload_n 0, 1) := by decide +kernel
theorem dX8_write_54 : decode cX8_write 54 = .ok (.getfield 13, 3) := by decide +kernel
theorem dX8_write_57 : decode cX8_write 57 = .ok (.iconst 0, 1) := by decide +kernel
theorem dX8_write_58 : decode cX8_write 58 = .ok (.invokestatic 190, 3) := by decide +kernel
theorem dX8_write_61 : decode cX8_write 61 = .ok (.iload_n 2, 1) := by decide +kernel
theorem dX8_write_62 : decode cX8_write 62 = .ok (.iadd, 1) := by decide +kernel
theorem dX8_write_63 : decode cX8_write 63 = .ok (.iaload, 1) := by decide +kernel
theorem dX8_write_64 : decode cX8_write 64 = .ok (.invokevirtual 338, 3) := by decide +kernel
theorem dX8_write_67 : decode cX8_write 67 = .ok (.aload_n 0, 1) := by decide +kernel
theorem dX8_write_68 : decode cX8_write 68 = .ok (.bipush 61, 2) := by decide +kernel
theorem dX8_write_70 : decode cX8_write 70 = .ok (.invokevirtual 335, 3) := by decide +kernel
theorem dX8_write_73 : decode cX8_write 73 = .ok (.aload_n 0, 1) := by decide +kernel
theorem dX8_write_74 : decode cX8_write 74 = .ok (.aload_n 0, 1) := by decide +kernel
theorem dX8_write_75 : decode cX8_write 75 = .ok (.iload_n 1, 1) := by decide +kernel
theorem dX8_write_76 : decode cX8_write 76 = .ok (.iload_n 2, 1) := by decide +kernel
theorem dX8_write_77 : decode cX8_write 77 = .ok (.invokevirtual 91, 3) := by decide +kernel
theorem dX8_write_80 : decode cX8_write 80 = .ok (.invokevirtual 341, 3) := by decide +kernel
theorem dX8_write_83 : decode cX8_write 83 = .ok (.iinc 2 1, 3) := by decide +kernel
theorem dX8_write_86 : decode cX8_write 86 = .ok (.goto (-49), 3) := by decide +kernel
theorem dX8_write_89 : decode cX8_write 89 = .ok (.aload_n 0, 1) := by decide +kernel
theorem dX8_write_90 : decode cX8_write 90 = .ok (.iload_n 1, 1) := by decide +kernel
theorem dX8_write_91 : decode cX8_write 91 = .ok (.invokevirtual 109, 3) := by decide +kernel
theorem dX8_write_94 : decode cX8_write 94 = .ok (.ifCond .eq 15, 3) := by decide +kernel
theorem dX8_write_97 : decode cX8_write 97 = .ok (.aload_n 0, 1) := by decide +kernel
theorem dX8_write_98 : decode cX8_write 98 = .ok (.bipush 32, 2) := by decide +kernel
theorem dX8_write_100 : decode cX8_write 100 = .ok (.invokevirtual 335, 3) := by decide +kernel
theorem dX8_write_103 : decode cX8_write 103 = .ok (.aload_n 0, 1) := by decide +kernel
theorem dX8_write_104 : decode cX8_write 104 = .ok (.bipush 33, 2) := by decide +kernel
theorem dX8_write_106 : decode cX8_write 106 = .ok (.invokevirtual 335, 3) := by decide +kernel
theorem dX8_write_109 : decode cX8_write 109 = .ok (.aload_n 0, 1) := by decide +kernel
theorem dX8_write_110 : decode cX8_write 110 = .ok (.getfield 332, 3) := by decide +kernel
theorem dX8_write_113 : decode cX8_write 113 = .ok (.ireturn, 1) := by decide +kernel
theorem dX8_outputAt_0 : decode cX8_outputAt 0 = .ok (.aload_n 0, 1) := by decide +kernel
theorem dX8_outputAt_1 : decode cX8_outputAt 1 = .ok (.iconst 0, 1) := by decide +kernel
theorem dX8_outputAt_2 : decode cX8_outputAt 2 = .ok (.putfield 38, 3) := by decide +kernel
theorem dX8_outputAt_5 : decode cX8_outputAt 5 = .ok (.iload_n 1, 1) := by decide +kernel
theorem dX8_outputAt_6 : decode cX8_outputAt 6 = .ok (.ifCond .lt 11, 3) := by decide +kernel
theorem dX8_outputAt_9 : decode cX8_outputAt 9 = .ok (.iload_n 1, 1) := by decide +kernel
theorem dX8_outputAt_10 : decode cX8_outputAt 10 = .ok (.aload_n 0, 1) := by decide +kernel
theorem dX8_outputAt_11 : decode cX8_outputAt 11 = .ok (.getfield 332, 3) := by decide +kernel
theorem dX8_outputAt_14 : decode cX8_outputAt 14 = .ok (.if_icmp .lt 7, 3) := by decide +kernel
theorem dX8_outputAt_17 : decode cX8_outputAt 17 = .ok (.iconst (-1), 1) := by decide +kernel
theorem dX8_outputAt_18 : decode cX8_outputAt 18 = .ok (.goto 9, 3) := by decide +kernel
theorem dX8_outputAt_21 : decode cX8_outputAt 21 = .ok (.aload_n 0, 1) := by decide +kernel
theorem dX8_outputAt_22 : decode cX8_outputAt 22 = .ok (.getfield 32, 3) := by decide +kernel
theorem dX8_outputAt_25 : decode cX8_outputAt 25 = .ok (.iload_n 1, 1) := by decide +kernel
theorem dX8_outputAt_26 : decode cX8_outputAt 26 = .ok (.iaload, 1) := by decide +kernel
theorem dX8_outputAt_27 : decode cX8_outputAt 27 = .ok (.ireturn, 1) := by decide +kernel
