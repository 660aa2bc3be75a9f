theorem dL_cell_0 : decode cL_cell 0 = .ok (.iload_n 1, 1) := by decide +kernel
theorem dL_cell_1 : decode cL_cell 1 = .ok (.aload_n 0, 1) := by decide +kernel
theorem dL_cell_2 : decode cL_cell 2 = .ok (.arraylength, 1) := by decide +kernel
theorem dL_cell_3 : decode cL_cell 3 = .ok (.if_icmp .ge 9, 3) := by decide +kernel
theorem dL_cell_6 : decode cL_cell 6 = .ok (.aload_n 0, 1) := by decide +kernel
theorem dL_cell_7 : decode cL_cell 7 = .ok (.iload_n 1, 1) := by decide +kernel
theorem dL_cell_8 : decode cL_cell 8 = .ok (.iaload, 1) := by decide +kernel
theorem dL_cell_9 : decode cL_cell 9 = .ok (.goto 4, 3) := by decide +kernel
theorem dL_cell_12 : decode cL_cell 12 = .ok (.iconst 0, 1) := by decide +kernel
theorem dL_cell_13 : decode cL_cell 13 = .ok (.ireturn, 1) := by decide +kernel
theorem dL_in_0 : decode cL_in 0 = .ok (.iload_n 0, 1) := by decide +kernel
theorem dL_in_1 : decode cL_in 1 = .ok (.ldc 7, 2) := by decide +kernel
theorem dL_in_3 : decode cL_in 3 = .ok (.iand, 1) := by decide +kernel
theorem dL_in_4 : decode cL_in 4 = .ok (.iload_n 1, 1) := by decide +kernel
theorem dL_in_5 : decode cL_in 5 = .ok (.irem, 1) := by decide +kernel
theorem dL_in_6 : decode cL_in 6 = .ok (.ireturn, 1) := by decide +kernel
theorem dL_put_0 : decode cL_put 0 = .ok (.aload_n 1, 1) := by decide +kernel
theorem dL_put_1 : decode cL_put 1 = .ok (.astore_n 2, 1) := by decide +kernel
theorem dL_put_2 : decode cL_put 2 = .ok (.aload_n 2, 1) := by decide +kernel
theorem dL_put_3 : decode cL_put 3 = .ok (.invokevirtual 8, 3) := by decide +kernel
theorem dL_put_6 : decode cL_put 6 = .ok (.bipush 20, 2) := by decide +kernel
theorem dL_put_8 : decode cL_put 8 = .ok (.irem, 1) := by decide +kernel
theorem dL_put_9 : decode cL_put 9 = .ok (.ifCond .eq 26, 3) := by decide +kernel
theorem dL_put_12 : decode cL_put 12 = .ok (.new 14, 3) := by decide +kernel
theorem dL_put_15 : decode cL_put 15 = .ok (.dup, 1) := by decide +kernel
theorem dL_put_16 : decode cL_put 16 = .ok (.invokespecial 16, 3) := by decide +kernel
theorem dL_put_19 : decode cL_put 19 = .ok (.aload_n 2, 1) := by decide +kernel
theorem dL_put_20 : decode cL_put 20 = .ok (.invokevirtual 17, 3) := by decide +kernel
theorem dL_put_23 : decode cL_put 23 = .ok (.ldc 21, 2) := by decide +kernel
theorem dL_put_25 : decode cL_put 25 = .ok (.invokevirtual 17, 3) := by decide +kernel
theorem dL_put_28 : decode cL_put 28 = .ok (.invokevirtual 23, 3) := by decide +kernel
theorem dL_put_31 : decode cL_put 31 = .ok (.astore_n 2, 1) := by decide +kernel
theorem dL_put_32 : decode cL_put 32 = .ok (.goto (-30), 3) := by decide +kernel
theorem dL_put_35 : decode cL_put 35 = .ok (.iconst 0, 1) := by decide +kernel
theorem dL_put_36 : decode cL_put 36 = .ok (.istore_n 3, 1) := by decide +kernel
theorem dL_put_37 : decode cL_put 37 = .ok (.iload_n 3, 1) := by decide +kernel
theorem dL_put_38 : decode cL_put 38 = .ok (.aload_n 2, 1) := by decide +kernel
theorem dL_put_39 : decode cL_put 39 = .ok (.invokevirtual 8, 3) := by decide +kernel
theorem dL_put_42 : decode cL_put 42 = .ok (.if_icmp .ge 84, 3) := by decide +kernel
theorem dL_put_45 : decode cL_put 45 = .ok (.iconst 5, 1) := by decide +kernel
theorem dL_put_46 : decode cL_put 46 = .ok (.newarray .int, 2) := by decide +kernel
theorem dL_put_48 : decode cL_put 48 = .ok (.astore 4, 2) := by decide +kernel
theorem dL_put_50 : decode cL_put 50 = .ok (.iconst 0, 1) := by decide +kernel
theorem dL_put_51 : decode cL_put 51 = .ok (.istore 5, 2) := by decide +kernel
theorem dL_put_53 : decode cL_put 53 = .ok (.iload 5, 2) := by decide +kernel
theorem dL_put_55 : decode cL_put 55 = .ok (.bipush 20, 2) := by decide +kernel
theorem dL_put_57 : decode cL_put 57 = .ok (.if_icmp .ge 38, 3) := by decide +kernel
theorem dL_put_60 : decode cL_put 60 = .ok (.aload 4, 2) := by decide +kernel
theorem dL_put_62 : decode cL_put 62 = .ok (.iload 5, 2) := by decide +kernel
theorem dL_put_64 : decode cL_put 64 = .ok (.iconst 4, 1) := by decide +kernel
theorem dL_put_65 : decode cL_put 65 = .ok (.idiv, 1) := by decide +kernel
theorem dL_put_66 : decode cL_put 66 = .ok (.dup2, 1) := by decide +kernel
theorem dL_put_67 : decode cL_put 67 = .ok (.iaload, 1) := by decide +kernel
theorem dL_put_68 : decode cL_put 68 = .ok (.aload_n 2, 1) := by decide +kernel
theorem dL_put_69 : decode cL_put 69 = .ok (.iload_n 3, 1) := by decide +kernel
theorem dL_put_70 : decode cL_put 70 = .ok (.iload 5, 2) := by decide +kernel
theorem dL_put_72 : decode cL_put 72 = .ok (.iadd, 1) := by decide +kernel
theorem dL_put_73 : decode cL_put 73 = .ok (.invokevirtual 27, 3) := by decide +kernel
theorem dL_put_76 : decode cL_put 76 = .ok (.bipush 24, 2) := by decide +kernel
theorem dL_put_78 : decode cL_put 78 = .ok (.bipush 8, 2) := by decide +kernel
theorem dL_put_80 : decode cL_put 80 = .ok (.iload 5, 2) := by decide +kernel
theorem dL_put_82 : decode cL_put 82 = .ok (.iconst 4, 1) := by decide +kernel
theorem dL_put_83 : decode cL_put 83 = .ok (.irem, 1) := by decide +kernel
theorem dL_put_84 : decode cL_put 84 = .ok (.imul, 1) := by decide +kernel
theorem dL_put_85 : decode cL_put 85 = .ok (.isub, 1) := by decide +kernel
theorem dL_put_86 : decode cL_put 86 = .ok (.ishl, 1) := by decide +kernel
theorem dL_put_87 : decode cL_put 87 = .ok (.ior, 1) := by decide +kernel
theorem dL_put_88 : decode cL_put 88 = .ok (.iastore, 1) := by decide +kernel
theorem dL_put_89 : decode cL_put 89 = .ok (.iinc 5 1, 3) := by decide +kernel
theorem dL_put_92 : decode cL_put 92 = .ok (.goto (-39), 3) := by decide +kernel
theorem dL_put_95 : decode cL_put 95 = .ok (.aload_n 0, 1) := by decide +kernel
theorem dL_put_96 : decode cL_put 96 = .ok (.aload 4, 2) := by decide +kernel
theorem dL_put_98 : decode cL_put 98 = .ok (.iconst 0, 1) := by decide +kernel
theorem dL_put_99 : decode cL_put 99 = .ok (.iaload, 1) := by decide +kernel
theorem dL_put_100 : decode cL_put 100 = .ok (.aload 4, 2) := by decide +kernel
theorem dL_put_102 : decode cL_put 102 = .ok (.iconst 1, 1) := by decide +kernel
theorem dL_put_103 : decode cL_put 103 = .ok (.iaload, 1) := by decide +kernel
theorem dL_put_104 : decode cL_put 104 = .ok (.aload 4, 2) := by decide +kernel
theorem dL_put_106 : decode cL_put 106 = .ok (.iconst 2, 1) := by decide +kernel
theorem dL_put_107 : decode cL_put 107 = .ok (.iaload, 1) := by decide +kernel
theorem dL_put_108 : decode cL_put 108 = .ok (.aload 4, 2) := by decide +kernel
theorem dL_put_110 : decode cL_put 110 = .ok (.iconst 3, 1) := by decide +kernel
theorem dL_put_111 : decode cL_put 111 = .ok (.iaload, 1) := by decide +kernel
theorem dL_put_112 : decode cL_put 112 = .ok (.aload 4, 2) := by decide +kernel
theorem dL_put_114 : decode cL_put 114 = .ok (.iconst 4, 1) := by decide +kernel
theorem dL_put_115 : decode cL_put 115 = .ok (.iaload, 1) := by decide +kernel
theorem dL_put_116 : decode cL_put 116 = .ok (.invokevirtual 31, 3) := by decide +kernel
theorem dL_put_119 : decode cL_put 119 = .ok (.pop, 1) := by decide +kernel
theorem dL_put_120 : decode cL_put 120 = .ok (.iinc 3 20, 3) := by decide +kernel
theorem dL_put_123 : decode cL_put 123 = .ok (.goto (-86), 3) := by decide +kernel
theorem dL_put_126 : decode cL_put 126 = .ok (.return_, 1) := by decide +kernel
theorem dL_statements_0 : decode cL_statements 0 = .ok (.iconst 0, 1) := by decide +kernel
theorem dL_statements_1 : decode cL_statements 1 = .ok (.istore_n 1, 1) := by decide +kernel
theorem dL_statements_2 : decode cL_statements 2 = .ok (.iconst 0, 1) := by decide +kernel
theorem dL_statements_3 : decode cL_statements 3 = .ok (.istore_n 2, 1) := by decide +kernel
theorem dL_statements_4 : decode cL_statements 4 = .ok (.iload_n 2, 1) := by decide +kernel
theorem dL_statements_5 : decode cL_statements 5 = .ok (.aload_n 0, 1) := by decide +kernel
theorem dL_statements_6 : decode cL_statements 6 = .ok (.invokevirtual 8, 3) := by decide +kernel
theorem dL_statements_9 : decode cL_statements 9 = .ok (.if_icmp .ge 27, 3) := by decide +kernel
theorem dL_statements_12 : decode cL_statements 12 = .ok (.iload_n 1, 1) := by decide +kernel
theorem dL_statements_13 : decode cL_statements 13 = .ok (.aload_n 0, 1) := by decide +kernel
theorem dL_statements_14 : decode cL_statements 14 = .ok (.iload_n 2, 1) := by decide +kernel
theorem dL_statements_15 : decode cL_statements 15 = .ok (.invokevirtual 27, 3) := by decide +kernel
theorem dL_statements_18 : decode cL_statements 18 = .ok (.bipush 59, 2) := by decide +kernel
theorem dL_statements_20 : decode cL_statements 20 = .ok (.if_icmp .ne 7, 3) := by decide +kernel
theorem dL_statements_23 : decode cL_statements 23 = .ok (.iconst 1, 1) := by decide +kernel
theorem dL_statements_24 : decode cL_statements 24 = .ok (.goto 4, 3) := by decide +kernel
theorem dL_statements_27 : decode cL_statements 27 = .ok (.iconst 0, 1) := by decide +kernel
theorem dL_statements_28 : decode cL_statements 28 = .ok (.iadd, 1) := by decide +kernel
theorem dL_statements_29 : decode cL_statements 29 = .ok (.istore_n 1, 1) := by decide +kernel
theorem dL_statements_30 : decode cL_statements 30 = .ok (.iinc 2 1, 3) := by decide +kernel
theorem dL_statements_33 : decode cL_statements 33 = .ok (.goto (-29), 3) := by decide +kernel
theorem dL_statements_36 : decode cL_statements 36 = .ok (.iload_n 1, 1) := by decide +kernel
theorem dL_statements_37 : decode cL_statements 37 = .ok (.ireturn, 1) := by decide +kernel
theorem dL_parties_0 : decode cL_parties 0 = .ok (.iconst 1, 1) := by decide +kernel
theorem dL_parties_1 : decode cL_parties 1 = .ok (.aload_n 0, 1) := by decide +kernel
theorem dL_parties_2 : decode cL_parties 2 = .ok (.iconst 0, 1) := by decide +kernel
theorem dL_parties_3 : decode cL_parties 3 = .ok (.invokestatic 37, 3) := by decide +kernel
theorem dL_parties_6 : decode cL_parties 6 = .ok (.iconst 4, 1) := by decide +kernel
theorem dL_parties_7 : decode cL_parties 7 = .ok (.invokestatic 43, 3) := by decide +kernel
theorem dL_parties_10 : decode cL_parties 10 = .ok (.iadd, 1) := by decide +kernel
theorem dL_parties_11 : decode cL_parties 11 = .ok (.ireturn, 1) := by decide +kernel
theorem dL_regions_0 : decode cL_regions 0 = .ok (.iconst 1, 1) := by decide +kernel
theorem dL_regions_1 : decode cL_regions 1 = .ok (.aload_n 0, 1) := by decide +kernel
theorem dL_regions_2 : decode cL_regions 2 = .ok (.iconst 0, 1) := by decide +kernel
theorem dL_regions_3 : decode cL_regions 3 = .ok (.invokestatic 37, 3) := by decide +kernel
theorem dL_regions_6 : decode cL_regions 6 = .ok (.iconst 4, 1) := by decide +kernel
theorem dL_regions_7 : decode cL_regions 7 = .ok (.idiv, 1) := by decide +kernel
theorem dL_regions_8 : decode cL_regions 8 = .ok (.iconst 4, 1) := by decide +kernel
theorem dL_regions_9 : decode cL_regions 9 = .ok (.invokestatic 43, 3) := by decide +kernel
theorem dL_regions_12 : decode cL_regions 12 = .ok (.iadd, 1) := by decide +kernel
theorem dL_regions_13 : decode cL_regions 13 = .ok (.ireturn, 1) := by decide +kernel
theorem dL_around_0 : decode cL_around 0 = .ok (.iload_n 1, 1) := by decide +kernel
theorem dL_around_1 : decode cL_around 1 = .ok (.ifCond .ne 7, 3) := by decide +kernel
theorem dL_around_4 : decode cL_around 4 = .ok (.iconst (-1), 1) := by decide +kernel
theorem dL_around_5 : decode cL_around 5 = .ok (.goto 20, 3) := by decide +kernel
theorem dL_around_8 : decode cL_around 8 = .ok (.aload_n 0, 1) := by decide +kernel
theorem dL_around_9 : decode cL_around 9 = .ok (.iconst 1, 1) := by decide +kernel
theorem dL_around_10 : decode cL_around 10 = .ok (.invokestatic 37, 3) := by decide +kernel
theorem dL_around_13 : decode cL_around 13 = .ok (.iconst 3, 1) := by decide +kernel
theorem dL_around_14 : decode cL_around 14 = .ok (.iload_n 1, 1) := by decide +kernel
theorem dL_around_15 : decode cL_around 15 = .ok (.imul, 1) := by decide +kernel
theorem dL_around_16 : decode cL_around 16 = .ok (.ishr, 1) := by decide +kernel
theorem dL_around_17 : decode cL_around 17 = .ok (.iload_n 1, 1) := by decide +kernel
theorem dL_around_18 : decode cL_around 18 = .ok (.iconst 1, 1) := by decide +kernel
theorem dL_around_19 : decode cL_around 19 = .ok (.iadd, 1) := by decide +kernel
theorem dL_around_20 : decode cL_around 20 = .ok (.invokestatic 43, 3) := by decide +kernel
theorem dL_around_23 : decode cL_around 23 = .ok (.iconst 1, 1) := by decide +kernel
theorem dL_around_24 : decode cL_around 24 = .ok (.isub, 1) := by decide +kernel
theorem dL_around_25 : decode cL_around 25 = .ok (.ireturn, 1) := by decide +kernel
theorem dL_wards_0 : decode cL_wards 0 = .ok (.iconst 1, 1) := by decide +kernel
theorem dL_wards_1 : decode cL_wards 1 = .ok (.aload_n 0, 1) := by decide +kernel
theorem dL_wards_2 : decode cL_wards 2 = .ok (.iconst 0, 1) := by decide +kernel
theorem dL_wards_3 : decode cL_wards 3 = .ok (.invokestatic 37, 3) := by decide +kernel
theorem dL_wards_6 : decode cL_wards 6 = .ok (.bipush 16, 2) := by decide +kernel
theorem dL_wards_8 : decode cL_wards 8 = .ok (.idiv, 1) := by decide +kernel
theorem dL_wards_9 : decode cL_wards 9 = .ok (.iconst 4, 1) := by decide +kernel
theorem dL_wards_10 : decode cL_wards 10 = .ok (.invokestatic 43, 3) := by decide +kernel
theorem dL_wards_13 : decode cL_wards 13 = .ok (.iadd, 1) := by decide +kernel
theorem dL_wards_14 : decode cL_wards 14 = .ok (.ireturn, 1) := by decide +kernel
theorem dL_regionOf_0 : decode cL_regionOf 0 = .ok (.aload_n 0, 1) := by decide +kernel
theorem dL_regionOf_1 : decode cL_regionOf 1 = .ok (.iconst 1, 1) := by decide +kernel
theorem dL_regionOf_2 : decode cL_regionOf 2 = .ok (.invokestatic 37, 3) := by decide +kernel
theorem dL_regionOf_5 : decode cL_regionOf 5 = .ok (.iconst 2, 1) := by decide +kernel
theorem dL_regionOf_6 : decode cL_regionOf 6 = .ok (.iload_n 1, 1) := by decide +kernel
theorem dL_regionOf_7 : decode cL_regionOf 7 = .ok (.imul, 1) := by decide +kernel
theorem dL_regionOf_8 : decode cL_regionOf 8 = .ok (.bipush 7, 2) := by decide +kernel
theorem dL_regionOf_10 : decode cL_regionOf 10 = .ok (.iadd, 1) := by decide +kernel
theorem dL_regionOf_11 : decode cL_regionOf 11 = .ok (.ishr, 1) := by decide +kernel
theorem dL_regionOf_12 : decode cL_regionOf 12 = .ok (.aload_n 0, 1) := by decide +kernel
theorem dL_regionOf_13 : decode cL_regionOf 13 = .ok (.invokestatic 47, 3) := by decide +kernel
theorem dL_regionOf_16 : decode cL_regionOf 16 = .ok (.invokestatic 43, 3) := by decide +kernel
theorem dL_regionOf_19 : decode cL_regionOf 19 = .ok (.ireturn, 1) := by decide +kernel
theorem dL_boxes_0 : decode cL_boxes 0 = .ok (.iconst 1, 1) := by decide +kernel
theorem dL_boxes_1 : decode cL_boxes 1 = .ok (.aload_n 0, 1) := by decide +kernel
theorem dL_boxes_2 : decode cL_boxes 2 = .ok (.iconst 0, 1) := by decide +kernel
theorem dL_boxes_3 : decode cL_boxes 3 = .ok (.invokestatic 37, 3) := by decide +kernel
theorem dL_boxes_6 : decode cL_boxes 6 = .ok (.bipush 64, 2) := by decide +kernel
theorem dL_boxes_8 : decode cL_boxes 8 = .ok (.idiv, 1) := by decide +kernel
theorem dL_boxes_9 : decode cL_boxes 9 = .ok (.bipush 7, 2) := by decide +kernel
theorem dL_boxes_11 : decode cL_boxes 11 = .ok (.invokestatic 43, 3) := by decide +kernel
theorem dL_boxes_14 : decode cL_boxes 14 = .ok (.iadd, 1) := by decide +kernel
theorem dL_boxes_15 : decode cL_boxes 15 = .ok (.ireturn, 1) := by decide +kernel
theorem dL_wardOf_0 : decode cL_wardOf 0 = .ok (.aload_n 0, 1) := by decide +kernel
theorem dL_wardOf_1 : decode cL_wardOf 1 = .ok (.iconst 2, 1) := by decide +kernel
theorem dL_wardOf_2 : decode cL_wardOf 2 = .ok (.invokestatic 37, 3) := by decide +kernel
theorem dL_wardOf_5 : decode cL_wardOf 5 = .ok (.iconst 2, 1) := by decide +kernel
theorem dL_wardOf_6 : decode cL_wardOf 6 = .ok (.iload_n 1, 1) := by decide +kernel
theorem dL_wardOf_7 : decode cL_wardOf 7 = .ok (.imul, 1) := by decide +kernel
theorem dL_wardOf_8 : decode cL_wardOf 8 = .ok (.ishr, 1) := by decide +kernel
theorem dL_wardOf_9 : decode cL_wardOf 9 = .ok (.aload_n 0, 1) := by decide +kernel
theorem dL_wardOf_10 : decode cL_wardOf 10 = .ok (.invokestatic 51, 3) := by decide +kernel
theorem dL_wardOf_13 : decode cL_wardOf 13 = .ok (.invokestatic 43, 3) := by decide +kernel
theorem dL_wardOf_16 : decode cL_wardOf 16 = .ok (.ireturn, 1) := by decide +kernel
theorem dL_tables_0 : decode cL_tables 0 = .ok (.iconst 1, 1) := by decide +kernel
theorem dL_tables_1 : decode cL_tables 1 = .ok (.aload_n 0, 1) := by decide +kernel
theorem dL_tables_2 : decode cL_tables 2 = .ok (.iconst 0, 1) := by decide +kernel
theorem dL_tables_3 : decode cL_tables 3 = .ok (.invokestatic 37, 3) := by decide +kernel
theorem dL_tables_6 : decode cL_tables 6 = .ok (.sipush 512, 3) := by decide +kernel
theorem dL_tables_9 : decode cL_tables 9 = .ok (.idiv, 1) := by decide +kernel
theorem dL_tables_10 : decode cL_tables 10 = .ok (.iconst 4, 1) := by decide +kernel
theorem dL_tables_11 : decode cL_tables 11 = .ok (.invokestatic 43, 3) := by decide +kernel
theorem dL_tables_14 : decode cL_tables 14 = .ok (.iadd, 1) := by decide +kernel
theorem dL_tables_15 : decode cL_tables 15 = .ok (.ireturn, 1) := by decide +kernel
theorem dL_slip_0 : decode cL_slip 0 = .ok (.aload_n 0, 1) := by decide +kernel
theorem dL_slip_1 : decode cL_slip 1 = .ok (.iconst 3, 1) := by decide +kernel
theorem dL_slip_2 : decode cL_slip 2 = .ok (.invokestatic 37, 3) := by decide +kernel
theorem dL_slip_5 : decode cL_slip 5 = .ok (.iconst 5, 1) := by decide +kernel
theorem dL_slip_6 : decode cL_slip 6 = .ok (.iload_n 1, 1) := by decide +kernel
theorem dL_slip_7 : decode cL_slip 7 = .ok (.imul, 1) := by decide +kernel
theorem dL_slip_8 : decode cL_slip 8 = .ok (.ishr, 1) := by decide +kernel
theorem dL_slip_9 : decode cL_slip 9 = .ok (.iconst 3, 1) := by decide +kernel
theorem dL_slip_10 : decode cL_slip 10 = .ok (.invokestatic 43, 3) := by decide +kernel
theorem dL_slip_13 : decode cL_slip 13 = .ok (.ifCond .ne 7, 3) := by decide +kernel
theorem dL_slip_16 : decode cL_slip 16 = .ok (.iconst 0, 1) := by decide +kernel
theorem dL_slip_17 : decode cL_slip 17 = .ok (.goto 19, 3) := by decide +kernel
theorem dL_slip_20 : decode cL_slip 20 = .ok (.aload_n 0, 1) := by decide +kernel
theorem dL_slip_21 : decode cL_slip 21 = .ok (.iconst 3, 1) := by decide +kernel
theorem dL_slip_22 : decode cL_slip 22 = .ok (.invokestatic 37, 3) := by decide +kernel
theorem dL_slip_25 : decode cL_slip 25 = .ok (.iconst 5, 1) := by decide +kernel
theorem dL_slip_26 : decode cL_slip 26 = .ok (.iload_n 1, 1) := by decide +kernel
theorem dL_slip_27 : decode cL_slip 27 = .ok (.imul, 1) := by decide +kernel
theorem dL_slip_28 : decode cL_slip 28 = .ok (.iconst 2, 1) := by decide +kernel
theorem dL_slip_29 : decode cL_slip 29 = .ok (.iadd, 1) := by decide +kernel
theorem dL_slip_30 : decode cL_slip 30 = .ok (.ishr, 1) := by decide +kernel
theorem dL_slip_31 : decode cL_slip 31 = .ok (.bipush 25, 2) := by decide +kernel
theorem dL_slip_33 : decode cL_slip 33 = .ok (.invokestatic 43, 3) := by decide +kernel
theorem dL_slip_36 : decode cL_slip 36 = .ok (.ireturn, 1) := by decide +kernel
theorem dL_paper_0 : decode cL_paper 0 = .ok (.aload_n 0, 1) := by decide +kernel
theorem dL_paper_1 : decode cL_paper 1 = .ok (.iconst 4, 1) := by decide +kernel
theorem dL_paper_2 : decode cL_paper 2 = .ok (.iload_n 1, 1) := by decide +kernel
theorem dL_paper_3 : decode cL_paper 3 = .ok (.iconst 4, 1) := by decide +kernel
theorem dL_paper_4 : decode cL_paper 4 = .ok (.irem, 1) := by decide +kernel
theorem dL_paper_5 : decode cL_paper 5 = .ok (.iadd, 1) := by decide +kernel
theorem dL_paper_6 : decode cL_paper 6 = .ok (.invokestatic 37, 3) := by decide +kernel
theorem dL_paper_9 : decode cL_paper 9 = .ok (.iconst 2, 1) := by decide +kernel
theorem dL_paper_10 : decode cL_paper 10 = .ok (.iload_n 2, 1) := by decide +kernel
theorem dL_paper_11 : decode cL_paper 11 = .ok (.imul, 1) := by decide +kernel
theorem dL_paper_12 : decode cL_paper 12 = .ok (.iload_n 1, 1) := by decide +kernel
theorem dL_paper_13 : decode cL_paper 13 = .ok (.iadd, 1) := by decide +kernel
theorem dL_paper_14 : decode cL_paper 14 = .ok (.ishr, 1) := by decide +kernel
theorem dL_paper_15 : decode cL_paper 15 = .ok (.bipush 40, 2) := by decide +kernel
theorem dL_paper_17 : decode cL_paper 17 = .ok (.invokestatic 43, 3) := by decide +kernel
theorem dL_paper_20 : decode cL_paper 20 = .ok (.ireturn, 1) := by decide +kernel
theorem dL_papers_0 : decode cL_papers 0 = .ok (.iconst 0, 1) := by decide +kernel
theorem dL_papers_1 : decode cL_papers 1 = .ok (.istore_n 2, 1) := by decide +kernel
theorem dL_papers_2 : decode cL_papers 2 = .ok (.iconst 0, 1) := by decide +kernel
theorem dL_papers_3 : decode cL_papers 3 = .ok (.istore_n 3, 1) := by decide +kernel
theorem dL_papers_4 : decode cL_papers 4 = .ok (.iload_n 3, 1) := by decide +kernel
theorem dL_papers_5 : decode cL_papers 5 = .ok (.aload_n 0, 1) := by decide +kernel
theorem dL_papers_6 : decode cL_papers 6 = .ok (.invokestatic 54, 3) := by decide +kernel
theorem dL_papers_9 : decode cL_papers 9 = .ok (.if_icmp .gt 18, 3) := by decide +kernel
theorem dL_papers_12 : decode cL_papers 12 = .ok (.iload_n 2, 1) := by decide +kernel
theorem dL_papers_13 : decode cL_papers 13 = .ok (.aload_n 0, 1) := by decide +kernel
theorem dL_papers_14 : decode cL_papers 14 = .ok (.iload_n 1, 1) := by decide +kernel
theorem dL_papers_15 : decode cL_papers 15 = .ok (.iload_n 3, 1) := by decide +kernel
theorem dL_papers_16 : decode cL_papers 16 = .ok (.invokestatic 57, 3) := by decide +kernel
theorem dL_papers_19 : decode cL_papers 19 = .ok (.iadd, 1) := by decide +kernel
theorem dL_papers_20 : decode cL_papers 20 = .ok (.istore_n 2, 1) := by decide +kernel
theorem dL_papers_21 : decode cL_papers 21 = .ok (.iinc 3 1, 3) := by decide +kernel
theorem dL_papers_24 : decode cL_papers 24 = .ok (.goto (-20), 3) := by decide +kernel
theorem dL_papers_27 : decode cL_papers 27 = .ok (.iload_n 2, 1) := by decide +kernel
theorem dL_papers_28 : decode cL_papers 28 = .ok (.ireturn, 1) := by decide +kernel
theorem dL_issued_0 : decode cL_issued 0 = .ok (.iconst 0, 1) := by decide +kernel
theorem dL_issued_1 : decode cL_issued 1 = .ok (.aload_n 0, 1) := by decide +kernel
theorem dL_issued_2 : decode cL_issued 2 = .ok (.iload_n 1, 1) := by decide +kernel
theorem dL_issued_3 : decode cL_issued 3 = .ok (.invokestatic 61, 3) := by decide +kernel
theorem dL_issued_6 : decode cL_issued 6 = .ok (.aload_n 0, 1) := by decide +kernel
theorem dL_issued_7 : decode cL_issued 7 = .ok (.bipush 8, 2) := by decide +kernel
theorem dL_issued_9 : decode cL_issued 9 = .ok (.invokestatic 37, 3) := by decide +kernel
theorem dL_issued_12 : decode cL_issued 12 = .ok (.iconst 2, 1) := by decide +kernel
theorem dL_issued_13 : decode cL_issued 13 = .ok (.iload_n 1, 1) := by decide +kernel
theorem dL_issued_14 : decode cL_issued 14 = .ok (.imul, 1) := by decide +kernel
theorem dL_issued_15 : decode cL_issued 15 = .ok (.ishr, 1) := by decide +kernel
theorem dL_issued_16 : decode cL_issued 16 = .ok (.iconst 5, 1) := by decide +kernel
theorem dL_issued_17 : decode cL_issued 17 = .ok (.invokestatic 43, 3) := by decide +kernel
theorem dL_issued_20 : decode cL_issued 20 = .ok (.iconst 2, 1) := by decide +kernel
theorem dL_issued_21 : decode cL_issued 21 = .ok (.idiv, 1) := by decide +kernel
theorem dL_issued_22 : decode cL_issued 22 = .ok (.iadd, 1) := by decide +kernel
theorem dL_issued_23 : decode cL_issued 23 = .ok (.iconst 1, 1) := by decide +kernel
theorem dL_issued_24 : decode cL_issued 24 = .ok (.isub, 1) := by decide +kernel
theorem dL_issued_25 : decode cL_issued 25 = .ok (.invokestatic 64, 3) := by decide +kernel
theorem dL_issued_28 : decode cL_issued 28 = .ok (.ireturn, 1) := by decide +kernel
theorem dL_seal_0 : decode cL_seal 0 = .ok (.iconst 1, 1) := by decide +kernel
theorem dL_seal_1 : decode cL_seal 1 = .ok (.aload_n 0, 1) := by decide +kernel
theorem dL_seal_2 : decode cL_seal 2 = .ok (.bipush 9, 2) := by decide +kernel
theorem dL_seal_4 : decode cL_seal 4 = .ok (.invokestatic 37, 3) := by decide +kernel
theorem dL_seal_7 : decode cL_seal 7 = .ok (.iconst 1, 1) := by decide +kernel
theorem dL_seal_8 : decode cL_seal 8 = .ok (.iload_n 1, 1) := by decide +kernel
theorem dL_seal_9 : decode cL_seal 9 = .ok (.iadd, 1) := by decide +kernel
theorem dL_seal_10 : decode cL_seal 10 = .ok (.idiv, 1) := by decide +kernel
theorem dL_seal_11 : decode cL_seal 11 = .ok (.sipush 900, 3) := by decide +kernel
theorem dL_seal_14 : decode cL_seal 14 = .ok (.invokestatic 43, 3) := by decide +kernel
theorem dL_seal_17 : decode cL_seal 17 = .ok (.iadd, 1) := by decide +kernel
theorem dL_seal_18 : decode cL_seal 18 = .ok (.ireturn, 1) := by decide +kernel
theorem dL_setting_0 : decode cL_setting 0 = .ok (.aload_n 0, 1) := by decide +kernel
theorem dL_setting_1 : decode cL_setting 1 = .ok (.bipush 10, 2) := by decide +kernel
theorem dL_setting_3 : decode cL_setting 3 = .ok (.invokestatic 37, 3) := by decide +kernel
theorem dL_setting_6 : decode cL_setting 6 = .ok (.bipush 7, 2) := by decide +kernel
theorem dL_setting_8 : decode cL_setting 8 = .ok (.iload_n 1, 1) := by decide +kernel
theorem dL_setting_9 : decode cL_setting 9 = .ok (.imul, 1) := by decide +kernel
theorem dL_setting_10 : decode cL_setting 10 = .ok (.ishr, 1) := by decide +kernel
theorem dL_setting_11 : decode cL_setting 11 = .ok (.iload_n 1, 1) := by decide +kernel
theorem dL_setting_12 : decode cL_setting 12 = .ok (.ifCond .ne 8, 3) := by decide +kernel
theorem dL_setting_15 : decode cL_setting 15 = .ok (.bipush 51, 2) := by decide +kernel
theorem dL_setting_17 : decode cL_setting 17 = .ok (.goto 4, 3) := by decide +kernel
theorem dL_setting_20 : decode cL_setting 20 = .ok (.iconst 4, 1) := by decide +kernel
theorem dL_setting_21 : decode cL_setting 21 = .ok (.invokestatic 43, 3) := by decide +kernel
theorem dL_setting_24 : decode cL_setting 24 = .ok (.ireturn, 1) := by decide +kernel
theorem dL_name_0 : decode cL_name 0 = .ok (.new 14, 3) := by decide +kernel
theorem dL_name_3 : decode cL_name 3 = .ok (.dup, 1) := by decide +kernel
theorem dL_name_4 : decode cL_name 4 = .ok (.invokespecial 16, 3) := by decide +kernel
theorem dL_name_7 : decode cL_name 7 = .ok (.ldc 69, 2) := by decide +kernel
theorem dL_name_9 : decode cL_name 9 = .ok (.invokevirtual 17, 3) := by decide +kernel
theorem dL_name_12 : decode cL_name 12 = .ok (.bipush 112, 2) := by decide +kernel
theorem dL_name_14 : decode cL_name 14 = .ok (.iload_n 0, 1) := by decide +kernel
theorem dL_name_15 : decode cL_name 15 = .ok (.iadd, 1) := by decide +kernel
theorem dL_name_16 : decode cL_name 16 = .ok (.i2c, 1) := by decide +kernel
theorem dL_name_17 : decode cL_name 17 = .ok (.invokevirtual 71, 3) := by decide +kernel
theorem dL_name_20 : decode cL_name 20 = .ok (.bipush 97, 2) := by decide +kernel
theorem dL_name_22 : decode cL_name 22 = .ok (.iload_n 1, 1) := by decide +kernel
theorem dL_name_23 : decode cL_name 23 = .ok (.iadd, 1) := by decide +kernel
theorem dL_name_24 : decode cL_name 24 = .ok (.i2c, 1) := by decide +kernel
theorem dL_name_25 : decode cL_name 25 = .ok (.invokevirtual 71, 3) := by decide +kernel
theorem dL_name_28 : decode cL_name 28 = .ok (.invokevirtual 23, 3) := by decide +kernel
theorem dL_name_31 : decode cL_name 31 = .ok (.areturn, 1) := by decide +kernel
theorem dL_text_0 : decode cL_text 0 = .ok (.new 14, 3) := by decide +kernel
theorem dL_text_3 : decode cL_text 3 = .ok (.dup, 1) := by decide +kernel
theorem dL_text_4 : decode cL_text 4 = .ok (.invokespecial 16, 3) := by decide +kernel
theorem dL_text_7 : decode cL_text 7 = .ok (.ldc 74, 2) := by decide +kernel
theorem dL_text_9 : decode cL_text 9 = .ok (.invokevirtual 17, 3) := by decide +kernel
theorem dL_text_12 : decode cL_text 12 = .ok (.aload_n 0, 1) := by decide +kernel
theorem dL_text_13 : decode cL_text 13 = .ok (.iconst 0, 1) := by decide +kernel
theorem dL_text_14 : decode cL_text 14 = .ok (.invokestatic 76, 3) := by decide +kernel
theorem dL_text_17 : decode cL_text 17 = .ok (.invokevirtual 79, 3) := by decide +kernel
theorem dL_text_20 : decode cL_text 20 = .ok (.ldc 82, 2) := by decide +kernel
theorem dL_text_22 : decode cL_text 22 = .ok (.invokevirtual 17, 3) := by decide +kernel
theorem dL_text_25 : decode cL_text 25 = .ok (.aload_n 0, 1) := by decide +kernel
theorem dL_text_26 : decode cL_text 26 = .ok (.iconst 1, 1) := by decide +kernel
theorem dL_text_27 : decode cL_text 27 = .ok (.invokestatic 76, 3) := by decide +kernel
theorem dL_text_30 : decode cL_text 30 = .ok (.invokevirtual 79, 3) := by decide +kernel
theorem dL_text_33 : decode cL_text 33 = .ok (.ldc 84, 2) := by decide +kernel
theorem dL_text_35 : decode cL_text 35 = .ok (.invokevirtual 17, 3) := by decide +kernel
theorem dL_text_38 : decode cL_text 38 = .ok (.invokevirtual 23, 3) := by decide +kernel
theorem dL_text_41 : decode cL_text 41 = .ok (.astore_n 1, 1) := by decide +kernel
theorem dL_text_42 : decode cL_text 42 = .ok (.iconst 0, 1) := by decide +kernel
theorem dL_text_43 : decode cL_text 43 = .ok (.istore_n 2, 1) := by decide +kernel
theorem dL_text_44 : decode cL_text 44 = .ok (.iload_n 2, 1) := by decide +kernel
theorem dL_text_45 : decode cL_text 45 = .ok (.aload_n 0, 1) := by decide +kernel
theorem dL_text_46 : decode cL_text 46 = .ok (.invokestatic 54, 3) := by decide +kernel
theorem dL_text_49 : decode cL_text 49 = .ok (.if_icmp .ge 42, 3) := by decide +kernel
theorem dL_text_52 : decode cL_text 52 = .ok (.new 14, 3) := by decide +kernel
theorem dL_text_55 : decode cL_text 55 = .ok (.dup, 1) := by decide +kernel
theorem dL_text_56 : decode cL_text 56 = .ok (.invokespecial 16, 3) := by decide +kernel
theorem dL_text_59 : decode cL_text 59 = .ok (.aload_n 1, 1) := by decide +kernel
theorem dL_text_60 : decode cL_text 60 = .ok (.invokevirtual 17, 3) := by decide +kernel
theorem dL_text_63 : decode cL_text 63 = .ok (.ldc 86, 2) := by decide +kernel
theorem dL_text_65 : decode cL_text 65 = .ok (.invokevirtual 17, 3) := by decide +kernel
theorem dL_text_68 : decode cL_text 68 = .ok (.iconst 0, 1) := by decide +kernel
theorem dL_text_69 : decode cL_text 69 = .ok (.iload_n 2, 1) := by decide +kernel
theorem dL_text_70 : decode cL_text 70 = .ok (.invokestatic 88, 3) := by decide +kernel
theorem dL_text_73 : decode cL_text 73 = .ok (.invokevirtual 17, 3) := by decide +kernel
theorem dL_text_76 : decode cL_text 76 = .ok (.ldc 84, 2) := by decide +kernel
theorem dL_text_78 : decode cL_text 78 = .ok (.invokevirtual 17, 3) := by decide +kernel
theorem dL_text_81 : decode cL_text 81 = .ok (.invokevirtual 23, 3) := by decide +kernel
theorem dL_text_84 : decode cL_text 84 = .ok (.astore_n 1, 1) := by decide +kernel
theorem dL_text_85 : decode cL_text 85 = .ok (.iinc 2 1, 3) := by decide +kernel
theorem dL_text_88 : decode cL_text 88 = .ok (.goto (-44), 3) := by decide +kernel
theorem dL_text_91 : decode cL_text 91 = .ok (.iconst 0, 1) := by decide +kernel
theorem dL_text_92 : decode cL_text 92 = .ok (.istore_n 2, 1) := by decide +kernel
theorem dL_text_93 : decode cL_text 93 = .ok (.iload_n 2, 1) := by decide +kernel
theorem dL_text_94 : decode cL_text 94 = .ok (.aload_n 0, 1) := by decide +kernel
theorem dL_text_95 : decode cL_text 95 = .ok (.invokestatic 47, 3) := by decide +kernel
theorem dL_text_98 : decode cL_text 98 = .ok (.if_icmp .ge 85, 3) := by decide +kernel
theorem dL_text_101 : decode cL_text 101 = .ok (.new 14, 3) := by decide +kernel
theorem dL_text_104 : decode cL_text 104 = .ok (.dup, 1) := by decide +kernel
theorem dL_text_105 : decode cL_text 105 = .ok (.invokespecial 16, 3) := by decide +kernel
theorem dL_text_108 : decode cL_text 108 = .ok (.aload_n 1, 1) := by decide +kernel
theorem dL_text_109 : decode cL_text 109 = .ok (.invokevirtual 17, 3) := by decide +kernel
theorem dL_text_112 : decode cL_text 112 = .ok (.ldc 92, 2) := by decide +kernel
theorem dL_text_114 : decode cL_text 114 = .ok (.invokevirtual 17, 3) := by decide +kernel
theorem dL_text_117 : decode cL_text 117 = .ok (.iconst 1, 1) := by decide +kernel
theorem dL_text_118 : decode cL_text 118 = .ok (.iload_n 2, 1) := by decide +kernel
theorem dL_text_119 : decode cL_text 119 = .ok (.invokestatic 88, 3) := by decide +kernel
theorem dL_text_122 : decode cL_text 122 = .ok (.invokevirtual 17, 3) := by decide +kernel
theorem dL_text_125 : decode cL_text 125 = .ok (.aload_n 0, 1) := by decide +kernel
theorem dL_text_126 : decode cL_text 126 = .ok (.iload_n 2, 1) := by decide +kernel
theorem dL_text_127 : decode cL_text 127 = .ok (.invokestatic 94, 3) := by decide +kernel
theorem dL_text_130 : decode cL_text 130 = .ok (.ifCond .ge 8, 3) := by decide +kernel
theorem dL_text_133 : decode cL_text 133 = .ok (.ldc 69, 2) := by decide +kernel
theorem dL_text_135 : decode cL_text 135 = .ok (.goto 30, 3) := by decide +kernel
theorem dL_text_138 : decode cL_text 138 = .ok (.new 14, 3) := by decide +kernel
theorem dL_text_141 : decode cL_text 141 = .ok (.dup, 1) := by decide +kernel
theorem dL_text_142 : decode cL_text 142 = .ok (.invokespecial 16, 3) := by decide +kernel
theorem dL_text_145 : decode cL_text 145 = .ok (.ldc 97, 2) := by decide +kernel
theorem dL_text_147 : decode cL_text 147 = .ok (.invokevirtual 17, 3) := by decide +kernel
theorem dL_text_150 : decode cL_text 150 = .ok (.iconst 1, 1) := by decide +kernel
theorem dL_text_151 : decode cL_text 151 = .ok (.aload_n 0, 1) := by decide +kernel
theorem dL_text_152 : decode cL_text 152 = .ok (.iload_n 2, 1) := by decide +kernel
theorem dL_text_153 : decode cL_text 153 = .ok (.invokestatic 94, 3) := by decide +kernel
theorem dL_text_156 : decode cL_text 156 = .ok (.invokestatic 88, 3) := by decide +kernel
theorem dL_text_159 : decode cL_text 159 = .ok (.invokevirtual 17, 3) := by decide +kernel
theorem dL_text_162 : decode cL_text 162 = .ok (.invokevirtual 23, 3) := by decide +kernel
theorem dL_text_165 : decode cL_text 165 = .ok (.invokevirtual 17, 3) := by decide +kernel
theorem dL_text_168 : decode cL_text 168 = .ok (.ldc 84, 2) := by decide +kernel
theorem dL_text_170 : decode cL_text 170 = .ok (.invokevirtual 17, 3) := by decide +kernel
theorem dL_text_173 : decode cL_text 173 = .ok (.invokevirtual 23, 3) := by decide +kernel
theorem dL_text_176 : decode cL_text 176 = .ok (.astore_n 1, 1) := by decide +kernel
theorem dL_text_177 : decode cL_text 177 = .ok (.iinc 2 1, 3) := by decide +kernel
theorem dL_text_180 : decode cL_text 180 = .ok (.goto (-87), 3) := by decide +kernel
theorem dL_text_183 : decode cL_text 183 = .ok (.iconst 0, 1) := by decide +kernel
theorem dL_text_184 : decode cL_text 184 = .ok (.istore_n 2, 1) := by decide +kernel
theorem dL_text_185 : decode cL_text 185 = .ok (.iload_n 2, 1) := by decide +kernel
theorem dL_text_186 : decode cL_text 186 = .ok (.aload_n 0, 1) := by decide +kernel
theorem dL_text_187 : decode cL_text 187 = .ok (.invokestatic 51, 3) := by decide +kernel
theorem dL_text_190 : decode cL_text 190 = .ok (.if_icmp .ge 59, 3) := by decide +kernel
theorem dL_text_193 : decode cL_text 193 = .ok (.new 14, 3) := by decide +kernel
theorem dL_text_196 : decode cL_text 196 = .ok (.dup, 1) := by decide +kernel
theorem dL_text_197 : decode cL_text 197 = .ok (.invokespecial 16, 3) := by decide +kernel
theorem dL_text_200 : decode cL_text 200 = .ok (.aload_n 1, 1) := by decide +kernel
theorem dL_text_201 : decode cL_text 201 = .ok (.invokevirtual 17, 3) := by decide +kernel
theorem dL_text_204 : decode cL_text 204 = .ok (.ldc 99, 2) := by decide +kernel
theorem dL_text_206 : decode cL_text 206 = .ok (.invokevirtual 17, 3) := by decide +kernel
theorem dL_text_209 : decode cL_text 209 = .ok (.iconst 2, 1) := by decide +kernel
theorem dL_text_210 : decode cL_text 210 = .ok (.iload_n 2, 1) := by decide +kernel
theorem dL_text_211 : decode cL_text 211 = .ok (.invokestatic 88, 3) := by decide +kernel
theorem dL_text_214 : decode cL_text 214 = .ok (.invokevirtual 17, 3) := by decide +kernel
theorem dL_text_217 : decode cL_text 217 = .ok (.ldc 21, 2) := by decide +kernel
theorem dL_text_219 : decode cL_text 219 = .ok (.invokevirtual 17, 3) := by decide +kernel
theorem dL_text_222 : decode cL_text 222 = .ok (.iconst 1, 1) := by decide +kernel
theorem dL_text_223 : decode cL_text 223 = .ok (.aload_n 0, 1) := by decide +kernel
theorem dL_text_224 : decode cL_text 224 = .ok (.iload_n 2, 1) := by decide +kernel
theorem dL_text_225 : decode cL_text 225 = .ok (.invokestatic 101, 3) := by decide +kernel
theorem dL_text_228 : decode cL_text 228 = .ok (.invokestatic 88, 3) := by decide +kernel
theorem dL_text_231 : decode cL_text 231 = .ok (.invokevirtual 17, 3) := by decide +kernel
theorem dL_text_234 : decode cL_text 234 = .ok (.ldc 84, 2) := by decide +kernel
theorem dL_text_236 : decode cL_text 236 = .ok (.invokevirtual 17, 3) := by decide +kernel
theorem dL_text_239 : decode cL_text 239 = .ok (.invokevirtual 23, 3) := by decide +kernel
theorem dL_text_242 : decode cL_text 242 = .ok (.astore_n 1, 1) := by decide +kernel
theorem dL_text_243 : decode cL_text 243 = .ok (.iinc 2 1, 3) := by decide +kernel
theorem dL_text_246 : decode cL_text 246 = .ok (.goto (-61), 3) := by decide +kernel
theorem dL_text_249 : decode cL_text 249 = .ok (.iconst 0, 1) := by decide +kernel
theorem dL_text_250 : decode cL_text 250 = .ok (.istore_n 2, 1) := by decide +kernel
theorem dL_text_251 : decode cL_text 251 = .ok (.iload_n 2, 1) := by decide +kernel
theorem dL_text_252 : decode cL_text 252 = .ok (.aload_n 0, 1) := by decide +kernel
theorem dL_text_253 : decode cL_text 253 = .ok (.invokestatic 104, 3) := by decide +kernel
theorem dL_text_256 : decode cL_text 256 = .ok (.if_icmp .ge 145, 3) := by decide +kernel
theorem dL_text_259 : decode cL_text 259 = .ok (.new 14, 3) := by decide +kernel
theorem dL_text_262 : decode cL_text 262 = .ok (.dup, 1) := by decide +kernel
theorem dL_text_263 : decode cL_text 263 = .ok (.invokespecial 16, 3) := by decide +kernel
theorem dL_text_266 : decode cL_text 266 = .ok (.aload_n 1, 1) := by decide +kernel
theorem dL_text_267 : decode cL_text 267 = .ok (.invokevirtual 17, 3) := by decide +kernel
theorem dL_text_270 : decode cL_text 270 = .ok (.ldc 107, 2) := by decide +kernel
theorem dL_text_272 : decode cL_text 272 = .ok (.invokevirtual 17, 3) := by decide +kernel
theorem dL_text_275 : decode cL_text 275 = .ok (.iconst 3, 1) := by decide +kernel
theorem dL_text_276 : decode cL_text 276 = .ok (.iload_n 2, 1) := by decide +kernel
theorem dL_text_277 : decode cL_text 277 = .ok (.invokestatic 88, 3) := by decide +kernel
theorem dL_text_280 : decode cL_text 280 = .ok (.invokevirtual 17, 3) := by decide +kernel
theorem dL_text_283 : decode cL_text 283 = .ok (.ldc 21, 2) := by decide +kernel
theorem dL_text_285 : decode cL_text 285 = .ok (.invokevirtual 17, 3) := by decide +kernel
theorem dL_text_288 : decode cL_text 288 = .ok (.iconst 2, 1) := by decide +kernel
theorem dL_text_289 : decode cL_text 289 = .ok (.aload_n 0, 1) := by decide +kernel
theorem dL_text_290 : decode cL_text 290 = .ok (.iload_n 2, 1) := by decide +kernel
theorem dL_text_291 : decode cL_text 291 = .ok (.invokestatic 109, 3) := by decide +kernel
theorem dL_text_294 : decode cL_text 294 = .ok (.invokestatic 88, 3) := by decide +kernel
theorem dL_text_297 : decode cL_text 297 = .ok (.invokevirtual 17, 3) := by decide +kernel
theorem dL_text_300 : decode cL_text 300 = .ok (.ldc 21, 2) := by decide +kernel
theorem dL_text_302 : decode cL_text 302 = .ok (.invokevirtual 17, 3) := by decide +kernel
theorem dL_text_305 : decode cL_text 305 = .ok (.aload_n 0, 1) := by decide +kernel
theorem dL_text_306 : decode cL_text 306 = .ok (.iload_n 2, 1) := by decide +kernel
theorem dL_text_307 : decode cL_text 307 = .ok (.invokestatic 112, 3) := by decide +kernel
theorem dL_text_310 : decode cL_text 310 = .ok (.invokevirtual 79, 3) := by decide +kernel
theorem dL_text_313 : decode cL_text 313 = .ok (.ldc 21, 2) := by decide +kernel
theorem dL_text_315 : decode cL_text 315 = .ok (.invokevirtual 17, 3) := by decide +kernel
theorem dL_text_318 : decode cL_text 318 = .ok (.aload_n 0, 1) := by decide +kernel
theorem dL_text_319 : decode cL_text 319 = .ok (.iload_n 2, 1) := by decide +kernel
theorem dL_text_320 : decode cL_text 320 = .ok (.invokestatic 115, 3) := by decide +kernel
theorem dL_text_323 : decode cL_text 323 = .ok (.invokevirtual 79, 3) := by decide +kernel
theorem dL_text_326 : decode cL_text 326 = .ok (.invokevirtual 23, 3) := by decide +kernel
theorem dL_text_329 : decode cL_text 329 = .ok (.astore_n 1, 1) := by decide +kernel
theorem dL_text_330 : decode cL_text 330 = .ok (.iconst 0, 1) := by decide +kernel
theorem dL_text_331 : decode cL_text 331 = .ok (.istore_n 3, 1) := by decide +kernel
theorem dL_text_332 : decode cL_text 332 = .ok (.iload_n 3, 1) := by decide +kernel
theorem dL_text_333 : decode cL_text 333 = .ok (.aload_n 0, 1) := by decide +kernel
theorem dL_text_334 : decode cL_text 334 = .ok (.invokestatic 54, 3) := by decide +kernel
theorem dL_text_337 : decode cL_text 337 = .ok (.if_icmp .gt 38, 3) := by decide +kernel
theorem dL_text_340 : decode cL_text 340 = .ok (.new 14, 3) := by decide +kernel
theorem dL_text_343 : decode cL_text 343 = .ok (.dup, 1) := by decide +kernel
theorem dL_text_344 : decode cL_text 344 = .ok (.invokespecial 16, 3) := by decide +kernel
theorem dL_text_347 : decode cL_text 347 = .ok (.aload_n 1, 1) := by decide +kernel
theorem dL_text_348 : decode cL_text 348 = .ok (.invokevirtual 17, 3) := by decide +kernel
theorem dL_text_351 : decode cL_text 351 = .ok (.ldc 21, 2) := by decide +kernel
theorem dL_text_353 : decode cL_text 353 = .ok (.invokevirtual 17, 3) := by decide +kernel
theorem dL_text_356 : decode cL_text 356 = .ok (.aload_n 0, 1) := by decide +kernel
theorem dL_text_357 : decode cL_text 357 = .ok (.iload_n 2, 1) := by decide +kernel
theorem dL_text_358 : decode cL_text 358 = .ok (.iload_n 3, 1) := by decide +kernel
theorem dL_text_359 : decode cL_text 359 = .ok (.invokestatic 57, 3) := by decide +kernel
theorem dL_text_362 : decode cL_text 362 = .ok (.invokevirtual 79, 3) := by decide +kernel
theorem dL_text_365 : decode cL_text 365 = .ok (.invokevirtual 23, 3) := by decide +kernel
theorem dL_text_368 : decode cL_text 368 = .ok (.astore_n 1, 1) := by decide +kernel
theorem dL_text_369 : decode cL_text 369 = .ok (.iinc 3 1, 3) := by decide +kernel
theorem dL_text_372 : decode cL_text 372 = .ok (.goto (-40), 3) := by decide +kernel
theorem dL_text_375 : decode cL_text 375 = .ok (.new 14, 3) := by decide +kernel
theorem dL_text_378 : decode cL_text 378 = .ok (.dup, 1) := by decide +kernel
theorem dL_text_379 : decode cL_text 379 = .ok (.invokespecial 16, 3) := by decide +kernel
theorem dL_text_382 : decode cL_text 382 = .ok (.aload_n 1, 1) := by decide +kernel
theorem dL_text_383 : decode cL_text 383 = .ok (.invokevirtual 17, 3) := by decide +kernel
theorem dL_text_386 : decode cL_text 386 = .ok (.ldc 84, 2) := by decide +kernel
theorem dL_text_388 : decode cL_text 388 = .ok (.invokevirtual 17, 3) := by decide +kernel
theorem dL_text_391 : decode cL_text 391 = .ok (.invokevirtual 23, 3) := by decide +kernel
theorem dL_text_394 : decode cL_text 394 = .ok (.astore_n 1, 1) := by decide +kernel
theorem dL_text_395 : decode cL_text 395 = .ok (.iinc 2 1, 3) := by decide +kernel
theorem dL_text_398 : decode cL_text 398 = .ok (.goto (-147), 3) := by decide +kernel
theorem dL_text_401 : decode cL_text 401 = .ok (.iconst 0, 1) := by decide +kernel
theorem dL_text_402 : decode cL_text 402 = .ok (.istore_n 2, 1) := by decide +kernel
theorem dL_text_403 : decode cL_text 403 = .ok (.iload_n 2, 1) := by decide +kernel
theorem dL_text_404 : decode cL_text 404 = .ok (.aload_n 0, 1) := by decide +kernel
theorem dL_text_405 : decode cL_text 405 = .ok (.invokestatic 118, 3) := by decide +kernel
theorem dL_text_408 : decode cL_text 408 = .ok (.if_icmp .ge 42, 3) := by decide +kernel
theorem dL_text_411 : decode cL_text 411 = .ok (.new 14, 3) := by decide +kernel
theorem dL_text_414 : decode cL_text 414 = .ok (.dup, 1) := by decide +kernel
theorem dL_text_415 : decode cL_text 415 = .ok (.invokespecial 16, 3) := by decide +kernel
theorem dL_text_418 : decode cL_text 418 = .ok (.aload_n 1, 1) := by decide +kernel
theorem dL_text_419 : decode cL_text 419 = .ok (.invokevirtual 17, 3) := by decide +kernel
theorem dL_text_422 : decode cL_text 422 = .ok (.ldc 121, 2) := by decide +kernel
theorem dL_text_424 : decode cL_text 424 = .ok (.invokevirtual 17, 3) := by decide +kernel
theorem dL_text_427 : decode cL_text 427 = .ok (.aload_n 0, 1) := by decide +kernel
theorem dL_text_428 : decode cL_text 428 = .ok (.iload_n 2, 1) := by decide +kernel
theorem dL_text_429 : decode cL_text 429 = .ok (.invokestatic 123, 3) := by decide +kernel
theorem dL_text_432 : decode cL_text 432 = .ok (.invokevirtual 79, 3) := by decide +kernel
theorem dL_text_435 : decode cL_text 435 = .ok (.ldc 84, 2) := by decide +kernel
theorem dL_text_437 : decode cL_text 437 = .ok (.invokevirtual 17, 3) := by decide +kernel
theorem dL_text_440 : decode cL_text 440 = .ok (.invokevirtual 23, 3) := by decide +kernel
theorem dL_text_443 : decode cL_text 443 = .ok (.astore_n 1, 1) := by decide +kernel
theorem dL_text_444 : decode cL_text 444 = .ok (.iinc 2 1, 3) := by decide +kernel
theorem dL_text_447 : decode cL_text 447 = .ok (.goto (-44), 3) := by decide +kernel
theorem dL_text_450 : decode cL_text 450 = .ok (.aload_n 1, 1) := by decide +kernel
theorem dL_text_451 : decode cL_text 451 = .ok (.areturn, 1) := by decide +kernel
theorem dL_hall_0 : decode cL_hall 0 = .ok (.new 32, 3) := by decide +kernel
theorem dL_hall_3 : decode cL_hall 3 = .ok (.dup, 1) := by decide +kernel
theorem dL_hall_4 : decode cL_hall 4 = .ok (.invokespecial 126, 3) := by decide +kernel
theorem dL_hall_7 : decode cL_hall 7 = .ok (.astore_n 1, 1) := by decide +kernel
theorem dL_hall_8 : decode cL_hall 8 = .ok (.aload_n 0, 1) := by decide +kernel
theorem dL_hall_9 : decode cL_hall 9 = .ok (.invokestatic 127, 3) := by decide +kernel
theorem dL_hall_12 : decode cL_hall 12 = .ok (.astore_n 2, 1) := by decide +kernel
theorem dL_hall_13 : decode cL_hall 13 = .ok (.aload_n 1, 1) := by decide +kernel
theorem dL_hall_14 : decode cL_hall 14 = .ok (.aload_n 2, 1) := by decide +kernel
theorem dL_hall_15 : decode cL_hall 15 = .ok (.invokestatic 131, 3) := by decide +kernel
theorem dL_hall_18 : decode cL_hall 18 = .ok (.aload_n 1, 1) := by decide +kernel
theorem dL_hall_19 : decode cL_hall 19 = .ok (.aload_n 2, 1) := by decide +kernel
theorem dL_hall_20 : decode cL_hall 20 = .ok (.invokevirtual 8, 3) := by decide +kernel
theorem dL_hall_23 : decode cL_hall 23 = .ok (.invokevirtual 135, 3) := by decide +kernel
theorem dL_hall_26 : decode cL_hall 26 = .ok (.aload_n 2, 1) := by decide +kernel
theorem dL_hall_27 : decode cL_hall 27 = .ok (.invokestatic 139, 3) := by decide +kernel
theorem dL_hall_30 : decode cL_hall 30 = .ok (.if_icmp .ne 7, 3) := by decide +kernel
theorem dL_hall_33 : decode cL_hall 33 = .ok (.aload_n 1, 1) := by decide +kernel
theorem dL_hall_34 : decode cL_hall 34 = .ok (.goto 4, 3) := by decide +kernel
theorem dL_hall_37 : decode cL_hall 37 = .ok (.aconst_null, 1) := by decide +kernel
theorem dL_hall_38 : decode cL_hall 38 = .ok (.areturn, 1) := by decide +kernel
theorem dL_changes_0 : decode cL_changes 0 = .ok (.iload_n 1, 1) := by decide +kernel
theorem dL_changes_1 : decode cL_changes 1 = .ok (.bipush 16, 2) := by decide +kernel
theorem dL_changes_3 : decode cL_changes 3 = .ok (.idiv, 1) := by decide +kernel
theorem dL_changes_4 : decode cL_changes 4 = .ok (.aload_n 0, 1) := by decide +kernel
theorem dL_changes_5 : decode cL_changes 5 = .ok (.iconst 3, 1) := by decide +kernel
theorem dL_changes_6 : decode cL_changes 6 = .ok (.invokevirtual 143, 3) := by decide +kernel
theorem dL_changes_9 : decode cL_changes 9 = .ok (.invokestatic 43, 3) := by decide +kernel
theorem dL_changes_12 : decode cL_changes 12 = .ok (.istore_n 2, 1) := by decide +kernel
theorem dL_changes_13 : decode cL_changes 13 = .ok (.iload_n 1, 1) := by decide +kernel
theorem dL_changes_14 : decode cL_changes 14 = .ok (.sipush 256, 3) := by decide +kernel
theorem dL_changes_17 : decode cL_changes 17 = .ok (.idiv, 1) := by decide +kernel
theorem dL_changes_18 : decode cL_changes 18 = .ok (.aload_n 0, 1) := by decide +kernel
theorem dL_changes_19 : decode cL_changes 19 = .ok (.iconst 4, 1) := by decide +kernel
theorem dL_changes_20 : decode cL_changes 20 = .ok (.invokevirtual 143, 3) := by decide +kernel
theorem dL_changes_23 : decode cL_changes 23 = .ok (.invokestatic 43, 3) := by decide +kernel
theorem dL_changes_26 : decode cL_changes 26 = .ok (.istore_n 3, 1) := by decide +kernel
theorem dL_changes_27 : decode cL_changes 27 = .ok (.iload_n 1, 1) := by decide +kernel
theorem dL_changes_28 : decode cL_changes 28 = .ok (.bipush 16, 2) := by decide +kernel
theorem dL_changes_30 : decode cL_changes 30 = .ok (.invokestatic 43, 3) := by decide +kernel
theorem dL_changes_33 : decode cL_changes 33 = .ok (.tableswitch 197 0 11 #[63, 63, 63, 72, 72, 82, 82, 91, 100, 134, 143, 151], 63) := by decide +kernel
theorem dL_changes_96 : decode cL_changes 96 = .ok (.aload_n 0, 1) := by decide +kernel
theorem dL_changes_97 : decode cL_changes 97 = .ok (.iload_n 2, 1) := by decide +kernel
theorem dL_changes_98 : decode cL_changes 98 = .ok (.invokevirtual 146, 3) := by decide +kernel
theorem dL_changes_101 : decode cL_changes 101 = .ok (.pop, 1) := by decide +kernel
theorem dL_changes_102 : decode cL_changes 102 = .ok (.goto 133, 3) := by decide +kernel
theorem dL_changes_105 : decode cL_changes 105 = .ok (.aload_n 0, 1) := by decide +kernel
theorem dL_changes_106 : decode cL_changes 106 = .ok (.iload_n 2, 1) := by decide +kernel
theorem dL_changes_107 : decode cL_changes 107 = .ok (.iload_n 3, 1) := by decide +kernel
theorem dL_changes_108 : decode cL_changes 108 = .ok (.invokevirtual 149, 3) := by decide +kernel
theorem dL_changes_111 : decode cL_changes 111 = .ok (.pop, 1) := by decide +kernel
theorem dL_changes_112 : decode cL_changes 112 = .ok (.goto 123, 3) := by decide +kernel
theorem dL_changes_115 : decode cL_changes 115 = .ok (.aload_n 0, 1) := by decide +kernel
theorem dL_changes_116 : decode cL_changes 116 = .ok (.iload_n 3, 1) := by decide +kernel
theorem dL_changes_117 : decode cL_changes 117 = .ok (.invokevirtual 152, 3) := by decide +kernel
theorem dL_changes_120 : decode cL_changes 120 = .ok (.pop, 1) := by decide +kernel
theorem dL_changes_121 : decode cL_changes 121 = .ok (.goto 114, 3) := by decide +kernel
theorem dL_changes_124 : decode cL_changes 124 = .ok (.aload_n 0, 1) := by decide +kernel
theorem dL_changes_125 : decode cL_changes 125 = .ok (.iload_n 3, 1) := by decide +kernel
theorem dL_changes_126 : decode cL_changes 126 = .ok (.invokevirtual 155, 3) := by decide +kernel
theorem dL_changes_129 : decode cL_changes 129 = .ok (.pop, 1) := by decide +kernel
theorem dL_changes_130 : decode cL_changes 130 = .ok (.goto 105, 3) := by decide +kernel
theorem dL_changes_133 : decode cL_changes 133 = .ok (.iload_n 1, 1) := by decide +kernel
theorem dL_changes_134 : decode cL_changes 134 = .ok (.sipush 256, 3) := by decide +kernel
theorem dL_changes_137 : decode cL_changes 137 = .ok (.idiv, 1) := by decide +kernel
theorem dL_changes_138 : decode cL_changes 138 = .ok (.iconst 2, 1) := by decide +kernel
theorem dL_changes_139 : decode cL_changes 139 = .ok (.invokestatic 43, 3) := by decide +kernel
theorem dL_changes_142 : decode cL_changes 142 = .ok (.ifCond .ne 93, 3) := by decide +kernel
theorem dL_changes_145 : decode cL_changes 145 = .ok (.aload_n 0, 1) := by decide +kernel
theorem dL_changes_146 : decode cL_changes 146 = .ok (.iload_n 2, 1) := by decide +kernel
theorem dL_changes_147 : decode cL_changes 147 = .ok (.iconst 1, 1) := by decide +kernel
theorem dL_changes_148 : decode cL_changes 148 = .ok (.iload_n 1, 1) := by decide +kernel
theorem dL_changes_149 : decode cL_changes 149 = .ok (.sipush 1024, 3) := by decide +kernel
theorem dL_changes_152 : decode cL_changes 152 = .ok (.idiv, 1) := by decide +kernel
theorem dL_changes_153 : decode cL_changes 153 = .ok (.sipush 900, 3) := by decide +kernel
theorem dL_changes_156 : decode cL_changes 156 = .ok (.invokestatic 43, 3) := by decide +kernel
theorem dL_changes_159 : decode cL_changes 159 = .ok (.iadd, 1) := by decide +kernel
theorem dL_changes_160 : decode cL_changes 160 = .ok (.invokevirtual 157, 3) := by decide +kernel
theorem dL_changes_163 : decode cL_changes 163 = .ok (.pop, 1) := by decide +kernel
theorem dL_changes_164 : decode cL_changes 164 = .ok (.goto 71, 3) := by decide +kernel
theorem dL_changes_167 : decode cL_changes 167 = .ok (.aload_n 0, 1) := by decide +kernel
theorem dL_changes_168 : decode cL_changes 168 = .ok (.iload_n 2, 1) := by decide +kernel
theorem dL_changes_169 : decode cL_changes 169 = .ok (.invokevirtual 160, 3) := by decide +kernel
theorem dL_changes_172 : decode cL_changes 172 = .ok (.pop, 1) := by decide +kernel
theorem dL_changes_173 : decode cL_changes 173 = .ok (.goto 62, 3) := by decide +kernel
theorem dL_changes_176 : decode cL_changes 176 = .ok (.aload_n 0, 1) := by decide +kernel
theorem dL_changes_177 : decode cL_changes 177 = .ok (.invokevirtual 163, 3) := by decide +kernel
theorem dL_changes_180 : decode cL_changes 180 = .ok (.pop, 1) := by decide +kernel
theorem dL_changes_181 : decode cL_changes 181 = .ok (.goto 54, 3) := by decide +kernel
theorem dL_changes_184 : decode cL_changes 184 = .ok (.iload_n 1, 1) := by decide +kernel
theorem dL_changes_185 : decode cL_changes 185 = .ok (.bipush 16, 2) := by decide +kernel
theorem dL_changes_187 : decode cL_changes 187 = .ok (.idiv, 1) := by decide +kernel
theorem dL_changes_188 : decode cL_changes 188 = .ok (.iconst 2, 1) := by decide +kernel
theorem dL_changes_189 : decode cL_changes 189 = .ok (.invokestatic 43, 3) := by decide +kernel
theorem dL_changes_192 : decode cL_changes 192 = .ok (.ifCond .ne 21, 3) := by decide +kernel
theorem dL_changes_195 : decode cL_changes 195 = .ok (.aload_n 0, 1) := by decide +kernel
theorem dL_changes_196 : decode cL_changes 196 = .ok (.iconst 0, 1) := by decide +kernel
theorem dL_changes_197 : decode cL_changes 197 = .ok (.iload_n 1, 1) := by decide +kernel
theorem dL_changes_198 : decode cL_changes 198 = .ok (.bipush 64, 2) := by decide +kernel
theorem dL_changes_200 : decode cL_changes 200 = .ok (.idiv, 1) := by decide +kernel
theorem dL_changes_201 : decode cL_changes 201 = .ok (.bipush 51, 2) := by decide +kernel
theorem dL_changes_203 : decode cL_changes 203 = .ok (.invokestatic 43, 3) := by decide +kernel
theorem dL_changes_206 : decode cL_changes 206 = .ok (.invokevirtual 166, 3) := by decide +kernel
theorem dL_changes_209 : decode cL_changes 209 = .ok (.pop, 1) := by decide +kernel
theorem dL_changes_210 : decode cL_changes 210 = .ok (.goto 25, 3) := by decide +kernel
theorem dL_changes_213 : decode cL_changes 213 = .ok (.aload_n 0, 1) := by decide +kernel
theorem dL_changes_214 : decode cL_changes 214 = .ok (.iconst 1, 1) := by decide +kernel
theorem dL_changes_215 : decode cL_changes 215 = .ok (.iload_n 1, 1) := by decide +kernel
theorem dL_changes_216 : decode cL_changes 216 = .ok (.bipush 64, 2) := by decide +kernel
theorem dL_changes_218 : decode cL_changes 218 = .ok (.idiv, 1) := by decide +kernel
theorem dL_changes_219 : decode cL_changes 219 = .ok (.iconst 5, 1) := by decide +kernel
theorem dL_changes_220 : decode cL_changes 220 = .ok (.invokestatic 43, 3) := by decide +kernel
theorem dL_changes_223 : decode cL_changes 223 = .ok (.invokevirtual 166, 3) := by decide +kernel
theorem dL_changes_226 : decode cL_changes 226 = .ok (.pop, 1) := by decide +kernel
theorem dL_changes_227 : decode cL_changes 227 = .ok (.goto 8, 3) := by decide +kernel
theorem dL_changes_230 : decode cL_changes 230 = .ok (.aload_n 0, 1) := by decide +kernel
theorem dL_changes_231 : decode cL_changes 231 = .ok (.invokevirtual 169, 3) := by decide +kernel
theorem dL_changes_234 : decode cL_changes 234 = .ok (.pop, 1) := by decide +kernel
theorem dL_changes_235 : decode cL_changes 235 = .ok (.return_, 1) := by decide +kernel
theorem dL_slipped_0 : decode cL_slipped 0 = .ok (.aload_n 0, 1) := by decide +kernel
theorem dL_slipped_1 : decode cL_slipped 1 = .ok (.iconst 0, 1) := by decide +kernel
theorem dL_slipped_2 : decode cL_slipped 2 = .ok (.invokevirtual 143, 3) := by decide +kernel
theorem dL_slipped_5 : decode cL_slipped 5 = .ok (.iconst 1, 1) := by decide +kernel
theorem dL_slipped_6 : decode cL_slipped 6 = .ok (.iadd, 1) := by decide +kernel
theorem dL_slipped_7 : decode cL_slipped 7 = .ok (.istore_n 3, 1) := by decide +kernel
theorem dL_slipped_8 : decode cL_slipped 8 = .ok (.iload_n 3, 1) := by decide +kernel
theorem dL_slipped_9 : decode cL_slipped 9 = .ok (.newarray .int, 2) := by decide +kernel
theorem dL_slipped_11 : decode cL_slipped 11 = .ok (.astore 4, 2) := by decide +kernel
theorem dL_slipped_13 : decode cL_slipped 13 = .ok (.aload_n 0, 1) := by decide +kernel
theorem dL_slipped_14 : decode cL_slipped 14 = .ok (.iload_n 1, 1) := by decide +kernel
theorem dL_slipped_15 : decode cL_slipped 15 = .ok (.invokevirtual 172, 3) := by decide +kernel
theorem dL_slipped_18 : decode cL_slipped 18 = .ok (.istore 5, 2) := by decide +kernel
theorem dL_slipped_20 : decode cL_slipped 20 = .ok (.iconst 0, 1) := by decide +kernel
theorem dL_slipped_21 : decode cL_slipped 21 = .ok (.istore 6, 2) := by decide +kernel
theorem dL_slipped_23 : decode cL_slipped 23 = .ok (.iconst 0, 1) := by decide +kernel
theorem dL_slipped_24 : decode cL_slipped 24 = .ok (.istore 7, 2) := by decide +kernel
theorem dL_slipped_26 : decode cL_slipped 26 = .ok (.iload 7, 2) := by decide +kernel
theorem dL_slipped_28 : decode cL_slipped 28 = .ok (.iload_n 3, 1) := by decide +kernel
theorem dL_slipped_29 : decode cL_slipped 29 = .ok (.if_icmp .ge 64, 3) := by decide +kernel
theorem dL_slipped_32 : decode cL_slipped 32 = .ok (.iconst 0, 1) := by decide +kernel
theorem dL_slipped_33 : decode cL_slipped 33 = .ok (.istore 8, 2) := by decide +kernel
theorem dL_slipped_35 : decode cL_slipped 35 = .ok (.iload 8, 2) := by decide +kernel
theorem dL_slipped_37 : decode cL_slipped 37 = .ok (.aload_n 0, 1) := by decide +kernel
theorem dL_slipped_38 : decode cL_slipped 38 = .ok (.iload_n 2, 1) := by decide +kernel
theorem dL_slipped_39 : decode cL_slipped 39 = .ok (.iload 7, 2) := by decide +kernel
theorem dL_slipped_41 : decode cL_slipped 41 = .ok (.invokevirtual 175, 3) := by decide +kernel
theorem dL_slipped_44 : decode cL_slipped 44 = .ok (.if_icmp .ge 43, 3) := by decide +kernel
theorem dL_slipped_47 : decode cL_slipped 47 = .ok (.iinc 6 1, 3) := by decide +kernel
theorem dL_slipped_50 : decode cL_slipped 50 = .ok (.aload 4, 2) := by decide +kernel
theorem dL_slipped_52 : decode cL_slipped 52 = .ok (.iload 5, 2) := by decide +kernel
theorem dL_slipped_54 : decode cL_slipped 54 = .ok (.ifCond .le 20, 3) := by decide +kernel
theorem dL_slipped_57 : decode cL_slipped 57 = .ok (.iload 6, 2) := by decide +kernel
theorem dL_slipped_59 : decode cL_slipped 59 = .ok (.iload 5, 2) := by decide +kernel
theorem dL_slipped_61 : decode cL_slipped 61 = .ok (.irem, 1) := by decide +kernel
theorem dL_slipped_62 : decode cL_slipped 62 = .ok (.ifCond .ne 12, 3) := by decide +kernel
theorem dL_slipped_65 : decode cL_slipped 65 = .ok (.iload 7, 2) := by decide +kernel
theorem dL_slipped_67 : decode cL_slipped 67 = .ok (.iconst 1, 1) := by decide +kernel
theorem dL_slipped_68 : decode cL_slipped 68 = .ok (.iadd, 1) := by decide +kernel
theorem dL_slipped_69 : decode cL_slipped 69 = .ok (.iload_n 3, 1) := by decide +kernel
theorem dL_slipped_70 : decode cL_slipped 70 = .ok (.irem, 1) := by decide +kernel
theorem dL_slipped_71 : decode cL_slipped 71 = .ok (.goto 5, 3) := by decide +kernel
theorem dL_slipped_74 : decode cL_slipped 74 = .ok (.iload 7, 2) := by decide +kernel
theorem dL_slipped_76 : decode cL_slipped 76 = .ok (.dup2, 1) := by decide +kernel
theorem dL_slipped_77 : decode cL_slipped 77 = .ok (.iaload, 1) := by decide +kernel
theorem dL_slipped_78 : decode cL_slipped 78 = .ok (.iconst 1, 1) := by decide +kernel
theorem dL_slipped_79 : decode cL_slipped 79 = .ok (.iadd, 1) := by decide +kernel
theorem dL_slipped_80 : decode cL_slipped 80 = .ok (.iastore, 1) := by decide +kernel
theorem dL_slipped_81 : decode cL_slipped 81 = .ok (.iinc 8 1, 3) := by decide +kernel
theorem dL_slipped_84 : decode cL_slipped 84 = .ok (.goto (-49), 3) := by decide +kernel
theorem dL_slipped_87 : decode cL_slipped 87 = .ok (.iinc 7 1, 3) := by decide +kernel
theorem dL_slipped_90 : decode cL_slipped 90 = .ok (.goto (-64), 3) := by decide +kernel
theorem dL_slipped_93 : decode cL_slipped 93 = .ok (.aload 4, 2) := by decide +kernel
theorem dL_slipped_95 : decode cL_slipped 95 = .ok (.areturn, 1) := by decide +kernel
theorem dL_valid_0 : decode cL_valid 0 = .ok (.aload_n 0, 1) := by decide +kernel
theorem dL_valid_1 : decode cL_valid 1 = .ok (.iload_n 1, 1) := by decide +kernel
theorem dL_valid_2 : decode cL_valid 2 = .ok (.iconst 3, 1) := by decide +kernel
theorem dL_valid_3 : decode cL_valid 3 = .ok (.invokevirtual 177, 3) := by decide +kernel
theorem dL_valid_6 : decode cL_valid 6 = .ok (.istore_n 2, 1) := by decide +kernel
theorem dL_valid_7 : decode cL_valid 7 = .ok (.iconst 0, 1) := by decide +kernel
theorem dL_valid_8 : decode cL_valid 8 = .ok (.istore_n 3, 1) := by decide +kernel
theorem dL_valid_9 : decode cL_valid 9 = .ok (.iload_n 3, 1) := by decide +kernel
theorem dL_valid_10 : decode cL_valid 10 = .ok (.iload_n 2, 1) := by decide +kernel
theorem dL_valid_11 : decode cL_valid 11 = .ok (.if_icmp .ge 103, 3) := by decide +kernel
theorem dL_valid_14 : decode cL_valid 14 = .ok (.iconst 0, 1) := by decide +kernel
theorem dL_valid_15 : decode cL_valid 15 = .ok (.istore 4, 2) := by decide +kernel
theorem dL_valid_17 : decode cL_valid 17 = .ok (.iload 4, 2) := by decide +kernel
theorem dL_valid_19 : decode cL_valid 19 = .ok (.iload_n 2, 1) := by decide +kernel
theorem dL_valid_20 : decode cL_valid 20 = .ok (.if_icmp .ge 88, 3) := by decide +kernel
theorem dL_valid_23 : decode cL_valid 23 = .ok (.aload_n 0, 1) := by decide +kernel
theorem dL_valid_24 : decode cL_valid 24 = .ok (.iload_n 1, 1) := by decide +kernel
theorem dL_valid_25 : decode cL_valid 25 = .ok (.iload_n 3, 1) := by decide +kernel
theorem dL_valid_26 : decode cL_valid 26 = .ok (.invokevirtual 180, 3) := by decide +kernel
theorem dL_valid_29 : decode cL_valid 29 = .ok (.aload_n 0, 1) := by decide +kernel
theorem dL_valid_30 : decode cL_valid 30 = .ok (.iload_n 1, 1) := by decide +kernel
theorem dL_valid_31 : decode cL_valid 31 = .ok (.iload 4, 2) := by decide +kernel
theorem dL_valid_33 : decode cL_valid 33 = .ok (.invokevirtual 180, 3) := by decide +kernel
theorem dL_valid_36 : decode cL_valid 36 = .ok (.if_icmp .eq 7, 3) := by decide +kernel
theorem dL_valid_39 : decode cL_valid 39 = .ok (.iconst 1, 1) := by decide +kernel
theorem dL_valid_40 : decode cL_valid 40 = .ok (.goto 4, 3) := by decide +kernel
theorem dL_valid_43 : decode cL_valid 43 = .ok (.iconst 0, 1) := by decide +kernel
theorem dL_valid_44 : decode cL_valid 44 = .ok (.istore 5, 2) := by decide +kernel
theorem dL_valid_46 : decode cL_valid 46 = .ok (.iconst 0, 1) := by decide +kernel
theorem dL_valid_47 : decode cL_valid 47 = .ok (.istore 6, 2) := by decide +kernel
theorem dL_valid_49 : decode cL_valid 49 = .ok (.iload 6, 2) := by decide +kernel
theorem dL_valid_51 : decode cL_valid 51 = .ok (.aload_n 0, 1) := by decide +kernel
theorem dL_valid_52 : decode cL_valid 52 = .ok (.iconst 0, 1) := by decide +kernel
theorem dL_valid_53 : decode cL_valid 53 = .ok (.invokevirtual 143, 3) := by decide +kernel
theorem dL_valid_56 : decode cL_valid 56 = .ok (.if_icmp .gt 39, 3) := by decide +kernel
theorem dL_valid_59 : decode cL_valid 59 = .ok (.iload 5, 2) := by decide +kernel
theorem dL_valid_61 : decode cL_valid 61 = .ok (.aload_n 0, 1) := by decide +kernel
theorem dL_valid_62 : decode cL_valid 62 = .ok (.iload_n 1, 1) := by decide +kernel
theorem dL_valid_63 : decode cL_valid 63 = .ok (.iload_n 3, 1) := by decide +kernel
theorem dL_valid_64 : decode cL_valid 64 = .ok (.iload 6, 2) := by decide +kernel
theorem dL_valid_66 : decode cL_valid 66 = .ok (.invokevirtual 183, 3) := by decide +kernel
theorem dL_valid_69 : decode cL_valid 69 = .ok (.aload_n 0, 1) := by decide +kernel
theorem dL_valid_70 : decode cL_valid 70 = .ok (.iload_n 1, 1) := by decide +kernel
theorem dL_valid_71 : decode cL_valid 71 = .ok (.iload 4, 2) := by decide +kernel
theorem dL_valid_73 : decode cL_valid 73 = .ok (.iload 6, 2) := by decide +kernel
theorem dL_valid_75 : decode cL_valid 75 = .ok (.invokevirtual 183, 3) := by decide +kernel
theorem dL_valid_78 : decode cL_valid 78 = .ok (.if_icmp .ne 7, 3) := by decide +kernel
theorem dL_valid_81 : decode cL_valid 81 = .ok (.iconst 1, 1) := by decide +kernel
theorem dL_valid_82 : decode cL_valid 82 = .ok (.goto 4, 3) := by decide +kernel
theorem dL_valid_85 : decode cL_valid 85 = .ok (.iconst 0, 1) := by decide +kernel
theorem dL_valid_86 : decode cL_valid 86 = .ok (.iand, 1) := by decide +kernel
theorem dL_valid_87 : decode cL_valid 87 = .ok (.istore 5, 2) := by decide +kernel
theorem dL_valid_89 : decode cL_valid 89 = .ok (.iinc 6 1, 3) := by decide +kernel
theorem dL_valid_92 : decode cL_valid 92 = .ok (.goto (-43), 3) := by decide +kernel
theorem dL_valid_95 : decode cL_valid 95 = .ok (.iload 5, 2) := by decide +kernel
theorem dL_valid_97 : decode cL_valid 97 = .ok (.ifCond .eq 5, 3) := by decide +kernel
theorem dL_valid_100 : decode cL_valid 100 = .ok (.iload_n 3, 1) := by decide +kernel
theorem dL_valid_101 : decode cL_valid 101 = .ok (.ireturn, 1) := by decide +kernel
theorem dL_valid_102 : decode cL_valid 102 = .ok (.iinc 4 1, 3) := by decide +kernel
theorem dL_valid_105 : decode cL_valid 105 = .ok (.goto (-88), 3) := by decide +kernel
theorem dL_valid_108 : decode cL_valid 108 = .ok (.iinc 3 1, 3) := by decide +kernel
theorem dL_valid_111 : decode cL_valid 111 = .ok (.goto (-102), 3) := by decide +kernel
theorem dL_valid_114 : decode cL_valid 114 = .ok (.iload_n 2, 1) := by decide +kernel
theorem dL_valid_115 : decode cL_valid 115 = .ok (.iconst 1, 1) := by decide +kernel
theorem dL_valid_116 : decode cL_valid 116 = .ok (.isub, 1) := by decide +kernel
theorem dL_valid_117 : decode cL_valid 117 = .ok (.ireturn, 1) := by decide +kernel
theorem dL_isSure_0 : decode cL_isSure 0 = .ok (.aload_n 0, 1) := by decide +kernel
theorem dL_isSure_1 : decode cL_isSure 1 = .ok (.iload_n 1, 1) := by decide +kernel
theorem dL_isSure_2 : decode cL_isSure 2 = .ok (.iconst 3, 1) := by decide +kernel
theorem dL_isSure_3 : decode cL_isSure 3 = .ok (.invokevirtual 177, 3) := by decide +kernel
theorem dL_isSure_6 : decode cL_isSure 6 = .ok (.istore_n 2, 1) := by decide +kernel
theorem dL_isSure_7 : decode cL_isSure 7 = .ok (.aload_n 0, 1) := by decide +kernel
theorem dL_isSure_8 : decode cL_isSure 8 = .ok (.iload_n 1, 1) := by decide +kernel
theorem dL_isSure_9 : decode cL_isSure 9 = .ok (.invokestatic 187, 3) := by decide +kernel
theorem dL_isSure_12 : decode cL_isSure 12 = .ok (.istore_n 3, 1) := by decide +kernel
theorem dL_isSure_13 : decode cL_isSure 13 = .ok (.iconst 0, 1) := by decide +kernel
theorem dL_isSure_14 : decode cL_isSure 14 = .ok (.istore 4, 2) := by decide +kernel
theorem dL_isSure_16 : decode cL_isSure 16 = .ok (.iconst 0, 1) := by decide +kernel
theorem dL_isSure_17 : decode cL_isSure 17 = .ok (.istore 5, 2) := by decide +kernel
theorem dL_isSure_19 : decode cL_isSure 19 = .ok (.iload 5, 2) := by decide +kernel
theorem dL_isSure_21 : decode cL_isSure 21 = .ok (.iload_n 2, 1) := by decide +kernel
theorem dL_isSure_22 : decode cL_isSure 22 = .ok (.if_icmp .ge 88, 3) := by decide +kernel
theorem dL_isSure_25 : decode cL_isSure 25 = .ok (.aload_n 0, 1) := by decide +kernel
theorem dL_isSure_26 : decode cL_isSure 26 = .ok (.iload_n 1, 1) := by decide +kernel
theorem dL_isSure_27 : decode cL_isSure 27 = .ok (.iload_n 3, 1) := by decide +kernel
theorem dL_isSure_28 : decode cL_isSure 28 = .ok (.invokevirtual 180, 3) := by decide +kernel
theorem dL_isSure_31 : decode cL_isSure 31 = .ok (.aload_n 0, 1) := by decide +kernel
theorem dL_isSure_32 : decode cL_isSure 32 = .ok (.iload_n 1, 1) := by decide +kernel
theorem dL_isSure_33 : decode cL_isSure 33 = .ok (.iload 5, 2) := by decide +kernel
theorem dL_isSure_35 : decode cL_isSure 35 = .ok (.invokevirtual 180, 3) := by decide +kernel
theorem dL_isSure_38 : decode cL_isSure 38 = .ok (.if_icmp .eq 7, 3) := by decide +kernel
theorem dL_isSure_41 : decode cL_isSure 41 = .ok (.iconst 1, 1) := by decide +kernel
theorem dL_isSure_42 : decode cL_isSure 42 = .ok (.goto 4, 3) := by decide +kernel
theorem dL_isSure_45 : decode cL_isSure 45 = .ok (.iconst 0, 1) := by decide +kernel
theorem dL_isSure_46 : decode cL_isSure 46 = .ok (.istore 6, 2) := by decide +kernel
theorem dL_isSure_48 : decode cL_isSure 48 = .ok (.iconst 0, 1) := by decide +kernel
theorem dL_isSure_49 : decode cL_isSure 49 = .ok (.istore 7, 2) := by decide +kernel
theorem dL_isSure_51 : decode cL_isSure 51 = .ok (.iload 7, 2) := by decide +kernel
theorem dL_isSure_53 : decode cL_isSure 53 = .ok (.aload_n 0, 1) := by decide +kernel
theorem dL_isSure_54 : decode cL_isSure 54 = .ok (.iconst 0, 1) := by decide +kernel
theorem dL_isSure_55 : decode cL_isSure 55 = .ok (.invokevirtual 143, 3) := by decide +kernel
theorem dL_isSure_58 : decode cL_isSure 58 = .ok (.if_icmp .gt 39, 3) := by decide +kernel
theorem dL_isSure_61 : decode cL_isSure 61 = .ok (.iload 6, 2) := by decide +kernel
theorem dL_isSure_63 : decode cL_isSure 63 = .ok (.aload_n 0, 1) := by decide +kernel
theorem dL_isSure_64 : decode cL_isSure 64 = .ok (.iload_n 1, 1) := by decide +kernel
theorem dL_isSure_65 : decode cL_isSure 65 = .ok (.iload_n 3, 1) := by decide +kernel
theorem dL_isSure_66 : decode cL_isSure 66 = .ok (.iload 7, 2) := by decide +kernel
theorem dL_isSure_68 : decode cL_isSure 68 = .ok (.invokevirtual 183, 3) := by decide +kernel
theorem dL_isSure_71 : decode cL_isSure 71 = .ok (.aload_n 0, 1) := by decide +kernel
theorem dL_isSure_72 : decode cL_isSure 72 = .ok (.iload_n 1, 1) := by decide +kernel
theorem dL_isSure_73 : decode cL_isSure 73 = .ok (.iload 5, 2) := by decide +kernel
theorem dL_isSure_75 : decode cL_isSure 75 = .ok (.iload 7, 2) := by decide +kernel
theorem dL_isSure_77 : decode cL_isSure 77 = .ok (.invokevirtual 183, 3) := by decide +kernel
theorem dL_isSure_80 : decode cL_isSure 80 = .ok (.if_icmp .ne 7, 3) := by decide +kernel
theorem dL_isSure_83 : decode cL_isSure 83 = .ok (.iconst 1, 1) := by decide +kernel
theorem dL_isSure_84 : decode cL_isSure 84 = .ok (.goto 4, 3) := by decide +kernel
theorem dL_isSure_87 : decode cL_isSure 87 = .ok (.iconst 0, 1) := by decide +kernel
theorem dL_isSure_88 : decode cL_isSure 88 = .ok (.iand, 1) := by decide +kernel
theorem dL_isSure_89 : decode cL_isSure 89 = .ok (.istore 6, 2) := by decide +kernel
theorem dL_isSure_91 : decode cL_isSure 91 = .ok (.iinc 7 1, 3) := by decide +kernel
theorem dL_isSure_94 : decode cL_isSure 94 = .ok (.goto (-43), 3) := by decide +kernel
theorem dL_isSure_97 : decode cL_isSure 97 = .ok (.iload 4, 2) := by decide +kernel
theorem dL_isSure_99 : decode cL_isSure 99 = .ok (.iload 6, 2) := by decide +kernel
theorem dL_isSure_101 : decode cL_isSure 101 = .ok (.ior, 1) := by decide +kernel
theorem dL_isSure_102 : decode cL_isSure 102 = .ok (.istore 4, 2) := by decide +kernel
theorem dL_isSure_104 : decode cL_isSure 104 = .ok (.iinc 5 1, 3) := by decide +kernel
theorem dL_isSure_107 : decode cL_isSure 107 = .ok (.goto (-88), 3) := by decide +kernel
theorem dL_isSure_110 : decode cL_isSure 110 = .ok (.iload 4, 2) := by decide +kernel
theorem dL_isSure_112 : decode cL_isSure 112 = .ok (.ireturn, 1) := by decide +kernel
theorem dL_isCounted_0 : decode cL_isCounted 0 = .ok (.aload_n 0, 1) := by decide +kernel
theorem dL_isCounted_1 : decode cL_isCounted 1 = .ok (.iload_n 1, 1) := by decide +kernel
theorem dL_isCounted_2 : decode cL_isCounted 2 = .ok (.iconst 3, 1) := by decide +kernel
theorem dL_isCounted_3 : decode cL_isCounted 3 = .ok (.invokevirtual 177, 3) := by decide +kernel
theorem dL_isCounted_6 : decode cL_isCounted 6 = .ok (.istore_n 2, 1) := by decide +kernel
theorem dL_isCounted_7 : decode cL_isCounted 7 = .ok (.iconst 0, 1) := by decide +kernel
theorem dL_isCounted_8 : decode cL_isCounted 8 = .ok (.istore_n 3, 1) := by decide +kernel
theorem dL_isCounted_9 : decode cL_isCounted 9 = .ok (.iconst 0, 1) := by decide +kernel
theorem dL_isCounted_10 : decode cL_isCounted 10 = .ok (.istore 4, 2) := by decide +kernel
theorem dL_isCounted_12 : decode cL_isCounted 12 = .ok (.iconst (-1), 1) := by decide +kernel
theorem dL_isCounted_13 : decode cL_isCounted 13 = .ok (.istore 5, 2) := by decide +kernel
theorem dL_isCounted_15 : decode cL_isCounted 15 = .ok (.iconst 0, 1) := by decide +kernel
theorem dL_isCounted_16 : decode cL_isCounted 16 = .ok (.istore 6, 2) := by decide +kernel
theorem dL_isCounted_18 : decode cL_isCounted 18 = .ok (.iload 6, 2) := by decide +kernel
theorem dL_isCounted_20 : decode cL_isCounted 20 = .ok (.aload_n 0, 1) := by decide +kernel
theorem dL_isCounted_21 : decode cL_isCounted 21 = .ok (.iconst 4, 1) := by decide +kernel
theorem dL_isCounted_22 : decode cL_isCounted 22 = .ok (.invokevirtual 143, 3) := by decide +kernel
theorem dL_isCounted_25 : decode cL_isCounted 25 = .ok (.if_icmp .ge 101, 3) := by decide +kernel
theorem dL_isCounted_28 : decode cL_isCounted 28 = .ok (.aload_n 0, 1) := by decide +kernel
theorem dL_isCounted_29 : decode cL_isCounted 29 = .ok (.iload 6, 2) := by decide +kernel
theorem dL_isCounted_31 : decode cL_isCounted 31 = .ok (.iload_n 1, 1) := by decide +kernel
theorem dL_isCounted_32 : decode cL_isCounted 32 = .ok (.invokestatic 191, 3) := by decide +kernel
theorem dL_isCounted_35 : decode cL_isCounted 35 = .ok (.astore 7, 2) := by decide +kernel
theorem dL_isCounted_37 : decode cL_isCounted 37 = .ok (.iconst 1, 1) := by decide +kernel
theorem dL_isCounted_38 : decode cL_isCounted 38 = .ok (.istore 8, 2) := by decide +kernel
theorem dL_isCounted_40 : decode cL_isCounted 40 = .ok (.iconst 0, 1) := by decide +kernel
theorem dL_isCounted_41 : decode cL_isCounted 41 = .ok (.istore 9, 2) := by decide +kernel
theorem dL_isCounted_43 : decode cL_isCounted 43 = .ok (.iload 9, 2) := by decide +kernel
theorem dL_isCounted_45 : decode cL_isCounted 45 = .ok (.aload 7, 2) := by decide +kernel
theorem dL_isCounted_47 : decode cL_isCounted 47 = .ok (.arraylength, 1) := by decide +kernel
theorem dL_isCounted_48 : decode cL_isCounted 48 = .ok (.if_icmp .ge 53, 3) := by decide +kernel
theorem dL_isCounted_51 : decode cL_isCounted 51 = .ok (.aload_n 0, 1) := by decide +kernel
theorem dL_isCounted_52 : decode cL_isCounted 52 = .ok (.iload 6, 2) := by decide +kernel
theorem dL_isCounted_54 : decode cL_isCounted 54 = .ok (.iload_n 1, 1) := by decide +kernel
theorem dL_isCounted_55 : decode cL_isCounted 55 = .ok (.iload 9, 2) := by decide +kernel
theorem dL_isCounted_57 : decode cL_isCounted 57 = .ok (.invokevirtual 195, 3) := by decide +kernel
theorem dL_isCounted_60 : decode cL_isCounted 60 = .ok (.aload 7, 2) := by decide +kernel
theorem dL_isCounted_62 : decode cL_isCounted 62 = .ok (.iload 9, 2) := by decide +kernel
theorem dL_isCounted_64 : decode cL_isCounted 64 = .ok (.iaload, 1) := by decide +kernel
theorem dL_isCounted_65 : decode cL_isCounted 65 = .ok (.if_icmp .eq 5, 3) := by decide +kernel
theorem dL_isCounted_68 : decode cL_isCounted 68 = .ok (.iconst 0, 1) := by decide +kernel
theorem dL_isCounted_69 : decode cL_isCounted 69 = .ok (.ireturn, 1) := by decide +kernel
theorem dL_isCounted_70 : decode cL_isCounted 70 = .ok (.iload 8, 2) := by decide +kernel
theorem dL_isCounted_72 : decode cL_isCounted 72 = .ok (.aload 7, 2) := by decide +kernel
theorem dL_isCounted_74 : decode cL_isCounted 74 = .ok (.iload 9, 2) := by decide +kernel
theorem dL_isCounted_76 : decode cL_isCounted 76 = .ok (.iaload, 1) := by decide +kernel
theorem dL_isCounted_77 : decode cL_isCounted 77 = .ok (.aload_n 0, 1) := by decide +kernel
theorem dL_isCounted_78 : decode cL_isCounted 78 = .ok (.iload_n 1, 1) := by decide +kernel
theorem dL_isCounted_79 : decode cL_isCounted 79 = .ok (.iload 9, 2) := by decide +kernel
theorem dL_isCounted_81 : decode cL_isCounted 81 = .ok (.invokevirtual 175, 3) := by decide +kernel
theorem dL_isCounted_84 : decode cL_isCounted 84 = .ok (.if_icmp .ne 7, 3) := by decide +kernel
theorem dL_isCounted_87 : decode cL_isCounted 87 = .ok (.iconst 1, 1) := by decide +kernel
theorem dL_isCounted_88 : decode cL_isCounted 88 = .ok (.goto 4, 3) := by decide +kernel
theorem dL_isCounted_91 : decode cL_isCounted 91 = .ok (.iconst 0, 1) := by decide +kernel
theorem dL_isCounted_92 : decode cL_isCounted 92 = .ok (.iand, 1) := by decide +kernel
theorem dL_isCounted_93 : decode cL_isCounted 93 = .ok (.istore 8, 2) := by decide +kernel
theorem dL_isCounted_95 : decode cL_isCounted 95 = .ok (.iinc 9 1, 3) := by decide +kernel
theorem dL_isCounted_98 : decode cL_isCounted 98 = .ok (.goto (-55), 3) := by decide +kernel
theorem dL_isCounted_101 : decode cL_isCounted 101 = .ok (.iload 5, 2) := by decide +kernel
theorem dL_isCounted_103 : decode cL_isCounted 103 = .ok (.ifCond .ge 13, 3) := by decide +kernel
theorem dL_isCounted_106 : decode cL_isCounted 106 = .ok (.iload 8, 2) := by decide +kernel
theorem dL_isCounted_108 : decode cL_isCounted 108 = .ok (.ifCond .eq 8, 3) := by decide +kernel
theorem dL_isCounted_111 : decode cL_isCounted 111 = .ok (.iload 6, 2) := by decide +kernel
theorem dL_isCounted_113 : decode cL_isCounted 113 = .ok (.goto 5, 3) := by decide +kernel
theorem dL_isCounted_116 : decode cL_isCounted 116 = .ok (.iload 5, 2) := by decide +kernel
theorem dL_isCounted_118 : decode cL_isCounted 118 = .ok (.istore 5, 2) := by decide +kernel
theorem dL_isCounted_120 : decode cL_isCounted 120 = .ok (.iinc 6 1, 3) := by decide +kernel
theorem dL_isCounted_123 : decode cL_isCounted 123 = .ok (.goto (-105), 3) := by decide +kernel
theorem dL_isCounted_126 : decode cL_isCounted 126 = .ok (.iconst 0, 1) := by decide +kernel
theorem dL_isCounted_127 : decode cL_isCounted 127 = .ok (.istore 6, 2) := by decide +kernel
theorem dL_isCounted_129 : decode cL_isCounted 129 = .ok (.iload 6, 2) := by decide +kernel
theorem dL_isCounted_131 : decode cL_isCounted 131 = .ok (.iload_n 2, 1) := by decide +kernel
theorem dL_isCounted_132 : decode cL_isCounted 132 = .ok (.if_icmp .ge 59, 3) := by decide +kernel
theorem dL_isCounted_135 : decode cL_isCounted 135 = .ok (.aload_n 0, 1) := by decide +kernel
theorem dL_isCounted_136 : decode cL_isCounted 136 = .ok (.aload_n 0, 1) := by decide +kernel
theorem dL_isCounted_137 : decode cL_isCounted 137 = .ok (.iload_n 1, 1) := by decide +kernel
theorem dL_isCounted_138 : decode cL_isCounted 138 = .ok (.iload 6, 2) := by decide +kernel
theorem dL_isCounted_140 : decode cL_isCounted 140 = .ok (.invokevirtual 180, 3) := by decide +kernel
theorem dL_isCounted_143 : decode cL_isCounted 143 = .ok (.iload_n 1, 1) := by decide +kernel
theorem dL_isCounted_144 : decode cL_isCounted 144 = .ok (.invokestatic 191, 3) := by decide +kernel
theorem dL_isCounted_147 : decode cL_isCounted 147 = .ok (.astore 7, 2) := by decide +kernel
theorem dL_isCounted_149 : decode cL_isCounted 149 = .ok (.iconst 0, 1) := by decide +kernel
theorem dL_isCounted_150 : decode cL_isCounted 150 = .ok (.istore 8, 2) := by decide +kernel
theorem dL_isCounted_152 : decode cL_isCounted 152 = .ok (.iload 8, 2) := by decide +kernel
theorem dL_isCounted_154 : decode cL_isCounted 154 = .ok (.aload 7, 2) := by decide +kernel
theorem dL_isCounted_156 : decode cL_isCounted 156 = .ok (.arraylength, 1) := by decide +kernel
theorem dL_isCounted_157 : decode cL_isCounted 157 = .ok (.if_icmp .ge 28, 3) := by decide +kernel
theorem dL_isCounted_160 : decode cL_isCounted 160 = .ok (.aload_n 0, 1) := by decide +kernel
theorem dL_isCounted_161 : decode cL_isCounted 161 = .ok (.iload_n 1, 1) := by decide +kernel
theorem dL_isCounted_162 : decode cL_isCounted 162 = .ok (.iload 6, 2) := by decide +kernel
theorem dL_isCounted_164 : decode cL_isCounted 164 = .ok (.iload 8, 2) := by decide +kernel
theorem dL_isCounted_166 : decode cL_isCounted 166 = .ok (.invokevirtual 183, 3) := by decide +kernel
theorem dL_isCounted_169 : decode cL_isCounted 169 = .ok (.aload 7, 2) := by decide +kernel
theorem dL_isCounted_171 : decode cL_isCounted 171 = .ok (.iload 8, 2) := by decide +kernel
theorem dL_isCounted_173 : decode cL_isCounted 173 = .ok (.iaload, 1) := by decide +kernel
theorem dL_isCounted_174 : decode cL_isCounted 174 = .ok (.if_icmp .eq 5, 3) := by decide +kernel
theorem dL_isCounted_177 : decode cL_isCounted 177 = .ok (.iconst 0, 1) := by decide +kernel
theorem dL_isCounted_178 : decode cL_isCounted 178 = .ok (.ireturn, 1) := by decide +kernel
theorem dL_isCounted_179 : decode cL_isCounted 179 = .ok (.iinc 8 1, 3) := by decide +kernel
theorem dL_isCounted_182 : decode cL_isCounted 182 = .ok (.goto (-30), 3) := by decide +kernel
theorem dL_isCounted_185 : decode cL_isCounted 185 = .ok (.iinc 6 1, 3) := by decide +kernel
theorem dL_isCounted_188 : decode cL_isCounted 188 = .ok (.goto (-59), 3) := by decide +kernel
theorem dL_isCounted_191 : decode cL_isCounted 191 = .ok (.iconst 0, 1) := by decide +kernel
theorem dL_isCounted_192 : decode cL_isCounted 192 = .ok (.istore 6, 2) := by decide +kernel
theorem dL_isCounted_194 : decode cL_isCounted 194 = .ok (.iload 6, 2) := by decide +kernel
theorem dL_isCounted_196 : decode cL_isCounted 196 = .ok (.aload_n 0, 1) := by decide +kernel
theorem dL_isCounted_197 : decode cL_isCounted 197 = .ok (.iconst 0, 1) := by decide +kernel
theorem dL_isCounted_198 : decode cL_isCounted 198 = .ok (.invokevirtual 143, 3) := by decide +kernel
theorem dL_isCounted_201 : decode cL_isCounted 201 = .ok (.if_icmp .gt 70, 3) := by decide +kernel
theorem dL_isCounted_204 : decode cL_isCounted 204 = .ok (.iload_n 2, 1) := by decide +kernel
theorem dL_isCounted_205 : decode cL_isCounted 205 = .ok (.ifCond .ne 7, 3) := by decide +kernel
theorem dL_isCounted_208 : decode cL_isCounted 208 = .ok (.iconst (-1), 1) := by decide +kernel
theorem dL_isCounted_209 : decode cL_isCounted 209 = .ok (.goto 15, 3) := by decide +kernel
theorem dL_isCounted_212 : decode cL_isCounted 212 = .ok (.aload_n 0, 1) := by decide +kernel
theorem dL_isCounted_213 : decode cL_isCounted 213 = .ok (.iload_n 1, 1) := by decide +kernel
theorem dL_isCounted_214 : decode cL_isCounted 214 = .ok (.aload_n 0, 1) := by decide +kernel
theorem dL_isCounted_215 : decode cL_isCounted 215 = .ok (.iload_n 1, 1) := by decide +kernel
theorem dL_isCounted_216 : decode cL_isCounted 216 = .ok (.invokestatic 187, 3) := by decide +kernel
theorem dL_isCounted_219 : decode cL_isCounted 219 = .ok (.iload 6, 2) := by decide +kernel
theorem dL_isCounted_221 : decode cL_isCounted 221 = .ok (.invokevirtual 183, 3) := by decide +kernel
theorem dL_isCounted_224 : decode cL_isCounted 224 = .ok (.istore 7, 2) := by decide +kernel
theorem dL_isCounted_226 : decode cL_isCounted 226 = .ok (.aload_n 0, 1) := by decide +kernel
theorem dL_isCounted_227 : decode cL_isCounted 227 = .ok (.iload_n 1, 1) := by decide +kernel
theorem dL_isCounted_228 : decode cL_isCounted 228 = .ok (.iload 6, 2) := by decide +kernel
theorem dL_isCounted_230 : decode cL_isCounted 230 = .ok (.invokevirtual 198, 3) := by decide +kernel
theorem dL_isCounted_233 : decode cL_isCounted 233 = .ok (.iload 7, 2) := by decide +kernel
theorem dL_isCounted_235 : decode cL_isCounted 235 = .ok (.if_icmp .eq 5, 3) := by decide +kernel
theorem dL_isCounted_238 : decode cL_isCounted 238 = .ok (.iconst 0, 1) := by decide +kernel
theorem dL_isCounted_239 : decode cL_isCounted 239 = .ok (.ireturn, 1) := by decide +kernel
theorem dL_isCounted_240 : decode cL_isCounted 240 = .ok (.iload_n 3, 1) := by decide +kernel
theorem dL_isCounted_241 : decode cL_isCounted 241 = .ok (.iload_n 2, 1) := by decide +kernel
theorem dL_isCounted_242 : decode cL_isCounted 242 = .ok (.ifCond .ne 7, 3) := by decide +kernel
theorem dL_isCounted_245 : decode cL_isCounted 245 = .ok (.iconst 0, 1) := by decide +kernel
theorem dL_isCounted_246 : decode cL_isCounted 246 = .ok (.goto 5, 3) := by decide +kernel
theorem dL_isCounted_249 : decode cL_isCounted 249 = .ok (.iload 7, 2) := by decide +kernel
theorem dL_isCounted_251 : decode cL_isCounted 251 = .ok (.iadd, 1) := by decide +kernel
theorem dL_isCounted_252 : decode cL_isCounted 252 = .ok (.istore_n 3, 1) := by decide +kernel
theorem dL_isCounted_253 : decode cL_isCounted 253 = .ok (.iload 4, 2) := by decide +kernel
theorem dL_isCounted_255 : decode cL_isCounted 255 = .ok (.aload_n 0, 1) := by decide +kernel
theorem dL_isCounted_256 : decode cL_isCounted 256 = .ok (.iload_n 1, 1) := by decide +kernel
theorem dL_isCounted_257 : decode cL_isCounted 257 = .ok (.iload 6, 2) := by decide +kernel
theorem dL_isCounted_259 : decode cL_isCounted 259 = .ok (.invokevirtual 175, 3) := by decide +kernel
theorem dL_isCounted_262 : decode cL_isCounted 262 = .ok (.iadd, 1) := by decide +kernel
theorem dL_isCounted_263 : decode cL_isCounted 263 = .ok (.istore 4, 2) := by decide +kernel
theorem dL_isCounted_265 : decode cL_isCounted 265 = .ok (.iinc 6 1, 3) := by decide +kernel
theorem dL_isCounted_268 : decode cL_isCounted 268 = .ok (.goto (-74), 3) := by decide +kernel
theorem dL_isCounted_271 : decode cL_isCounted 271 = .ok (.iload_n 2, 1) := by decide +kernel
theorem dL_isCounted_272 : decode cL_isCounted 272 = .ok (.ifCond .ne 7, 3) := by decide +kernel
theorem dL_isCounted_275 : decode cL_isCounted 275 = .ok (.iconst 0, 1) := by decide +kernel
theorem dL_isCounted_276 : decode cL_isCounted 276 = .ok (.goto 11, 3) := by decide +kernel
theorem dL_isCounted_279 : decode cL_isCounted 279 = .ok (.iload_n 3, 1) := by decide +kernel
theorem dL_isCounted_280 : decode cL_isCounted 280 = .ok (.aload_n 0, 1) := by decide +kernel
theorem dL_isCounted_281 : decode cL_isCounted 281 = .ok (.iload_n 1, 1) := by decide +kernel
theorem dL_isCounted_282 : decode cL_isCounted 282 = .ok (.iconst 1, 1) := by decide +kernel
theorem dL_isCounted_283 : decode cL_isCounted 283 = .ok (.invokevirtual 177, 3) := by decide +kernel
theorem dL_isCounted_286 : decode cL_isCounted 286 = .ok (.isub, 1) := by decide +kernel
theorem dL_isCounted_287 : decode cL_isCounted 287 = .ok (.istore 6, 2) := by decide +kernel
theorem dL_isCounted_289 : decode cL_isCounted 289 = .ok (.aload_n 0, 1) := by decide +kernel
theorem dL_isCounted_290 : decode cL_isCounted 290 = .ok (.iload_n 1, 1) := by decide +kernel
theorem dL_isCounted_291 : decode cL_isCounted 291 = .ok (.invokevirtual 201, 3) := by decide +kernel
theorem dL_isCounted_294 : decode cL_isCounted 294 = .ok (.iload 5, 2) := by decide +kernel
theorem dL_isCounted_296 : decode cL_isCounted 296 = .ok (.if_icmp .ne 87, 3) := by decide +kernel
theorem dL_isCounted_299 : decode cL_isCounted 299 = .ok (.aload_n 0, 1) := by decide +kernel
theorem dL_isCounted_300 : decode cL_isCounted 300 = .ok (.iload_n 1, 1) := by decide +kernel
theorem dL_isCounted_301 : decode cL_isCounted 301 = .ok (.invokevirtual 204, 3) := by decide +kernel
theorem dL_isCounted_304 : decode cL_isCounted 304 = .ok (.aload_n 0, 1) := by decide +kernel
theorem dL_isCounted_305 : decode cL_isCounted 305 = .ok (.iload_n 1, 1) := by decide +kernel
theorem dL_isCounted_306 : decode cL_isCounted 306 = .ok (.invokestatic 208, 3) := by decide +kernel
theorem dL_isCounted_309 : decode cL_isCounted 309 = .ok (.if_icmp .ne 74, 3) := by decide +kernel
theorem dL_isCounted_312 : decode cL_isCounted 312 = .ok (.aload_n 0, 1) := by decide +kernel
theorem dL_isCounted_313 : decode cL_isCounted 313 = .ok (.iload_n 1, 1) := by decide +kernel
theorem dL_isCounted_314 : decode cL_isCounted 314 = .ok (.invokevirtual 212, 3) := by decide +kernel
theorem dL_isCounted_317 : decode cL_isCounted 317 = .ok (.iload 6, 2) := by decide +kernel
theorem dL_isCounted_319 : decode cL_isCounted 319 = .ok (.if_icmp .ne 64, 3) := by decide +kernel
theorem dL_isCounted_322 : decode cL_isCounted 322 = .ok (.aload_n 0, 1) := by decide +kernel
theorem dL_isCounted_323 : decode cL_isCounted 323 = .ok (.iload_n 1, 1) := by decide +kernel
theorem dL_isCounted_324 : decode cL_isCounted 324 = .ok (.invokevirtual 215, 3) := by decide +kernel
theorem dL_isCounted_327 : decode cL_isCounted 327 = .ok (.iload 6, 2) := by decide +kernel
theorem dL_isCounted_329 : decode cL_isCounted 329 = .ok (.invokestatic 218, 3) := by decide +kernel
theorem dL_isCounted_332 : decode cL_isCounted 332 = .ok (.aload_n 0, 1) := by decide +kernel
theorem dL_isCounted_333 : decode cL_isCounted 333 = .ok (.iconst 1, 1) := by decide +kernel
theorem dL_isCounted_334 : decode cL_isCounted 334 = .ok (.invokevirtual 221, 3) := by decide +kernel
theorem dL_isCounted_337 : decode cL_isCounted 337 = .ok (.if_icmp .le 7, 3) := by decide +kernel
theorem dL_isCounted_340 : decode cL_isCounted 340 = .ok (.iconst 1, 1) := by decide +kernel
theorem dL_isCounted_341 : decode cL_isCounted 341 = .ok (.goto 4, 3) := by decide +kernel
theorem dL_isCounted_344 : decode cL_isCounted 344 = .ok (.iconst 0, 1) := by decide +kernel
theorem dL_isCounted_345 : decode cL_isCounted 345 = .ok (.if_icmp .ne 38, 3) := by decide +kernel
theorem dL_isCounted_348 : decode cL_isCounted 348 = .ok (.iload_n 2, 1) := by decide +kernel
theorem dL_isCounted_349 : decode cL_isCounted 349 = .ok (.ifCond .eq 9, 3) := by decide +kernel
theorem dL_isCounted_352 : decode cL_isCounted 352 = .ok (.iload_n 3, 1) := by decide +kernel
theorem dL_isCounted_353 : decode cL_isCounted 353 = .ok (.iload 4, 2) := by decide +kernel
theorem dL_isCounted_355 : decode cL_isCounted 355 = .ok (.if_icmp .ne 28, 3) := by decide +kernel
theorem dL_isCounted_358 : decode cL_isCounted 358 = .ok (.aload_n 0, 1) := by decide +kernel
theorem dL_isCounted_359 : decode cL_isCounted 359 = .ok (.iload_n 1, 1) := by decide +kernel
theorem dL_isCounted_360 : decode cL_isCounted 360 = .ok (.iload_n 2, 1) := by decide +kernel
theorem dL_isCounted_361 : decode cL_isCounted 361 = .ok (.iconst 0, 1) := by decide +kernel
theorem dL_isCounted_362 : decode cL_isCounted 362 = .ok (.invokevirtual 183, 3) := by decide +kernel
theorem dL_isCounted_365 : decode cL_isCounted 365 = .ok (.iconst (-1), 1) := by decide +kernel
theorem dL_isCounted_366 : decode cL_isCounted 366 = .ok (.if_icmp .ne 17, 3) := by decide +kernel
theorem dL_isCounted_369 : decode cL_isCounted 369 = .ok (.aload_n 0, 1) := by decide +kernel
theorem dL_isCounted_370 : decode cL_isCounted 370 = .ok (.iload_n 1, 1) := by decide +kernel
theorem dL_isCounted_371 : decode cL_isCounted 371 = .ok (.iconst (-1), 1) := by decide +kernel
theorem dL_isCounted_372 : decode cL_isCounted 372 = .ok (.invokevirtual 180, 3) := by decide +kernel
theorem dL_isCounted_375 : decode cL_isCounted 375 = .ok (.iconst (-1), 1) := by decide +kernel
theorem dL_isCounted_376 : decode cL_isCounted 376 = .ok (.if_icmp .ne 7, 3) := by decide +kernel
theorem dL_isCounted_379 : decode cL_isCounted 379 = .ok (.iconst 1, 1) := by decide +kernel
theorem dL_isCounted_380 : decode cL_isCounted 380 = .ok (.goto 4, 3) := by decide +kernel
theorem dL_isCounted_383 : decode cL_isCounted 383 = .ok (.iconst 0, 1) := by decide +kernel
theorem dL_isCounted_384 : decode cL_isCounted 384 = .ok (.ireturn, 1) := by decide +kernel
theorem dL_isTold_0 : decode cL_isTold 0 = .ok (.aload_n 0, 1) := by decide +kernel
theorem dL_isTold_1 : decode cL_isTold 1 = .ok (.iconst 0, 1) := by decide +kernel
theorem dL_isTold_2 : decode cL_isTold 2 = .ok (.invokevirtual 143, 3) := by decide +kernel
theorem dL_isTold_5 : decode cL_isTold 5 = .ok (.iconst 1, 1) := by decide +kernel
theorem dL_isTold_6 : decode cL_isTold 6 = .ok (.iadd, 1) := by decide +kernel
theorem dL_isTold_7 : decode cL_isTold 7 = .ok (.newarray .int, 2) := by decide +kernel
theorem dL_isTold_9 : decode cL_isTold 9 = .ok (.astore_n 2, 1) := by decide +kernel
theorem dL_isTold_10 : decode cL_isTold 10 = .ok (.iconst 1, 1) := by decide +kernel
theorem dL_isTold_11 : decode cL_isTold 11 = .ok (.istore_n 3, 1) := by decide +kernel
theorem dL_isTold_12 : decode cL_isTold 12 = .ok (.iconst 0, 1) := by decide +kernel
theorem dL_isTold_13 : decode cL_isTold 13 = .ok (.istore 4, 2) := by decide +kernel
theorem dL_isTold_15 : decode cL_isTold 15 = .ok (.iconst 0, 1) := by decide +kernel
theorem dL_isTold_16 : decode cL_isTold 16 = .ok (.istore 5, 2) := by decide +kernel
theorem dL_isTold_18 : decode cL_isTold 18 = .ok (.iconst 0, 1) := by decide +kernel
theorem dL_isTold_19 : decode cL_isTold 19 = .ok (.istore 6, 2) := by decide +kernel
theorem dL_isTold_21 : decode cL_isTold 21 = .ok (.iconst 0, 1) := by decide +kernel
theorem dL_isTold_22 : decode cL_isTold 22 = .ok (.istore 7, 2) := by decide +kernel
theorem dL_isTold_24 : decode cL_isTold 24 = .ok (.iconst 0, 1) := by decide +kernel
theorem dL_isTold_25 : decode cL_isTold 25 = .ok (.istore 8, 2) := by decide +kernel
theorem dL_isTold_27 : decode cL_isTold 27 = .ok (.iload 8, 2) := by decide +kernel
theorem dL_isTold_29 : decode cL_isTold 29 = .ok (.aload_n 0, 1) := by decide +kernel
theorem dL_isTold_30 : decode cL_isTold 30 = .ok (.iconst 3, 1) := by decide +kernel
theorem dL_isTold_31 : decode cL_isTold 31 = .ok (.invokevirtual 143, 3) := by decide +kernel
theorem dL_isTold_34 : decode cL_isTold 34 = .ok (.if_icmp .ge 148, 3) := by decide +kernel
theorem dL_isTold_37 : decode cL_isTold 37 = .ok (.aload_n 0, 1) := by decide +kernel
theorem dL_isTold_38 : decode cL_isTold 38 = .ok (.iload 8, 2) := by decide +kernel
theorem dL_isTold_40 : decode cL_isTold 40 = .ok (.iconst 0, 1) := by decide +kernel
theorem dL_isTold_41 : decode cL_isTold 41 = .ok (.invokevirtual 177, 3) := by decide +kernel
theorem dL_isTold_44 : decode cL_isTold 44 = .ok (.iload_n 1, 1) := by decide +kernel
theorem dL_isTold_45 : decode cL_isTold 45 = .ok (.if_icmp .eq 6, 3) := by decide +kernel
theorem dL_isTold_48 : decode cL_isTold 48 = .ok (.goto 128, 3) := by decide +kernel
theorem dL_isTold_51 : decode cL_isTold 51 = .ok (.iconst 0, 1) := by decide +kernel
theorem dL_isTold_52 : decode cL_isTold 52 = .ok (.istore_n 3, 1) := by decide +kernel
theorem dL_isTold_53 : decode cL_isTold 53 = .ok (.iload 7, 2) := by decide +kernel
theorem dL_isTold_55 : decode cL_isTold 55 = .ok (.aload_n 0, 1) := by decide +kernel
theorem dL_isTold_56 : decode cL_isTold 56 = .ok (.iload 8, 2) := by decide +kernel
theorem dL_isTold_58 : decode cL_isTold 58 = .ok (.iconst 3, 1) := by decide +kernel
theorem dL_isTold_59 : decode cL_isTold 59 = .ok (.invokevirtual 177, 3) := by decide +kernel
theorem dL_isTold_62 : decode cL_isTold 62 = .ok (.ifCond .ne 7, 3) := by decide +kernel
theorem dL_isTold_65 : decode cL_isTold 65 = .ok (.iconst 1, 1) := by decide +kernel
theorem dL_isTold_66 : decode cL_isTold 66 = .ok (.goto 4, 3) := by decide +kernel
theorem dL_isTold_69 : decode cL_isTold 69 = .ok (.iconst 0, 1) := by decide +kernel
theorem dL_isTold_70 : decode cL_isTold 70 = .ok (.ior, 1) := by decide +kernel
theorem dL_isTold_71 : decode cL_isTold 71 = .ok (.istore 7, 2) := by decide +kernel
theorem dL_isTold_73 : decode cL_isTold 73 = .ok (.iload 4, 2) := by decide +kernel
theorem dL_isTold_75 : decode cL_isTold 75 = .ok (.aload_n 0, 1) := by decide +kernel
theorem dL_isTold_76 : decode cL_isTold 76 = .ok (.iload 8, 2) := by decide +kernel
theorem dL_isTold_78 : decode cL_isTold 78 = .ok (.invokevirtual 224, 3) := by decide +kernel
theorem dL_isTold_81 : decode cL_isTold 81 = .ok (.bipush (-4), 2) := by decide +kernel
theorem dL_isTold_83 : decode cL_isTold 83 = .ok (.if_icmp .eq 7, 3) := by decide +kernel
theorem dL_isTold_86 : decode cL_isTold 86 = .ok (.iconst 1, 1) := by decide +kernel
theorem dL_isTold_87 : decode cL_isTold 87 = .ok (.goto 4, 3) := by decide +kernel
theorem dL_isTold_90 : decode cL_isTold 90 = .ok (.iconst 0, 1) := by decide +kernel
theorem dL_isTold_91 : decode cL_isTold 91 = .ok (.ior, 1) := by decide +kernel
theorem dL_isTold_92 : decode cL_isTold 92 = .ok (.istore 4, 2) := by decide +kernel
theorem dL_isTold_94 : decode cL_isTold 94 = .ok (.iload 5, 2) := by decide +kernel
theorem dL_isTold_96 : decode cL_isTold 96 = .ok (.aload_n 0, 1) := by decide +kernel
theorem dL_isTold_97 : decode cL_isTold 97 = .ok (.iload 8, 2) := by decide +kernel
theorem dL_isTold_99 : decode cL_isTold 99 = .ok (.invokevirtual 215, 3) := by decide +kernel
theorem dL_isTold_102 : decode cL_isTold 102 = .ok (.ifCond .eq 16, 3) := by decide +kernel
theorem dL_isTold_105 : decode cL_isTold 105 = .ok (.aload_n 0, 1) := by decide +kernel
theorem dL_isTold_106 : decode cL_isTold 106 = .ok (.iload 8, 2) := by decide +kernel
theorem dL_isTold_108 : decode cL_isTold 108 = .ok (.invokevirtual 204, 3) := by decide +kernel
theorem dL_isTold_111 : decode cL_isTold 111 = .ok (.ifCond .ne 7, 3) := by decide +kernel
theorem dL_isTold_114 : decode cL_isTold 114 = .ok (.iconst 1, 1) := by decide +kernel
theorem dL_isTold_115 : decode cL_isTold 115 = .ok (.goto 4, 3) := by decide +kernel
theorem dL_isTold_118 : decode cL_isTold 118 = .ok (.iconst 0, 1) := by decide +kernel
theorem dL_isTold_119 : decode cL_isTold 119 = .ok (.ior, 1) := by decide +kernel
theorem dL_isTold_120 : decode cL_isTold 120 = .ok (.istore 5, 2) := by decide +kernel
theorem dL_isTold_122 : decode cL_isTold 122 = .ok (.iload 6, 2) := by decide +kernel
theorem dL_isTold_124 : decode cL_isTold 124 = .ok (.aload_n 0, 1) := by decide +kernel
theorem dL_isTold_125 : decode cL_isTold 125 = .ok (.iload 8, 2) := by decide +kernel
theorem dL_isTold_127 : decode cL_isTold 127 = .ok (.invokevirtual 204, 3) := by decide +kernel
theorem dL_isTold_130 : decode cL_isTold 130 = .ok (.ifCond .ne 7, 3) := by decide +kernel
theorem dL_isTold_133 : decode cL_isTold 133 = .ok (.iconst 1, 1) := by decide +kernel
theorem dL_isTold_134 : decode cL_isTold 134 = .ok (.goto 4, 3) := by decide +kernel
theorem dL_isTold_137 : decode cL_isTold 137 = .ok (.iconst 0, 1) := by decide +kernel
theorem dL_isTold_138 : decode cL_isTold 138 = .ok (.ior, 1) := by decide +kernel
theorem dL_isTold_139 : decode cL_isTold 139 = .ok (.istore 6, 2) := by decide +kernel
theorem dL_isTold_141 : decode cL_isTold 141 = .ok (.iconst 0, 1) := by decide +kernel
theorem dL_isTold_142 : decode cL_isTold 142 = .ok (.istore 9, 2) := by decide +kernel
theorem dL_isTold_144 : decode cL_isTold 144 = .ok (.iload 9, 2) := by decide +kernel
theorem dL_isTold_146 : decode cL_isTold 146 = .ok (.aload_n 2, 1) := by decide +kernel
theorem dL_isTold_147 : decode cL_isTold 147 = .ok (.arraylength, 1) := by decide +kernel
theorem dL_isTold_148 : decode cL_isTold 148 = .ok (.if_icmp .ge 28, 3) := by decide +kernel
theorem dL_isTold_151 : decode cL_isTold 151 = .ok (.aload_n 2, 1) := by decide +kernel
theorem dL_isTold_152 : decode cL_isTold 152 = .ok (.iload 9, 2) := by decide +kernel
theorem dL_isTold_154 : decode cL_isTold 154 = .ok (.dup2, 1) := by decide +kernel
theorem dL_isTold_155 : decode cL_isTold 155 = .ok (.iaload, 1) := by decide +kernel
theorem dL_isTold_156 : decode cL_isTold 156 = .ok (.iconst 0, 1) := by decide +kernel
theorem dL_isTold_157 : decode cL_isTold 157 = .ok (.aload_n 0, 1) := by decide +kernel
theorem dL_isTold_158 : decode cL_isTold 158 = .ok (.iload 8, 2) := by decide +kernel
theorem dL_isTold_160 : decode cL_isTold 160 = .ok (.iload 9, 2) := by decide +kernel
theorem dL_isTold_162 : decode cL_isTold 162 = .ok (.invokevirtual 198, 3) := by decide +kernel
theorem dL_isTold_165 : decode cL_isTold 165 = .ok (.invokestatic 64, 3) := by decide +kernel
theorem dL_isTold_168 : decode cL_isTold 168 = .ok (.iadd, 1) := by decide +kernel
theorem dL_isTold_169 : decode cL_isTold 169 = .ok (.iastore, 1) := by decide +kernel
theorem dL_isTold_170 : decode cL_isTold 170 = .ok (.iinc 9 1, 3) := by decide +kernel
theorem dL_isTold_173 : decode cL_isTold 173 = .ok (.goto (-29), 3) := by decide +kernel
theorem dL_isTold_176 : decode cL_isTold 176 = .ok (.iinc 8 1, 3) := by decide +kernel
theorem dL_isTold_179 : decode cL_isTold 179 = .ok (.goto (-152), 3) := by decide +kernel
theorem dL_isTold_182 : decode cL_isTold 182 = .ok (.iconst 0, 1) := by decide +kernel
theorem dL_isTold_183 : decode cL_isTold 183 = .ok (.istore 8, 2) := by decide +kernel
theorem dL_isTold_185 : decode cL_isTold 185 = .ok (.iconst (-1), 1) := by decide +kernel
theorem dL_isTold_186 : decode cL_isTold 186 = .ok (.istore 9, 2) := by decide +kernel
theorem dL_isTold_188 : decode cL_isTold 188 = .ok (.iconst 0, 1) := by decide +kernel
theorem dL_isTold_189 : decode cL_isTold 189 = .ok (.istore 10, 2) := by decide +kernel
theorem dL_isTold_191 : decode cL_isTold 191 = .ok (.iload 10, 2) := by decide +kernel
theorem dL_isTold_193 : decode cL_isTold 193 = .ok (.aload_n 2, 1) := by decide +kernel
theorem dL_isTold_194 : decode cL_isTold 194 = .ok (.arraylength, 1) := by decide +kernel
theorem dL_isTold_195 : decode cL_isTold 195 = .ok (.if_icmp .ge 73, 3) := by decide +kernel
theorem dL_isTold_198 : decode cL_isTold 198 = .ok (.aload_n 0, 1) := by decide +kernel
theorem dL_isTold_199 : decode cL_isTold 199 = .ok (.iload_n 1, 1) := by decide +kernel
theorem dL_isTold_200 : decode cL_isTold 200 = .ok (.iload 10, 2) := by decide +kernel
theorem dL_isTold_202 : decode cL_isTold 202 = .ok (.invokevirtual 227, 3) := by decide +kernel
theorem dL_isTold_205 : decode cL_isTold 205 = .ok (.aload_n 2, 1) := by decide +kernel
theorem dL_isTold_206 : decode cL_isTold 206 = .ok (.iload 10, 2) := by decide +kernel
theorem dL_isTold_208 : decode cL_isTold 208 = .ok (.iaload, 1) := by decide +kernel
theorem dL_isTold_209 : decode cL_isTold 209 = .ok (.if_icmp .eq 5, 3) := by decide +kernel
theorem dL_isTold_212 : decode cL_isTold 212 = .ok (.iconst 0, 1) := by decide +kernel
theorem dL_isTold_213 : decode cL_isTold 213 = .ok (.ireturn, 1) := by decide +kernel
theorem dL_isTold_214 : decode cL_isTold 214 = .ok (.iload 10, 2) := by decide +kernel
theorem dL_isTold_216 : decode cL_isTold 216 = .ok (.aload_n 2, 1) := by decide +kernel
theorem dL_isTold_217 : decode cL_isTold 217 = .ok (.arraylength, 1) := by decide +kernel
theorem dL_isTold_218 : decode cL_isTold 218 = .ok (.iconst 1, 1) := by decide +kernel
theorem dL_isTold_219 : decode cL_isTold 219 = .ok (.isub, 1) := by decide +kernel
theorem dL_isTold_220 : decode cL_isTold 220 = .ok (.if_icmp .ne 6, 3) := by decide +kernel
theorem dL_isTold_223 : decode cL_isTold 223 = .ok (.goto 39, 3) := by decide +kernel
theorem dL_isTold_226 : decode cL_isTold 226 = .ok (.iload 8, 2) := by decide +kernel
theorem dL_isTold_228 : decode cL_isTold 228 = .ok (.aload_n 2, 1) := by decide +kernel
theorem dL_isTold_229 : decode cL_isTold 229 = .ok (.iload 10, 2) := by decide +kernel
theorem dL_isTold_231 : decode cL_isTold 231 = .ok (.iaload, 1) := by decide +kernel
theorem dL_isTold_232 : decode cL_isTold 232 = .ok (.iadd, 1) := by decide +kernel
theorem dL_isTold_233 : decode cL_isTold 233 = .ok (.istore 8, 2) := by decide +kernel
theorem dL_isTold_235 : decode cL_isTold 235 = .ok (.aload_n 2, 1) := by decide +kernel
theorem dL_isTold_236 : decode cL_isTold 236 = .ok (.iload 10, 2) := by decide +kernel
theorem dL_isTold_238 : decode cL_isTold 238 = .ok (.iaload, 1) := by decide +kernel
theorem dL_isTold_239 : decode cL_isTold 239 = .ok (.ifCond .le 23, 3) := by decide +kernel
theorem dL_isTold_242 : decode cL_isTold 242 = .ok (.iload 9, 2) := by decide +kernel
theorem dL_isTold_244 : decode cL_isTold 244 = .ok (.ifCond .lt 14, 3) := by decide +kernel
theorem dL_isTold_247 : decode cL_isTold 247 = .ok (.aload_n 2, 1) := by decide +kernel
theorem dL_isTold_248 : decode cL_isTold 248 = .ok (.iload 10, 2) := by decide +kernel
theorem dL_isTold_250 : decode cL_isTold 250 = .ok (.iaload, 1) := by decide +kernel
theorem dL_isTold_251 : decode cL_isTold 251 = .ok (.aload_n 2, 1) := by decide +kernel
theorem dL_isTold_252 : decode cL_isTold 252 = .ok (.iload 9, 2) := by decide +kernel
theorem dL_isTold_254 : decode cL_isTold 254 = .ok (.iaload, 1) := by decide +kernel
theorem dL_isTold_255 : decode cL_isTold 255 = .ok (.if_icmp .le 7, 3) := by decide +kernel
theorem dL_isTold_258 : decode cL_isTold 258 = .ok (.iload 10, 2) := by decide +kernel
theorem dL_isTold_260 : decode cL_isTold 260 = .ok (.istore 9, 2) := by decide +kernel
theorem dL_isTold_262 : decode cL_isTold 262 = .ok (.iinc 10 1, 3) := by decide +kernel
theorem dL_isTold_265 : decode cL_isTold 265 = .ok (.goto (-74), 3) := by decide +kernel
theorem dL_isTold_268 : decode cL_isTold 268 = .ok (.iconst 0, 1) := by decide +kernel
theorem dL_isTold_269 : decode cL_isTold 269 = .ok (.istore 10, 2) := by decide +kernel
theorem dL_isTold_271 : decode cL_isTold 271 = .ok (.iconst 0, 1) := by decide +kernel
theorem dL_isTold_272 : decode cL_isTold 272 = .ok (.istore 11, 2) := by decide +kernel
theorem dL_isTold_274 : decode cL_isTold 274 = .ok (.iload 11, 2) := by decide +kernel
theorem dL_isTold_276 : decode cL_isTold 276 = .ok (.aload_n 2, 1) := by decide +kernel
theorem dL_isTold_277 : decode cL_isTold 277 = .ok (.arraylength, 1) := by decide +kernel
theorem dL_isTold_278 : decode cL_isTold 278 = .ok (.iconst 1, 1) := by decide +kernel
theorem dL_isTold_279 : decode cL_isTold 279 = .ok (.isub, 1) := by decide +kernel
theorem dL_isTold_280 : decode cL_isTold 280 = .ok (.if_icmp .ge 27, 3) := by decide +kernel
theorem dL_isTold_283 : decode cL_isTold 283 = .ok (.iload 11, 2) := by decide +kernel
theorem dL_isTold_285 : decode cL_isTold 285 = .ok (.iload 9, 2) := by decide +kernel
theorem dL_isTold_287 : decode cL_isTold 287 = .ok (.if_icmp .eq 14, 3) := by decide +kernel
theorem dL_isTold_290 : decode cL_isTold 290 = .ok (.iload 10, 2) := by decide +kernel
theorem dL_isTold_292 : decode cL_isTold 292 = .ok (.aload_n 2, 1) := by decide +kernel
theorem dL_isTold_293 : decode cL_isTold 293 = .ok (.iload 11, 2) := by decide +kernel
theorem dL_isTold_295 : decode cL_isTold 295 = .ok (.iaload, 1) := by decide +kernel
theorem dL_isTold_296 : decode cL_isTold 296 = .ok (.invokestatic 64, 3) := by decide +kernel
theorem dL_isTold_299 : decode cL_isTold 299 = .ok (.istore 10, 2) := by decide +kernel
theorem dL_isTold_301 : decode cL_isTold 301 = .ok (.iinc 11 1, 3) := by decide +kernel
theorem dL_isTold_304 : decode cL_isTold 304 = .ok (.goto (-30), 3) := by decide +kernel
theorem dL_isTold_307 : decode cL_isTold 307 = .ok (.iload 9, 2) := by decide +kernel
theorem dL_isTold_309 : decode cL_isTold 309 = .ok (.ifCond .ge 7, 3) := by decide +kernel
theorem dL_isTold_312 : decode cL_isTold 312 = .ok (.iconst 0, 1) := by decide +kernel
theorem dL_isTold_313 : decode cL_isTold 313 = .ok (.goto 10, 3) := by decide +kernel
theorem dL_isTold_316 : decode cL_isTold 316 = .ok (.aload_n 2, 1) := by decide +kernel
theorem dL_isTold_317 : decode cL_isTold 317 = .ok (.iload 9, 2) := by decide +kernel
theorem dL_isTold_319 : decode cL_isTold 319 = .ok (.iaload, 1) := by decide +kernel
theorem dL_isTold_320 : decode cL_isTold 320 = .ok (.iload 10, 2) := by decide +kernel
theorem dL_isTold_322 : decode cL_isTold 322 = .ok (.isub, 1) := by decide +kernel
theorem dL_isTold_323 : decode cL_isTold 323 = .ok (.istore 11, 2) := by decide +kernel
theorem dL_isTold_325 : decode cL_isTold 325 = .ok (.iload 8, 2) := by decide +kernel
theorem dL_isTold_327 : decode cL_isTold 327 = .ok (.ifCond .le 23, 3) := by decide +kernel
theorem dL_isTold_330 : decode cL_isTold 330 = .ok (.iload 11, 2) := by decide +kernel
theorem dL_isTold_332 : decode cL_isTold 332 = .ok (.bipush 100, 2) := by decide +kernel
theorem dL_isTold_334 : decode cL_isTold 334 = .ok (.imul, 1) := by decide +kernel
theorem dL_isTold_335 : decode cL_isTold 335 = .ok (.aload_n 0, 1) := by decide +kernel
theorem dL_isTold_336 : decode cL_isTold 336 = .ok (.iconst 0, 1) := by decide +kernel
theorem dL_isTold_337 : decode cL_isTold 337 = .ok (.invokevirtual 221, 3) := by decide +kernel
theorem dL_isTold_340 : decode cL_isTold 340 = .ok (.iload 8, 2) := by decide +kernel
theorem dL_isTold_342 : decode cL_isTold 342 = .ok (.imul, 1) := by decide +kernel
theorem dL_isTold_343 : decode cL_isTold 343 = .ok (.if_icmp .gt 7, 3) := by decide +kernel
theorem dL_isTold_346 : decode cL_isTold 346 = .ok (.iconst 1, 1) := by decide +kernel
theorem dL_isTold_347 : decode cL_isTold 347 = .ok (.goto 4, 3) := by decide +kernel
theorem dL_isTold_350 : decode cL_isTold 350 = .ok (.iconst 0, 1) := by decide +kernel
theorem dL_isTold_351 : decode cL_isTold 351 = .ok (.istore 12, 2) := by decide +kernel
theorem dL_isTold_353 : decode cL_isTold 353 = .ok (.iconst 0, 1) := by decide +kernel
theorem dL_isTold_354 : decode cL_isTold 354 = .ok (.istore 13, 2) := by decide +kernel
theorem dL_isTold_356 : decode cL_isTold 356 = .ok (.iconst 0, 1) := by decide +kernel
theorem dL_isTold_357 : decode cL_isTold 357 = .ok (.istore 14, 2) := by decide +kernel
theorem dL_isTold_359 : decode cL_isTold 359 = .ok (.iload 14, 2) := by decide +kernel
theorem dL_isTold_361 : decode cL_isTold 361 = .ok (.aload_n 0, 1) := by decide +kernel
theorem dL_isTold_362 : decode cL_isTold 362 = .ok (.invokevirtual 230, 3) := by decide +kernel
theorem dL_isTold_365 : decode cL_isTold 365 = .ok (.if_icmp .ge 29, 3) := by decide +kernel
theorem dL_isTold_368 : decode cL_isTold 368 = .ok (.iload 13, 2) := by decide +kernel
theorem dL_isTold_370 : decode cL_isTold 370 = .ok (.aload_n 0, 1) := by decide +kernel
theorem dL_isTold_371 : decode cL_isTold 371 = .ok (.iload 14, 2) := by decide +kernel
theorem dL_isTold_373 : decode cL_isTold 373 = .ok (.invokevirtual 233, 3) := by decide +kernel
theorem dL_isTold_376 : decode cL_isTold 376 = .ok (.iload_n 1, 1) := by decide +kernel
theorem dL_isTold_377 : decode cL_isTold 377 = .ok (.if_icmp .ne 7, 3) := by decide +kernel
theorem dL_isTold_380 : decode cL_isTold 380 = .ok (.iconst 1, 1) := by decide +kernel
theorem dL_isTold_381 : decode cL_isTold 381 = .ok (.goto 4, 3) := by decide +kernel
theorem dL_isTold_384 : decode cL_isTold 384 = .ok (.iconst 0, 1) := by decide +kernel
theorem dL_isTold_385 : decode cL_isTold 385 = .ok (.ior, 1) := by decide +kernel
theorem dL_isTold_386 : decode cL_isTold 386 = .ok (.istore 13, 2) := by decide +kernel
theorem dL_isTold_388 : decode cL_isTold 388 = .ok (.iinc 14 1, 3) := by decide +kernel
theorem dL_isTold_391 : decode cL_isTold 391 = .ok (.goto (-32), 3) := by decide +kernel
theorem dL_isTold_394 : decode cL_isTold 394 = .ok (.iload 13, 2) := by decide +kernel
theorem dL_isTold_396 : decode cL_isTold 396 = .ok (.ifCond .eq 7, 3) := by decide +kernel
theorem dL_isTold_399 : decode cL_isTold 399 = .ok (.iconst 1, 1) := by decide +kernel
theorem dL_isTold_400 : decode cL_isTold 400 = .ok (.goto 49, 3) := by decide +kernel
theorem dL_isTold_403 : decode cL_isTold 403 = .ok (.iload_n 3, 1) := by decide +kernel
theorem dL_isTold_404 : decode cL_isTold 404 = .ok (.ifCond .ne 8, 3) := by decide +kernel
theorem dL_isTold_407 : decode cL_isTold 407 = .ok (.iload 7, 2) := by decide +kernel
theorem dL_isTold_409 : decode cL_isTold 409 = .ok (.ifCond .eq 7, 3) := by decide +kernel
theorem dL_isTold_412 : decode cL_isTold 412 = .ok (.iconst 2, 1) := by decide +kernel
theorem dL_isTold_413 : decode cL_isTold 413 = .ok (.goto 36, 3) := by decide +kernel
theorem dL_isTold_416 : decode cL_isTold 416 = .ok (.iload 4, 2) := by decide +kernel
theorem dL_isTold_418 : decode cL_isTold 418 = .ok (.ifCond .eq 7, 3) := by decide +kernel
theorem dL_isTold_421 : decode cL_isTold 421 = .ok (.iconst 3, 1) := by decide +kernel
theorem dL_isTold_422 : decode cL_isTold 422 = .ok (.goto 27, 3) := by decide +kernel
theorem dL_isTold_425 : decode cL_isTold 425 = .ok (.iload 5, 2) := by decide +kernel
theorem dL_isTold_427 : decode cL_isTold 427 = .ok (.ifCond .eq 7, 3) := by decide +kernel
theorem dL_isTold_430 : decode cL_isTold 430 = .ok (.iconst 4, 1) := by decide +kernel
theorem dL_isTold_431 : decode cL_isTold 431 = .ok (.goto 18, 3) := by decide +kernel
theorem dL_isTold_434 : decode cL_isTold 434 = .ok (.iload 12, 2) := by decide +kernel
theorem dL_isTold_436 : decode cL_isTold 436 = .ok (.ifCond .eq 12, 3) := by decide +kernel
theorem dL_isTold_439 : decode cL_isTold 439 = .ok (.iload 6, 2) := by decide +kernel
theorem dL_isTold_441 : decode cL_isTold 441 = .ok (.ifCond .eq 7, 3) := by decide +kernel
theorem dL_isTold_444 : decode cL_isTold 444 = .ok (.iconst 5, 1) := by decide +kernel
theorem dL_isTold_445 : decode cL_isTold 445 = .ok (.goto 4, 3) := by decide +kernel
theorem dL_isTold_448 : decode cL_isTold 448 = .ok (.iconst 0, 1) := by decide +kernel
theorem dL_isTold_449 : decode cL_isTold 449 = .ok (.istore 14, 2) := by decide +kernel
theorem dL_isTold_451 : decode cL_isTold 451 = .ok (.aload_n 0, 1) := by decide +kernel
theorem dL_isTold_452 : decode cL_isTold 452 = .ok (.iload_n 1, 1) := by decide +kernel
theorem dL_isTold_453 : decode cL_isTold 453 = .ok (.invokevirtual 236, 3) := by decide +kernel
theorem dL_isTold_456 : decode cL_isTold 456 = .ok (.iload 9, 2) := by decide +kernel
theorem dL_isTold_458 : decode cL_isTold 458 = .ok (.if_icmp .ne 37, 3) := by decide +kernel
theorem dL_isTold_461 : decode cL_isTold 461 = .ok (.aload_n 0, 1) := by decide +kernel
theorem dL_isTold_462 : decode cL_isTold 462 = .ok (.iload_n 1, 1) := by decide +kernel
theorem dL_isTold_463 : decode cL_isTold 463 = .ok (.invokevirtual 239, 3) := by decide +kernel
theorem dL_isTold_466 : decode cL_isTold 466 = .ok (.iload 11, 2) := by decide +kernel
theorem dL_isTold_468 : decode cL_isTold 468 = .ok (.if_icmp .ne 27, 3) := by decide +kernel
theorem dL_isTold_471 : decode cL_isTold 471 = .ok (.aload_n 0, 1) := by decide +kernel
theorem dL_isTold_472 : decode cL_isTold 472 = .ok (.iload_n 1, 1) := by decide +kernel
theorem dL_isTold_473 : decode cL_isTold 473 = .ok (.invokevirtual 242, 3) := by decide +kernel
theorem dL_isTold_476 : decode cL_isTold 476 = .ok (.iload 12, 2) := by decide +kernel
theorem dL_isTold_478 : decode cL_isTold 478 = .ok (.if_icmp .ne 17, 3) := by decide +kernel
theorem dL_isTold_481 : decode cL_isTold 481 = .ok (.aload_n 0, 1) := by decide +kernel
theorem dL_isTold_482 : decode cL_isTold 482 = .ok (.iload_n 1, 1) := by decide +kernel
theorem dL_isTold_483 : decode cL_isTold 483 = .ok (.invokevirtual 245, 3) := by decide +kernel
theorem dL_isTold_486 : decode cL_isTold 486 = .ok (.iload 14, 2) := by decide +kernel
theorem dL_isTold_488 : decode cL_isTold 488 = .ok (.if_icmp .ne 7, 3) := by decide +kernel
theorem dL_isTold_491 : decode cL_isTold 491 = .ok (.iconst 1, 1) := by decide +kernel
theorem dL_isTold_492 : decode cL_isTold 492 = .ok (.goto 4, 3) := by decide +kernel
theorem dL_isTold_495 : decode cL_isTold 495 = .ok (.iconst 0, 1) := by decide +kernel
theorem dL_isTold_496 : decode cL_isTold 496 = .ok (.ireturn, 1) := by decide +kernel
theorem dL_law_0 : decode cL_law 0 = .ok (.aload_n 0, 1) := by decide +kernel
theorem dL_law_1 : decode cL_law 1 = .ok (.invokestatic 248, 3) := by decide +kernel
theorem dL_law_4 : decode cL_law 4 = .ok (.astore_n 1, 1) := by decide +kernel
theorem dL_law_5 : decode cL_law 5 = .ok (.aload_n 1, 1) := by decide +kernel
theorem dL_law_6 : decode cL_law 6 = .ok (.ifnonnull 5, 3) := by decide +kernel
theorem dL_law_9 : decode cL_law 9 = .ok (.iconst 0, 1) := by decide +kernel
theorem dL_law_10 : decode cL_law 10 = .ok (.ireturn, 1) := by decide +kernel
theorem dL_law_11 : decode cL_law 11 = .ok (.iconst 0, 1) := by decide +kernel
theorem dL_law_12 : decode cL_law 12 = .ok (.istore_n 2, 1) := by decide +kernel
theorem dL_law_13 : decode cL_law 13 = .ok (.iload_n 2, 1) := by decide +kernel
theorem dL_law_14 : decode cL_law 14 = .ok (.bipush 26, 2) := by decide +kernel
theorem dL_law_16 : decode cL_law 16 = .ok (.if_icmp .ge 83, 3) := by decide +kernel
theorem dL_law_19 : decode cL_law 19 = .ok (.aload_n 0, 1) := by decide +kernel
theorem dL_law_20 : decode cL_law 20 = .ok (.bipush 12, 2) := by decide +kernel
theorem dL_law_22 : decode cL_law 22 = .ok (.iload_n 2, 1) := by decide +kernel
theorem dL_law_23 : decode cL_law 23 = .ok (.iadd, 1) := by decide +kernel
theorem dL_law_24 : decode cL_law 24 = .ok (.invokestatic 37, 3) := by decide +kernel
theorem dL_law_27 : decode cL_law 27 = .ok (.istore_n 3, 1) := by decide +kernel
theorem dL_law_28 : decode cL_law 28 = .ok (.iconst 0, 1) := by decide +kernel
theorem dL_law_29 : decode cL_law 29 = .ok (.istore 4, 2) := by decide +kernel
theorem dL_law_31 : decode cL_law 31 = .ok (.iload 4, 2) := by decide +kernel
theorem dL_law_33 : decode cL_law 33 = .ok (.aload_n 1, 1) := by decide +kernel
theorem dL_law_34 : decode cL_law 34 = .ok (.iconst 3, 1) := by decide +kernel
theorem dL_law_35 : decode cL_law 35 = .ok (.invokevirtual 143, 3) := by decide +kernel
theorem dL_law_38 : decode cL_law 38 = .ok (.if_icmp .ge 20, 3) := by decide +kernel
theorem dL_law_41 : decode cL_law 41 = .ok (.aload_n 1, 1) := by decide +kernel
theorem dL_law_42 : decode cL_law 42 = .ok (.iload 4, 2) := by decide +kernel
theorem dL_law_44 : decode cL_law 44 = .ok (.invokestatic 252, 3) := by decide +kernel
theorem dL_law_47 : decode cL_law 47 = .ok (.ifCond .ne 5, 3) := by decide +kernel
theorem dL_law_50 : decode cL_law 50 = .ok (.iconst 0, 1) := by decide +kernel
theorem dL_law_51 : decode cL_law 51 = .ok (.ireturn, 1) := by decide +kernel
theorem dL_law_52 : decode cL_law 52 = .ok (.iinc 4 1, 3) := by decide +kernel
theorem dL_law_55 : decode cL_law 55 = .ok (.goto (-24), 3) := by decide +kernel
theorem dL_law_58 : decode cL_law 58 = .ok (.iconst 0, 1) := by decide +kernel
theorem dL_law_59 : decode cL_law 59 = .ok (.istore 4, 2) := by decide +kernel
theorem dL_law_61 : decode cL_law 61 = .ok (.iload 4, 2) := by decide +kernel
theorem dL_law_63 : decode cL_law 63 = .ok (.aload_n 1, 1) := by decide +kernel
theorem dL_law_64 : decode cL_law 64 = .ok (.iconst 2, 1) := by decide +kernel
theorem dL_law_65 : decode cL_law 65 = .ok (.invokevirtual 143, 3) := by decide +kernel
theorem dL_law_68 : decode cL_law 68 = .ok (.if_icmp .ge 20, 3) := by decide +kernel
theorem dL_law_71 : decode cL_law 71 = .ok (.aload_n 1, 1) := by decide +kernel
theorem dL_law_72 : decode cL_law 72 = .ok (.iload 4, 2) := by decide +kernel
theorem dL_law_74 : decode cL_law 74 = .ok (.invokestatic 255, 3) := by decide +kernel
theorem dL_law_77 : decode cL_law 77 = .ok (.ifCond .ne 5, 3) := by decide +kernel
theorem dL_law_80 : decode cL_law 80 = .ok (.iconst 0, 1) := by decide +kernel
theorem dL_law_81 : decode cL_law 81 = .ok (.ireturn, 1) := by decide +kernel
theorem dL_law_82 : decode cL_law 82 = .ok (.iinc 4 1, 3) := by decide +kernel
theorem dL_law_85 : decode cL_law 85 = .ok (.goto (-24), 3) := by decide +kernel
theorem dL_law_88 : decode cL_law 88 = .ok (.aload_n 1, 1) := by decide +kernel
theorem dL_law_89 : decode cL_law 89 = .ok (.iload_n 3, 1) := by decide +kernel
theorem dL_law_90 : decode cL_law 90 = .ok (.invokestatic 258, 3) := by decide +kernel
theorem dL_law_93 : decode cL_law 93 = .ok (.iinc 2 1, 3) := by decide +kernel
theorem dL_law_96 : decode cL_law 96 = .ok (.goto (-83), 3) := by decide +kernel
theorem dL_law_99 : decode cL_law 99 = .ok (.iconst 1, 1) := by decide +kernel
theorem dL_law_100 : decode cL_law 100 = .ok (.ireturn, 1) := by decide +kernel
