theorem dX8_load_1 : decode cX8_load 1 = .ok (.iconst 0, 1) := by decide +kernel
theorem dX8_load_2 : decode cX8_load 2 = .ok (.putfield 220, 3) := by decide +kernel
theorem dX8_load_5 : decode cX8_load 5 = .ok (.aload_n 0, 1) := by decide +kernel
theorem dX8_load_6 : decode cX8_load 6 = .ok (.iload_n 1, 1) := by decide +kernel
theorem dX8_load_7 : decode cX8_load 7 = .ok (.iload_n 2, 1) := by decide +kernel
theorem dX8_load_8 : decode cX8_load 8 = .ok (.iconst 1, 1) := by decide +kernel
theorem dX8_load_9 : decode cX8_load 9 = .ok (.invokevirtual 223, 3) := by decide +kernel
theorem dX8_load_12 : decode cX8_load 12 = .ok (.ifCond .eq 8, 3) := by decide +kernel
theorem dX8_load_15 : decode cX8_load 15 = .ok (.aload_n 0, 1) := by decide +kernel
theorem dX8_load_16 : decode cX8_load 16 = .ok (.getfield 220, 3) := by decide +kernel
theorem dX8_load_19 : decode cX8_load 19 = .ok (.ireturn, 1) := by decide +kernel
theorem dX8_load_20 : decode cX8_load 20 = .ok (.aload_n 0, 1) := by decide +kernel
theorem dX8_load_21 : decode cX8_load 21 = .ok (.iconst 0, 1) := by decide +kernel
theorem dX8_load_22 : decode cX8_load 22 = .ok (.putfield 220, 3) := by decide +kernel
theorem dX8_load_25 : decode cX8_load 25 = .ok (.iconst (-1), 1) := by decide +kernel
theorem dX8_load_26 : decode cX8_load 26 = .ok (.ireturn, 1) := by decide +kernel
theorem dX8_scratches_0 : decode cX8_scratches 0 = .ok (.aload_n 0, 1) := by decide +kernel
theorem dX8_scratches_1 : decode cX8_scratches 1 = .ok (.iload_n 1, 1) := by decide +kernel
theorem dX8_scratches_2 : decode cX8_scratches 2 = .ok (.iload_n 2, 1) := by decide +kernel
theorem dX8_scratches_3 : decode cX8_scratches 3 = .ok (.iconst 0, 1) := by decide +kernel
theorem dX8_scratches_4 : decode cX8_scratches 4 = .ok (.invokevirtual 223, 3) := by decide +kernel
theorem dX8_scratches_7 : decode cX8_scratches 7 = .ok (.ifCond .ne 5, 3) := by decide +kernel
theorem dX8_scratches_10 : decode cX8_scratches 10 = .ok (.iconst 0, 1) := by decide +kernel
theorem dX8_scratches_11 : decode cX8_scratches 11 = .ok (.ireturn, 1) := by decide +kernel
theorem dX8_scratches_12 : decode cX8_scratches 12 = .ok (.iconst 0, 1) := by decide +kernel
theorem dX8_scratches_13 : decode cX8_scratches 13 = .ok (.istore_n 3, 1) := by decide +kernel
theorem dX8_scratches_14 : decode cX8_scratches 14 = .ok (.iload_n 3, 1) := by decide +kernel
theorem dX8_scratches_15 : decode cX8_scratches 15 = .ok (.bipush 12, 2) := by decide +kernel
theorem dX8_scratches_17 : decode cX8_scratches 17 = .ok (.if_icmp .ge 21, 3) := by decide +kernel
theorem dX8_scratches_20 : decode cX8_scratches 20 = .ok (.aload_n 0, 1) := by decide +kernel
theorem dX8_scratches_21 : decode cX8_scratches 21 = .ok (.getfield 43, 3) := by decide +kernel
theorem dX8_scratches_24 : decode cX8_scratches 24 = .ok (.aload_n 0, 1) := by decide +kernel
theorem dX8_scratches_25 : decode cX8_scratches 25 = .ok (.getfield 165, 3) := by decide +kernel
theorem dX8_scratches_28 : decode cX8_scratches 28 = .ok (.iload_n 3, 1) := by decide +kernel
theorem dX8_scratches_29 : decode cX8_scratches 29 = .ok (.iadd, 1) := by decide +kernel
theorem dX8_scratches_30 : decode cX8_scratches 30 = .ok (.iconst 0, 1) := by decide +kernel
theorem dX8_scratches_31 : decode cX8_scratches 31 = .ok (.iastore, 1) := by decide +kernel
theorem dX8_scratches_32 : decode cX8_scratches 32 = .ok (.iinc 3 1, 3) := by decide +kernel
theorem dX8_scratches_35 : decode cX8_scratches 35 = .ok (.goto (-21), 3) := by decide +kernel
theorem dX8_scratches_38 : decode cX8_scratches 38 = .ok (.aload_n 0, 1) := by decide +kernel
theorem dX8_scratches_39 : decode cX8_scratches 39 = .ok (.aload_n 0, 1) := by decide +kernel
theorem dX8_scratches_40 : decode cX8_scratches 40 = .ok (.getfield 159, 3) := by decide +kernel
theorem dX8_scratches_43 : decode cX8_scratches 43 = .ok (.invokevirtual 207, 3) := by decide +kernel
theorem dX8_scratches_46 : decode cX8_scratches 46 = .ok (.ifCond .ne 5, 3) := by decide +kernel
theorem dX8_scratches_49 : decode cX8_scratches 49 = .ok (.iconst 0, 1) := by decide +kernel
theorem dX8_scratches_50 : decode cX8_scratches 50 = .ok (.ireturn, 1) := by decide +kernel
theorem dX8_scratches_51 : decode cX8_scratches 51 = .ok (.iconst 0, 1) := by decide +kernel
theorem dX8_scratches_52 : decode cX8_scratches 52 = .ok (.istore_n 3, 1) := by decide +kernel
theorem dX8_scratches_53 : decode cX8_scratches 53 = .ok (.iload_n 3, 1) := by decide +kernel
theorem dX8_scratches_54 : decode cX8_scratches 54 = .ok (.aload_n 0, 1) := by decide +kernel
theorem dX8_scratches_55 : decode cX8_scratches 55 = .ok (.getfield 180, 3) := by decide +kernel
theorem dX8_scratches_58 : decode cX8_scratches 58 = .ok (.if_icmp .ge 37, 3) := by decide +kernel
theorem dX8_scratches_61 : decode cX8_scratches 61 = .ok (.aload_n 0, 1) := by decide +kernel
theorem dX8_scratches_62 : decode cX8_scratches 62 = .ok (.getfield 52, 3) := by decide +kernel
theorem dX8_scratches_65 : decode cX8_scratches 65 = .ok (.iload_n 3, 1) := by decide +kernel
theorem dX8_scratches_66 : decode cX8_scratches 66 = .ok (.iaload, 1) := by decide +kernel
theorem dX8_scratches_67 : decode cX8_scratches 67 = .ok (.bipush 9, 2) := by decide +kernel
theorem dX8_scratches_69 : decode cX8_scratches 69 = .ok (.if_icmp .eq 20, 3) := by decide +kernel
theorem dX8_scratches_72 : decode cX8_scratches 72 = .ok (.aload_n 0, 1) := by decide +kernel
theorem dX8_scratches_73 : decode cX8_scratches 73 = .ok (.aload_n 0, 1) := by decide +kernel
theorem dX8_scratches_74 : decode cX8_scratches 74 = .ok (.getfield 52, 3) := by decide +kernel
theorem dX8_scratches_77 : decode cX8_scratches 77 = .ok (.iload_n 3, 1) := by decide +kernel
theorem dX8_scratches_78 : decode cX8_scratches 78 = .ok (.iaload, 1) := by decide +kernel
theorem dX8_scratches_79 : decode cX8_scratches 79 = .ok (.aload_n 0, 1) := by decide +kernel
theorem dX8_scratches_80 : decode cX8_scratches 80 = .ok (.getfield 55, 3) := by decide +kernel
theorem dX8_scratches_83 : decode cX8_scratches 83 = .ok (.iload_n 3, 1) := by decide +kernel
theorem dX8_scratches_84 : decode cX8_scratches 84 = .ok (.iaload, 1) := by decide +kernel
theorem dX8_scratches_85 : decode cX8_scratches 85 = .ok (.iconst 1, 1) := by decide +kernel
theorem dX8_scratches_86 : decode cX8_scratches 86 = .ok (.invokevirtual 176, 3) := by decide +kernel
theorem dX8_scratches_89 : decode cX8_scratches 89 = .ok (.iinc 3 1, 3) := by decide +kernel
theorem dX8_scratches_92 : decode cX8_scratches 92 = .ok (.goto (-39), 3) := by decide +kernel
theorem dX8_scratches_95 : decode cX8_scratches 95 = .ok (.aload_n 0, 1) := by decide +kernel
theorem dX8_scratches_96 : decode cX8_scratches 96 = .ok (.invokevirtual 210, 3) := by decide +kernel
theorem dX8_scratches_99 : decode cX8_scratches 99 = .ok (.ifCond .ne 5, 3) := by decide +kernel
theorem dX8_scratches_102 : decode cX8_scratches 102 = .ok (.iconst 0, 1) := by decide +kernel
theorem dX8_scratches_103 : decode cX8_scratches 103 = .ok (.ireturn, 1) := by decide +kernel
theorem dX8_scratches_104 : decode cX8_scratches 104 = .ok (.aload_n 0, 1) := by decide +kernel
theorem dX8_scratches_105 : decode cX8_scratches 105 = .ok (.iconst 1, 1) := by decide +kernel
theorem dX8_scratches_106 : decode cX8_scratches 106 = .ok (.aload_n 0, 1) := by decide +kernel
theorem dX8_scratches_107 : decode cX8_scratches 107 = .ok (.getfield 180, 3) := by decide +kernel
theorem dX8_scratches_110 : decode cX8_scratches 110 = .ok (.iconst 0, 1) := by decide +kernel
theorem dX8_scratches_111 : decode cX8_scratches 111 = .ok (.invokevirtual 143, 3) := by decide +kernel
theorem dX8_scratches_114 : decode cX8_scratches 114 = .ok (.istore_n 3, 1) := by decide +kernel
theorem dX8_scratches_115 : decode cX8_scratches 115 = .ok (.iconst 1, 1) := by decide +kernel
theorem dX8_scratches_116 : decode cX8_scratches 116 = .ok (.ireturn, 1) := by decide +kernel
theorem dX8_scratch_0 : decode cX8_scratch 0 = .ok (.aload_n 0, 1) := by decide +kernel
theorem dX8_scratch_1 : decode cX8_scratch 1 = .ok (.iload_n 1, 1) := by decide +kernel
theorem dX8_scratch_2 : decode cX8_scratch 2 = .ok (.iload_n 2, 1) := by decide +kernel
theorem dX8_scratch_3 : decode cX8_scratch 3 = .ok (.invokevirtual 227, 3) := by decide +kernel
theorem dX8_scratch_6 : decode cX8_scratch 6 = .ok (.istore_n 3, 1) := by decide +kernel
theorem dX8_scratch_7 : decode cX8_scratch 7 = .ok (.aload_n 0, 1) := by decide +kernel
theorem dX8_scratch_8 : decode cX8_scratch 8 = .ok (.getfield 134, 3) := by decide +kernel
theorem dX8_scratch_11 : decode cX8_scratch 11 = .ok (.ireturn, 1) := by decide +kernel
theorem dX8_list_0 : decode cX8_list 0 = .ok (.aload_n 0, 1) := by decide +kernel
theorem dX8_list_1 : decode cX8_list 1 = .ok (.iconst 0, 1) := by decide +kernel
theorem dX8_list_2 : decode cX8_list 2 = .ok (.putfield 220, 3) := by decide +kernel
theorem dX8_list_5 : decode cX8_list 5 = .ok (.aload_n 0, 1) := by decide +kernel
theorem dX8_list_6 : decode cX8_list 6 = .ok (.invokevirtual 186, 3) := by decide +kernel
theorem dX8_list_9 : decode cX8_list 9 = .ok (.ifCond .eq 13, 3) := by decide +kernel
theorem dX8_list_12 : decode cX8_list 12 = .ok (.aload_n 0, 1) := by decide +kernel
theorem dX8_list_13 : decode cX8_list 13 = .ok (.iconst 0, 1) := by decide +kernel
theorem dX8_list_14 : decode cX8_list 14 = .ok (.iconst 0, 1) := by decide +kernel
theorem dX8_list_15 : decode cX8_list 15 = .ok (.iconst 0, 1) := by decide +kernel
theorem dX8_list_16 : decode cX8_list 16 = .ok (.invokevirtual 190, 3) := by decide +kernel
theorem dX8_list_19 : decode cX8_list 19 = .ok (.ifCond .ne 5, 3) := by decide +kernel
theorem dX8_list_22 : decode cX8_list 22 = .ok (.iconst (-1), 1) := by decide +kernel
theorem dX8_list_23 : decode cX8_list 23 = .ok (.ireturn, 1) := by decide +kernel
theorem dX8_list_24 : decode cX8_list 24 = .ok (.iconst 0, 1) := by decide +kernel
theorem dX8_list_25 : decode cX8_list 25 = .ok (.istore_n 1, 1) := by decide +kernel
theorem dX8_list_26 : decode cX8_list 26 = .ok (.iload_n 1, 1) := by decide +kernel
theorem dX8_list_27 : decode cX8_list 27 = .ok (.aload_n 0, 1) := by decide +kernel
theorem dX8_list_28 : decode cX8_list 28 = .ok (.getfield 156, 3) := by decide +kernel
theorem dX8_list_31 : decode cX8_list 31 = .ok (.if_icmp .ge 95, 3) := by decide +kernel
theorem dX8_list_34 : decode cX8_list 34 = .ok (.bipush 64, 2) := by decide +kernel
theorem dX8_list_36 : decode cX8_list 36 = .ok (.iload_n 1, 1) := by decide +kernel
theorem dX8_list_37 : decode cX8_list 37 = .ok (.imul, 1) := by decide +kernel
theorem dX8_list_38 : decode cX8_list 38 = .ok (.iconst 2, 1) := by decide +kernel
theorem dX8_list_39 : decode cX8_list 39 = .ok (.iadd, 1) := by decide +kernel
theorem dX8_list_40 : decode cX8_list 40 = .ok (.istore_n 2, 1) := by decide +kernel
theorem dX8_list_41 : decode cX8_list 41 = .ok (.iload_n 2, 1) := by decide +kernel
theorem dX8_list_42 : decode cX8_list 42 = .ok (.bipush 64, 2) := by decide +kernel
theorem dX8_list_44 : decode cX8_list 44 = .ok (.iload_n 1, 1) := by decide +kernel
theorem dX8_list_45 : decode cX8_list 45 = .ok (.imul, 1) := by decide +kernel
theorem dX8_list_46 : decode cX8_list 46 = .ok (.bipush 62, 2) := by decide +kernel
theorem dX8_list_48 : decode cX8_list 48 = .ok (.iadd, 1) := by decide +kernel
theorem dX8_list_49 : decode cX8_list 49 = .ok (.if_icmp .ge 71, 3) := by decide +kernel
theorem dX8_list_52 : decode cX8_list 52 = .ok (.aload_n 0, 1) := by decide +kernel
theorem dX8_list_53 : decode cX8_list 53 = .ok (.getfield 43, 3) := by decide +kernel
theorem dX8_list_56 : decode cX8_list 56 = .ok (.iload_n 2, 1) := by decide +kernel
theorem dX8_list_57 : decode cX8_list 57 = .ok (.iaload, 1) := by decide +kernel
theorem dX8_list_58 : decode cX8_list 58 = .ok (.ifCond .ne 6, 3) := by decide +kernel
theorem dX8_list_61 : decode cX8_list 61 = .ok (.goto 53, 3) := by decide +kernel
theorem dX8_list_64 : decode cX8_list 64 = .ok (.aload_n 0, 1) := by decide +kernel
theorem dX8_list_65 : decode cX8_list 65 = .ok (.aload_n 0, 1) := by decide +kernel
theorem dX8_list_66 : decode cX8_list 66 = .ok (.getfield 43, 3) := by decide +kernel
theorem dX8_list_69 : decode cX8_list 69 = .ok (.iload_n 2, 1) := by decide +kernel
theorem dX8_list_70 : decode cX8_list 70 = .ok (.iaload, 1) := by decide +kernel
theorem dX8_list_71 : decode cX8_list 71 = .ok (.invokevirtual 217, 3) := by decide +kernel
theorem dX8_list_74 : decode cX8_list 74 = .ok (.aload_n 0, 1) := by decide +kernel
theorem dX8_list_75 : decode cX8_list 75 = .ok (.aload_n 0, 1) := by decide +kernel
theorem dX8_list_76 : decode cX8_list 76 = .ok (.getfield 43, 3) := by decide +kernel
theorem dX8_list_79 : decode cX8_list 79 = .ok (.iload_n 2, 1) := by decide +kernel
theorem dX8_list_80 : decode cX8_list 80 = .ok (.iconst 3, 1) := by decide +kernel
theorem dX8_list_81 : decode cX8_list 81 = .ok (.iadd, 1) := by decide +kernel
theorem dX8_list_82 : decode cX8_list 82 = .ok (.iaload, 1) := by decide +kernel
theorem dX8_list_83 : decode cX8_list 83 = .ok (.invokevirtual 217, 3) := by decide +kernel
theorem dX8_list_86 : decode cX8_list 86 = .ok (.iconst 0, 1) := by decide +kernel
theorem dX8_list_87 : decode cX8_list 87 = .ok (.istore_n 3, 1) := by decide +kernel
theorem dX8_list_88 : decode cX8_list 88 = .ok (.iload_n 3, 1) := by decide +kernel
theorem dX8_list_89 : decode cX8_list 89 = .ok (.bipush 8, 2) := by decide +kernel
theorem dX8_list_91 : decode cX8_list 91 = .ok (.if_icmp .ge 23, 3) := by decide +kernel
theorem dX8_list_94 : decode cX8_list 94 = .ok (.aload_n 0, 1) := by decide +kernel
theorem dX8_list_95 : decode cX8_list 95 = .ok (.aload_n 0, 1) := by decide +kernel
theorem dX8_list_96 : decode cX8_list 96 = .ok (.getfield 43, 3) := by decide +kernel
theorem dX8_list_99 : decode cX8_list 99 = .ok (.iload_n 2, 1) := by decide +kernel
theorem dX8_list_100 : decode cX8_list 100 = .ok (.iconst 4, 1) := by decide +kernel
theorem dX8_list_101 : decode cX8_list 101 = .ok (.iadd, 1) := by decide +kernel
theorem dX8_list_102 : decode cX8_list 102 = .ok (.iload_n 3, 1) := by decide +kernel
theorem dX8_list_103 : decode cX8_list 103 = .ok (.iadd, 1) := by decide +kernel
theorem dX8_list_104 : decode cX8_list 104 = .ok (.iaload, 1) := by decide +kernel
theorem dX8_list_105 : decode cX8_list 105 = .ok (.invokevirtual 217, 3) := by decide +kernel
theorem dX8_list_108 : decode cX8_list 108 = .ok (.iinc 3 1, 3) := by decide +kernel
theorem dX8_list_111 : decode cX8_list 111 = .ok (.goto (-23), 3) := by decide +kernel
theorem dX8_list_114 : decode cX8_list 114 = .ok (.iinc 2 12, 3) := by decide +kernel
theorem dX8_list_117 : decode cX8_list 117 = .ok (.goto (-76), 3) := by decide +kernel
theorem dX8_list_120 : decode cX8_list 120 = .ok (.iinc 1 1, 3) := by decide +kernel
theorem dX8_list_123 : decode cX8_list 123 = .ok (.goto (-97), 3) := by decide +kernel
theorem dX8_list_126 : decode cX8_list 126 = .ok (.aload_n 0, 1) := by decide +kernel
theorem dX8_list_127 : decode cX8_list 127 = .ok (.getfield 220, 3) := by decide +kernel
theorem dX8_list_130 : decode cX8_list 130 = .ok (.ireturn, 1) := by decide +kernel
theorem dX8_info_0 : decode cX8_info 0 = .ok (.aload_n 0, 1) := by decide +kernel
theorem dX8_info_1 : decode cX8_info 1 = .ok (.iconst 0, 1) := by decide +kernel
theorem dX8_info_2 : decode cX8_info 2 = .ok (.putfield 220, 3) := by decide +kernel
theorem dX8_info_5 : decode cX8_info 5 = .ok (.aload_n 0, 1) := by decide +kernel
theorem dX8_info_6 : decode cX8_info 6 = .ok (.invokevirtual 186, 3) := by decide +kernel
theorem dX8_info_9 : decode cX8_info 9 = .ok (.ifCond .ne 5, 3) := by decide +kernel
theorem dX8_info_12 : decode cX8_info 12 = .ok (.iconst (-1), 1) := by decide +kernel
theorem dX8_info_13 : decode cX8_info 13 = .ok (.ireturn, 1) := by decide +kernel
theorem dX8_info_14 : decode cX8_info 14 = .ok (.iconst 0, 1) := by decide +kernel
theorem dX8_info_15 : decode cX8_info 15 = .ok (.istore_n 1, 1) := by decide +kernel
theorem dX8_info_16 : decode cX8_info 16 = .ok (.iload_n 1, 1) := by decide +kernel
theorem dX8_info_17 : decode cX8_info 17 = .ok (.bipush 10, 2) := by decide +kernel
theorem dX8_info_19 : decode cX8_info 19 = .ok (.if_icmp .ge 22, 3) := by decide +kernel
theorem dX8_info_22 : decode cX8_info 22 = .ok (.aload_n 0, 1) := by decide +kernel
theorem dX8_info_23 : decode cX8_info 23 = .ok (.aload_n 0, 1) := by decide +kernel
theorem dX8_info_24 : decode cX8_info 24 = .ok (.getfield 40, 3) := by decide +kernel
theorem dX8_info_27 : decode cX8_info 27 = .ok (.bipush 40, 2) := by decide +kernel
theorem dX8_info_29 : decode cX8_info 29 = .ok (.iload_n 1, 1) := by decide +kernel
theorem dX8_info_30 : decode cX8_info 30 = .ok (.iadd, 1) := by decide +kernel
theorem dX8_info_31 : decode cX8_info 31 = .ok (.iaload, 1) := by decide +kernel
theorem dX8_info_32 : decode cX8_info 32 = .ok (.invokevirtual 217, 3) := by decide +kernel
theorem dX8_info_35 : decode cX8_info 35 = .ok (.iinc 1 1, 3) := by decide +kernel
theorem dX8_info_38 : decode cX8_info 38 = .ok (.goto (-22), 3) := by decide +kernel
theorem dX8_info_41 : decode cX8_info 41 = .ok (.iconst 0, 1) := by decide +kernel
theorem dX8_info_42 : decode cX8_info 42 = .ok (.istore_n 1, 1) := by decide +kernel
theorem dX8_info_43 : decode cX8_info 43 = .ok (.iconst 1, 1) := by decide +kernel
theorem dX8_info_44 : decode cX8_info 44 = .ok (.istore_n 2, 1) := by decide +kernel
theorem dX8_info_45 : decode cX8_info 45 = .ok (.iload_n 2, 1) := by decide +kernel
theorem dX8_info_46 : decode cX8_info 46 = .ok (.bipush 16, 2) := by decide +kernel
theorem dX8_info_48 : decode cX8_info 48 = .ok (.if_icmp .gt 48, 3) := by decide +kernel
theorem dX8_info_51 : decode cX8_info 51 = .ok (.iconst 0, 1) := by decide +kernel
theorem dX8_info_52 : decode cX8_info 52 = .ok (.istore_n 3, 1) := by decide +kernel
theorem dX8_info_53 : decode cX8_info 53 = .ok (.iload_n 3, 1) := by decide +kernel
theorem dX8_info_54 : decode cX8_info 54 = .ok (.iload_n 2, 1) := by decide +kernel
theorem dX8_info_55 : decode cX8_info 55 = .ok (.invokestatic 77, 3) := by decide +kernel
theorem dX8_info_58 : decode cX8_info 58 = .ok (.if_icmp .ge 32, 3) := by decide +kernel
theorem dX8_info_61 : decode cX8_info 61 = .ok (.iload_n 1, 1) := by decide +kernel
theorem dX8_info_62 : decode cX8_info 62 = .ok (.iload_n 2, 1) := by decide +kernel
theorem dX8_info_63 : decode cX8_info 63 = .ok (.bipush 9, 2) := by decide +kernel
theorem dX8_info_65 : decode cX8_info 65 = .ok (.if_icmp .eq 16, 3) := by decide +kernel
theorem dX8_info_68 : decode cX8_info 68 = .ok (.aload_n 0, 1) := by decide +kernel
theorem dX8_info_69 : decode cX8_info 69 = .ok (.iload_n 2, 1) := by decide +kernel
theorem dX8_info_70 : decode cX8_info 70 = .ok (.iload_n 3, 1) := by decide +kernel
theorem dX8_info_71 : decode cX8_info 71 = .ok (.invokevirtual 183, 3) := by decide +kernel
theorem dX8_info_74 : decode cX8_info 74 = .ok (.ifCond .eq 7, 3) := by decide +kernel
theorem dX8_info_77 : decode cX8_info 77 = .ok (.iconst 1, 1) := by decide +kernel
theorem dX8_info_78 : decode cX8_info 78 = .ok (.goto 4, 3) := by decide +kernel
theorem dX8_info_81 : decode cX8_info 81 = .ok (.iconst 0, 1) := by decide +kernel
theorem dX8_info_82 : decode cX8_info 82 = .ok (.iadd, 1) := by decide +kernel
theorem dX8_info_83 : decode cX8_info 83 = .ok (.istore_n 1, 1) := by decide +kernel
theorem dX8_info_84 : decode cX8_info 84 = .ok (.iinc 3 1, 3) := by decide +kernel
theorem dX8_info_87 : decode cX8_info 87 = .ok (.goto (-34), 3) := by decide +kernel
theorem dX8_info_90 : decode cX8_info 90 = .ok (.iinc 2 1, 3) := by decide +kernel
theorem dX8_info_93 : decode cX8_info 93 = .ok (.goto (-48), 3) := by decide +kernel
theorem dX8_info_96 : decode cX8_info 96 = .ok (.aload_n 0, 1) := by decide +kernel
theorem dX8_info_97 : decode cX8_info 97 = .ok (.iload_n 1, 1) := by decide +kernel
theorem dX8_info_98 : decode cX8_info 98 = .ok (.invokevirtual 217, 3) := by decide +kernel
theorem dX8_info_101 : decode cX8_info 101 = .ok (.aload_n 0, 1) := by decide +kernel
theorem dX8_info_102 : decode cX8_info 102 = .ok (.getfield 220, 3) := by decide +kernel
theorem dX8_info_105 : decode cX8_info 105 = .ok (.ireturn, 1) := by decide +kernel
theorem dX8_out_0 : decode cX8_out 0 = .ok (.iload_n 1, 1) := by decide +kernel
theorem dX8_out_1 : decode cX8_out 1 = .ok (.iconst 0, 1) := by decide +kernel
theorem dX8_out_2 : decode cX8_out 2 = .ok (.aload_n 0, 1) := by decide +kernel
theorem dX8_out_3 : decode cX8_out 3 = .ok (.getfield 220, 3) := by decide +kernel
theorem dX8_out_6 : decode cX8_out 6 = .ok (.iconst 1, 1) := by decide +kernel
theorem dX8_out_7 : decode cX8_out 7 = .ok (.isub, 1) := by decide +kernel
theorem dX8_out_8 : decode cX8_out 8 = .ok (.invokestatic 69, 3) := by decide +kernel
theorem dX8_out_11 : decode cX8_out 11 = .ok (.ifCond .eq 12, 3) := by decide +kernel
theorem dX8_out_14 : decode cX8_out 14 = .ok (.aload_n 0, 1) := by decide +kernel
theorem dX8_out_15 : decode cX8_out 15 = .ok (.getfield 31, 3) := by decide +kernel
theorem dX8_out_18 : decode cX8_out 18 = .ok (.iload_n 1, 1) := by decide +kernel
theorem dX8_out_19 : decode cX8_out 19 = .ok (.iaload, 1) := by decide +kernel
theorem dX8_out_20 : decode cX8_out 20 = .ok (.goto 4, 3) := by decide +kernel
theorem dX8_out_23 : decode cX8_out 23 = .ok (.iconst (-1), 1) := by decide +kernel
theorem dX8_out_24 : decode cX8_out 24 = .ok (.ireturn, 1) := by decide +kernel
theorem dX8_status_0 : decode cX8_status 0 = .ok (.iload_n 1, 1) := by decide +kernel
theorem dX8_status_1 : decode cX8_status 1 = .ok (.ifCond .ne 10, 3) := by decide +kernel
theorem dX8_status_4 : decode cX8_status 4 = .ok (.aload_n 0, 1) := by decide +kernel
theorem dX8_status_5 : decode cX8_status 5 = .ok (.getfield 134, 3) := by decide +kernel
theorem dX8_status_8 : decode cX8_status 8 = .ok (.goto 28, 3) := by decide +kernel
theorem dX8_status_11 : decode cX8_status 11 = .ok (.iload_n 1, 1) := by decide +kernel
theorem dX8_status_12 : decode cX8_status 12 = .ok (.iconst 1, 1) := by decide +kernel
theorem dX8_status_13 : decode cX8_status 13 = .ok (.if_icmp .ne 10, 3) := by decide +kernel
theorem dX8_status_16 : decode cX8_status 16 = .ok (.aload_n 0, 1) := by decide +kernel
theorem dX8_status_17 : decode cX8_status 17 = .ok (.getfield 137, 3) := by decide +kernel
theorem dX8_status_20 : decode cX8_status 20 = .ok (.goto 16, 3) := by decide +kernel
theorem dX8_status_23 : decode cX8_status 23 = .ok (.iload_n 1, 1) := by decide +kernel
theorem dX8_status_24 : decode cX8_status 24 = .ok (.iconst 2, 1) := by decide +kernel
theorem dX8_status_25 : decode cX8_status 25 = .ok (.if_icmp .ne 10, 3) := by decide +kernel
theorem dX8_status_28 : decode cX8_status 28 = .ok (.aload_n 0, 1) := by decide +kernel
theorem dX8_status_29 : decode cX8_status 29 = .ok (.getfield 140, 3) := by decide +kernel
theorem dX8_status_32 : decode cX8_status 32 = .ok (.goto 4, 3) := by decide +kernel
theorem dX8_status_35 : decode cX8_status 35 = .ok (.iconst (-1), 1) := by decide +kernel
theorem dX8_status_36 : decode cX8_status 36 = .ok (.ireturn, 1) := by decide +kernel
theorem dX8_peek_0 : decode cX8_peek 0 = .ok (.iload_n 1, 1) := by decide +kernel
theorem dX8_peek_1 : decode cX8_peek 1 = .ok (.iload_n 2, 1) := by decide +kernel
theorem dX8_peek_2 : decode cX8_peek 2 = .ok (.invokestatic 230, 3) := by decide +kernel
theorem dX8_peek_5 : decode cX8_peek 5 = .ok (.ifCond .eq 12, 3) := by decide +kernel
theorem dX8_peek_8 : decode cX8_peek 8 = .ok (.aload_n 0, 1) := by decide +kernel
theorem dX8_peek_9 : decode cX8_peek 9 = .ok (.iload_n 1, 1) := by decide +kernel
theorem dX8_peek_10 : decode cX8_peek 10 = .ok (.iload_n 2, 1) := by decide +kernel
theorem dX8_peek_11 : decode cX8_peek 11 = .ok (.invokevirtual 233, 3) := by decide +kernel
theorem dX8_peek_14 : decode cX8_peek 14 = .ok (.goto 4, 3) := by decide +kernel
theorem dX8_peek_17 : decode cX8_peek 17 = .ok (.iconst (-1), 1) := by decide +kernel
theorem dX8_peek_18 : decode cX8_peek 18 = .ok (.ireturn, 1) := by decide +kernel
theorem dX8_poke_0 : decode cX8_poke 0 = .ok (.iload_n 1, 1) := by decide +kernel
theorem dX8_poke_1 : decode cX8_poke 1 = .ok (.iload_n 2, 1) := by decide +kernel
theorem dX8_poke_2 : decode cX8_poke 2 = .ok (.invokestatic 230, 3) := by decide +kernel
theorem dX8_poke_5 : decode cX8_poke 5 = .ok (.ifCond .ne 5, 3) := by decide +kernel
theorem dX8_poke_8 : decode cX8_poke 8 = .ok (.iconst (-1), 1) := by decide +kernel
theorem dX8_poke_9 : decode cX8_poke 9 = .ok (.ireturn, 1) := by decide +kernel
theorem dX8_poke_10 : decode cX8_poke 10 = .ok (.aload_n 0, 1) := by decide +kernel
theorem dX8_poke_11 : decode cX8_poke 11 = .ok (.iload_n 1, 1) := by decide +kernel
theorem dX8_poke_12 : decode cX8_poke 12 = .ok (.iload_n 2, 1) := by decide +kernel
theorem dX8_poke_13 : decode cX8_poke 13 = .ok (.invokevirtual 233, 3) := by decide +kernel
theorem dX8_poke_16 : decode cX8_poke 16 = .ok (.istore 4, 2) := by decide +kernel
theorem dX8_poke_18 : decode cX8_poke 18 = .ok (.aload_n 0, 1) := by decide +kernel
theorem dX8_poke_19 : decode cX8_poke 19 = .ok (.iload_n 1, 1) := by decide +kernel
theorem dX8_poke_20 : decode cX8_poke 20 = .ok (.iload_n 2, 1) := by decide +kernel
theorem dX8_poke_21 : decode cX8_poke 21 = .ok (.iload_n 3, 1) := by decide +kernel
theorem dX8_poke_22 : decode cX8_poke 22 = .ok (.invokevirtual 236, 3) := by decide +kernel
theorem dX8_poke_25 : decode cX8_poke 25 = .ok (.iload 4, 2) := by decide +kernel
theorem dX8_poke_27 : decode cX8_poke 27 = .ok (.ireturn, 1) := by decide +kernel
theorem dX8_stamp_0 : decode cX8_stamp 0 = .ok (.iload_n 1, 1) := by decide +kernel
theorem dX8_stamp_1 : decode cX8_stamp 1 = .ok (.iload_n 2, 1) := by decide +kernel
theorem dX8_stamp_2 : decode cX8_stamp 2 = .ok (.invokestatic 230, 3) := by decide +kernel
theorem dX8_stamp_5 : decode cX8_stamp 5 = .ok (.ifCond .ne 5, 3) := by decide +kernel
theorem dX8_stamp_8 : decode cX8_stamp 8 = .ok (.iconst (-1), 1) := by decide +kernel
theorem dX8_stamp_9 : decode cX8_stamp 9 = .ok (.ireturn, 1) := by decide +kernel
theorem dX8_stamp_10 : decode cX8_stamp 10 = .ok (.iconst 0, 1) := by decide +kernel
theorem dX8_stamp_11 : decode cX8_stamp 11 = .ok (.istore 4, 2) := by decide +kernel
theorem dX8_stamp_13 : decode cX8_stamp 13 = .ok (.iload 4, 2) := by decide +kernel
theorem dX8_stamp_15 : decode cX8_stamp 15 = .ok (.iconst 4, 1) := by decide +kernel
theorem dX8_stamp_16 : decode cX8_stamp 16 = .ok (.if_icmp .ge 33, 3) := by decide +kernel
theorem dX8_stamp_19 : decode cX8_stamp 19 = .ok (.aload_n 0, 1) := by decide +kernel
theorem dX8_stamp_20 : decode cX8_stamp 20 = .ok (.iload_n 1, 1) := by decide +kernel
theorem dX8_stamp_21 : decode cX8_stamp 21 = .ok (.iload_n 2, 1) := by decide +kernel
theorem dX8_stamp_22 : decode cX8_stamp 22 = .ok (.iload 4, 2) := by decide +kernel
theorem dX8_stamp_24 : decode cX8_stamp 24 = .ok (.iadd, 1) := by decide +kernel
theorem dX8_stamp_25 : decode cX8_stamp 25 = .ok (.iload_n 1, 1) := by decide +kernel
theorem dX8_stamp_26 : decode cX8_stamp 26 = .ok (.invokestatic 62, 3) := by decide +kernel
theorem dX8_stamp_29 : decode cX8_stamp 29 = .ok (.irem, 1) := by decide +kernel
theorem dX8_stamp_30 : decode cX8_stamp 30 = .ok (.iload_n 3, 1) := by decide +kernel
theorem dX8_stamp_31 : decode cX8_stamp 31 = .ok (.bipush 24, 2) := by decide +kernel
theorem dX8_stamp_33 : decode cX8_stamp 33 = .ok (.bipush 8, 2) := by decide +kernel
theorem dX8_stamp_35 : decode cX8_stamp 35 = .ok (.iload 4, 2) := by decide +kernel
theorem dX8_stamp_37 : decode cX8_stamp 37 = .ok (.imul, 1) := by decide +kernel
theorem dX8_stamp_38 : decode cX8_stamp 38 = .ok (.isub, 1) := by decide +kernel
theorem dX8_stamp_39 : decode cX8_stamp 39 = .ok (.ishr, 1) := by decide +kernel
theorem dX8_stamp_40 : decode cX8_stamp 40 = .ok (.invokevirtual 236, 3) := by decide +kernel
theorem dX8_stamp_43 : decode cX8_stamp 43 = .ok (.iinc 4 1, 3) := by decide +kernel
theorem dX8_stamp_46 : decode cX8_stamp 46 = .ok (.goto (-33), 3) := by decide +kernel
theorem dX8_stamp_49 : decode cX8_stamp 49 = .ok (.iconst 1, 1) := by decide +kernel
theorem dX8_stamp_50 : decode cX8_stamp 50 = .ok (.ireturn, 1) := by decide +kernel
theorem dX8_turn_0 : decode cX8_turn 0 = .ok (.iload_n 1, 1) := by decide +kernel
theorem dX8_turn_1 : decode cX8_turn 1 = .ok (.invokestatic 73, 3) := by decide +kernel
theorem dX8_turn_4 : decode cX8_turn 4 = .ok (.ifCond .ne 5, 3) := by decide +kernel
theorem dX8_turn_7 : decode cX8_turn 7 = .ok (.iconst (-1), 1) := by decide +kernel
theorem dX8_turn_8 : decode cX8_turn 8 = .ok (.ireturn, 1) := by decide +kernel
theorem dX8_turn_9 : decode cX8_turn 9 = .ok (.iload_n 1, 1) := by decide +kernel
theorem dX8_turn_10 : decode cX8_turn 10 = .ok (.invokestatic 80, 3) := by decide +kernel
theorem dX8_turn_13 : decode cX8_turn 13 = .ok (.istore_n 3, 1) := by decide +kernel
theorem dX8_turn_14 : decode cX8_turn 14 = .ok (.iload_n 1, 1) := by decide +kernel
theorem dX8_turn_15 : decode cX8_turn 15 = .ok (.invokestatic 66, 3) := by decide +kernel
theorem dX8_turn_18 : decode cX8_turn 18 = .ok (.istore 4, 2) := by decide +kernel
theorem dX8_turn_20 : decode cX8_turn 20 = .ok (.iload_n 2, 1) := by decide +kernel
theorem dX8_turn_21 : decode cX8_turn 21 = .ok (.iload 4, 2) := by decide +kernel
theorem dX8_turn_23 : decode cX8_turn 23 = .ok (.irem, 1) := by decide +kernel
theorem dX8_turn_24 : decode cX8_turn 24 = .ok (.istore 5, 2) := by decide +kernel
theorem dX8_turn_26 : decode cX8_turn 26 = .ok (.iload 5, 2) := by decide +kernel
theorem dX8_turn_28 : decode cX8_turn 28 = .ok (.ifCond .ge 11, 3) := by decide +kernel
theorem dX8_turn_31 : decode cX8_turn 31 = .ok (.iload 5, 2) := by decide +kernel
theorem dX8_turn_33 : decode cX8_turn 33 = .ok (.iload 4, 2) := by decide +kernel
theorem dX8_turn_35 : decode cX8_turn 35 = .ok (.iadd, 1) := by decide +kernel
theorem dX8_turn_36 : decode cX8_turn 36 = .ok (.goto 5, 3) := by decide +kernel
theorem dX8_turn_39 : decode cX8_turn 39 = .ok (.iload 5, 2) := by decide +kernel
theorem dX8_turn_41 : decode cX8_turn 41 = .ok (.istore 5, 2) := by decide +kernel
theorem dX8_turn_43 : decode cX8_turn 43 = .ok (.iconst 0, 1) := by decide +kernel
theorem dX8_turn_44 : decode cX8_turn 44 = .ok (.istore 6, 2) := by decide +kernel
theorem dX8_turn_46 : decode cX8_turn 46 = .ok (.iload 6, 2) := by decide +kernel
theorem dX8_turn_48 : decode cX8_turn 48 = .ok (.iload 4, 2) := by decide +kernel
theorem dX8_turn_50 : decode cX8_turn 50 = .ok (.if_icmp .ge 25, 3) := by decide +kernel
theorem dX8_turn_53 : decode cX8_turn 53 = .ok (.aload_n 0, 1) := by decide +kernel
theorem dX8_turn_54 : decode cX8_turn 54 = .ok (.getfield 14, 3) := by decide +kernel
theorem dX8_turn_57 : decode cX8_turn 57 = .ok (.iload 6, 2) := by decide +kernel
theorem dX8_turn_59 : decode cX8_turn 59 = .ok (.aload_n 0, 1) := by decide +kernel
theorem dX8_turn_60 : decode cX8_turn 60 = .ok (.getfield 8, 3) := by decide +kernel
theorem dX8_turn_63 : decode cX8_turn 63 = .ok (.iload_n 3, 1) := by decide +kernel
theorem dX8_turn_64 : decode cX8_turn 64 = .ok (.iload 6, 2) := by decide +kernel
theorem dX8_turn_66 : decode cX8_turn 66 = .ok (.iadd, 1) := by decide +kernel
theorem dX8_turn_67 : decode cX8_turn 67 = .ok (.baload, 1) := by decide +kernel
theorem dX8_turn_68 : decode cX8_turn 68 = .ok (.bastore, 1) := by decide +kernel
theorem dX8_turn_69 : decode cX8_turn 69 = .ok (.iinc 6 1, 3) := by decide +kernel
theorem dX8_turn_72 : decode cX8_turn 72 = .ok (.goto (-26), 3) := by decide +kernel
theorem dX8_turn_75 : decode cX8_turn 75 = .ok (.iconst 0, 1) := by decide +kernel
theorem dX8_turn_76 : decode cX8_turn 76 = .ok (.istore 6, 2) := by decide +kernel
theorem dX8_turn_78 : decode cX8_turn 78 = .ok (.iload 6, 2) := by decide +kernel
theorem dX8_turn_80 : decode cX8_turn 80 = .ok (.iload 4, 2) := by decide +kernel
theorem dX8_turn_82 : decode cX8_turn 82 = .ok (.if_icmp .ge 31, 3) := by decide +kernel
theorem dX8_turn_85 : decode cX8_turn 85 = .ok (.aload_n 0, 1) := by decide +kernel
theorem dX8_turn_86 : decode cX8_turn 86 = .ok (.getfield 8, 3) := by decide +kernel
theorem dX8_turn_89 : decode cX8_turn 89 = .ok (.iload_n 3, 1) := by decide +kernel
theorem dX8_turn_90 : decode cX8_turn 90 = .ok (.iload 6, 2) := by decide +kernel
theorem dX8_turn_92 : decode cX8_turn 92 = .ok (.iload 5, 2) := by decide +kernel
theorem dX8_turn_94 : decode cX8_turn 94 = .ok (.iadd, 1) := by decide +kernel
theorem dX8_turn_95 : decode cX8_turn 95 = .ok (.iload 4, 2) := by decide +kernel
theorem dX8_turn_97 : decode cX8_turn 97 = .ok (.irem, 1) := by decide +kernel
theorem dX8_turn_98 : decode cX8_turn 98 = .ok (.iadd, 1) := by decide +kernel
theorem dX8_turn_99 : decode cX8_turn 99 = .ok (.aload_n 0, 1) := by decide +kernel
theorem dX8_turn_100 : decode cX8_turn 100 = .ok (.getfield 14, 3) := by decide +kernel
theorem dX8_turn_103 : decode cX8_turn 103 = .ok (.iload 6, 2) := by decide +kernel
theorem dX8_turn_105 : decode cX8_turn 105 = .ok (.baload, 1) := by decide +kernel
theorem dX8_turn_106 : decode cX8_turn 106 = .ok (.bastore, 1) := by decide +kernel
theorem dX8_turn_107 : decode cX8_turn 107 = .ok (.iinc 6 1, 3) := by decide +kernel
theorem dX8_turn_110 : decode cX8_turn 110 = .ok (.goto (-32), 3) := by decide +kernel
theorem dX8_turn_113 : decode cX8_turn 113 = .ok (.iconst 1, 1) := by decide +kernel
theorem dX8_turn_114 : decode cX8_turn 114 = .ok (.ireturn, 1) := by decide +kernel
theorem dX8_syncs_0 : decode cX8_syncs 0 = .ok (.iload_n 1, 1) := by decide +kernel
theorem dX8_syncs_1 : decode cX8_syncs 1 = .ok (.invokestatic 73, 3) := by decide +kernel
theorem dX8_syncs_4 : decode cX8_syncs 4 = .ok (.ifCond .ne 5, 3) := by decide +kernel
theorem dX8_syncs_7 : decode cX8_syncs 7 = .ok (.iconst (-1), 1) := by decide +kernel
theorem dX8_syncs_8 : decode cX8_syncs 8 = .ok (.ireturn, 1) := by decide +kernel
theorem dX8_syncs_9 : decode cX8_syncs 9 = .ok (.aload_n 0, 1) := by decide +kernel
theorem dX8_syncs_10 : decode cX8_syncs 10 = .ok (.iload_n 1, 1) := by decide +kernel
theorem dX8_syncs_11 : decode cX8_syncs 11 = .ok (.invokevirtual 107, 3) := by decide +kernel
theorem dX8_syncs_14 : decode cX8_syncs 14 = .ok (.aload_n 0, 1) := by decide +kernel
theorem dX8_syncs_15 : decode cX8_syncs 15 = .ok (.getfield 83, 3) := by decide +kernel
theorem dX8_syncs_18 : decode cX8_syncs 18 = .ok (.ireturn, 1) := by decide +kernel
theorem dX8_read_0 : decode cX8_read 0 = .ok (.aload_n 0, 1) := by decide +kernel
theorem dX8_read_1 : decode cX8_read 1 = .ok (.iconst 0, 1) := by decide +kernel
theorem dX8_read_2 : decode cX8_read 2 = .ok (.putfield 220, 3) := by decide +kernel
theorem dX8_read_5 : decode cX8_read 5 = .ok (.aload_n 0, 1) := by decide +kernel
theorem dX8_read_6 : decode cX8_read 6 = .ok (.getfield 24, 3) := by decide +kernel
theorem dX8_read_9 : decode cX8_read 9 = .ok (.ifCond .ge 6, 3) := by decide +kernel
theorem dX8_read_12 : decode cX8_read 12 = .ok (.bipush 74, 2) := by decide +kernel
theorem dX8_read_14 : decode cX8_read 14 = .ok (.ireturn, 1) := by decide +kernel
theorem dX8_read_15 : decode cX8_read 15 = .ok (.iload_n 1, 1) := by decide +kernel
theorem dX8_read_16 : decode cX8_read 16 = .ok (.iload_n 2, 1) := by decide +kernel
theorem dX8_read_17 : decode cX8_read 17 = .ok (.invokestatic 168, 3) := by decide +kernel
theorem dX8_read_20 : decode cX8_read 20 = .ok (.ifCond .ne 6, 3) := by decide +kernel
theorem dX8_read_23 : decode cX8_read 23 = .ok (.bipush 66, 2) := by decide +kernel
theorem dX8_read_25 : decode cX8_read 25 = .ok (.ireturn, 1) := by decide +kernel
theorem dX8_read_26 : decode cX8_read 26 = .ok (.aload_n 0, 1) := by decide +kernel
theorem dX8_read_27 : decode cX8_read 27 = .ok (.iload_n 1, 1) := by decide +kernel
theorem dX8_read_28 : decode cX8_read 28 = .ok (.iload_n 2, 1) := by decide +kernel
theorem dX8_read_29 : decode cX8_read 29 = .ok (.invokevirtual 147, 3) := by decide +kernel
theorem dX8_read_32 : decode cX8_read 32 = .ok (.istore_n 3, 1) := by decide +kernel
theorem dX8_read_33 : decode cX8_read 33 = .ok (.iconst 0, 1) := by decide +kernel
theorem dX8_read_34 : decode cX8_read 34 = .ok (.istore 4, 2) := by decide +kernel
theorem dX8_read_36 : decode cX8_read 36 = .ok (.iload 4, 2) := by decide +kernel
theorem dX8_read_38 : decode cX8_read 38 = .ok (.bipush 64, 2) := by decide +kernel
theorem dX8_read_40 : decode cX8_read 40 = .ok (.if_icmp .ge 24, 3) := by decide +kernel
theorem dX8_read_43 : decode cX8_read 43 = .ok (.iload_n 3, 1) := by decide +kernel
theorem dX8_read_44 : decode cX8_read 44 = .ok (.ifCond .ne 20, 3) := by decide +kernel
theorem dX8_read_47 : decode cX8_read 47 = .ok (.aload_n 0, 1) := by decide +kernel
theorem dX8_read_48 : decode cX8_read 48 = .ok (.aload_n 0, 1) := by decide +kernel
theorem dX8_read_49 : decode cX8_read 49 = .ok (.getfield 37, 3) := by decide +kernel
theorem dX8_read_52 : decode cX8_read 52 = .ok (.iload 4, 2) := by decide +kernel
theorem dX8_read_54 : decode cX8_read 54 = .ok (.iaload, 1) := by decide +kernel
theorem dX8_read_55 : decode cX8_read 55 = .ok (.invokevirtual 217, 3) := by decide +kernel
theorem dX8_read_58 : decode cX8_read 58 = .ok (.iinc 4 1, 3) := by decide +kernel
theorem dX8_read_61 : decode cX8_read 61 = .ok (.goto (-25), 3) := by decide +kernel
theorem dX8_read_64 : decode cX8_read 64 = .ok (.iload_n 3, 1) := by decide +kernel
theorem dX8_read_65 : decode cX8_read 65 = .ok (.ireturn, 1) := by decide +kernel
theorem dX8_write_0 : decode cX8_write 0 = .ok (.aload_n 0, 1) := by decide +kernel
theorem dX8_write_1 : decode cX8_write 1 = .ok (.getfield 172, 3) := by decide +kernel
theorem dX8_write_4 : decode cX8_write 4 = .ok (.istore_n 3, 1) := by decide +kernel
theorem dX8_write_5 : decode cX8_write 5 = .ok (.aload_n 0, 1) := by decide +kernel
theorem dX8_write_6 : decode cX8_write 6 = .ok (.iconst 0, 1) := by decide +kernel
theorem dX8_write_7 : decode cX8_write 7 = .ok (.putfield 172, 3) := by decide +kernel
theorem dX8_write_10 : decode cX8_write 10 = .ok (.aload_n 0, 1) := by decide +kernel
theorem dX8_write_11 : decode cX8_write 11 = .ok (.getfield 24, 3) := by decide +kernel
theorem dX8_write_14 : decode cX8_write 14 = .ok (.ifCond .ge 6, 3) := by decide +kernel
theorem dX8_write_17 : decode cX8_write 17 = .ok (.bipush 74, 2) := by decide +kernel
theorem dX8_write_19 : decode cX8_write 19 = .ok (.ireturn, 1) := by decide +kernel
theorem dX8_write_20 : decode cX8_write 20 = .ok (.iload_n 1, 1) := by decide +kernel
theorem dX8_write_21 : decode cX8_write 21 = .ok (.iload_n 2, 1) := by decide +kernel
theorem dX8_write_22 : decode cX8_write 22 = .ok (.invokestatic 168, 3) := by decide +kernel
theorem dX8_write_25 : decode cX8_write 25 = .ok (.ifCond .ne 6, 3) := by decide +kernel
theorem dX8_write_28 : decode cX8_write 28 = .ok (.bipush 66, 2) := by decide +kernel
theorem dX8_write_30 : decode cX8_write 30 = .ok (.ireturn, 1) := by decide +kernel
theorem dX8_write_31 : decode cX8_write 31 = .ok (.iconst 0, 1) := by decide +kernel
theorem dX8_write_32 : decode cX8_write 32 = .ok (.istore 4, 2) := by decide +kernel
theorem dX8_write_34 : decode cX8_write 34 = .ok (.iload 4, 2) := by decide +kernel
theorem dX8_write_36 : decode cX8_write 36 = .ok (.bipush 64, 2) := by decide +kernel
theorem dX8_write_38 : decode cX8_write 38 = .ok (.if_icmp .ge 33, 3) := by decide +kernel
theorem dX8_write_41 : decode cX8_write 41 = .ok (.aload_n 0, 1) := by decide +kernel
theorem dX8_write_42 : decode cX8_write 42 = .ok (.getfield 37, 3) := by decide +kernel
theorem dX8_write_45 : decode cX8_write 45 = .ok (.iload 4, 2) := by decide +kernel
theorem dX8_write_47 : decode cX8_write 47 = .ok (.iload 4, 2) := by decide +kernel
theorem dX8_write_49 : decode cX8_write 49 = .ok (.iload_n 3, 1) := by decide +kernel
theorem dX8_write_50 : decode cX8_write 50 = .ok (.if_icmp .ge 13, 3) := by decide +kernel
theorem dX8_write_53 : decode cX8_write 53 = .ok (.aload_n 0, 1) := by decide +kernel
theorem dX8_write_54 : decode cX8_write 54 = .ok (.getfield 28, 3) := by decide +kernel
theorem dX8_write_57 : decode cX8_write 57 = .ok (.iload 4, 2) := by decide +kernel
theorem dX8_write_59 : decode cX8_write 59 = .ok (.iaload, 1) := by decide +kernel
theorem dX8_write_60 : decode cX8_write 60 = .ok (.goto 4, 3) := by decide +kernel
theorem dX8_write_63 : decode cX8_write 63 = .ok (.iconst 0, 1) := by decide +kernel
theorem dX8_write_64 : decode cX8_write 64 = .ok (.iastore, 1) := by decide +kernel
theorem dX8_write_65 : decode cX8_write 65 = .ok (.iinc 4 1, 3) := by decide +kernel
theorem dX8_write_68 : decode cX8_write 68 = .ok (.goto (-34), 3) := by decide +kernel
theorem dX8_write_71 : decode cX8_write 71 = .ok (.aload_n 0, 1) := by decide +kernel
theorem dX8_write_72 : decode cX8_write 72 = .ok (.iload_n 1, 1) := by decide +kernel
theorem dX8_write_73 : decode cX8_write 73 = .ok (.iload_n 2, 1) := by decide +kernel
theorem dX8_write_74 : decode cX8_write 74 = .ok (.invokevirtual 150, 3) := by decide +kernel
theorem dX8_write_77 : decode cX8_write 77 = .ok (.ireturn, 1) := by decide +kernel
theorem dX8_count_0 : decode cX8_count 0 = .ok (.iload_n 1, 1) := by decide +kernel
theorem dX8_count_1 : decode cX8_count 1 = .ok (.tableswitch 51 0 3 #[31, 36, 41, 46], 31) := by decide +kernel
theorem dX8_count_32 : decode cX8_count 32 = .ok (.aload_n 0, 1) := by decide +kernel
theorem dX8_count_33 : decode cX8_count 33 = .ok (.getfield 122, 3) := by decide +kernel
theorem dX8_count_36 : decode cX8_count 36 = .ok (.ireturn, 1) := by decide +kernel
theorem dX8_count_37 : decode cX8_count 37 = .ok (.aload_n 0, 1) := by decide +kernel
theorem dX8_count_38 : decode cX8_count 38 = .ok (.getfield 131, 3) := by decide +kernel
theorem dX8_count_41 : decode cX8_count 41 = .ok (.ireturn, 1) := by decide +kernel
theorem dX8_count_42 : decode cX8_count 42 = .ok (.aload_n 0, 1) := by decide +kernel
theorem dX8_count_43 : decode cX8_count 43 = .ok (.getfield 125, 3) := by decide +kernel
theorem dX8_count_46 : decode cX8_count 46 = .ok (.ireturn, 1) := by decide +kernel
theorem dX8_count_47 : decode cX8_count 47 = .ok (.aload_n 0, 1) := by decide +kernel
theorem dX8_count_48 : decode cX8_count 48 = .ok (.getfield 172, 3) := by decide +kernel
theorem dX8_count_51 : decode cX8_count 51 = .ok (.ireturn, 1) := by decide +kernel
theorem dX8_count_52 : decode cX8_count 52 = .ok (.iconst (-1), 1) := by decide +kernel
theorem dX8_count_53 : decode cX8_count 53 = .ok (.ireturn, 1) := by decide +kernel
theorem dJ9_floorMod_7cf53_0 : decode cJ9_floorMod_7cf53 0 = .ok (.iload_n 0, 1) := by decide +kernel
theorem dJ9_floorMod_7cf53_1 : decode cJ9_floorMod_7cf53 1 = .ok (.iload_n 1, 1) := by decide +kernel
theorem dJ9_floorMod_7cf53_2 : decode cJ9_floorMod_7cf53 2 = .ok (.irem, 1) := by decide +kernel
theorem dJ9_floorMod_7cf53_3 : decode cJ9_floorMod_7cf53 3 = .ok (.istore_n 2, 1) := by decide +kernel
theorem dJ9_floorMod_7cf53_4 : decode cJ9_floorMod_7cf53 4 = .ok (.iload_n 0, 1) := by decide +kernel
theorem dJ9_floorMod_7cf53_5 : decode cJ9_floorMod_7cf53 5 = .ok (.iload_n 1, 1) := by decide +kernel
theorem dJ9_floorMod_7cf53_6 : decode cJ9_floorMod_7cf53 6 = .ok (.ixor, 1) := by decide +kernel
theorem dJ9_floorMod_7cf53_7 : decode cJ9_floorMod_7cf53 7 = .ok (.ifCond .ge 11, 3) := by decide +kernel
theorem dJ9_floorMod_7cf53_10 : decode cJ9_floorMod_7cf53 10 = .ok (.iload_n 2, 1) := by decide +kernel
theorem dJ9_floorMod_7cf53_11 : decode cJ9_floorMod_7cf53 11 = .ok (.ifCond .eq 7, 3) := by decide +kernel
theorem dJ9_floorMod_7cf53_14 : decode cJ9_floorMod_7cf53 14 = .ok (.iload_n 2, 1) := by decide +kernel
theorem dJ9_floorMod_7cf53_15 : decode cJ9_floorMod_7cf53 15 = .ok (.iload_n 1, 1) := by decide +kernel
theorem dJ9_floorMod_7cf53_16 : decode cJ9_floorMod_7cf53 16 = .ok (.iadd, 1) := by decide +kernel
theorem dJ9_floorMod_7cf53_17 : decode cJ9_floorMod_7cf53 17 = .ok (.ireturn, 1) := by decide +kernel
theorem dJ9_floorMod_7cf53_18 : decode cJ9_floorMod_7cf53 18 = .ok (.iload_n 2, 1) := by decide +kernel
theorem dJ9_floorMod_7cf53_19 : decode cJ9_floorMod_7cf53 19 = .ok (.ireturn, 1) := by decide +kernel
theorem dJ9_max_7cf53_0 : decode cJ9_max_7cf53 0 = .ok (.iload_n 0, 1) := by decide +kernel
theorem dJ9_max_7cf53_1 : decode cJ9_max_7cf53 1 = .ok (.iload_n 1, 1) := by decide +kernel
theorem dJ9_max_7cf53_2 : decode cJ9_max_7cf53 2 = .ok (.if_icmp .lt 7, 3) := by decide +kernel
theorem dJ9_max_7cf53_5 : decode cJ9_max_7cf53 5 = .ok (.iload_n 0, 1) := by decide +kernel
theorem dJ9_max_7cf53_6 : decode cJ9_max_7cf53 6 = .ok (.goto 4, 3) := by decide +kernel
theorem dJ9_max_7cf53_9 : decode cJ9_max_7cf53 9 = .ok (.iload_n 1, 1) := by decide +kernel
theorem dJ9_max_7cf53_10 : decode cJ9_max_7cf53 10 = .ok (.ireturn, 1) := by decide +kernel
theorem dL_law_0 : decode cL_law 0 = .ok (.new 7, 3) := by decide +kernel
theorem dL_law_3 : decode cL_law 3 = .ok (.dup, 1) := by decide +kernel
theorem dL_law_4 : decode cL_law 4 = .ok (.invokespecial 9, 3) := by decide +kernel
theorem dL_law_7 : decode cL_law 7 = .ok (.astore_n 1, 1) := by decide +kernel
theorem dL_law_8 : decode cL_law 8 = .ok (.new 10, 3) := by decide +kernel
theorem dL_law_11 : decode cL_law 11 = .ok (.dup, 1) := by decide +kernel
theorem dL_law_12 : decode cL_law 12 = .ok (.invokespecial 12, 3) := by decide +kernel
theorem dL_law_15 : decode cL_law 15 = .ok (.astore_n 2, 1) := by decide +kernel
theorem dL_law_16 : decode cL_law 16 = .ok (.iconst 0, 1) := by decide +kernel
theorem dL_law_17 : decode cL_law 17 = .ok (.istore_n 3, 1) := by decide +kernel
theorem dL_law_18 : decode cL_law 18 = .ok (.iload_n 3, 1) := by decide +kernel
theorem dL_law_19 : decode cL_law 19 = .ok (.aload_n 0, 1) := by decide +kernel
theorem dL_law_20 : decode cL_law 20 = .ok (.arraylength, 1) := by decide +kernel
theorem dL_law_21 : decode cL_law 21 = .ok (.bipush 6, 2) := by decide +kernel
theorem dL_law_23 : decode cL_law 23 = .ok (.isub, 1) := by decide +kernel
theorem dL_law_24 : decode cL_law 24 = .ok (.if_icmp .gt 703, 3) := by decide +kernel
theorem dL_law_27 : decode cL_law 27 = .ok (.aload_n 0, 1) := by decide +kernel
theorem dL_law_28 : decode cL_law 28 = .ok (.iload_n 3, 1) := by decide +kernel
theorem dL_law_29 : decode cL_law 29 = .ok (.iaload, 1) := by decide +kernel
theorem dL_law_30 : decode cL_law 30 = .ok (.bipush 31, 2) := by decide +kernel
theorem dL_law_32 : decode cL_law 32 = .ok (.iand, 1) := by decide +kernel
theorem dL_law_33 : decode cL_law 33 = .ok (.tableswitch 688 0 18 #[91, 154, 177, 220, 243, 286, 319, 352, 365, 378, 401, 424, 457, 500, 543, 576, 599, 632, 665], 91) := by decide +kernel
theorem dL_law_124 : decode cL_law 124 = .ok (.aload_n 1, 1) := by decide +kernel
theorem dL_law_125 : decode cL_law 125 = .ok (.aload_n 0, 1) := by decide +kernel
theorem dL_law_126 : decode cL_law 126 = .ok (.iload_n 3, 1) := by decide +kernel
theorem dL_law_127 : decode cL_law 127 = .ok (.iconst 1, 1) := by decide +kernel
theorem dL_law_128 : decode cL_law 128 = .ok (.iadd, 1) := by decide +kernel
theorem dL_law_129 : decode cL_law 129 = .ok (.iaload, 1) := by decide +kernel
theorem dL_law_130 : decode cL_law 130 = .ok (.aload_n 0, 1) := by decide +kernel
theorem dL_law_131 : decode cL_law 131 = .ok (.iload_n 3, 1) := by decide +kernel
theorem dL_law_132 : decode cL_law 132 = .ok (.iconst 2, 1) := by decide +kernel
theorem dL_law_133 : decode cL_law 133 = .ok (.iadd, 1) := by decide +kernel
theorem dL_law_134 : decode cL_law 134 = .ok (.iaload, 1) := by decide +kernel
theorem dL_law_135 : decode cL_law 135 = .ok (.aload_n 0, 1) := by decide +kernel
theorem dL_law_136 : decode cL_law 136 = .ok (.iload_n 3, 1) := by decide +kernel
theorem dL_law_137 : decode cL_law 137 = .ok (.iconst 3, 1) := by decide +kernel
theorem dL_law_138 : decode cL_law 138 = .ok (.iadd, 1) := by decide +kernel
theorem dL_law_139 : decode cL_law 139 = .ok (.iaload, 1) := by decide +kernel
theorem dL_law_140 : decode cL_law 140 = .ok (.aload_n 0, 1) := by decide +kernel
theorem dL_law_141 : decode cL_law 141 = .ok (.iload_n 3, 1) := by decide +kernel
theorem dL_law_142 : decode cL_law 142 = .ok (.iconst 4, 1) := by decide +kernel
theorem dL_law_143 : decode cL_law 143 = .ok (.iadd, 1) := by decide +kernel
theorem dL_law_144 : decode cL_law 144 = .ok (.iaload, 1) := by decide +kernel
theorem dL_law_145 : decode cL_law 145 = .ok (.aload_n 0, 1) := by decide +kernel
theorem dL_law_146 : decode cL_law 146 = .ok (.iload_n 3, 1) := by decide +kernel
theorem dL_law_147 : decode cL_law 147 = .ok (.iconst 5, 1) := by decide +kernel
theorem dL_law_148 : decode cL_law 148 = .ok (.iadd, 1) := by decide +kernel
theorem dL_law_149 : decode cL_law 149 = .ok (.iaload, 1) := by decide +kernel
theorem dL_law_150 : decode cL_law 150 = .ok (.invokevirtual 13, 3) := by decide +kernel
theorem dL_law_153 : decode cL_law 153 = .ok (.aload_n 2, 1) := by decide +kernel
theorem dL_law_154 : decode cL_law 154 = .ok (.aload_n 0, 1) := by decide +kernel
theorem dL_law_155 : decode cL_law 155 = .ok (.iload_n 3, 1) := by decide +kernel
theorem dL_law_156 : decode cL_law 156 = .ok (.iconst 1, 1) := by decide +kernel
theorem dL_law_157 : decode cL_law 157 = .ok (.iadd, 1) := by decide +kernel
theorem dL_law_158 : decode cL_law 158 = .ok (.iaload, 1) := by decide +kernel
theorem dL_law_159 : decode cL_law 159 = .ok (.aload_n 0, 1) := by decide +kernel
theorem dL_law_160 : decode cL_law 160 = .ok (.iload_n 3, 1) := by decide +kernel
theorem dL_law_161 : decode cL_law 161 = .ok (.iconst 2, 1) := by decide +kernel
theorem dL_law_162 : decode cL_law 162 = .ok (.iadd, 1) := by decide +kernel
theorem dL_law_163 : decode cL_law 163 = .ok (.iaload, 1) := by decide +kernel
theorem dL_law_164 : decode cL_law 164 = .ok (.aload_n 0, 1) := by decide +kernel
theorem dL_law_165 : decode cL_law 165 = .ok (.iload_n 3, 1) := by decide +kernel
theorem dL_law_166 : decode cL_law 166 = .ok (.iconst 3, 1) := by decide +kernel
theorem dL_law_167 : decode cL_law 167 = .ok (.iadd, 1) := by decide +kernel
theorem dL_law_168 : decode cL_law 168 = .ok (.iaload, 1) := by decide +kernel
theorem dL_law_169 : decode cL_law 169 = .ok (.aload_n 0, 1) := by decide +kernel
theorem dL_law_170 : decode cL_law 170 = .ok (.iload_n 3, 1) := by decide +kernel
theorem dL_law_171 : decode cL_law 171 = .ok (.iconst 4, 1) := by decide +kernel
theorem dL_law_172 : decode cL_law 172 = .ok (.iadd, 1) := by decide +kernel
theorem dL_law_173 : decode cL_law 173 = .ok (.iaload, 1) := by decide +kernel
theorem dL_law_174 : decode cL_law 174 = .ok (.aload_n 0, 1) := by decide +kernel
theorem dL_law_175 : decode cL_law 175 = .ok (.iload_n 3, 1) := by decide +kernel
theorem dL_law_176 : decode cL_law 176 = .ok (.iconst 5, 1) := by decide +kernel
theorem dL_law_177 : decode cL_law 177 = .ok (.iadd, 1) := by decide +kernel
theorem dL_law_178 : decode cL_law 178 = .ok (.iaload, 1) := by decide +kernel
theorem dL_law_179 : decode cL_law 179 = .ok (.invokevirtual 17, 3) := by decide +kernel
theorem dL_law_182 : decode cL_law 182 = .ok (.if_icmp .eq 539, 3) := by decide +kernel
theorem dL_law_185 : decode cL_law 185 = .ok (.iconst 0, 1) := by decide +kernel
theorem dL_law_186 : decode cL_law 186 = .ok (.ireturn, 1) := by decide +kernel
theorem dL_law_187 : decode cL_law 187 = .ok (.aload_n 1, 1) := by decide +kernel
theorem dL_law_188 : decode cL_law 188 = .ok (.aload_n 0, 1) := by decide +kernel
theorem dL_law_189 : decode cL_law 189 = .ok (.iload_n 3, 1) := by decide +kernel
theorem dL_law_190 : decode cL_law 190 = .ok (.iconst 1, 1) := by decide +kernel
theorem dL_law_191 : decode cL_law 191 = .ok (.iadd, 1) := by decide +kernel
theorem dL_law_192 : decode cL_law 192 = .ok (.iaload, 1) := by decide +kernel
theorem dL_law_193 : decode cL_law 193 = .ok (.invokevirtual 18, 3) := by decide +kernel
theorem dL_law_196 : decode cL_law 196 = .ok (.aload_n 2, 1) := by decide +kernel
theorem dL_law_197 : decode cL_law 197 = .ok (.aload_n 0, 1) := by decide +kernel
theorem dL_law_198 : decode cL_law 198 = .ok (.iload_n 3, 1) := by decide +kernel
theorem dL_law_199 : decode cL_law 199 = .ok (.iconst 1, 1) := by decide +kernel
theorem dL_law_200 : decode cL_law 200 = .ok (.iadd, 1) := by decide +kernel
theorem dL_law_201 : decode cL_law 201 = .ok (.iaload, 1) := by decide +kernel
theorem dL_law_202 : decode cL_law 202 = .ok (.invokevirtual 22, 3) := by decide +kernel
theorem dL_law_205 : decode cL_law 205 = .ok (.if_icmp .eq 516, 3) := by decide +kernel
theorem dL_law_208 : decode cL_law 208 = .ok (.iconst 0, 1) := by decide +kernel
theorem dL_law_209 : decode cL_law 209 = .ok (.ireturn, 1) := by decide +kernel
theorem dL_law_210 : decode cL_law 210 = .ok (.aload_n 1, 1) := by decide +kernel
theorem dL_law_211 : decode cL_law 211 = .ok (.aload_n 0, 1) := by decide +kernel
theorem dL_law_212 : decode cL_law 212 = .ok (.iload_n 3, 1) := by decide +kernel
theorem dL_law_213 : decode cL_law 213 = .ok (.iconst 1, 1) := by decide +kernel
theorem dL_law_214 : decode cL_law 214 = .ok (.iadd, 1) := by decide +kernel
theorem dL_law_215 : decode cL_law 215 = .ok (.iaload, 1) := by decide +kernel
theorem dL_law_216 : decode cL_law 216 = .ok (.aload_n 0, 1) := by decide +kernel
theorem dL_law_217 : decode cL_law 217 = .ok (.iload_n 3, 1) := by decide +kernel
theorem dL_law_218 : decode cL_law 218 = .ok (.iconst 2, 1) := by decide +kernel
theorem dL_law_219 : decode cL_law 219 = .ok (.iadd, 1) := by decide +kernel
theorem dL_law_220 : decode cL_law 220 = .ok (.iaload, 1) := by decide +kernel
theorem dL_law_221 : decode cL_law 221 = .ok (.aload_n 0, 1) := by decide +kernel
theorem dL_law_222 : decode cL_law 222 = .ok (.iload_n 3, 1) := by decide +kernel
theorem dL_law_223 : decode cL_law 223 = .ok (.iconst 3, 1) := by decide +kernel
theorem dL_law_224 : decode cL_law 224 = .ok (.iadd, 1) := by decide +kernel
theorem dL_law_225 : decode cL_law 225 = .ok (.iaload, 1) := by decide +kernel
theorem dL_law_226 : decode cL_law 226 = .ok (.invokevirtual 23, 3) := by decide +kernel
theorem dL_law_229 : decode cL_law 229 = .ok (.aload_n 2, 1) := by decide +kernel
theorem dL_law_230 : decode cL_law 230 = .ok (.aload_n 0, 1) := by decide +kernel
theorem dL_law_231 : decode cL_law 231 = .ok (.iload_n 3, 1) := by decide +kernel
theorem dL_law_232 : decode cL_law 232 = .ok (.iconst 1, 1) := by decide +kernel
theorem dL_law_233 : decode cL_law 233 = .ok (.iadd, 1) := by decide +kernel
theorem dL_law_234 : decode cL_law 234 = .ok (.iaload, 1) := by decide +kernel
theorem dL_law_235 : decode cL_law 235 = .ok (.aload_n 0, 1) := by decide +kernel
theorem dL_law_236 : decode cL_law 236 = .ok (.iload_n 3, 1) := by decide +kernel
theorem dL_law_237 : decode cL_law 237 = .ok (.iconst 2, 1) := by decide +kernel
theorem dL_law_238 : decode cL_law 238 = .ok (.iadd, 1) := by decide +kernel
theorem dL_law_239 : decode cL_law 239 = .ok (.iaload, 1) := by decide +kernel
theorem dL_law_240 : decode cL_law 240 = .ok (.aload_n 0, 1) := by decide +kernel
theorem dL_law_241 : decode cL_law 241 = .ok (.iload_n 3, 1) := by decide +kernel
theorem dL_law_242 : decode cL_law 242 = .ok (.iconst 3, 1) := by decide +kernel
theorem dL_law_243 : decode cL_law 243 = .ok (.iadd, 1) := by decide +kernel
theorem dL_law_244 : decode cL_law 244 = .ok (.iaload, 1) := by decide +kernel
theorem dL_law_245 : decode cL_law 245 = .ok (.invokevirtual 27, 3) := by decide +kernel
theorem dL_law_248 : decode cL_law 248 = .ok (.if_icmp .eq 473, 3) := by decide +kernel
theorem dL_law_251 : decode cL_law 251 = .ok (.iconst 0, 1) := by decide +kernel
theorem dL_law_252 : decode cL_law 252 = .ok (.ireturn, 1) := by decide +kernel
theorem dL_law_253 : decode cL_law 253 = .ok (.aload_n 1, 1) := by decide +kernel
theorem dL_law_254 : decode cL_law 254 = .ok (.aload_n 0, 1) := by decide +kernel
theorem dL_law_255 : decode cL_law 255 = .ok (.iload_n 3, 1) := by decide +kernel
theorem dL_law_256 : decode cL_law 256 = .ok (.iconst 1, 1) := by decide +kernel
theorem dL_law_257 : decode cL_law 257 = .ok (.iadd, 1) := by decide +kernel
theorem dL_law_258 : decode cL_law 258 = .ok (.iaload, 1) := by decide +kernel
theorem dL_law_259 : decode cL_law 259 = .ok (.invokevirtual 28, 3) := by decide +kernel
theorem dL_law_262 : decode cL_law 262 = .ok (.aload_n 2, 1) := by decide +kernel
theorem dL_law_263 : decode cL_law 263 = .ok (.aload_n 0, 1) := by decide +kernel
theorem dL_law_264 : decode cL_law 264 = .ok (.iload_n 3, 1) := by decide +kernel
theorem dL_law_265 : decode cL_law 265 = .ok (.iconst 1, 1) := by decide +kernel
theorem dL_law_266 : decode cL_law 266 = .ok (.iadd, 1) := by decide +kernel
theorem dL_law_267 : decode cL_law 267 = .ok (.iaload, 1) := by decide +kernel
theorem dL_law_268 : decode cL_law 268 = .ok (.invokevirtual 31, 3) := by decide +kernel
theorem dL_law_271 : decode cL_law 271 = .ok (.if_icmp .eq 450, 3) := by decide +kernel
theorem dL_law_274 : decode cL_law 274 = .ok (.iconst 0, 1) := by decide +kernel
theorem dL_law_275 : decode cL_law 275 = .ok (.ireturn, 1) := by decide +kernel
theorem dL_law_276 : decode cL_law 276 = .ok (.aload_n 1, 1) := by decide +kernel
theorem dL_law_277 : decode cL_law 277 = .ok (.aload_n 0, 1) := by decide +kernel
theorem dL_law_278 : decode cL_law 278 = .ok (.iload_n 3, 1) := by decide +kernel
theorem dL_law_279 : decode cL_law 279 = .ok (.iconst 1, 1) := by decide +kernel
theorem dL_law_280 : decode cL_law 280 = .ok (.iadd, 1) := by decide +kernel
theorem dL_law_281 : decode cL_law 281 = .ok (.iaload, 1) := by decide +kernel
theorem dL_law_282 : decode cL_law 282 = .ok (.aload_n 0, 1) := by decide +kernel
theorem dL_law_283 : decode cL_law 283 = .ok (.iload_n 3, 1) := by decide +kernel
theorem dL_law_284 : decode cL_law 284 = .ok (.iconst 2, 1) := by decide +kernel
theorem dL_law_285 : decode cL_law 285 = .ok (.iadd, 1) := by decide +kernel
theorem dL_law_286 : decode cL_law 286 = .ok (.iaload, 1) := by decide +kernel
theorem dL_law_287 : decode cL_law 287 = .ok (.aload_n 0, 1) := by decide +kernel
theorem dL_law_288 : decode cL_law 288 = .ok (.iload_n 3, 1) := by decide +kernel
theorem dL_law_289 : decode cL_law 289 = .ok (.iconst 3, 1) := by decide +kernel
theorem dL_law_290 : decode cL_law 290 = .ok (.iadd, 1) := by decide +kernel
theorem dL_law_291 : decode cL_law 291 = .ok (.iaload, 1) := by decide +kernel
theorem dL_law_292 : decode cL_law 292 = .ok (.invokevirtual 32, 3) := by decide +kernel
theorem dL_law_295 : decode cL_law 295 = .ok (.aload_n 2, 1) := by decide +kernel
theorem dL_law_296 : decode cL_law 296 = .ok (.aload_n 0, 1) := by decide +kernel
theorem dL_law_297 : decode cL_law 297 = .ok (.iload_n 3, 1) := by decide +kernel
theorem dL_law_298 : decode cL_law 298 = .ok (.iconst 1, 1) := by decide +kernel
theorem dL_law_299 : decode cL_law 299 = .ok (.iadd, 1) := by decide +kernel
theorem dL_law_300 : decode cL_law 300 = .ok (.iaload, 1) := by decide +kernel
theorem dL_law_301 : decode cL_law 301 = .ok (.aload_n 0, 1) := by decide +kernel
theorem dL_law_302 : decode cL_law 302 = .ok (.iload_n 3, 1) := by decide +kernel
theorem dL_law_303 : decode cL_law 303 = .ok (.iconst 2, 1) := by decide +kernel
theorem dL_law_304 : decode cL_law 304 = .ok (.iadd, 1) := by decide +kernel
theorem dL_law_305 : decode cL_law 305 = .ok (.iaload, 1) := by decide +kernel
theorem dL_law_306 : decode cL_law 306 = .ok (.aload_n 0, 1) := by decide +kernel
theorem dL_law_307 : decode cL_law 307 = .ok (.iload_n 3, 1) := by decide +kernel
theorem dL_law_308 : decode cL_law 308 = .ok (.iconst 3, 1) := by decide +kernel
theorem dL_law_309 : decode cL_law 309 = .ok (.iadd, 1) := by decide +kernel
theorem dL_law_310 : decode cL_law 310 = .ok (.iaload, 1) := by decide +kernel
theorem dL_law_311 : decode cL_law 311 = .ok (.invokevirtual 35, 3) := by decide +kernel
theorem dL_law_314 : decode cL_law 314 = .ok (.if_icmp .eq 407, 3) := by decide +kernel
theorem dL_law_317 : decode cL_law 317 = .ok (.iconst 0, 1) := by decide +kernel
theorem dL_law_318 : decode cL_law 318 = .ok (.ireturn, 1) := by decide +kernel
theorem dL_law_319 : decode cL_law 319 = .ok (.aload_n 1, 1) := by decide +kernel
theorem dL_law_320 : decode cL_law 320 = .ok (.aload_n 0, 1) := by decide +kernel
theorem dL_law_321 : decode cL_law 321 = .ok (.iload_n 3, 1) := by decide +kernel
theorem dL_law_322 : decode cL_law 322 = .ok (.iconst 1, 1) := by decide +kernel
theorem dL_law_323 : decode cL_law 323 = .ok (.iadd, 1) := by decide +kernel
theorem dL_law_324 : decode cL_law 324 = .ok (.iaload, 1) := by decide +kernel
theorem dL_law_325 : decode cL_law 325 = .ok (.aload_n 0, 1) := by decide +kernel
theorem dL_law_326 : decode cL_law 326 = .ok (.iload_n 3, 1) := by decide +kernel
theorem dL_law_327 : decode cL_law 327 = .ok (.iconst 2, 1) := by decide +kernel
theorem dL_law_328 : decode cL_law 328 = .ok (.iadd, 1) := by decide +kernel
theorem dL_law_329 : decode cL_law 329 = .ok (.iaload, 1) := by decide +kernel
theorem dL_law_330 : decode cL_law 330 = .ok (.invokevirtual 36, 3) := by decide +kernel
theorem dL_law_333 : decode cL_law 333 = .ok (.aload_n 2, 1) := by decide +kernel
theorem dL_law_334 : decode cL_law 334 = .ok (.aload_n 0, 1) := by decide +kernel
theorem dL_law_335 : decode cL_law 335 = .ok (.iload_n 3, 1) := by decide +kernel
theorem dL_law_336 : decode cL_law 336 = .ok (.iconst 1, 1) := by decide +kernel
theorem dL_law_337 : decode cL_law 337 = .ok (.iadd, 1) := by decide +kernel
theorem dL_law_338 : decode cL_law 338 = .ok (.iaload, 1) := by decide +kernel
theorem dL_law_339 : decode cL_law 339 = .ok (.aload_n 0, 1) := by decide +kernel
theorem dL_law_340 : decode cL_law 340 = .ok (.iload_n 3, 1) := by decide +kernel
theorem dL_law_341 : decode cL_law 341 = .ok (.iconst 2, 1) := by decide +kernel
theorem dL_law_342 : decode cL_law 342 = .ok (.iadd, 1) := by decide +kernel
theorem dL_law_343 : decode cL_law 343 = .ok (.iaload, 1) := by decide +kernel
theorem dL_law_344 : decode cL_law 344 = .ok (.invokevirtual 40, 3) := by decide +kernel
theorem dL_law_347 : decode cL_law 347 = .ok (.if_icmp .eq 374, 3) := by decide +kernel
theorem dL_law_350 : decode cL_law 350 = .ok (.iconst 0, 1) := by decide +kernel
theorem dL_law_351 : decode cL_law 351 = .ok (.ireturn, 1) := by decide +kernel
theorem dL_law_352 : decode cL_law 352 = .ok (.aload_n 1, 1) := by decide +kernel
theorem dL_law_353 : decode cL_law 353 = .ok (.aload_n 0, 1) := by decide +kernel
theorem dL_law_354 : decode cL_law 354 = .ok (.iload_n 3, 1) := by decide +kernel
theorem dL_law_355 : decode cL_law 355 = .ok (.iconst 1, 1) := by decide +kernel
theorem dL_law_356 : decode cL_law 356 = .ok (.iadd, 1) := by decide +kernel
theorem dL_law_357 : decode cL_law 357 = .ok (.iaload, 1) := by decide +kernel
theorem dL_law_358 : decode cL_law 358 = .ok (.aload_n 0, 1) := by decide +kernel
theorem dL_law_359 : decode cL_law 359 = .ok (.iload_n 3, 1) := by decide +kernel
theorem dL_law_360 : decode cL_law 360 = .ok (.iconst 2, 1) := by decide +kernel
theorem dL_law_361 : decode cL_law 361 = .ok (.iadd, 1) := by decide +kernel
theorem dL_law_362 : decode cL_law 362 = .ok (.iaload, 1) := by decide +kernel
theorem dL_law_363 : decode cL_law 363 = .ok (.invokevirtual 41, 3) := by decide +kernel
theorem dL_law_366 : decode cL_law 366 = .ok (.aload_n 2, 1) := by decide +kernel
theorem dL_law_367 : decode cL_law 367 = .ok (.aload_n 0, 1) := by decide +kernel
theorem dL_law_368 : decode cL_law 368 = .ok (.iload_n 3, 1) := by decide +kernel
theorem dL_law_369 : decode cL_law 369 = .ok (.iconst 1, 1) := by decide +kernel
theorem dL_law_370 : decode cL_law 370 = .ok (.iadd, 1) := by decide +kernel
theorem dL_law_371 : decode cL_law 371 = .ok (.iaload, 1) := by decide +kernel
theorem dL_law_372 : decode cL_law 372 = .ok (.aload_n 0, 1) := by decide +kernel
theorem dL_law_373 : decode cL_law 373 = .ok (.iload_n 3, 1) := by decide +kernel
theorem dL_law_374 : decode cL_law 374 = .ok (.iconst 2, 1) := by decide +kernel
theorem dL_law_375 : decode cL_law 375 = .ok (.iadd, 1) := by decide +kernel
theorem dL_law_376 : decode cL_law 376 = .ok (.iaload, 1) := by decide +kernel
theorem dL_law_377 : decode cL_law 377 = .ok (.invokevirtual 44, 3) := by decide +kernel
theorem dL_law_380 : decode cL_law 380 = .ok (.if_icmp .eq 341, 3) := by decide +kernel
theorem dL_law_383 : decode cL_law 383 = .ok (.iconst 0, 1) := by decide +kernel
theorem dL_law_384 : decode cL_law 384 = .ok (.ireturn, 1) := by decide +kernel
theorem dL_law_385 : decode cL_law 385 = .ok (.aload_n 1, 1) := by decide +kernel
theorem dL_law_386 : decode cL_law 386 = .ok (.invokevirtual 45, 3) := by decide +kernel
theorem dL_law_389 : decode cL_law 389 = .ok (.aload_n 2, 1) := by decide +kernel
theorem dL_law_390 : decode cL_law 390 = .ok (.invokevirtual 49, 3) := by decide +kernel
theorem dL_law_393 : decode cL_law 393 = .ok (.if_icmp .eq 328, 3) := by decide +kernel
theorem dL_law_396 : decode cL_law 396 = .ok (.iconst 0, 1) := by decide +kernel
theorem dL_law_397 : decode cL_law 397 = .ok (.ireturn, 1) := by decide +kernel
theorem dL_law_398 : decode cL_law 398 = .ok (.aload_n 1, 1) := by decide +kernel
theorem dL_law_399 : decode cL_law 399 = .ok (.invokevirtual 50, 3) := by decide +kernel
theorem dL_law_402 : decode cL_law 402 = .ok (.aload_n 2, 1) := by decide +kernel
theorem dL_law_403 : decode cL_law 403 = .ok (.invokevirtual 53, 3) := by decide +kernel
theorem dL_law_406 : decode cL_law 406 = .ok (.if_icmp .eq 315, 3) := by decide +kernel
theorem dL_law_409 : decode cL_law 409 = .ok (.iconst 0, 1) := by decide +kernel
theorem dL_law_410 : decode cL_law 410 = .ok (.ireturn, 1) := by decide +kernel
theorem dL_law_411 : decode cL_law 411 = .ok (.aload_n 1, 1) := by decide +kernel
theorem dL_law_412 : decode cL_law 412 = .ok (.aload_n 0, 1) := by decide +kernel
theorem dL_law_413 : decode cL_law 413 = .ok (.iload_n 3, 1) := by decide +kernel
theorem dL_law_414 : decode cL_law 414 = .ok (.iconst 1, 1) := by decide +kernel
theorem dL_law_415 : decode cL_law 415 = .ok (.iadd, 1) := by decide +kernel
theorem dL_law_416 : decode cL_law 416 = .ok (.iaload, 1) := by decide +kernel
theorem dL_law_417 : decode cL_law 417 = .ok (.invokevirtual 54, 3) := by decide +kernel
theorem dL_law_420 : decode cL_law 420 = .ok (.aload_n 2, 1) := by decide +kernel
theorem dL_law_421 : decode cL_law 421 = .ok (.aload_n 0, 1) := by decide +kernel
theorem dL_law_422 : decode cL_law 422 = .ok (.iload_n 3, 1) := by decide +kernel
theorem dL_law_423 : decode cL_law 423 = .ok (.iconst 1, 1) := by decide +kernel
theorem dL_law_424 : decode cL_law 424 = .ok (.iadd, 1) := by decide +kernel
theorem dL_law_425 : decode cL_law 425 = .ok (.iaload, 1) := by decide +kernel
theorem dL_law_426 : decode cL_law 426 = .ok (.invokevirtual 57, 3) := by decide +kernel
theorem dL_law_429 : decode cL_law 429 = .ok (.if_icmp .eq 292, 3) := by decide +kernel
theorem dL_law_432 : decode cL_law 432 = .ok (.iconst 0, 1) := by decide +kernel
theorem dL_law_433 : decode cL_law 433 = .ok (.ireturn, 1) := by decide +kernel
theorem dL_law_434 : decode cL_law 434 = .ok (.aload_n 1, 1) := by decide +kernel
theorem dL_law_435 : decode cL_law 435 = .ok (.aload_n 0, 1) := by decide +kernel
theorem dL_law_436 : decode cL_law 436 = .ok (.iload_n 3, 1) := by decide +kernel
theorem dL_law_437 : decode cL_law 437 = .ok (.iconst 1, 1) := by decide +kernel
theorem dL_law_438 : decode cL_law 438 = .ok (.iadd, 1) := by decide +kernel
theorem dL_law_439 : decode cL_law 439 = .ok (.iaload, 1) := by decide +kernel
theorem dL_law_440 : decode cL_law 440 = .ok (.invokevirtual 58, 3) := by decide +kernel
theorem dL_law_443 : decode cL_law 443 = .ok (.aload_n 2, 1) := by decide +kernel
theorem dL_law_444 : decode cL_law 444 = .ok (.aload_n 0, 1) := by decide +kernel
theorem dL_law_445 : decode cL_law 445 = .ok (.iload_n 3, 1) := by decide +kernel
theorem dL_law_446 : decode cL_law 446 = .ok (.iconst 1, 1) := by decide +kernel
theorem dL_law_447 : decode cL_law 447 = .ok (.iadd, 1) := by decide +kernel
theorem dL_law_448 : decode cL_law 448 = .ok (.iaload, 1) := by decide +kernel
theorem dL_law_449 : decode cL_law 449 = .ok (.invokevirtual 61, 3) := by decide +kernel
theorem dL_law_452 : decode cL_law 452 = .ok (.if_icmp .eq 269, 3) := by decide +kernel
theorem dL_law_455 : decode cL_law 455 = .ok (.iconst 0, 1) := by decide +kernel
theorem dL_law_456 : decode cL_law 456 = .ok (.ireturn, 1) := by decide +kernel
theorem dL_law_457 : decode cL_law 457 = .ok (.aload_n 1, 1) := by decide +kernel
theorem dL_law_458 : decode cL_law 458 = .ok (.aload_n 0, 1) := by decide +kernel
theorem dL_law_459 : decode cL_law 459 = .ok (.iload_n 3, 1) := by decide +kernel
theorem dL_law_460 : decode cL_law 460 = .ok (.iconst 1, 1) := by decide +kernel
theorem dL_law_461 : decode cL_law 461 = .ok (.iadd, 1) := by decide +kernel
theorem dL_law_462 : decode cL_law 462 = .ok (.iaload, 1) := by decide +kernel
theorem dL_law_463 : decode cL_law 463 = .ok (.aload_n 0, 1) := by decide +kernel
theorem dL_law_464 : decode cL_law 464 = .ok (.iload_n 3, 1) := by decide +kernel
theorem dL_law_465 : decode cL_law 465 = .ok (.iconst 2, 1) := by decide +kernel
theorem dL_law_466 : decode cL_law 466 = .ok (.iadd, 1) := by decide +kernel
theorem dL_law_467 : decode cL_law 467 = .ok (.iaload, 1) := by decide +kernel
theorem dL_law_468 : decode cL_law 468 = .ok (.invokevirtual 62, 3) := by decide +kernel
theorem dL_law_471 : decode cL_law 471 = .ok (.aload_n 2, 1) := by decide +kernel
theorem dL_law_472 : decode cL_law 472 = .ok (.aload_n 0, 1) := by decide +kernel
theorem dL_law_473 : decode cL_law 473 = .ok (.iload_n 3, 1) := by decide +kernel
theorem dL_law_474 : decode cL_law 474 = .ok (.iconst 1, 1) := by decide +kernel
theorem dL_law_475 : decode cL_law 475 = .ok (.iadd, 1) := by decide +kernel
theorem dL_law_476 : decode cL_law 476 = .ok (.iaload, 1) := by decide +kernel
theorem dL_law_477 : decode cL_law 477 = .ok (.aload_n 0, 1) := by decide +kernel
theorem dL_law_478 : decode cL_law 478 = .ok (.iload_n 3, 1) := by decide +kernel
theorem dL_law_479 : decode cL_law 479 = .ok (.iconst 2, 1) := by decide +kernel
theorem dL_law_480 : decode cL_law 480 = .ok (.iadd, 1) := by decide +kernel
theorem dL_law_481 : decode cL_law 481 = .ok (.iaload, 1) := by decide +kernel
theorem dL_law_482 : decode cL_law 482 = .ok (.invokevirtual 65, 3) := by decide +kernel
theorem dL_law_485 : decode cL_law 485 = .ok (.if_icmp .eq 236, 3) := by decide +kernel
theorem dL_law_488 : decode cL_law 488 = .ok (.iconst 0, 1) := by decide +kernel
theorem dL_law_489 : decode cL_law 489 = .ok (.ireturn, 1) := by decide +kernel
theorem dL_law_490 : decode cL_law 490 = .ok (.aload_n 1, 1) := by decide +kernel
theorem dL_law_491 : decode cL_law 491 = .ok (.aload_n 0, 1) := by decide +kernel
theorem dL_law_492 : decode cL_law 492 = .ok (.iload_n 3, 1) := by decide +kernel
theorem dL_law_493 : decode cL_law 493 = .ok (.iconst 1, 1) := by decide +kernel
theorem dL_law_494 : decode cL_law 494 = .ok (.iadd, 1) := by decide +kernel
theorem dL_law_495 : decode cL_law 495 = .ok (.iaload, 1) := by decide +kernel
theorem dL_law_496 : decode cL_law 496 = .ok (.aload_n 0, 1) := by decide +kernel
theorem dL_law_497 : decode cL_law 497 = .ok (.iload_n 3, 1) := by decide +kernel
theorem dL_law_498 : decode cL_law 498 = .ok (.iconst 2, 1) := by decide +kernel
theorem dL_law_499 : decode cL_law 499 = .ok (.iadd, 1) := by decide +kernel
theorem dL_law_500 : decode cL_law 500 = .ok (.iaload, 1) := by decide +kernel
theorem dL_law_501 : decode cL_law 501 = .ok (.aload_n 0, 1) := by decide +kernel
theorem dL_law_502 : decode cL_law 502 = .ok (.iload_n 3, 1) := by decide +kernel
theorem dL_law_503 : decode cL_law 503 = .ok (.iconst 3, 1) := by decide +kernel
theorem dL_law_504 : decode cL_law 504 = .ok (.iadd, 1) := by decide +kernel
theorem dL_law_505 : decode cL_law 505 = .ok (.iaload, 1) := by decide +kernel
theorem dL_law_506 : decode cL_law 506 = .ok (.invokevirtual 66, 3) := by decide +kernel
theorem dL_law_509 : decode cL_law 509 = .ok (.aload_n 2, 1) := by decide +kernel
theorem dL_law_510 : decode cL_law 510 = .ok (.aload_n 0, 1) := by decide +kernel
theorem dL_law_511 : decode cL_law 511 = .ok (.iload_n 3, 1) := by decide +kernel
theorem dL_law_512 : decode cL_law 512 = .ok (.iconst 1, 1) := by decide +kernel
theorem dL_law_513 : decode cL_law 513 = .ok (.iadd, 1) := by decide +kernel
theorem dL_law_514 : decode cL_law 514 = .ok (.iaload, 1) := by decide +kernel
theorem dL_law_515 : decode cL_law 515 = .ok (.aload_n 0, 1) := by decide +kernel
theorem dL_law_516 : decode cL_law 516 = .ok (.iload_n 3, 1) := by decide +kernel
theorem dL_law_517 : decode cL_law 517 = .ok (.iconst 2, 1) := by decide +kernel
theorem dL_law_518 : decode cL_law 518 = .ok (.iadd, 1) := by decide +kernel
theorem dL_law_519 : decode cL_law 519 = .ok (.iaload, 1) := by decide +kernel
theorem dL_law_520 : decode cL_law 520 = .ok (.aload_n 0, 1) := by decide +kernel
theorem dL_law_521 : decode cL_law 521 = .ok (.iload_n 3, 1) := by decide +kernel
theorem dL_law_522 : decode cL_law 522 = .ok (.iconst 3, 1) := by decide +kernel
theorem dL_law_523 : decode cL_law 523 = .ok (.iadd, 1) := by decide +kernel
theorem dL_law_524 : decode cL_law 524 = .ok (.iaload, 1) := by decide +kernel
theorem dL_law_525 : decode cL_law 525 = .ok (.invokevirtual 69, 3) := by decide +kernel
theorem dL_law_528 : decode cL_law 528 = .ok (.if_icmp .eq 193, 3) := by decide +kernel
theorem dL_law_531 : decode cL_law 531 = .ok (.iconst 0, 1) := by decide +kernel
theorem dL_law_532 : decode cL_law 532 = .ok (.ireturn, 1) := by decide +kernel
theorem dL_law_533 : decode cL_law 533 = .ok (.aload_n 1, 1) := by decide +kernel
theorem dL_law_534 : decode cL_law 534 = .ok (.aload_n 0, 1) := by decide +kernel
theorem dL_law_535 : decode cL_law 535 = .ok (.iload_n 3, 1) := by decide +kernel
theorem dL_law_536 : decode cL_law 536 = .ok (.iconst 1, 1) := by decide +kernel
theorem dL_law_537 : decode cL_law 537 = .ok (.iadd, 1) := by decide +kernel
theorem dL_law_538 : decode cL_law 538 = .ok (.iaload, 1) := by decide +kernel
theorem dL_law_539 : decode cL_law 539 = .ok (.aload_n 0, 1) := by decide +kernel
theorem dL_law_540 : decode cL_law 540 = .ok (.iload_n 3, 1) := by decide +kernel
theorem dL_law_541 : decode cL_law 541 = .ok (.iconst 2, 1) := by decide +kernel
theorem dL_law_542 : decode cL_law 542 = .ok (.iadd, 1) := by decide +kernel
theorem dL_law_543 : decode cL_law 543 = .ok (.iaload, 1) := by decide +kernel
theorem dL_law_544 : decode cL_law 544 = .ok (.aload_n 0, 1) := by decide +kernel
theorem dL_law_545 : decode cL_law 545 = .ok (.iload_n 3, 1) := by decide +kernel
theorem dL_law_546 : decode cL_law 546 = .ok (.iconst 3, 1) := by decide +kernel
theorem dL_law_547 : decode cL_law 547 = .ok (.iadd, 1) := by decide +kernel
theorem dL_law_548 : decode cL_law 548 = .ok (.iaload, 1) := by decide +kernel
theorem dL_law_549 : decode cL_law 549 = .ok (.invokevirtual 70, 3) := by decide +kernel
theorem dL_law_552 : decode cL_law 552 = .ok (.aload_n 2, 1) := by decide +kernel
theorem dL_law_553 : decode cL_law 553 = .ok (.aload_n 0, 1) := by decide +kernel
theorem dL_law_554 : decode cL_law 554 = .ok (.iload_n 3, 1) := by decide +kernel
theorem dL_law_555 : decode cL_law 555 = .ok (.iconst 1, 1) := by decide +kernel
theorem dL_law_556 : decode cL_law 556 = .ok (.iadd, 1) := by decide +kernel
theorem dL_law_557 : decode cL_law 557 = .ok (.iaload, 1) := by decide +kernel
theorem dL_law_558 : decode cL_law 558 = .ok (.aload_n 0, 1) := by decide +kernel
theorem dL_law_559 : decode cL_law 559 = .ok (.iload_n 3, 1) := by decide +kernel
theorem dL_law_560 : decode cL_law 560 = .ok (.iconst 2, 1) := by decide +kernel
theorem dL_law_561 : decode cL_law 561 = .ok (.iadd, 1) := by decide +kernel
theorem dL_law_562 : decode cL_law 562 = .ok (.iaload, 1) := by decide +kernel
theorem dL_law_563 : decode cL_law 563 = .ok (.aload_n 0, 1) := by decide +kernel
theorem dL_law_564 : decode cL_law 564 = .ok (.iload_n 3, 1) := by decide +kernel
theorem dL_law_565 : decode cL_law 565 = .ok (.iconst 3, 1) := by decide +kernel
theorem dL_law_566 : decode cL_law 566 = .ok (.iadd, 1) := by decide +kernel
theorem dL_law_567 : decode cL_law 567 = .ok (.iaload, 1) := by decide +kernel
theorem dL_law_568 : decode cL_law 568 = .ok (.invokevirtual 73, 3) := by decide +kernel
theorem dL_law_571 : decode cL_law 571 = .ok (.if_icmp .eq 150, 3) := by decide +kernel
theorem dL_law_574 : decode cL_law 574 = .ok (.iconst 0, 1) := by decide +kernel
theorem dL_law_575 : decode cL_law 575 = .ok (.ireturn, 1) := by decide +kernel
theorem dL_law_576 : decode cL_law 576 = .ok (.aload_n 1, 1) := by decide +kernel
theorem dL_law_577 : decode cL_law 577 = .ok (.aload_n 0, 1) := by decide +kernel
theorem dL_law_578 : decode cL_law 578 = .ok (.iload_n 3, 1) := by decide +kernel
theorem dL_law_579 : decode cL_law 579 = .ok (.iconst 1, 1) := by decide +kernel
theorem dL_law_580 : decode cL_law 580 = .ok (.iadd, 1) := by decide +kernel
theorem dL_law_581 : decode cL_law 581 = .ok (.iaload, 1) := by decide +kernel
theorem dL_law_582 : decode cL_law 582 = .ok (.aload_n 0, 1) := by decide +kernel
theorem dL_law_583 : decode cL_law 583 = .ok (.iload_n 3, 1) := by decide +kernel
theorem dL_law_584 : decode cL_law 584 = .ok (.iconst 2, 1) := by decide +kernel
theorem dL_law_585 : decode cL_law 585 = .ok (.iadd, 1) := by decide +kernel
theorem dL_law_586 : decode cL_law 586 = .ok (.iaload, 1) := by decide +kernel
theorem dL_law_587 : decode cL_law 587 = .ok (.invokevirtual 74, 3) := by decide +kernel
theorem dL_law_590 : decode cL_law 590 = .ok (.aload_n 2, 1) := by decide +kernel
theorem dL_law_591 : decode cL_law 591 = .ok (.aload_n 0, 1) := by decide +kernel
theorem dL_law_592 : decode cL_law 592 = .ok (.iload_n 3, 1) := by decide +kernel
theorem dL_law_593 : decode cL_law 593 = .ok (.iconst 1, 1) := by decide +kernel
theorem dL_law_594 : decode cL_law 594 = .ok (.iadd, 1) := by decide +kernel
theorem dL_law_595 : decode cL_law 595 = .ok (.iaload, 1) := by decide +kernel
theorem dL_law_596 : decode cL_law 596 = .ok (.aload_n 0, 1) := by decide +kernel
theorem dL_law_597 : decode cL_law 597 = .ok (.iload_n 3, 1) := by decide +kernel
theorem dL_law_598 : decode cL_law 598 = .ok (.iconst 2, 1) := by decide +kernel
theorem dL_law_599 : decode cL_law 599 = .ok (.iadd, 1) := by decide +kernel
theorem dL_law_600 : decode cL_law 600 = .ok (.iaload, 1) := by decide +kernel
theorem dL_law_601 : decode cL_law 601 = .ok (.invokevirtual 77, 3) := by decide +kernel
theorem dL_law_604 : decode cL_law 604 = .ok (.if_icmp .eq 117, 3) := by decide +kernel
theorem dL_law_607 : decode cL_law 607 = .ok (.iconst 0, 1) := by decide +kernel
theorem dL_law_608 : decode cL_law 608 = .ok (.ireturn, 1) := by decide +kernel
theorem dL_law_609 : decode cL_law 609 = .ok (.aload_n 1, 1) := by decide +kernel
theorem dL_law_610 : decode cL_law 610 = .ok (.aload_n 0, 1) := by decide +kernel
theorem dL_law_611 : decode cL_law 611 = .ok (.iload_n 3, 1) := by decide +kernel
theorem dL_law_612 : decode cL_law 612 = .ok (.iconst 1, 1) := by decide +kernel
theorem dL_law_613 : decode cL_law 613 = .ok (.iadd, 1) := by decide +kernel
theorem dL_law_614 : decode cL_law 614 = .ok (.iaload, 1) := by decide +kernel
theorem dL_law_615 : decode cL_law 615 = .ok (.invokevirtual 78, 3) := by decide +kernel
theorem dL_law_618 : decode cL_law 618 = .ok (.aload_n 2, 1) := by decide +kernel
theorem dL_law_619 : decode cL_law 619 = .ok (.aload_n 0, 1) := by decide +kernel
theorem dL_law_620 : decode cL_law 620 = .ok (.iload_n 3, 1) := by decide +kernel
theorem dL_law_621 : decode cL_law 621 = .ok (.iconst 1, 1) := by decide +kernel
theorem dL_law_622 : decode cL_law 622 = .ok (.iadd, 1) := by decide +kernel
theorem dL_law_623 : decode cL_law 623 = .ok (.iaload, 1) := by decide +kernel
theorem dL_law_624 : decode cL_law 624 = .ok (.invokevirtual 81, 3) := by decide +kernel
theorem dL_law_627 : decode cL_law 627 = .ok (.if_icmp .eq 94, 3) := by decide +kernel
theorem dL_law_630 : decode cL_law 630 = .ok (.iconst 0, 1) := by decide +kernel
theorem dL_law_631 : decode cL_law 631 = .ok (.ireturn, 1) := by decide +kernel
theorem dL_law_632 : decode cL_law 632 = .ok (.aload_n 1, 1) := by decide +kernel
theorem dL_law_633 : decode cL_law 633 = .ok (.aload_n 0, 1) := by decide +kernel
theorem dL_law_634 : decode cL_law 634 = .ok (.iload_n 3, 1) := by decide +kernel
theorem dL_law_635 : decode cL_law 635 = .ok (.iconst 1, 1) := by decide +kernel
theorem dL_law_636 : decode cL_law 636 = .ok (.iadd, 1) := by decide +kernel
theorem dL_law_637 : decode cL_law 637 = .ok (.iaload, 1) := by decide +kernel
theorem dL_law_638 : decode cL_law 638 = .ok (.aload_n 0, 1) := by decide +kernel
theorem dL_law_639 : decode cL_law 639 = .ok (.iload_n 3, 1) := by decide +kernel
theorem dL_law_640 : decode cL_law 640 = .ok (.iconst 2, 1) := by decide +kernel
theorem dL_law_641 : decode cL_law 641 = .ok (.iadd, 1) := by decide +kernel
theorem dL_law_642 : decode cL_law 642 = .ok (.iaload, 1) := by decide +kernel
theorem dL_law_643 : decode cL_law 643 = .ok (.invokevirtual 82, 3) := by decide +kernel
theorem dL_law_646 : decode cL_law 646 = .ok (.aload_n 2, 1) := by decide +kernel
theorem dL_law_647 : decode cL_law 647 = .ok (.aload_n 0, 1) := by decide +kernel
theorem dL_law_648 : decode cL_law 648 = .ok (.iload_n 3, 1) := by decide +kernel
theorem dL_law_649 : decode cL_law 649 = .ok (.iconst 1, 1) := by decide +kernel
theorem dL_law_650 : decode cL_law 650 = .ok (.iadd, 1) := by decide +kernel
theorem dL_law_651 : decode cL_law 651 = .ok (.iaload, 1) := by decide +kernel
theorem dL_law_652 : decode cL_law 652 = .ok (.aload_n 0, 1) := by decide +kernel
theorem dL_law_653 : decode cL_law 653 = .ok (.iload_n 3, 1) := by decide +kernel
theorem dL_law_654 : decode cL_law 654 = .ok (.iconst 2, 1) := by decide +kernel
theorem dL_law_655 : decode cL_law 655 = .ok (.iadd, 1) := by decide +kernel
theorem dL_law_656 : decode cL_law 656 = .ok (.iaload, 1) := by decide +kernel
theorem dL_law_657 : decode cL_law 657 = .ok (.invokevirtual 85, 3) := by decide +kernel
theorem dL_law_660 : decode cL_law 660 = .ok (.if_icmp .eq 61, 3) := by decide +kernel
theorem dL_law_663 : decode cL_law 663 = .ok (.iconst 0, 1) := by decide +kernel
theorem dL_law_664 : decode cL_law 664 = .ok (.ireturn, 1) := by decide +kernel
theorem dL_law_665 : decode cL_law 665 = .ok (.aload_n 1, 1) := by decide +kernel
theorem dL_law_666 : decode cL_law 666 = .ok (.aload_n 0, 1) := by decide +kernel
theorem dL_law_667 : decode cL_law 667 = .ok (.iload_n 3, 1) := by decide +kernel
theorem dL_law_668 : decode cL_law 668 = .ok (.iconst 1, 1) := by decide +kernel
theorem dL_law_669 : decode cL_law 669 = .ok (.iadd, 1) := by decide +kernel
theorem dL_law_670 : decode cL_law 670 = .ok (.iaload, 1) := by decide +kernel
theorem dL_law_671 : decode cL_law 671 = .ok (.aload_n 0, 1) := by decide +kernel
theorem dL_law_672 : decode cL_law 672 = .ok (.iload_n 3, 1) := by decide +kernel
theorem dL_law_673 : decode cL_law 673 = .ok (.iconst 2, 1) := by decide +kernel
theorem dL_law_674 : decode cL_law 674 = .ok (.iadd, 1) := by decide +kernel
theorem dL_law_675 : decode cL_law 675 = .ok (.iaload, 1) := by decide +kernel
theorem dL_law_676 : decode cL_law 676 = .ok (.invokevirtual 86, 3) := by decide +kernel
theorem dL_law_679 : decode cL_law 679 = .ok (.aload_n 2, 1) := by decide +kernel
theorem dL_law_680 : decode cL_law 680 = .ok (.aload_n 0, 1) := by decide +kernel
theorem dL_law_681 : decode cL_law 681 = .ok (.iload_n 3, 1) := by decide +kernel
theorem dL_law_682 : decode cL_law 682 = .ok (.iconst 1, 1) := by decide +kernel
theorem dL_law_683 : decode cL_law 683 = .ok (.iadd, 1) := by decide +kernel
theorem dL_law_684 : decode cL_law 684 = .ok (.iaload, 1) := by decide +kernel
theorem dL_law_685 : decode cL_law 685 = .ok (.aload_n 0, 1) := by decide +kernel
theorem dL_law_686 : decode cL_law 686 = .ok (.iload_n 3, 1) := by decide +kernel
theorem dL_law_687 : decode cL_law 687 = .ok (.iconst 2, 1) := by decide +kernel
theorem dL_law_688 : decode cL_law 688 = .ok (.iadd, 1) := by decide +kernel
theorem dL_law_689 : decode cL_law 689 = .ok (.iaload, 1) := by decide +kernel
theorem dL_law_690 : decode cL_law 690 = .ok (.invokevirtual 89, 3) := by decide +kernel
theorem dL_law_693 : decode cL_law 693 = .ok (.if_icmp .eq 28, 3) := by decide +kernel
theorem dL_law_696 : decode cL_law 696 = .ok (.iconst 0, 1) := by decide +kernel
theorem dL_law_697 : decode cL_law 697 = .ok (.ireturn, 1) := by decide +kernel
theorem dL_law_698 : decode cL_law 698 = .ok (.aload_n 1, 1) := by decide +kernel
theorem dL_law_699 : decode cL_law 699 = .ok (.aload_n 0, 1) := by decide +kernel
theorem dL_law_700 : decode cL_law 700 = .ok (.iload_n 3, 1) := by decide +kernel
theorem dL_law_701 : decode cL_law 701 = .ok (.iconst 1, 1) := by decide +kernel
theorem dL_law_702 : decode cL_law 702 = .ok (.iadd, 1) := by decide +kernel
theorem dL_law_703 : decode cL_law 703 = .ok (.iaload, 1) := by decide +kernel
theorem dL_law_704 : decode cL_law 704 = .ok (.invokevirtual 90, 3) := by decide +kernel
theorem dL_law_707 : decode cL_law 707 = .ok (.aload_n 2, 1) := by decide +kernel
theorem dL_law_708 : decode cL_law 708 = .ok (.aload_n 0, 1) := by decide +kernel
theorem dL_law_709 : decode cL_law 709 = .ok (.iload_n 3, 1) := by decide +kernel
theorem dL_law_710 : decode cL_law 710 = .ok (.iconst 1, 1) := by decide +kernel
theorem dL_law_711 : decode cL_law 711 = .ok (.iadd, 1) := by decide +kernel
theorem dL_law_712 : decode cL_law 712 = .ok (.iaload, 1) := by decide +kernel
theorem dL_law_713 : decode cL_law 713 = .ok (.invokevirtual 93, 3) := by decide +kernel
theorem dL_law_716 : decode cL_law 716 = .ok (.if_icmp .eq 5, 3) := by decide +kernel
theorem dL_law_719 : decode cL_law 719 = .ok (.iconst 0, 1) := by decide +kernel
theorem dL_law_720 : decode cL_law 720 = .ok (.ireturn, 1) := by decide +kernel
theorem dL_law_721 : decode cL_law 721 = .ok (.iinc 3 6, 3) := by decide +kernel
theorem dL_law_724 : decode cL_law 724 = .ok (.goto (-706), 3) := by decide +kernel
theorem dL_law_727 : decode cL_law 727 = .ok (.iconst 1, 1) := by decide +kernel
theorem dL_law_728 : decode cL_law 728 = .ok (.ireturn, 1) := by decide +kernel
