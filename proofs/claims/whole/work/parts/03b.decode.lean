theorem dX3_keepRoom_44 : decode cX3_keepRoom 44 = .ok (.return_, 1) := by decide +kernel
theorem dX3_addEntries_0 : decode cX3_addEntries 0 = .ok (.iconst 2, 1) := by decide +kernel
theorem dX3_addEntries_1 : decode cX3_addEntries 1 = .ok (.istore_n 2, 1) := by decide +kernel
theorem dX3_addEntries_2 : decode cX3_addEntries 2 = .ok (.iload_n 2, 1) := by decide +kernel
theorem dX3_addEntries_3 : decode cX3_addEntries 3 = .ok (.bipush 62, 2) := by decide +kernel
theorem dX3_addEntries_5 : decode cX3_addEntries 5 = .ok (.if_icmp .ge 53, 3) := by decide +kernel
theorem dX3_addEntries_8 : decode cX3_addEntries 8 = .ok (.aload_n 0, 1) := by decide +kernel
theorem dX3_addEntries_9 : decode cX3_addEntries 9 = .ok (.getfield 9, 3) := by decide +kernel
theorem dX3_addEntries_12 : decode cX3_addEntries 12 = .ok (.iload_n 2, 1) := by decide +kernel
theorem dX3_addEntries_13 : decode cX3_addEntries 13 = .ok (.iaload, 1) := by decide +kernel
theorem dX3_addEntries_14 : decode cX3_addEntries 14 = .ok (.ifCond .eq 38, 3) := by decide +kernel
theorem dX3_addEntries_17 : decode cX3_addEntries 17 = .ok (.aload_n 1, 1) := by decide +kernel
theorem dX3_addEntries_18 : decode cX3_addEntries 18 = .ok (.aload_n 0, 1) := by decide +kernel
theorem dX3_addEntries_19 : decode cX3_addEntries 19 = .ok (.getfield 9, 3) := by decide +kernel
theorem dX3_addEntries_22 : decode cX3_addEntries 22 = .ok (.iload_n 2, 1) := by decide +kernel
theorem dX3_addEntries_23 : decode cX3_addEntries 23 = .ok (.iaload, 1) := by decide +kernel
theorem dX3_addEntries_24 : decode cX3_addEntries 24 = .ok (.invokevirtual 82, 3) := by decide +kernel
theorem dX3_addEntries_27 : decode cX3_addEntries 27 = .ok (.aload_n 1, 1) := by decide +kernel
theorem dX3_addEntries_28 : decode cX3_addEntries 28 = .ok (.aload_n 0, 1) := by decide +kernel
theorem dX3_addEntries_29 : decode cX3_addEntries 29 = .ok (.getfield 9, 3) := by decide +kernel
theorem dX3_addEntries_32 : decode cX3_addEntries 32 = .ok (.iload_n 2, 1) := by decide +kernel
theorem dX3_addEntries_33 : decode cX3_addEntries 33 = .ok (.iconst 3, 1) := by decide +kernel
theorem dX3_addEntries_34 : decode cX3_addEntries 34 = .ok (.iadd, 1) := by decide +kernel
theorem dX3_addEntries_35 : decode cX3_addEntries 35 = .ok (.iaload, 1) := by decide +kernel
theorem dX3_addEntries_36 : decode cX3_addEntries 36 = .ok (.invokevirtual 82, 3) := by decide +kernel
theorem dX3_addEntries_39 : decode cX3_addEntries 39 = .ok (.aload_n 1, 1) := by decide +kernel
theorem dX3_addEntries_40 : decode cX3_addEntries 40 = .ok (.aload_n 0, 1) := by decide +kernel
theorem dX3_addEntries_41 : decode cX3_addEntries 41 = .ok (.getfield 9, 3) := by decide +kernel
theorem dX3_addEntries_44 : decode cX3_addEntries 44 = .ok (.iload_n 2, 1) := by decide +kernel
theorem dX3_addEntries_45 : decode cX3_addEntries 45 = .ok (.iconst 4, 1) := by decide +kernel
theorem dX3_addEntries_46 : decode cX3_addEntries 46 = .ok (.iadd, 1) := by decide +kernel
theorem dX3_addEntries_47 : decode cX3_addEntries 47 = .ok (.bipush 8, 2) := by decide +kernel
theorem dX3_addEntries_49 : decode cX3_addEntries 49 = .ok (.invokevirtual 87, 3) := by decide +kernel
theorem dX3_addEntries_52 : decode cX3_addEntries 52 = .ok (.iinc 2 12, 3) := by decide +kernel
theorem dX3_addEntries_55 : decode cX3_addEntries 55 = .ok (.goto (-53), 3) := by decide +kernel
theorem dX3_addEntries_58 : decode cX3_addEntries 58 = .ok (.return_, 1) := by decide +kernel
theorem dX3_takeEntry_0 : decode cX3_takeEntry 0 = .ok (.aload_n 0, 1) := by decide +kernel
theorem dX3_takeEntry_1 : decode cX3_takeEntry 1 = .ok (.getfield 30, 3) := by decide +kernel
theorem dX3_takeEntry_4 : decode cX3_takeEntry 4 = .ok (.iconst (-1), 1) := by decide +kernel
theorem dX3_takeEntry_5 : decode cX3_takeEntry 5 = .ok (.if_icmp .eq 5, 3) := by decide +kernel
theorem dX3_takeEntry_8 : decode cX3_takeEntry 8 = .ok (.iconst 1, 1) := by decide +kernel
theorem dX3_takeEntry_9 : decode cX3_takeEntry 9 = .ok (.ireturn, 1) := by decide +kernel
theorem dX3_takeEntry_10 : decode cX3_takeEntry 10 = .ok (.aload_n 1, 1) := by decide +kernel
theorem dX3_takeEntry_11 : decode cX3_takeEntry 11 = .ok (.bipush 9, 2) := by decide +kernel
theorem dX3_takeEntry_13 : decode cX3_takeEntry 13 = .ok (.invokevirtual 91, 3) := by decide +kernel
theorem dX3_takeEntry_16 : decode cX3_takeEntry 16 = .ok (.istore_n 2, 1) := by decide +kernel
theorem dX3_takeEntry_17 : decode cX3_takeEntry 17 = .ok (.iload_n 2, 1) := by decide +kernel
theorem dX3_takeEntry_18 : decode cX3_takeEntry 18 = .ok (.iconst (-1), 1) := by decide +kernel
theorem dX3_takeEntry_19 : decode cX3_takeEntry 19 = .ok (.if_icmp .eq 12, 3) := by decide +kernel
theorem dX3_takeEntry_22 : decode cX3_takeEntry 22 = .ok (.aload_n 0, 1) := by decide +kernel
theorem dX3_takeEntry_23 : decode cX3_takeEntry 23 = .ok (.getfield 37, 3) := by decide +kernel
theorem dX3_takeEntry_26 : decode cX3_takeEntry 26 = .ok (.bipush 7, 2) := by decide +kernel
theorem dX3_takeEntry_28 : decode cX3_takeEntry 28 = .ok (.if_icmp .lt 5, 3) := by decide +kernel
theorem dX3_takeEntry_31 : decode cX3_takeEntry 31 = .ok (.iconst 0, 1) := by decide +kernel
theorem dX3_takeEntry_32 : decode cX3_takeEntry 32 = .ok (.ireturn, 1) := by decide +kernel
theorem dX3_takeEntry_33 : decode cX3_takeEntry 33 = .ok (.aload_n 1, 1) := by decide +kernel
theorem dX3_takeEntry_34 : decode cX3_takeEntry 34 = .ok (.bipush 9, 2) := by decide +kernel
theorem dX3_takeEntry_36 : decode cX3_takeEntry 36 = .ok (.iload_n 2, 1) := by decide +kernel
theorem dX3_takeEntry_37 : decode cX3_takeEntry 37 = .ok (.iconst 0, 1) := by decide +kernel
theorem dX3_takeEntry_38 : decode cX3_takeEntry 38 = .ok (.invokevirtual 97, 3) := by decide +kernel
theorem dX3_takeEntry_41 : decode cX3_takeEntry 41 = .ok (.aload_n 0, 1) := by decide +kernel
theorem dX3_takeEntry_42 : decode cX3_takeEntry 42 = .ok (.iconst 1, 1) := by decide +kernel
theorem dX3_takeEntry_43 : decode cX3_takeEntry 43 = .ok (.putfield 33, 3) := by decide +kernel
theorem dX3_takeEntry_46 : decode cX3_takeEntry 46 = .ok (.aload_n 0, 1) := by decide +kernel
theorem dX3_takeEntry_47 : decode cX3_takeEntry 47 = .ok (.iconst 2, 1) := by decide +kernel
theorem dX3_takeEntry_48 : decode cX3_takeEntry 48 = .ok (.putfield 30, 3) := by decide +kernel
theorem dX3_takeEntry_51 : decode cX3_takeEntry 51 = .ok (.aload_n 0, 1) := by decide +kernel
theorem dX3_takeEntry_52 : decode cX3_takeEntry 52 = .ok (.bipush 9, 2) := by decide +kernel
theorem dX3_takeEntry_54 : decode cX3_takeEntry 54 = .ok (.putfield 70, 3) := by decide +kernel
theorem dX3_takeEntry_57 : decode cX3_takeEntry 57 = .ok (.aload_n 0, 1) := by decide +kernel
theorem dX3_takeEntry_58 : decode cX3_takeEntry 58 = .ok (.iload_n 2, 1) := by decide +kernel
theorem dX3_takeEntry_59 : decode cX3_takeEntry 59 = .ok (.putfield 73, 3) := by decide +kernel
theorem dX3_takeEntry_62 : decode cX3_takeEntry 62 = .ok (.aload_n 0, 1) := by decide +kernel
theorem dX3_takeEntry_63 : decode cX3_takeEntry 63 = .ok (.getfield 15, 3) := by decide +kernel
theorem dX3_takeEntry_66 : decode cX3_takeEntry 66 = .ok (.iconst 0, 1) := by decide +kernel
theorem dX3_takeEntry_67 : decode cX3_takeEntry 67 = .ok (.bipush 64, 2) := by decide +kernel
theorem dX3_takeEntry_69 : decode cX3_takeEntry 69 = .ok (.invokestatic 101, 3) := by decide +kernel
theorem dX3_takeEntry_72 : decode cX3_takeEntry 72 = .ok (.iconst 1, 1) := by decide +kernel
theorem dX3_takeEntry_73 : decode cX3_takeEntry 73 = .ok (.ireturn, 1) := by decide +kernel
theorem dX3_storeLink_0 : decode cX3_storeLink 0 = .ok (.aload_n 0, 1) := by decide +kernel
theorem dX3_storeLink_1 : decode cX3_storeLink 1 = .ok (.getfield 9, 3) := by decide +kernel
theorem dX3_storeLink_4 : decode cX3_storeLink 4 = .ok (.iconst 0, 1) := by decide +kernel
theorem dX3_storeLink_5 : decode cX3_storeLink 5 = .ok (.aload_n 0, 1) := by decide +kernel
theorem dX3_storeLink_6 : decode cX3_storeLink 6 = .ok (.getfield 70, 3) := by decide +kernel
theorem dX3_storeLink_9 : decode cX3_storeLink 9 = .ok (.iastore, 1) := by decide +kernel
theorem dX3_storeLink_10 : decode cX3_storeLink 10 = .ok (.aload_n 0, 1) := by decide +kernel
theorem dX3_storeLink_11 : decode cX3_storeLink 11 = .ok (.getfield 9, 3) := by decide +kernel
theorem dX3_storeLink_14 : decode cX3_storeLink 14 = .ok (.iconst 1, 1) := by decide +kernel
theorem dX3_storeLink_15 : decode cX3_storeLink 15 = .ok (.aload_n 0, 1) := by decide +kernel
theorem dX3_storeLink_16 : decode cX3_storeLink 16 = .ok (.getfield 73, 3) := by decide +kernel
theorem dX3_storeLink_19 : decode cX3_storeLink 19 = .ok (.iastore, 1) := by decide +kernel
theorem dX3_storeLink_20 : decode cX3_storeLink 20 = .ok (.aload_n 0, 1) := by decide +kernel
theorem dX3_storeLink_21 : decode cX3_storeLink 21 = .ok (.getfield 18, 3) := by decide +kernel
theorem dX3_storeLink_24 : decode cX3_storeLink 24 = .ok (.aload_n 0, 1) := by decide +kernel
theorem dX3_storeLink_25 : decode cX3_storeLink 25 = .ok (.getfield 40, 3) := by decide +kernel
theorem dX3_storeLink_28 : decode cX3_storeLink 28 = .ok (.aload_n 0, 1) := by decide +kernel
theorem dX3_storeLink_29 : decode cX3_storeLink 29 = .ok (.getfield 43, 3) := by decide +kernel
theorem dX3_storeLink_32 : decode cX3_storeLink 32 = .ok (.aload_n 0, 1) := by decide +kernel
theorem dX3_storeLink_33 : decode cX3_storeLink 33 = .ok (.getfield 9, 3) := by decide +kernel
theorem dX3_storeLink_36 : decode cX3_storeLink 36 = .ok (.invokevirtual 104, 3) := by decide +kernel
theorem dX3_storeLink_39 : decode cX3_storeLink 39 = .ok (.ireturn, 1) := by decide +kernel
theorem dX3_storeWithoutEntry_0 : decode cX3_storeWithoutEntry 0 = .ok (.aload_n 0, 1) := by decide +kernel
theorem dX3_storeWithoutEntry_1 : decode cX3_storeWithoutEntry 1 = .ok (.getfield 26, 3) := by decide +kernel
theorem dX3_storeWithoutEntry_4 : decode cX3_storeWithoutEntry 4 = .ok (.iconst (-1), 1) := by decide +kernel
theorem dX3_storeWithoutEntry_5 : decode cX3_storeWithoutEntry 5 = .ok (.if_icmp .eq 16, 3) := by decide +kernel
theorem dX3_storeWithoutEntry_8 : decode cX3_storeWithoutEntry 8 = .ok (.aload_n 0, 1) := by decide +kernel
theorem dX3_storeWithoutEntry_9 : decode cX3_storeWithoutEntry 9 = .ok (.getfield 9, 3) := by decide +kernel
theorem dX3_storeWithoutEntry_12 : decode cX3_storeWithoutEntry 12 = .ok (.aload_n 0, 1) := by decide +kernel
theorem dX3_storeWithoutEntry_13 : decode cX3_storeWithoutEntry 13 = .ok (.getfield 26, 3) := by decide +kernel
theorem dX3_storeWithoutEntry_16 : decode cX3_storeWithoutEntry 16 = .ok (.bipush 12, 2) := by decide +kernel
theorem dX3_storeWithoutEntry_18 : decode cX3_storeWithoutEntry 18 = .ok (.invokestatic 101, 3) := by decide +kernel
theorem dX3_storeWithoutEntry_21 : decode cX3_storeWithoutEntry 21 = .ok (.aload_n 0, 1) := by decide +kernel
theorem dX3_storeWithoutEntry_22 : decode cX3_storeWithoutEntry 22 = .ok (.getfield 18, 3) := by decide +kernel
theorem dX3_storeWithoutEntry_25 : decode cX3_storeWithoutEntry 25 = .ok (.aload_n 0, 1) := by decide +kernel
theorem dX3_storeWithoutEntry_26 : decode cX3_storeWithoutEntry 26 = .ok (.getfield 40, 3) := by decide +kernel
theorem dX3_storeWithoutEntry_29 : decode cX3_storeWithoutEntry 29 = .ok (.aload_n 0, 1) := by decide +kernel
theorem dX3_storeWithoutEntry_30 : decode cX3_storeWithoutEntry 30 = .ok (.getfield 43, 3) := by decide +kernel
theorem dX3_storeWithoutEntry_33 : decode cX3_storeWithoutEntry 33 = .ok (.aload_n 0, 1) := by decide +kernel
theorem dX3_storeWithoutEntry_34 : decode cX3_storeWithoutEntry 34 = .ok (.getfield 9, 3) := by decide +kernel
theorem dX3_storeWithoutEntry_37 : decode cX3_storeWithoutEntry 37 = .ok (.invokevirtual 104, 3) := by decide +kernel
theorem dX3_storeWithoutEntry_40 : decode cX3_storeWithoutEntry 40 = .ok (.ireturn, 1) := by decide +kernel
theorem dX4_init_0 : decode cX4_init 0 = .ok (.aload_n 0, 1) := by decide +kernel
theorem dX4_init_1 : decode cX4_init 1 = .ok (.invokespecial 3, 3) := by decide +kernel
theorem dX4_init_4 : decode cX4_init 4 = .ok (.aload_n 0, 1) := by decide +kernel
theorem dX4_init_5 : decode cX4_init 5 = .ok (.bipush 64, 2) := by decide +kernel
theorem dX4_init_7 : decode cX4_init 7 = .ok (.newarray .int, 2) := by decide +kernel
theorem dX4_init_9 : decode cX4_init 9 = .ok (.putfield 9, 3) := by decide +kernel
theorem dX4_init_12 : decode cX4_init 12 = .ok (.return_, 1) := by decide +kernel
theorem dX4_fillNew_0 : decode cX4_fillNew 0 = .ok (.aload_n 0, 1) := by decide +kernel
theorem dX4_fillNew_1 : decode cX4_fillNew 1 = .ok (.getfield 9, 3) := by decide +kernel
theorem dX4_fillNew_4 : decode cX4_fillNew 4 = .ok (.iconst 0, 1) := by decide +kernel
theorem dX4_fillNew_5 : decode cX4_fillNew 5 = .ok (.bipush 64, 2) := by decide +kernel
theorem dX4_fillNew_7 : decode cX4_fillNew 7 = .ok (.invokestatic 15, 3) := by decide +kernel
theorem dX4_fillNew_10 : decode cX4_fillNew 10 = .ok (.aload_n 0, 1) := by decide +kernel
theorem dX4_fillNew_11 : decode cX4_fillNew 11 = .ok (.getfield 9, 3) := by decide +kernel
theorem dX4_fillNew_14 : decode cX4_fillNew 14 = .ok (.iconst 0, 1) := by decide +kernel
theorem dX4_fillNew_15 : decode cX4_fillNew 15 = .ok (.bipush 9, 2) := by decide +kernel
theorem dX4_fillNew_17 : decode cX4_fillNew 17 = .ok (.iastore, 1) := by decide +kernel
theorem dX4_fillNew_18 : decode cX4_fillNew 18 = .ok (.aload_n 0, 1) := by decide +kernel
theorem dX4_fillNew_19 : decode cX4_fillNew 19 = .ok (.getfield 9, 3) := by decide +kernel
theorem dX4_fillNew_22 : decode cX4_fillNew 22 = .ok (.iconst 1, 1) := by decide +kernel
theorem dX4_fillNew_23 : decode cX4_fillNew 23 = .ok (.iconst 1, 1) := by decide +kernel
theorem dX4_fillNew_24 : decode cX4_fillNew 24 = .ok (.iastore, 1) := by decide +kernel
theorem dX4_fillNew_25 : decode cX4_fillNew 25 = .ok (.iconst 1, 1) := by decide +kernel
theorem dX4_fillNew_26 : decode cX4_fillNew 26 = .ok (.istore 4, 2) := by decide +kernel
theorem dX4_fillNew_28 : decode cX4_fillNew 28 = .ok (.iload 4, 2) := by decide +kernel
theorem dX4_fillNew_30 : decode cX4_fillNew 30 = .ok (.bipush 16, 2) := by decide +kernel
theorem dX4_fillNew_32 : decode cX4_fillNew 32 = .ok (.if_icmp .gt 41, 3) := by decide +kernel
theorem dX4_fillNew_35 : decode cX4_fillNew 35 = .ok (.iload 4, 2) := by decide +kernel
theorem dX4_fillNew_37 : decode cX4_fillNew 37 = .ok (.invokestatic 19, 3) := by decide +kernel
theorem dX4_fillNew_40 : decode cX4_fillNew 40 = .ok (.istore 5, 2) := by decide +kernel
theorem dX4_fillNew_42 : decode cX4_fillNew 42 = .ok (.iconst 0, 1) := by decide +kernel
theorem dX4_fillNew_43 : decode cX4_fillNew 43 = .ok (.istore 6, 2) := by decide +kernel
theorem dX4_fillNew_45 : decode cX4_fillNew 45 = .ok (.iload 6, 2) := by decide +kernel
theorem dX4_fillNew_47 : decode cX4_fillNew 47 = .ok (.iload 5, 2) := by decide +kernel
theorem dX4_fillNew_49 : decode cX4_fillNew 49 = .ok (.if_icmp .ge 18, 3) := by decide +kernel
theorem dX4_fillNew_52 : decode cX4_fillNew 52 = .ok (.aload_n 0, 1) := by decide +kernel
theorem dX4_fillNew_53 : decode cX4_fillNew 53 = .ok (.iload 4, 2) := by decide +kernel
theorem dX4_fillNew_55 : decode cX4_fillNew 55 = .ok (.iload 6, 2) := by decide +kernel
theorem dX4_fillNew_57 : decode cX4_fillNew 57 = .ok (.iconst 1, 1) := by decide +kernel
theorem dX4_fillNew_58 : decode cX4_fillNew 58 = .ok (.invokevirtual 25, 3) := by decide +kernel
theorem dX4_fillNew_61 : decode cX4_fillNew 61 = .ok (.iinc 6 1, 3) := by decide +kernel
theorem dX4_fillNew_64 : decode cX4_fillNew 64 = .ok (.goto (-19), 3) := by decide +kernel
theorem dX4_fillNew_67 : decode cX4_fillNew 67 = .ok (.iinc 4 1, 3) := by decide +kernel
theorem dX4_fillNew_70 : decode cX4_fillNew 70 = .ok (.goto (-42), 3) := by decide +kernel
theorem dX4_fillNew_73 : decode cX4_fillNew 73 = .ok (.aload_n 0, 1) := by decide +kernel
theorem dX4_fillNew_74 : decode cX4_fillNew 74 = .ok (.bipush 9, 2) := by decide +kernel
theorem dX4_fillNew_76 : decode cX4_fillNew 76 = .ok (.iconst 0, 1) := by decide +kernel
theorem dX4_fillNew_77 : decode cX4_fillNew 77 = .ok (.iconst 0, 1) := by decide +kernel
theorem dX4_fillNew_78 : decode cX4_fillNew 78 = .ok (.invokevirtual 25, 3) := by decide +kernel
theorem dX4_fillNew_81 : decode cX4_fillNew 81 = .ok (.aload_n 0, 1) := by decide +kernel
theorem dX4_fillNew_82 : decode cX4_fillNew 82 = .ok (.bipush 9, 2) := by decide +kernel
theorem dX4_fillNew_84 : decode cX4_fillNew 84 = .ok (.iconst 1, 1) := by decide +kernel
theorem dX4_fillNew_85 : decode cX4_fillNew 85 = .ok (.iconst 0, 1) := by decide +kernel
theorem dX4_fillNew_86 : decode cX4_fillNew 86 = .ok (.invokevirtual 25, 3) := by decide +kernel
theorem dX4_fillNew_89 : decode cX4_fillNew 89 = .ok (.aload_n 0, 1) := by decide +kernel
theorem dX4_fillNew_90 : decode cX4_fillNew 90 = .ok (.getfield 9, 3) := by decide +kernel
theorem dX4_fillNew_93 : decode cX4_fillNew 93 = .ok (.bipush 40, 2) := by decide +kernel
theorem dX4_fillNew_95 : decode cX4_fillNew 95 = .ok (.iload_n 2, 1) := by decide +kernel
theorem dX4_fillNew_96 : decode cX4_fillNew 96 = .ok (.iload_n 3, 1) := by decide +kernel
theorem dX4_fillNew_97 : decode cX4_fillNew 97 = .ok (.invokestatic 29, 3) := by decide +kernel
theorem dX4_fillNew_100 : decode cX4_fillNew 100 = .ok (.aload_n 0, 1) := by decide +kernel
theorem dX4_fillNew_101 : decode cX4_fillNew 101 = .ok (.getfield 9, 3) := by decide +kernel
theorem dX4_fillNew_104 : decode cX4_fillNew 104 = .ok (.bipush 48, 2) := by decide +kernel
theorem dX4_fillNew_106 : decode cX4_fillNew 106 = .ok (.iload_n 1, 1) := by decide +kernel
theorem dX4_fillNew_107 : decode cX4_fillNew 107 = .ok (.bipush 8, 2) := by decide +kernel
theorem dX4_fillNew_109 : decode cX4_fillNew 109 = .ok (.ishr, 1) := by decide +kernel
theorem dX4_fillNew_110 : decode cX4_fillNew 110 = .ok (.sipush 255, 3) := by decide +kernel
theorem dX4_fillNew_113 : decode cX4_fillNew 113 = .ok (.iand, 1) := by decide +kernel
theorem dX4_fillNew_114 : decode cX4_fillNew 114 = .ok (.iastore, 1) := by decide +kernel
theorem dX4_fillNew_115 : decode cX4_fillNew 115 = .ok (.aload_n 0, 1) := by decide +kernel
theorem dX4_fillNew_116 : decode cX4_fillNew 116 = .ok (.getfield 9, 3) := by decide +kernel
theorem dX4_fillNew_119 : decode cX4_fillNew 119 = .ok (.bipush 49, 2) := by decide +kernel
theorem dX4_fillNew_121 : decode cX4_fillNew 121 = .ok (.iload_n 1, 1) := by decide +kernel
theorem dX4_fillNew_122 : decode cX4_fillNew 122 = .ok (.sipush 255, 3) := by decide +kernel
theorem dX4_fillNew_125 : decode cX4_fillNew 125 = .ok (.iand, 1) := by decide +kernel
theorem dX4_fillNew_126 : decode cX4_fillNew 126 = .ok (.iastore, 1) := by decide +kernel
theorem dX4_fillNew_127 : decode cX4_fillNew 127 = .ok (.return_, 1) := by decide +kernel
theorem dX4_isFree_0 : decode cX4_isFree 0 = .ok (.iload_n 1, 1) := by decide +kernel
theorem dX4_isFree_1 : decode cX4_isFree 1 = .ok (.iload_n 2, 1) := by decide +kernel
theorem dX4_isFree_2 : decode cX4_isFree 2 = .ok (.invokestatic 33, 3) := by decide +kernel
theorem dX4_isFree_5 : decode cX4_isFree 5 = .ok (.ifCond .eq 31, 3) := by decide +kernel
theorem dX4_isFree_8 : decode cX4_isFree 8 = .ok (.aload_n 0, 1) := by decide +kernel
theorem dX4_isFree_9 : decode cX4_isFree 9 = .ok (.getfield 9, 3) := by decide +kernel
theorem dX4_isFree_12 : decode cX4_isFree 12 = .ok (.iconst 2, 1) := by decide +kernel
theorem dX4_isFree_13 : decode cX4_isFree 13 = .ok (.iload_n 1, 1) := by decide +kernel
theorem dX4_isFree_14 : decode cX4_isFree 14 = .ok (.imul, 1) := by decide +kernel
theorem dX4_isFree_15 : decode cX4_isFree 15 = .ok (.iload_n 2, 1) := by decide +kernel
theorem dX4_isFree_16 : decode cX4_isFree 16 = .ok (.bipush 8, 2) := by decide +kernel
theorem dX4_isFree_18 : decode cX4_isFree 18 = .ok (.idiv, 1) := by decide +kernel
theorem dX4_isFree_19 : decode cX4_isFree 19 = .ok (.iadd, 1) := by decide +kernel
theorem dX4_isFree_20 : decode cX4_isFree 20 = .ok (.iaload, 1) := by decide +kernel
theorem dX4_isFree_21 : decode cX4_isFree 21 = .ok (.iload_n 2, 1) := by decide +kernel
theorem dX4_isFree_22 : decode cX4_isFree 22 = .ok (.bipush 8, 2) := by decide +kernel
theorem dX4_isFree_24 : decode cX4_isFree 24 = .ok (.irem, 1) := by decide +kernel
theorem dX4_isFree_25 : decode cX4_isFree 25 = .ok (.ishr, 1) := by decide +kernel
theorem dX4_isFree_26 : decode cX4_isFree 26 = .ok (.iconst 1, 1) := by decide +kernel
theorem dX4_isFree_27 : decode cX4_isFree 27 = .ok (.iand, 1) := by decide +kernel
theorem dX4_isFree_28 : decode cX4_isFree 28 = .ok (.iconst 1, 1) := by decide +kernel
theorem dX4_isFree_29 : decode cX4_isFree 29 = .ok (.if_icmp .ne 7, 3) := by decide +kernel
theorem dX4_isFree_32 : decode cX4_isFree 32 = .ok (.iconst 1, 1) := by decide +kernel
theorem dX4_isFree_33 : decode cX4_isFree 33 = .ok (.goto 4, 3) := by decide +kernel
theorem dX4_isFree_36 : decode cX4_isFree 36 = .ok (.iconst 0, 1) := by decide +kernel
theorem dX4_isFree_37 : decode cX4_isFree 37 = .ok (.ireturn, 1) := by decide +kernel
theorem dX4_setFree_0 : decode cX4_setFree 0 = .ok (.iload_n 1, 1) := by decide +kernel
theorem dX4_setFree_1 : decode cX4_setFree 1 = .ok (.iload_n 2, 1) := by decide +kernel
theorem dX4_setFree_2 : decode cX4_setFree 2 = .ok (.invokestatic 33, 3) := by decide +kernel
theorem dX4_setFree_5 : decode cX4_setFree 5 = .ok (.ifCond .eq 57, 3) := by decide +kernel
theorem dX4_setFree_8 : decode cX4_setFree 8 = .ok (.iconst 2, 1) := by decide +kernel
theorem dX4_setFree_9 : decode cX4_setFree 9 = .ok (.iload_n 1, 1) := by decide +kernel
theorem dX4_setFree_10 : decode cX4_setFree 10 = .ok (.imul, 1) := by decide +kernel
theorem dX4_setFree_11 : decode cX4_setFree 11 = .ok (.iload_n 2, 1) := by decide +kernel
theorem dX4_setFree_12 : decode cX4_setFree 12 = .ok (.bipush 8, 2) := by decide +kernel
theorem dX4_setFree_14 : decode cX4_setFree 14 = .ok (.idiv, 1) := by decide +kernel
theorem dX4_setFree_15 : decode cX4_setFree 15 = .ok (.iadd, 1) := by decide +kernel
theorem dX4_setFree_16 : decode cX4_setFree 16 = .ok (.istore 4, 2) := by decide +kernel
theorem dX4_setFree_18 : decode cX4_setFree 18 = .ok (.iconst 1, 1) := by decide +kernel
theorem dX4_setFree_19 : decode cX4_setFree 19 = .ok (.iload_n 2, 1) := by decide +kernel
theorem dX4_setFree_20 : decode cX4_setFree 20 = .ok (.bipush 8, 2) := by decide +kernel
theorem dX4_setFree_22 : decode cX4_setFree 22 = .ok (.irem, 1) := by decide +kernel
theorem dX4_setFree_23 : decode cX4_setFree 23 = .ok (.ishl, 1) := by decide +kernel
theorem dX4_setFree_24 : decode cX4_setFree 24 = .ok (.istore 5, 2) := by decide +kernel
theorem dX4_setFree_26 : decode cX4_setFree 26 = .ok (.aload_n 0, 1) := by decide +kernel
theorem dX4_setFree_27 : decode cX4_setFree 27 = .ok (.getfield 9, 3) := by decide +kernel
theorem dX4_setFree_30 : decode cX4_setFree 30 = .ok (.iload 4, 2) := by decide +kernel
theorem dX4_setFree_32 : decode cX4_setFree 32 = .ok (.iload_n 3, 1) := by decide +kernel
theorem dX4_setFree_33 : decode cX4_setFree 33 = .ok (.ifCond .eq 16, 3) := by decide +kernel
theorem dX4_setFree_36 : decode cX4_setFree 36 = .ok (.aload_n 0, 1) := by decide +kernel
theorem dX4_setFree_37 : decode cX4_setFree 37 = .ok (.getfield 9, 3) := by decide +kernel
theorem dX4_setFree_40 : decode cX4_setFree 40 = .ok (.iload 4, 2) := by decide +kernel
theorem dX4_setFree_42 : decode cX4_setFree 42 = .ok (.iaload, 1) := by decide +kernel
theorem dX4_setFree_43 : decode cX4_setFree 43 = .ok (.iload 5, 2) := by decide +kernel
theorem dX4_setFree_45 : decode cX4_setFree 45 = .ok (.ior, 1) := by decide +kernel
theorem dX4_setFree_46 : decode cX4_setFree 46 = .ok (.goto 15, 3) := by decide +kernel
theorem dX4_setFree_49 : decode cX4_setFree 49 = .ok (.aload_n 0, 1) := by decide +kernel
theorem dX4_setFree_50 : decode cX4_setFree 50 = .ok (.getfield 9, 3) := by decide +kernel
theorem dX4_setFree_53 : decode cX4_setFree 53 = .ok (.iload 4, 2) := by decide +kernel
theorem dX4_setFree_55 : decode cX4_setFree 55 = .ok (.iaload, 1) := by decide +kernel
theorem dX4_setFree_56 : decode cX4_setFree 56 = .ok (.iload 5, 2) := by decide +kernel
theorem dX4_setFree_58 : decode cX4_setFree 58 = .ok (.iconst (-1), 1) := by decide +kernel
theorem dX4_setFree_59 : decode cX4_setFree 59 = .ok (.ixor, 1) := by decide +kernel
theorem dX4_setFree_60 : decode cX4_setFree 60 = .ok (.iand, 1) := by decide +kernel
theorem dX4_setFree_61 : decode cX4_setFree 61 = .ok (.iastore, 1) := by decide +kernel
theorem dX4_setFree_62 : decode cX4_setFree 62 = .ok (.return_, 1) := by decide +kernel
theorem dX4_leastFree_0 : decode cX4_leastFree 0 = .ok (.iload_n 1, 1) := by decide +kernel
theorem dX4_leastFree_1 : decode cX4_leastFree 1 = .ok (.invokestatic 19, 3) := by decide +kernel
theorem dX4_leastFree_4 : decode cX4_leastFree 4 = .ok (.istore_n 2, 1) := by decide +kernel
theorem dX4_leastFree_5 : decode cX4_leastFree 5 = .ok (.iconst 0, 1) := by decide +kernel
theorem dX4_leastFree_6 : decode cX4_leastFree 6 = .ok (.istore_n 3, 1) := by decide +kernel
theorem dX4_leastFree_7 : decode cX4_leastFree 7 = .ok (.iload_n 3, 1) := by decide +kernel
theorem dX4_leastFree_8 : decode cX4_leastFree 8 = .ok (.iload_n 2, 1) := by decide +kernel
theorem dX4_leastFree_9 : decode cX4_leastFree 9 = .ok (.if_icmp .ge 20, 3) := by decide +kernel
theorem dX4_leastFree_12 : decode cX4_leastFree 12 = .ok (.aload_n 0, 1) := by decide +kernel
theorem dX4_leastFree_13 : decode cX4_leastFree 13 = .ok (.iload_n 1, 1) := by decide +kernel
theorem dX4_leastFree_14 : decode cX4_leastFree 14 = .ok (.iload_n 3, 1) := by decide +kernel
theorem dX4_leastFree_15 : decode cX4_leastFree 15 = .ok (.invokevirtual 37, 3) := by decide +kernel
theorem dX4_leastFree_18 : decode cX4_leastFree 18 = .ok (.ifCond .eq 5, 3) := by decide +kernel
theorem dX4_leastFree_21 : decode cX4_leastFree 21 = .ok (.iload_n 3, 1) := by decide +kernel
theorem dX4_leastFree_22 : decode cX4_leastFree 22 = .ok (.ireturn, 1) := by decide +kernel
theorem dX4_leastFree_23 : decode cX4_leastFree 23 = .ok (.iinc 3 1, 3) := by decide +kernel
theorem dX4_leastFree_26 : decode cX4_leastFree 26 = .ok (.goto (-19), 3) := by decide +kernel
theorem dX4_leastFree_29 : decode cX4_leastFree 29 = .ok (.iconst (-1), 1) := by decide +kernel
theorem dX4_leastFree_30 : decode cX4_leastFree 30 = .ok (.ireturn, 1) := by decide +kernel
theorem dX4_freeBlocks_0 : decode cX4_freeBlocks 0 = .ok (.iconst 0, 1) := by decide +kernel
theorem dX4_freeBlocks_1 : decode cX4_freeBlocks 1 = .ok (.istore_n 1, 1) := by decide +kernel
theorem dX4_freeBlocks_2 : decode cX4_freeBlocks 2 = .ok (.getstatic 40, 3) := by decide +kernel
theorem dX4_freeBlocks_5 : decode cX4_freeBlocks 5 = .ok (.astore_n 2, 1) := by decide +kernel
theorem dX4_freeBlocks_6 : decode cX4_freeBlocks 6 = .ok (.aload_n 2, 1) := by decide +kernel
theorem dX4_freeBlocks_7 : decode cX4_freeBlocks 7 = .ok (.arraylength, 1) := by decide +kernel
theorem dX4_freeBlocks_8 : decode cX4_freeBlocks 8 = .ok (.istore_n 3, 1) := by decide +kernel
theorem dX4_freeBlocks_9 : decode cX4_freeBlocks 9 = .ok (.iconst 0, 1) := by decide +kernel
theorem dX4_freeBlocks_10 : decode cX4_freeBlocks 10 = .ok (.istore 4, 2) := by decide +kernel
theorem dX4_freeBlocks_12 : decode cX4_freeBlocks 12 = .ok (.iload 4, 2) := by decide +kernel
theorem dX4_freeBlocks_14 : decode cX4_freeBlocks 14 = .ok (.iload_n 3, 1) := by decide +kernel
theorem dX4_freeBlocks_15 : decode cX4_freeBlocks 15 = .ok (.if_icmp .ge 57, 3) := by decide +kernel
theorem dX4_freeBlocks_18 : decode cX4_freeBlocks 18 = .ok (.aload_n 2, 1) := by decide +kernel
theorem dX4_freeBlocks_19 : decode cX4_freeBlocks 19 = .ok (.iload 4, 2) := by decide +kernel
theorem dX4_freeBlocks_21 : decode cX4_freeBlocks 21 = .ok (.iaload, 1) := by decide +kernel
theorem dX4_freeBlocks_22 : decode cX4_freeBlocks 22 = .ok (.istore 5, 2) := by decide +kernel
theorem dX4_freeBlocks_24 : decode cX4_freeBlocks 24 = .ok (.iload 5, 2) := by decide +kernel
theorem dX4_freeBlocks_26 : decode cX4_freeBlocks 26 = .ok (.invokestatic 19, 3) := by decide +kernel
theorem dX4_freeBlocks_29 : decode cX4_freeBlocks 29 = .ok (.istore 6, 2) := by decide +kernel
theorem dX4_freeBlocks_31 : decode cX4_freeBlocks 31 = .ok (.iconst 0, 1) := by decide +kernel
theorem dX4_freeBlocks_32 : decode cX4_freeBlocks 32 = .ok (.istore 7, 2) := by decide +kernel
theorem dX4_freeBlocks_34 : decode cX4_freeBlocks 34 = .ok (.iload 7, 2) := by decide +kernel
theorem dX4_freeBlocks_36 : decode cX4_freeBlocks 36 = .ok (.iload 6, 2) := by decide +kernel
theorem dX4_freeBlocks_38 : decode cX4_freeBlocks 38 = .ok (.if_icmp .ge 28, 3) := by decide +kernel
theorem dX4_freeBlocks_41 : decode cX4_freeBlocks 41 = .ok (.iload_n 1, 1) := by decide +kernel
theorem dX4_freeBlocks_42 : decode cX4_freeBlocks 42 = .ok (.aload_n 0, 1) := by decide +kernel
theorem dX4_freeBlocks_43 : decode cX4_freeBlocks 43 = .ok (.iload 5, 2) := by decide +kernel
theorem dX4_freeBlocks_45 : decode cX4_freeBlocks 45 = .ok (.iload 7, 2) := by decide +kernel
theorem dX4_freeBlocks_47 : decode cX4_freeBlocks 47 = .ok (.invokevirtual 37, 3) := by decide +kernel
theorem dX4_freeBlocks_50 : decode cX4_freeBlocks 50 = .ok (.ifCond .eq 7, 3) := by decide +kernel
theorem dX4_freeBlocks_53 : decode cX4_freeBlocks 53 = .ok (.iconst 1, 1) := by decide +kernel
theorem dX4_freeBlocks_54 : decode cX4_freeBlocks 54 = .ok (.goto 4, 3) := by decide +kernel
theorem dX4_freeBlocks_57 : decode cX4_freeBlocks 57 = .ok (.iconst 0, 1) := by decide +kernel
theorem dX4_freeBlocks_58 : decode cX4_freeBlocks 58 = .ok (.iadd, 1) := by decide +kernel
theorem dX4_freeBlocks_59 : decode cX4_freeBlocks 59 = .ok (.istore_n 1, 1) := by decide +kernel
theorem dX4_freeBlocks_60 : decode cX4_freeBlocks 60 = .ok (.iinc 7 1, 3) := by decide +kernel
theorem dX4_freeBlocks_63 : decode cX4_freeBlocks 63 = .ok (.goto (-29), 3) := by decide +kernel
theorem dX4_freeBlocks_66 : decode cX4_freeBlocks 66 = .ok (.iinc 4 1, 3) := by decide +kernel
theorem dX4_freeBlocks_69 : decode cX4_freeBlocks 69 = .ok (.goto (-57), 3) := by decide +kernel
theorem dX4_freeBlocks_72 : decode cX4_freeBlocks 72 = .ok (.iload_n 1, 1) := by decide +kernel
theorem dX4_freeBlocks_73 : decode cX4_freeBlocks 73 = .ok (.ireturn, 1) := by decide +kernel
theorem dX5_init_0 : decode cX5_init 0 = .ok (.aload_n 0, 1) := by decide +kernel
theorem dX5_init_1 : decode cX5_init 1 = .ok (.invokespecial 3, 3) := by decide +kernel
theorem dX5_init_4 : decode cX5_init 4 = .ok (.iconst 3, 1) := by decide +kernel
theorem dX5_init_5 : decode cX5_init 5 = .ok (.iload_n 1, 1) := by decide +kernel
theorem dX5_init_6 : decode cX5_init 6 = .ok (.invokestatic 9, 3) := by decide +kernel
theorem dX5_init_9 : decode cX5_init 9 = .ok (.istore_n 2, 1) := by decide +kernel
theorem dX5_init_10 : decode cX5_init 10 = .ok (.aload_n 0, 1) := by decide +kernel
theorem dX5_init_11 : decode cX5_init 11 = .ok (.iload_n 2, 1) := by decide +kernel
theorem dX5_init_12 : decode cX5_init 12 = .ok (.newarray .int, 2) := by decide +kernel
theorem dX5_init_14 : decode cX5_init 14 = .ok (.putfield 15, 3) := by decide +kernel
theorem dX5_init_17 : decode cX5_init 17 = .ok (.aload_n 0, 1) := by decide +kernel
theorem dX5_init_18 : decode cX5_init 18 = .ok (.bipush 8, 2) := by decide +kernel
theorem dX5_init_20 : decode cX5_init 20 = .ok (.iload_n 2, 1) := by decide +kernel
theorem dX5_init_21 : decode cX5_init 21 = .ok (.imul, 1) := by decide +kernel
theorem dX5_init_22 : decode cX5_init 22 = .ok (.putfield 21, 3) := by decide +kernel
theorem dX5_init_25 : decode cX5_init 25 = .ok (.aload_n 0, 1) := by decide +kernel
theorem dX5_init_26 : decode cX5_init 26 = .ok (.aload_n 0, 1) := by decide +kernel
theorem dX5_init_27 : decode cX5_init 27 = .ok (.getfield 21, 3) := by decide +kernel
theorem dX5_init_30 : decode cX5_init 30 = .ok (.bipush 11, 2) := by decide +kernel
theorem dX5_init_32 : decode cX5_init 32 = .ok (.idiv, 1) := by decide +kernel
theorem dX5_init_33 : decode cX5_init 33 = .ok (.newarray .int, 2) := by decide +kernel
theorem dX5_init_35 : decode cX5_init 35 = .ok (.putfield 25, 3) := by decide +kernel
theorem dX5_init_38 : decode cX5_init 38 = .ok (.return_, 1) := by decide +kernel
theorem dX5_sizeOf_0 : decode cX5_sizeOf 0 = .ok (.iload_n 0, 1) := by decide +kernel
theorem dX5_sizeOf_1 : decode cX5_sizeOf 1 = .ok (.bipush 8, 2) := by decide +kernel
theorem dX5_sizeOf_3 : decode cX5_sizeOf 3 = .ok (.if_icmp .gt 9, 3) := by decide +kernel
theorem dX5_sizeOf_6 : decode cX5_sizeOf 6 = .ok (.sipush 1060, 3) := by decide +kernel
theorem dX5_sizeOf_9 : decode cX5_sizeOf 9 = .ok (.goto 18, 3) := by decide +kernel
theorem dX5_sizeOf_12 : decode cX5_sizeOf 12 = .ok (.iload_n 0, 1) := by decide +kernel
theorem dX5_sizeOf_13 : decode cX5_sizeOf 13 = .ok (.bipush 12, 2) := by decide +kernel
theorem dX5_sizeOf_15 : decode cX5_sizeOf 15 = .ok (.if_icmp .gt 9, 3) := by decide +kernel
theorem dX5_sizeOf_18 : decode cX5_sizeOf 18 = .ok (.sipush 940, 3) := by decide +kernel
theorem dX5_sizeOf_21 : decode cX5_sizeOf 21 = .ok (.goto 6, 3) := by decide +kernel
theorem dX5_sizeOf_24 : decode cX5_sizeOf 24 = .ok (.sipush 830, 3) := by decide +kernel
theorem dX5_sizeOf_27 : decode cX5_sizeOf 27 = .ok (.ireturn, 1) := by decide +kernel
theorem dX5_hasByte_0 : decode cX5_hasByte 0 = .ok (.iload_n 1, 1) := by decide +kernel
theorem dX5_hasByte_1 : decode cX5_hasByte 1 = .ok (.ifCond .lt 16, 3) := by decide +kernel
theorem dX5_hasByte_4 : decode cX5_hasByte 4 = .ok (.iload_n 1, 1) := by decide +kernel
theorem dX5_hasByte_5 : decode cX5_hasByte 5 = .ok (.aload_n 0, 1) := by decide +kernel
theorem dX5_hasByte_6 : decode cX5_hasByte 6 = .ok (.getfield 15, 3) := by decide +kernel
theorem dX5_hasByte_9 : decode cX5_hasByte 9 = .ok (.arraylength, 1) := by decide +kernel
theorem dX5_hasByte_10 : decode cX5_hasByte 10 = .ok (.if_icmp .ge 7, 3) := by decide +kernel
theorem dX5_hasByte_13 : decode cX5_hasByte 13 = .ok (.iconst 1, 1) := by decide +kernel
theorem dX5_hasByte_14 : decode cX5_hasByte 14 = .ok (.goto 4, 3) := by decide +kernel
theorem dX5_hasByte_17 : decode cX5_hasByte 17 = .ok (.iconst 0, 1) := by decide +kernel
theorem dX5_hasByte_18 : decode cX5_hasByte 18 = .ok (.ireturn, 1) := by decide +kernel
theorem dX5_byteAt_0 : decode cX5_byteAt 0 = .ok (.aload_n 0, 1) := by decide +kernel
theorem dX5_byteAt_1 : decode cX5_byteAt 1 = .ok (.iload_n 1, 1) := by decide +kernel
theorem dX5_byteAt_2 : decode cX5_byteAt 2 = .ok (.invokevirtual 28, 3) := by decide +kernel
theorem dX5_byteAt_5 : decode cX5_byteAt 5 = .ok (.ifCond .eq 12, 3) := by decide +kernel
theorem dX5_byteAt_8 : decode cX5_byteAt 8 = .ok (.aload_n 0, 1) := by decide +kernel
theorem dX5_byteAt_9 : decode cX5_byteAt 9 = .ok (.getfield 15, 3) := by decide +kernel
theorem dX5_byteAt_12 : decode cX5_byteAt 12 = .ok (.iload_n 1, 1) := by decide +kernel
theorem dX5_byteAt_13 : decode cX5_byteAt 13 = .ok (.iaload, 1) := by decide +kernel
theorem dX5_byteAt_14 : decode cX5_byteAt 14 = .ok (.goto 4, 3) := by decide +kernel
theorem dX5_byteAt_17 : decode cX5_byteAt 17 = .ok (.iconst 0, 1) := by decide +kernel
theorem dX5_byteAt_18 : decode cX5_byteAt 18 = .ok (.ireturn, 1) := by decide +kernel
theorem dX5_startOf_0 : decode cX5_startOf 0 = .ok (.iload_n 1, 1) := by decide +kernel
theorem dX5_startOf_1 : decode cX5_startOf 1 = .ok (.ifCond .lt 20, 3) := by decide +kernel
theorem dX5_startOf_4 : decode cX5_startOf 4 = .ok (.iload_n 1, 1) := by decide +kernel
theorem dX5_startOf_5 : decode cX5_startOf 5 = .ok (.aload_n 0, 1) := by decide +kernel
theorem dX5_startOf_6 : decode cX5_startOf 6 = .ok (.getfield 32, 3) := by decide +kernel
theorem dX5_startOf_9 : decode cX5_startOf 9 = .ok (.if_icmp .ge 12, 3) := by decide +kernel
theorem dX5_startOf_12 : decode cX5_startOf 12 = .ok (.aload_n 0, 1) := by decide +kernel
theorem dX5_startOf_13 : decode cX5_startOf 13 = .ok (.getfield 25, 3) := by decide +kernel
theorem dX5_startOf_16 : decode cX5_startOf 16 = .ok (.iload_n 1, 1) := by decide +kernel
theorem dX5_startOf_17 : decode cX5_startOf 17 = .ok (.iaload, 1) := by decide +kernel
theorem dX5_startOf_18 : decode cX5_startOf 18 = .ok (.goto 4, 3) := by decide +kernel
theorem dX5_startOf_21 : decode cX5_startOf 21 = .ok (.iconst 0, 1) := by decide +kernel
theorem dX5_startOf_22 : decode cX5_startOf 22 = .ok (.ireturn, 1) := by decide +kernel
theorem dX5_putBits_0 : decode cX5_putBits 0 = .ok (.iload_n 1, 1) := by decide +kernel
theorem dX5_putBits_1 : decode cX5_putBits 1 = .ok (.aload_n 0, 1) := by decide +kernel
theorem dX5_putBits_2 : decode cX5_putBits 2 = .ok (.getfield 21, 3) := by decide +kernel
theorem dX5_putBits_5 : decode cX5_putBits 5 = .ok (.irem, 1) := by decide +kernel
theorem dX5_putBits_6 : decode cX5_putBits 6 = .ok (.istore 4, 2) := by decide +kernel
theorem dX5_putBits_8 : decode cX5_putBits 8 = .ok (.iload 4, 2) := by decide +kernel
theorem dX5_putBits_10 : decode cX5_putBits 10 = .ok (.bipush 8, 2) := by decide +kernel
theorem dX5_putBits_12 : decode cX5_putBits 12 = .ok (.idiv, 1) := by decide +kernel
theorem dX5_putBits_13 : decode cX5_putBits 13 = .ok (.istore 5, 2) := by decide +kernel
theorem dX5_putBits_15 : decode cX5_putBits 15 = .ok (.iload 5, 2) := by decide +kernel
theorem dX5_putBits_17 : decode cX5_putBits 17 = .ok (.iconst 1, 1) := by decide +kernel
theorem dX5_putBits_18 : decode cX5_putBits 18 = .ok (.iadd, 1) := by decide +kernel
theorem dX5_putBits_19 : decode cX5_putBits 19 = .ok (.aload_n 0, 1) := by decide +kernel
theorem dX5_putBits_20 : decode cX5_putBits 20 = .ok (.getfield 15, 3) := by decide +kernel
theorem dX5_putBits_23 : decode cX5_putBits 23 = .ok (.arraylength, 1) := by decide +kernel
theorem dX5_putBits_24 : decode cX5_putBits 24 = .ok (.irem, 1) := by decide +kernel
theorem dX5_putBits_25 : decode cX5_putBits 25 = .ok (.istore 6, 2) := by decide +kernel
theorem dX5_putBits_27 : decode cX5_putBits 27 = .ok (.iload 5, 2) := by decide +kernel
theorem dX5_putBits_29 : decode cX5_putBits 29 = .ok (.iconst 2, 1) := by decide +kernel
theorem dX5_putBits_30 : decode cX5_putBits 30 = .ok (.iadd, 1) := by decide +kernel
theorem dX5_putBits_31 : decode cX5_putBits 31 = .ok (.aload_n 0, 1) := by decide +kernel
theorem dX5_putBits_32 : decode cX5_putBits 32 = .ok (.getfield 15, 3) := by decide +kernel
theorem dX5_putBits_35 : decode cX5_putBits 35 = .ok (.arraylength, 1) := by decide +kernel
theorem dX5_putBits_36 : decode cX5_putBits 36 = .ok (.irem, 1) := by decide +kernel
theorem dX5_putBits_37 : decode cX5_putBits 37 = .ok (.istore 7, 2) := by decide +kernel
theorem dX5_putBits_39 : decode cX5_putBits 39 = .ok (.bipush 24, 2) := by decide +kernel
theorem dX5_putBits_41 : decode cX5_putBits 41 = .ok (.iload 4, 2) := by decide +kernel
theorem dX5_putBits_43 : decode cX5_putBits 43 = .ok (.bipush 8, 2) := by decide +kernel
theorem dX5_putBits_45 : decode cX5_putBits 45 = .ok (.irem, 1) := by decide +kernel
theorem dX5_putBits_46 : decode cX5_putBits 46 = .ok (.isub, 1) := by decide +kernel
theorem dX5_putBits_47 : decode cX5_putBits 47 = .ok (.iload_n 2, 1) := by decide +kernel
theorem dX5_putBits_48 : decode cX5_putBits 48 = .ok (.isub, 1) := by decide +kernel
theorem dX5_putBits_49 : decode cX5_putBits 49 = .ok (.istore 8, 2) := by decide +kernel
theorem dX5_putBits_51 : decode cX5_putBits 51 = .ok (.iconst 1, 1) := by decide +kernel
theorem dX5_putBits_52 : decode cX5_putBits 52 = .ok (.iload_n 2, 1) := by decide +kernel
theorem dX5_putBits_53 : decode cX5_putBits 53 = .ok (.ishl, 1) := by decide +kernel
theorem dX5_putBits_54 : decode cX5_putBits 54 = .ok (.iconst 1, 1) := by decide +kernel
theorem dX5_putBits_55 : decode cX5_putBits 55 = .ok (.isub, 1) := by decide +kernel
theorem dX5_putBits_56 : decode cX5_putBits 56 = .ok (.iload 8, 2) := by decide +kernel
theorem dX5_putBits_58 : decode cX5_putBits 58 = .ok (.ishl, 1) := by decide +kernel
theorem dX5_putBits_59 : decode cX5_putBits 59 = .ok (.istore 9, 2) := by decide +kernel
theorem dX5_putBits_61 : decode cX5_putBits 61 = .ok (.aload_n 0, 1) := by decide +kernel
theorem dX5_putBits_62 : decode cX5_putBits 62 = .ok (.getfield 15, 3) := by decide +kernel
theorem dX5_putBits_65 : decode cX5_putBits 65 = .ok (.iload 5, 2) := by decide +kernel
theorem dX5_putBits_67 : decode cX5_putBits 67 = .ok (.iaload, 1) := by decide +kernel
theorem dX5_putBits_68 : decode cX5_putBits 68 = .ok (.bipush 16, 2) := by decide +kernel
theorem dX5_putBits_70 : decode cX5_putBits 70 = .ok (.ishl, 1) := by decide +kernel
theorem dX5_putBits_71 : decode cX5_putBits 71 = .ok (.aload_n 0, 1) := by decide +kernel
theorem dX5_putBits_72 : decode cX5_putBits 72 = .ok (.getfield 15, 3) := by decide +kernel
theorem dX5_putBits_75 : decode cX5_putBits 75 = .ok (.iload 6, 2) := by decide +kernel
theorem dX5_putBits_77 : decode cX5_putBits 77 = .ok (.iaload, 1) := by decide +kernel
theorem dX5_putBits_78 : decode cX5_putBits 78 = .ok (.bipush 8, 2) := by decide +kernel
theorem dX5_putBits_80 : decode cX5_putBits 80 = .ok (.ishl, 1) := by decide +kernel
theorem dX5_putBits_81 : decode cX5_putBits 81 = .ok (.ior, 1) := by decide +kernel
theorem dX5_putBits_82 : decode cX5_putBits 82 = .ok (.aload_n 0, 1) := by decide +kernel
theorem dX5_putBits_83 : decode cX5_putBits 83 = .ok (.getfield 15, 3) := by decide +kernel
theorem dX5_putBits_86 : decode cX5_putBits 86 = .ok (.iload 7, 2) := by decide +kernel
theorem dX5_putBits_88 : decode cX5_putBits 88 = .ok (.iaload, 1) := by decide +kernel
theorem dX5_putBits_89 : decode cX5_putBits 89 = .ok (.ior, 1) := by decide +kernel
theorem dX5_putBits_90 : decode cX5_putBits 90 = .ok (.iload 9, 2) := by decide +kernel
theorem dX5_putBits_92 : decode cX5_putBits 92 = .ok (.iconst (-1), 1) := by decide +kernel
theorem dX5_putBits_93 : decode cX5_putBits 93 = .ok (.ixor, 1) := by decide +kernel
theorem dX5_putBits_94 : decode cX5_putBits 94 = .ok (.iand, 1) := by decide +kernel
theorem dX5_putBits_95 : decode cX5_putBits 95 = .ok (.iload_n 3, 1) := by decide +kernel
theorem dX5_putBits_96 : decode cX5_putBits 96 = .ok (.iload 8, 2) := by decide +kernel
theorem dX5_putBits_98 : decode cX5_putBits 98 = .ok (.ishl, 1) := by decide +kernel
theorem dX5_putBits_99 : decode cX5_putBits 99 = .ok (.iload 9, 2) := by decide +kernel
theorem dX5_putBits_101 : decode cX5_putBits 101 = .ok (.iand, 1) := by decide +kernel
theorem dX5_putBits_102 : decode cX5_putBits 102 = .ok (.ior, 1) := by decide +kernel
theorem dX5_putBits_103 : decode cX5_putBits 103 = .ok (.istore 10, 2) := by decide +kernel
theorem dX5_putBits_105 : decode cX5_putBits 105 = .ok (.aload_n 0, 1) := by decide +kernel
theorem dX5_putBits_106 : decode cX5_putBits 106 = .ok (.getfield 15, 3) := by decide +kernel
theorem dX5_putBits_109 : decode cX5_putBits 109 = .ok (.iload 5, 2) := by decide +kernel
theorem dX5_putBits_111 : decode cX5_putBits 111 = .ok (.iload 10, 2) := by decide +kernel
theorem dX5_putBits_113 : decode cX5_putBits 113 = .ok (.bipush 16, 2) := by decide +kernel
theorem dX5_putBits_115 : decode cX5_putBits 115 = .ok (.ishr, 1) := by decide +kernel
theorem dX5_putBits_116 : decode cX5_putBits 116 = .ok (.sipush 255, 3) := by decide +kernel
theorem dX5_putBits_119 : decode cX5_putBits 119 = .ok (.iand, 1) := by decide +kernel
theorem dX5_putBits_120 : decode cX5_putBits 120 = .ok (.iastore, 1) := by decide +kernel
theorem dX5_putBits_121 : decode cX5_putBits 121 = .ok (.aload_n 0, 1) := by decide +kernel
theorem dX5_putBits_122 : decode cX5_putBits 122 = .ok (.getfield 15, 3) := by decide +kernel
theorem dX5_putBits_125 : decode cX5_putBits 125 = .ok (.iload 6, 2) := by decide +kernel
theorem dX5_putBits_127 : decode cX5_putBits 127 = .ok (.iload 10, 2) := by decide +kernel
theorem dX5_putBits_129 : decode cX5_putBits 129 = .ok (.bipush 8, 2) := by decide +kernel
theorem dX5_putBits_131 : decode cX5_putBits 131 = .ok (.ishr, 1) := by decide +kernel
theorem dX5_putBits_132 : decode cX5_putBits 132 = .ok (.sipush 255, 3) := by decide +kernel
theorem dX5_putBits_135 : decode cX5_putBits 135 = .ok (.iand, 1) := by decide +kernel
theorem dX5_putBits_136 : decode cX5_putBits 136 = .ok (.iastore, 1) := by decide +kernel
theorem dX5_putBits_137 : decode cX5_putBits 137 = .ok (.aload_n 0, 1) := by decide +kernel
theorem dX5_putBits_138 : decode cX5_putBits 138 = .ok (.getfield 15, 3) := by decide +kernel
theorem dX5_putBits_141 : decode cX5_putBits 141 = .ok (.iload 7, 2) := by decide +kernel
theorem dX5_putBits_143 : decode cX5_putBits 143 = .ok (.iload 10, 2) := by decide +kernel
theorem dX5_putBits_145 : decode cX5_putBits 145 = .ok (.sipush 255, 3) := by decide +kernel
theorem dX5_putBits_148 : decode cX5_putBits 148 = .ok (.iand, 1) := by decide +kernel
theorem dX5_putBits_149 : decode cX5_putBits 149 = .ok (.iastore, 1) := by decide +kernel
theorem dX5_putBits_150 : decode cX5_putBits 150 = .ok (.aload_n 0, 1) := by decide +kernel
theorem dX5_putBits_151 : decode cX5_putBits 151 = .ok (.iconst 0, 1) := by decide +kernel
theorem dX5_putBits_152 : decode cX5_putBits 152 = .ok (.putfield 35, 3) := by decide +kernel
theorem dX5_putBits_155 : decode cX5_putBits 155 = .ok (.return_, 1) := by decide +kernel
theorem dX5_putCoded_0 : decode cX5_putCoded 0 = .ok (.aload_n 0, 1) := by decide +kernel
theorem dX5_putCoded_1 : decode cX5_putCoded 1 = .ok (.iload_n 1, 1) := by decide +kernel
theorem dX5_putCoded_2 : decode cX5_putCoded 2 = .ok (.bipush 10, 2) := by decide +kernel
theorem dX5_putCoded_4 : decode cX5_putCoded 4 = .ok (.getstatic 39, 3) := by decide +kernel
theorem dX5_putCoded_7 : decode cX5_putCoded 7 = .ok (.iload_n 2, 1) := by decide +kernel
theorem dX5_putCoded_8 : decode cX5_putCoded 8 = .ok (.iconst 4, 1) := by decide +kernel
theorem dX5_putCoded_9 : decode cX5_putCoded 9 = .ok (.ishr, 1) := by decide +kernel
theorem dX5_putCoded_10 : decode cX5_putCoded 10 = .ok (.bipush 15, 2) := by decide +kernel
theorem dX5_putCoded_12 : decode cX5_putCoded 12 = .ok (.iand, 1) := by decide +kernel
theorem dX5_putCoded_13 : decode cX5_putCoded 13 = .ok (.iaload, 1) := by decide +kernel
theorem dX5_putCoded_14 : decode cX5_putCoded 14 = .ok (.iconst 5, 1) := by decide +kernel
theorem dX5_putCoded_15 : decode cX5_putCoded 15 = .ok (.ishl, 1) := by decide +kernel
theorem dX5_putCoded_16 : decode cX5_putCoded 16 = .ok (.getstatic 39, 3) := by decide +kernel
theorem dX5_putCoded_19 : decode cX5_putCoded 19 = .ok (.iload_n 2, 1) := by decide +kernel
theorem dX5_putCoded_20 : decode cX5_putCoded 20 = .ok (.bipush 15, 2) := by decide +kernel
theorem dX5_putCoded_22 : decode cX5_putCoded 22 = .ok (.iand, 1) := by decide +kernel
theorem dX5_putCoded_23 : decode cX5_putCoded 23 = .ok (.iaload, 1) := by decide +kernel
theorem dX5_putCoded_24 : decode cX5_putCoded 24 = .ok (.ior, 1) := by decide +kernel
theorem dX5_putCoded_25 : decode cX5_putCoded 25 = .ok (.invokevirtual 42, 3) := by decide +kernel
theorem dX5_putCoded_28 : decode cX5_putCoded 28 = .ok (.return_, 1) := by decide +kernel
theorem dX5_putSync_0 : decode cX5_putSync 0 = .ok (.iconst 0, 1) := by decide +kernel
theorem dX5_putSync_1 : decode cX5_putSync 1 = .ok (.istore_n 2, 1) := by decide +kernel
theorem dX5_putSync_2 : decode cX5_putSync 2 = .ok (.iload_n 2, 1) := by decide +kernel
theorem dX5_putSync_3 : decode cX5_putSync 3 = .ok (.iconst 5, 1) := by decide +kernel
theorem dX5_putSync_4 : decode cX5_putSync 4 = .ok (.if_icmp .ge 24, 3) := by decide +kernel
theorem dX5_putSync_7 : decode cX5_putSync 7 = .ok (.aload_n 0, 1) := by decide +kernel
theorem dX5_putSync_8 : decode cX5_putSync 8 = .ok (.iload_n 1, 1) := by decide +kernel
theorem dX5_putSync_9 : decode cX5_putSync 9 = .ok (.bipush 8, 2) := by decide +kernel
theorem dX5_putSync_11 : decode cX5_putSync 11 = .ok (.iload_n 2, 1) := by decide +kernel
theorem dX5_putSync_12 : decode cX5_putSync 12 = .ok (.imul, 1) := by decide +kernel
theorem dX5_putSync_13 : decode cX5_putSync 13 = .ok (.iadd, 1) := by decide +kernel
theorem dX5_putSync_14 : decode cX5_putSync 14 = .ok (.bipush 8, 2) := by decide +kernel
theorem dX5_putSync_16 : decode cX5_putSync 16 = .ok (.sipush 255, 3) := by decide +kernel
theorem dX5_putSync_19 : decode cX5_putSync 19 = .ok (.invokevirtual 42, 3) := by decide +kernel
theorem dX5_putSync_22 : decode cX5_putSync 22 = .ok (.iinc 2 1, 3) := by decide +kernel
theorem dX5_putSync_25 : decode cX5_putSync 25 = .ok (.goto (-23), 3) := by decide +kernel
theorem dX5_putSync_28 : decode cX5_putSync 28 = .ok (.return_, 1) := by decide +kernel
theorem dX5_codedAt_0 : decode cX5_codedAt 0 = .ok (.iload_n 1, 1) := by decide +kernel
theorem dX5_codedAt_1 : decode cX5_codedAt 1 = .ok (.aload_n 0, 1) := by decide +kernel
theorem dX5_codedAt_2 : decode cX5_codedAt 2 = .ok (.getfield 21, 3) := by decide +kernel
theorem dX5_codedAt_5 : decode cX5_codedAt 5 = .ok (.irem, 1) := by decide +kernel
theorem dX5_codedAt_6 : decode cX5_codedAt 6 = .ok (.istore_n 2, 1) := by decide +kernel
theorem dX5_codedAt_7 : decode cX5_codedAt 7 = .ok (.iload_n 2, 1) := by decide +kernel
theorem dX5_codedAt_8 : decode cX5_codedAt 8 = .ok (.bipush 8, 2) := by decide +kernel
theorem dX5_codedAt_10 : decode cX5_codedAt 10 = .ok (.idiv, 1) := by decide +kernel
theorem dX5_codedAt_11 : decode cX5_codedAt 11 = .ok (.istore_n 3, 1) := by decide +kernel
theorem dX5_codedAt_12 : decode cX5_codedAt 12 = .ok (.iload_n 3, 1) := by decide +kernel
theorem dX5_codedAt_13 : decode cX5_codedAt 13 = .ok (.iconst 1, 1) := by decide +kernel
theorem dX5_codedAt_14 : decode cX5_codedAt 14 = .ok (.iadd, 1) := by decide +kernel
theorem dX5_codedAt_15 : decode cX5_codedAt 15 = .ok (.aload_n 0, 1) := by decide +kernel
theorem dX5_codedAt_16 : decode cX5_codedAt 16 = .ok (.getfield 15, 3) := by decide +kernel
theorem dX5_codedAt_19 : decode cX5_codedAt 19 = .ok (.arraylength, 1) := by decide +kernel
theorem dX5_codedAt_20 : decode cX5_codedAt 20 = .ok (.irem, 1) := by decide +kernel
theorem dX5_codedAt_21 : decode cX5_codedAt 21 = .ok (.istore 4, 2) := by decide +kernel
theorem dX5_codedAt_23 : decode cX5_codedAt 23 = .ok (.iload_n 3, 1) := by decide +kernel
theorem dX5_codedAt_24 : decode cX5_codedAt 24 = .ok (.iconst 2, 1) := by decide +kernel
theorem dX5_codedAt_25 : decode cX5_codedAt 25 = .ok (.iadd, 1) := by decide +kernel
theorem dX5_codedAt_26 : decode cX5_codedAt 26 = .ok (.aload_n 0, 1) := by decide +kernel
theorem dX5_codedAt_27 : decode cX5_codedAt 27 = .ok (.getfield 15, 3) := by decide +kernel
theorem dX5_codedAt_30 : decode cX5_codedAt 30 = .ok (.arraylength, 1) := by decide +kernel
theorem dX5_codedAt_31 : decode cX5_codedAt 31 = .ok (.irem, 1) := by decide +kernel
theorem dX5_codedAt_32 : decode cX5_codedAt 32 = .ok (.istore 5, 2) := by decide +kernel
theorem dX5_codedAt_34 : decode cX5_codedAt 34 = .ok (.aload_n 0, 1) := by decide +kernel
theorem dX5_codedAt_35 : decode cX5_codedAt 35 = .ok (.getfield 15, 3) := by decide +kernel
theorem dX5_codedAt_38 : decode cX5_codedAt 38 = .ok (.iload_n 3, 1) := by decide +kernel
theorem dX5_codedAt_39 : decode cX5_codedAt 39 = .ok (.iaload, 1) := by decide +kernel
theorem dX5_codedAt_40 : decode cX5_codedAt 40 = .ok (.bipush 16, 2) := by decide +kernel
theorem dX5_codedAt_42 : decode cX5_codedAt 42 = .ok (.ishl, 1) := by decide +kernel
theorem dX5_codedAt_43 : decode cX5_codedAt 43 = .ok (.aload_n 0, 1) := by decide +kernel
theorem dX5_codedAt_44 : decode cX5_codedAt 44 = .ok (.getfield 15, 3) := by decide +kernel
theorem dX5_codedAt_47 : decode cX5_codedAt 47 = .ok (.iload 4, 2) := by decide +kernel
theorem dX5_codedAt_49 : decode cX5_codedAt 49 = .ok (.iaload, 1) := by decide +kernel
theorem dX5_codedAt_50 : decode cX5_codedAt 50 = .ok (.bipush 8, 2) := by decide +kernel
theorem dX5_codedAt_52 : decode cX5_codedAt 52 = .ok (.ishl, 1) := by decide +kernel
theorem dX5_codedAt_53 : decode cX5_codedAt 53 = .ok (.ior, 1) := by decide +kernel
theorem dX5_codedAt_54 : decode cX5_codedAt 54 = .ok (.aload_n 0, 1) := by decide +kernel
theorem dX5_codedAt_55 : decode cX5_codedAt 55 = .ok (.getfield 15, 3) := by decide +kernel
theorem dX5_codedAt_58 : decode cX5_codedAt 58 = .ok (.iload 5, 2) := by decide +kernel
theorem dX5_codedAt_60 : decode cX5_codedAt 60 = .ok (.iaload, 1) := by decide +kernel
theorem dX5_codedAt_61 : decode cX5_codedAt 61 = .ok (.ior, 1) := by decide +kernel
theorem dX5_codedAt_62 : decode cX5_codedAt 62 = .ok (.istore 6, 2) := by decide +kernel
theorem dX5_codedAt_64 : decode cX5_codedAt 64 = .ok (.iload 6, 2) := by decide +kernel
theorem dX5_codedAt_66 : decode cX5_codedAt 66 = .ok (.bipush 14, 2) := by decide +kernel
theorem dX5_codedAt_68 : decode cX5_codedAt 68 = .ok (.iload_n 2, 1) := by decide +kernel
theorem dX5_codedAt_69 : decode cX5_codedAt 69 = .ok (.bipush 8, 2) := by decide +kernel
theorem dX5_codedAt_71 : decode cX5_codedAt 71 = .ok (.irem, 1) := by decide +kernel
theorem dX5_codedAt_72 : decode cX5_codedAt 72 = .ok (.isub, 1) := by decide +kernel
theorem dX5_codedAt_73 : decode cX5_codedAt 73 = .ok (.ishr, 1) := by decide +kernel
theorem dX5_codedAt_74 : decode cX5_codedAt 74 = .ok (.sipush 1023, 3) := by decide +kernel
theorem dX5_codedAt_77 : decode cX5_codedAt 77 = .ok (.iand, 1) := by decide +kernel
theorem dX5_codedAt_78 : decode cX5_codedAt 78 = .ok (.istore 7, 2) := by decide +kernel
theorem dX5_codedAt_80 : decode cX5_codedAt 80 = .ok (.getstatic 46, 3) := by decide +kernel
theorem dX5_codedAt_83 : decode cX5_codedAt 83 = .ok (.iload 7, 2) := by decide +kernel
theorem dX5_codedAt_85 : decode cX5_codedAt 85 = .ok (.iconst 5, 1) := by decide +kernel
theorem dX5_codedAt_86 : decode cX5_codedAt 86 = .ok (.ishr, 1) := by decide +kernel
theorem dX5_codedAt_87 : decode cX5_codedAt 87 = .ok (.iaload, 1) := by decide +kernel
theorem dX5_codedAt_88 : decode cX5_codedAt 88 = .ok (.istore 8, 2) := by decide +kernel
theorem dX5_codedAt_90 : decode cX5_codedAt 90 = .ok (.getstatic 46, 3) := by decide +kernel
theorem dX5_codedAt_93 : decode cX5_codedAt 93 = .ok (.iload 7, 2) := by decide +kernel
theorem dX5_codedAt_95 : decode cX5_codedAt 95 = .ok (.bipush 31, 2) := by decide +kernel
theorem dX5_codedAt_97 : decode cX5_codedAt 97 = .ok (.iand, 1) := by decide +kernel
theorem dX5_codedAt_98 : decode cX5_codedAt 98 = .ok (.iaload, 1) := by decide +kernel
theorem dX5_codedAt_99 : decode cX5_codedAt 99 = .ok (.istore 9, 2) := by decide +kernel
theorem dX5_codedAt_101 : decode cX5_codedAt 101 = .ok (.iload 8, 2) := by decide +kernel
theorem dX5_codedAt_103 : decode cX5_codedAt 103 = .ok (.iconst (-1), 1) := by decide +kernel
theorem dX5_codedAt_104 : decode cX5_codedAt 104 = .ok (.if_icmp .eq 9, 3) := by decide +kernel
theorem dX5_codedAt_107 : decode cX5_codedAt 107 = .ok (.iload 9, 2) := by decide +kernel
theorem dX5_codedAt_109 : decode cX5_codedAt 109 = .ok (.iconst (-1), 1) := by decide +kernel
theorem dX5_codedAt_110 : decode cX5_codedAt 110 = .ok (.if_icmp .ne 7, 3) := by decide +kernel
theorem dX5_codedAt_113 : decode cX5_codedAt 113 = .ok (.iconst (-1), 1) := by decide +kernel
theorem dX5_codedAt_114 : decode cX5_codedAt 114 = .ok (.goto 10, 3) := by decide +kernel
theorem dX5_codedAt_117 : decode cX5_codedAt 117 = .ok (.iload 8, 2) := by decide +kernel
theorem dX5_codedAt_119 : decode cX5_codedAt 119 = .ok (.iconst 4, 1) := by decide +kernel
theorem dX5_codedAt_120 : decode cX5_codedAt 120 = .ok (.ishl, 1) := by decide +kernel
theorem dX5_codedAt_121 : decode cX5_codedAt 121 = .ok (.iload 9, 2) := by decide +kernel
theorem dX5_codedAt_123 : decode cX5_codedAt 123 = .ok (.ior, 1) := by decide +kernel
theorem dX5_codedAt_124 : decode cX5_codedAt 124 = .ok (.ireturn, 1) := by decide +kernel
theorem dX5_findSyncs_0 : decode cX5_findSyncs 0 = .ok (.aload_n 0, 1) := by decide +kernel
theorem dX5_findSyncs_1 : decode cX5_findSyncs 1 = .ok (.getfield 35, 3) := by decide +kernel
theorem dX5_findSyncs_4 : decode cX5_findSyncs 4 = .ok (.ifCond .eq 8, 3) := by decide +kernel
theorem dX5_findSyncs_7 : decode cX5_findSyncs 7 = .ok (.aload_n 0, 1) := by decide +kernel
theorem dX5_findSyncs_8 : decode cX5_findSyncs 8 = .ok (.getfield 32, 3) := by decide +kernel
theorem dX5_findSyncs_11 : decode cX5_findSyncs 11 = .ok (.ireturn, 1) := by decide +kernel
theorem dX5_findSyncs_12 : decode cX5_findSyncs 12 = .ok (.aload_n 0, 1) := by decide +kernel
theorem dX5_findSyncs_13 : decode cX5_findSyncs 13 = .ok (.iconst 0, 1) := by decide +kernel
theorem dX5_findSyncs_14 : decode cX5_findSyncs 14 = .ok (.putfield 32, 3) := by decide +kernel
theorem dX5_findSyncs_17 : decode cX5_findSyncs 17 = .ok (.aload_n 0, 1) := by decide +kernel
theorem dX5_findSyncs_18 : decode cX5_findSyncs 18 = .ok (.getfield 15, 3) := by decide +kernel
theorem dX5_findSyncs_21 : decode cX5_findSyncs 21 = .ok (.aload_n 0, 1) := by decide +kernel
theorem dX5_findSyncs_22 : decode cX5_findSyncs 22 = .ok (.getfield 15, 3) := by decide +kernel
theorem dX5_findSyncs_25 : decode cX5_findSyncs 25 = .ok (.arraylength, 1) := by decide +kernel
theorem dX5_findSyncs_26 : decode cX5_findSyncs 26 = .ok (.iconst 2, 1) := by decide +kernel
theorem dX5_findSyncs_27 : decode cX5_findSyncs 27 = .ok (.isub, 1) := by decide +kernel
theorem dX5_findSyncs_28 : decode cX5_findSyncs 28 = .ok (.iaload, 1) := by decide +kernel
theorem dX5_findSyncs_29 : decode cX5_findSyncs 29 = .ok (.bipush 8, 2) := by decide +kernel
theorem dX5_findSyncs_31 : decode cX5_findSyncs 31 = .ok (.ishl, 1) := by decide +kernel
theorem dX5_findSyncs_32 : decode cX5_findSyncs 32 = .ok (.aload_n 0, 1) := by decide +kernel
theorem dX5_findSyncs_33 : decode cX5_findSyncs 33 = .ok (.getfield 15, 3) := by decide +kernel
theorem dX5_findSyncs_36 : decode cX5_findSyncs 36 = .ok (.aload_n 0, 1) := by decide +kernel
theorem dX5_findSyncs_37 : decode cX5_findSyncs 37 = .ok (.getfield 15, 3) := by decide +kernel
theorem dX5_findSyncs_40 : decode cX5_findSyncs 40 = .ok (.arraylength, 1) := by decide +kernel
theorem dX5_findSyncs_41 : decode cX5_findSyncs 41 = .ok (.iconst 1, 1) := by decide +kernel
theorem dX5_findSyncs_42 : decode cX5_findSyncs 42 = .ok (.isub, 1) := by decide +kernel
theorem dX5_findSyncs_43 : decode cX5_findSyncs 43 = .ok (.iaload, 1) := by decide +kernel
theorem dX5_findSyncs_44 : decode cX5_findSyncs 44 = .ok (.ior, 1) := by decide +kernel
theorem dX5_findSyncs_45 : decode cX5_findSyncs 45 = .ok (.istore_n 1, 1) := by decide +kernel
theorem dX5_findSyncs_46 : decode cX5_findSyncs 46 = .ok (.iconst 0, 1) := by decide +kernel
theorem dX5_findSyncs_47 : decode cX5_findSyncs 47 = .ok (.istore_n 2, 1) := by decide +kernel
theorem dX5_findSyncs_48 : decode cX5_findSyncs 48 = .ok (.iload_n 2, 1) := by decide +kernel
theorem dX5_findSyncs_49 : decode cX5_findSyncs 49 = .ok (.bipush 16, 2) := by decide +kernel
theorem dX5_findSyncs_51 : decode cX5_findSyncs 51 = .ok (.if_icmp .ge 18, 3) := by decide +kernel
theorem dX5_findSyncs_54 : decode cX5_findSyncs 54 = .ok (.iload_n 1, 1) := by decide +kernel
theorem dX5_findSyncs_55 : decode cX5_findSyncs 55 = .ok (.iload_n 2, 1) := by decide +kernel
theorem dX5_findSyncs_56 : decode cX5_findSyncs 56 = .ok (.ishr, 1) := by decide +kernel
theorem dX5_findSyncs_57 : decode cX5_findSyncs 57 = .ok (.iconst 1, 1) := by decide +kernel
theorem dX5_findSyncs_58 : decode cX5_findSyncs 58 = .ok (.iand, 1) := by decide +kernel
theorem dX5_findSyncs_59 : decode cX5_findSyncs 59 = .ok (.iconst 1, 1) := by decide +kernel
theorem dX5_findSyncs_60 : decode cX5_findSyncs 60 = .ok (.if_icmp .ne 9, 3) := by decide +kernel
theorem dX5_findSyncs_63 : decode cX5_findSyncs 63 = .ok (.iinc 2 1, 3) := by decide +kernel
theorem dX5_findSyncs_66 : decode cX5_findSyncs 66 = .ok (.goto (-18), 3) := by decide +kernel
theorem dX5_findSyncs_69 : decode cX5_findSyncs 69 = .ok (.iconst 0, 1) := by decide +kernel
theorem dX5_findSyncs_70 : decode cX5_findSyncs 70 = .ok (.istore_n 3, 1) := by decide +kernel
theorem dX5_findSyncs_71 : decode cX5_findSyncs 71 = .ok (.iload_n 3, 1) := by decide +kernel
theorem dX5_findSyncs_72 : decode cX5_findSyncs 72 = .ok (.aload_n 0, 1) := by decide +kernel
theorem dX5_findSyncs_73 : decode cX5_findSyncs 73 = .ok (.getfield 15, 3) := by decide +kernel
theorem dX5_findSyncs_76 : decode cX5_findSyncs 76 = .ok (.arraylength, 1) := by decide +kernel
theorem dX5_findSyncs_77 : decode cX5_findSyncs 77 = .ok (.if_icmp .ge 130, 3) := by decide +kernel
theorem dX5_findSyncs_80 : decode cX5_findSyncs 80 = .ok (.aload_n 0, 1) := by decide +kernel
theorem dX5_findSyncs_81 : decode cX5_findSyncs 81 = .ok (.getfield 15, 3) := by decide +kernel
theorem dX5_findSyncs_84 : decode cX5_findSyncs 84 = .ok (.iload_n 3, 1) := by decide +kernel
theorem dX5_findSyncs_85 : decode cX5_findSyncs 85 = .ok (.iaload, 1) := by decide +kernel
theorem dX5_findSyncs_86 : decode cX5_findSyncs 86 = .ok (.istore 4, 2) := by decide +kernel
theorem dX5_findSyncs_88 : decode cX5_findSyncs 88 = .ok (.iload 4, 2) := by decide +kernel
theorem dX5_findSyncs_90 : decode cX5_findSyncs 90 = .ok (.sipush 255, 3) := by decide +kernel
theorem dX5_findSyncs_93 : decode cX5_findSyncs 93 = .ok (.if_icmp .ne 9, 3) := by decide +kernel
theorem dX5_findSyncs_96 : decode cX5_findSyncs 96 = .ok (.iinc 2 8, 3) := by decide +kernel
theorem dX5_findSyncs_99 : decode cX5_findSyncs 99 = .ok (.goto 102, 3) := by decide +kernel
theorem dX5_findSyncs_102 : decode cX5_findSyncs 102 = .ok (.iconst 0, 1) := by decide +kernel
theorem dX5_findSyncs_103 : decode cX5_findSyncs 103 = .ok (.istore 5, 2) := by decide +kernel
theorem dX5_findSyncs_105 : decode cX5_findSyncs 105 = .ok (.iload 5, 2) := by decide +kernel
theorem dX5_findSyncs_107 : decode cX5_findSyncs 107 = .ok (.bipush 8, 2) := by decide +kernel
theorem dX5_findSyncs_109 : decode cX5_findSyncs 109 = .ok (.if_icmp .ge 21, 3) := by decide +kernel
theorem dX5_findSyncs_112 : decode cX5_findSyncs 112 = .ok (.iload 4, 2) := by decide +kernel
theorem dX5_findSyncs_114 : decode cX5_findSyncs 114 = .ok (.iload 5, 2) := by decide +kernel
theorem dX5_findSyncs_116 : decode cX5_findSyncs 116 = .ok (.ishl, 1) := by decide +kernel
theorem dX5_findSyncs_117 : decode cX5_findSyncs 117 = .ok (.sipush 128, 3) := by decide +kernel
theorem dX5_findSyncs_120 : decode cX5_findSyncs 120 = .ok (.iand, 1) := by decide +kernel
theorem dX5_findSyncs_121 : decode cX5_findSyncs 121 = .ok (.ifCond .eq 9, 3) := by decide +kernel
theorem dX5_findSyncs_124 : decode cX5_findSyncs 124 = .ok (.iinc 5 1, 3) := by decide +kernel
theorem dX5_findSyncs_127 : decode cX5_findSyncs 127 = .ok (.goto (-22), 3) := by decide +kernel
theorem dX5_findSyncs_130 : decode cX5_findSyncs 130 = .ok (.iload_n 2, 1) := by decide +kernel
theorem dX5_findSyncs_131 : decode cX5_findSyncs 131 = .ok (.iload 5, 2) := by decide +kernel
theorem dX5_findSyncs_133 : decode cX5_findSyncs 133 = .ok (.iadd, 1) := by decide +kernel
theorem dX5_findSyncs_134 : decode cX5_findSyncs 134 = .ok (.bipush 10, 2) := by decide +kernel
theorem dX5_findSyncs_136 : decode cX5_findSyncs 136 = .ok (.if_icmp .lt 41, 3) := by decide +kernel
theorem dX5_findSyncs_139 : decode cX5_findSyncs 139 = .ok (.aload_n 0, 1) := by decide +kernel
theorem dX5_findSyncs_140 : decode cX5_findSyncs 140 = .ok (.getfield 32, 3) := by decide +kernel
theorem dX5_findSyncs_143 : decode cX5_findSyncs 143 = .ok (.aload_n 0, 1) := by decide +kernel
theorem dX5_findSyncs_144 : decode cX5_findSyncs 144 = .ok (.getfield 25, 3) := by decide +kernel
theorem dX5_findSyncs_147 : decode cX5_findSyncs 147 = .ok (.arraylength, 1) := by decide +kernel
theorem dX5_findSyncs_148 : decode cX5_findSyncs 148 = .ok (.if_icmp .ge 29, 3) := by decide +kernel
theorem dX5_findSyncs_151 : decode cX5_findSyncs 151 = .ok (.aload_n 0, 1) := by decide +kernel
theorem dX5_findSyncs_152 : decode cX5_findSyncs 152 = .ok (.getfield 25, 3) := by decide +kernel
theorem dX5_findSyncs_155 : decode cX5_findSyncs 155 = .ok (.aload_n 0, 1) := by decide +kernel
theorem dX5_findSyncs_156 : decode cX5_findSyncs 156 = .ok (.getfield 32, 3) := by decide +kernel
theorem dX5_findSyncs_159 : decode cX5_findSyncs 159 = .ok (.bipush 8, 2) := by decide +kernel
theorem dX5_findSyncs_161 : decode cX5_findSyncs 161 = .ok (.iload_n 3, 1) := by decide +kernel
theorem dX5_findSyncs_162 : decode cX5_findSyncs 162 = .ok (.imul, 1) := by decide +kernel
theorem dX5_findSyncs_163 : decode cX5_findSyncs 163 = .ok (.iload 5, 2) := by decide +kernel
theorem dX5_findSyncs_165 : decode cX5_findSyncs 165 = .ok (.iadd, 1) := by decide +kernel
theorem dX5_findSyncs_166 : decode cX5_findSyncs 166 = .ok (.iastore, 1) := by decide +kernel
theorem dX5_findSyncs_167 : decode cX5_findSyncs 167 = .ok (.aload_n 0, 1) := by decide +kernel
theorem dX5_findSyncs_168 : decode cX5_findSyncs 168 = .ok (.dup, 1) := by decide +kernel
theorem dX5_findSyncs_169 : decode cX5_findSyncs 169 = .ok (.getfield 32, 3) := by decide +kernel
theorem dX5_findSyncs_172 : decode cX5_findSyncs 172 = .ok (.iconst 1, 1) := by decide +kernel
theorem dX5_findSyncs_173 : decode cX5_findSyncs 173 = .ok (.iadd, 1) := by decide +kernel
theorem dX5_findSyncs_174 : decode cX5_findSyncs 174 = .ok (.putfield 32, 3) := by decide +kernel
theorem dX5_findSyncs_177 : decode cX5_findSyncs 177 = .ok (.iconst 0, 1) := by decide +kernel
theorem dX5_findSyncs_178 : decode cX5_findSyncs 178 = .ok (.istore_n 2, 1) := by decide +kernel
theorem dX5_findSyncs_179 : decode cX5_findSyncs 179 = .ok (.iload_n 2, 1) := by decide +kernel
theorem dX5_findSyncs_180 : decode cX5_findSyncs 180 = .ok (.bipush 8, 2) := by decide +kernel
theorem dX5_findSyncs_182 : decode cX5_findSyncs 182 = .ok (.if_icmp .ge 19, 3) := by decide +kernel
theorem dX5_findSyncs_185 : decode cX5_findSyncs 185 = .ok (.iload 4, 2) := by decide +kernel
theorem dX5_findSyncs_187 : decode cX5_findSyncs 187 = .ok (.iload_n 2, 1) := by decide +kernel
theorem dX5_findSyncs_188 : decode cX5_findSyncs 188 = .ok (.ishr, 1) := by decide +kernel
theorem dX5_findSyncs_189 : decode cX5_findSyncs 189 = .ok (.iconst 1, 1) := by decide +kernel
theorem dX5_findSyncs_190 : decode cX5_findSyncs 190 = .ok (.iand, 1) := by decide +kernel
theorem dX5_findSyncs_191 : decode cX5_findSyncs 191 = .ok (.iconst 1, 1) := by decide +kernel
theorem dX5_findSyncs_192 : decode cX5_findSyncs 192 = .ok (.if_icmp .ne 9, 3) := by decide +kernel
theorem dX5_findSyncs_195 : decode cX5_findSyncs 195 = .ok (.iinc 2 1, 3) := by decide +kernel
theorem dX5_findSyncs_198 : decode cX5_findSyncs 198 = .ok (.goto (-19), 3) := by decide +kernel
theorem dX5_findSyncs_201 : decode cX5_findSyncs 201 = .ok (.iinc 3 1, 3) := by decide +kernel
theorem dX5_findSyncs_204 : decode cX5_findSyncs 204 = .ok (.goto (-133), 3) := by decide +kernel
theorem dX5_findSyncs_207 : decode cX5_findSyncs 207 = .ok (.aload_n 0, 1) := by decide +kernel
theorem dX5_findSyncs_208 : decode cX5_findSyncs 208 = .ok (.iconst 1, 1) := by decide +kernel
theorem dX5_findSyncs_209 : decode cX5_findSyncs 209 = .ok (.putfield 35, 3) := by decide +kernel
theorem dX5_findSyncs_212 : decode cX5_findSyncs 212 = .ok (.aload_n 0, 1) := by decide +kernel
theorem dX5_findSyncs_213 : decode cX5_findSyncs 213 = .ok (.getfield 32, 3) := by decide +kernel
theorem dX5_findSyncs_216 : decode cX5_findSyncs 216 = .ok (.ireturn, 1) := by decide +kernel
theorem dX5_rotate_0 : decode cX5_rotate 0 = .ok (.aload_n 0, 1) := by decide +kernel
theorem dX5_rotate_1 : decode cX5_rotate 1 = .ok (.getfield 15, 3) := by decide +kernel
theorem dX5_rotate_4 : decode cX5_rotate 4 = .ok (.arraylength, 1) := by decide +kernel
theorem dX5_rotate_5 : decode cX5_rotate 5 = .ok (.istore_n 3, 1) := by decide +kernel
theorem dX5_rotate_6 : decode cX5_rotate 6 = .ok (.aload_n 2, 1) := by decide +kernel
theorem dX5_rotate_7 : decode cX5_rotate 7 = .ok (.arraylength, 1) := by decide +kernel
theorem dX5_rotate_8 : decode cX5_rotate 8 = .ok (.iload_n 3, 1) := by decide +kernel
theorem dX5_rotate_9 : decode cX5_rotate 9 = .ok (.if_icmp .ge 4, 3) := by decide +kernel
theorem dX5_rotate_12 : decode cX5_rotate 12 = .ok (.return_, 1) := by decide +kernel
theorem dX5_rotate_13 : decode cX5_rotate 13 = .ok (.iload_n 1, 1) := by decide +kernel
theorem dX5_rotate_14 : decode cX5_rotate 14 = .ok (.aload_n 0, 1) := by decide +kernel
theorem dX5_rotate_15 : decode cX5_rotate 15 = .ok (.getfield 21, 3) := by decide +kernel
theorem dX5_rotate_18 : decode cX5_rotate 18 = .ok (.invokestatic 49, 3) := by decide +kernel
theorem dX5_rotate_21 : decode cX5_rotate 21 = .ok (.istore 4, 2) := by decide +kernel
theorem dX5_rotate_23 : decode cX5_rotate 23 = .ok (.iload_n 3, 1) := by decide +kernel
theorem dX5_rotate_24 : decode cX5_rotate 24 = .ok (.iload 4, 2) := by decide +kernel
theorem dX5_rotate_26 : decode cX5_rotate 26 = .ok (.bipush 8, 2) := by decide +kernel
theorem dX5_rotate_28 : decode cX5_rotate 28 = .ok (.idiv, 1) := by decide +kernel
theorem dX5_rotate_29 : decode cX5_rotate 29 = .ok (.isub, 1) := by decide +kernel
theorem dX5_rotate_30 : decode cX5_rotate 30 = .ok (.istore 5, 2) := by decide +kernel
theorem dX5_rotate_32 : decode cX5_rotate 32 = .ok (.iload 4, 2) := by decide +kernel
theorem dX5_rotate_34 : decode cX5_rotate 34 = .ok (.bipush 8, 2) := by decide +kernel
theorem dX5_rotate_36 : decode cX5_rotate 36 = .ok (.irem, 1) := by decide +kernel
theorem dX5_rotate_37 : decode cX5_rotate 37 = .ok (.istore 6, 2) := by decide +kernel
theorem dX5_rotate_39 : decode cX5_rotate 39 = .ok (.aload_n 0, 1) := by decide +kernel
theorem dX5_rotate_40 : decode cX5_rotate 40 = .ok (.getfield 15, 3) := by decide +kernel
theorem dX5_rotate_43 : decode cX5_rotate 43 = .ok (.iconst 0, 1) := by decide +kernel
theorem dX5_rotate_44 : decode cX5_rotate 44 = .ok (.aload_n 2, 1) := by decide +kernel
theorem dX5_rotate_45 : decode cX5_rotate 45 = .ok (.iconst 0, 1) := by decide +kernel
theorem dX5_rotate_46 : decode cX5_rotate 46 = .ok (.iload_n 3, 1) := by decide +kernel
theorem dX5_rotate_47 : decode cX5_rotate 47 = .ok (.invokestatic 52, 3) := by decide +kernel
theorem dX5_rotate_50 : decode cX5_rotate 50 = .ok (.iconst 0, 1) := by decide +kernel
theorem dX5_rotate_51 : decode cX5_rotate 51 = .ok (.istore 7, 2) := by decide +kernel
theorem dX5_rotate_53 : decode cX5_rotate 53 = .ok (.iload 7, 2) := by decide +kernel
theorem dX5_rotate_55 : decode cX5_rotate 55 = .ok (.iload_n 3, 1) := by decide +kernel
theorem dX5_rotate_56 : decode cX5_rotate 56 = .ok (.if_icmp .ge 55, 3) := by decide +kernel
theorem dX5_rotate_59 : decode cX5_rotate 59 = .ok (.aload_n 2, 1) := by decide +kernel
theorem dX5_rotate_60 : decode cX5_rotate 60 = .ok (.iload 5, 2) := by decide +kernel
theorem dX5_rotate_62 : decode cX5_rotate 62 = .ok (.iload 7, 2) := by decide +kernel
theorem dX5_rotate_64 : decode cX5_rotate 64 = .ok (.iadd, 1) := by decide +kernel
theorem dX5_rotate_65 : decode cX5_rotate 65 = .ok (.iconst 1, 1) := by decide +kernel
theorem dX5_rotate_66 : decode cX5_rotate 66 = .ok (.isub, 1) := by decide +kernel
theorem dX5_rotate_67 : decode cX5_rotate 67 = .ok (.iload_n 3, 1) := by decide +kernel
theorem dX5_rotate_68 : decode cX5_rotate 68 = .ok (.irem, 1) := by decide +kernel
theorem dX5_rotate_69 : decode cX5_rotate 69 = .ok (.iaload, 1) := by decide +kernel
theorem dX5_rotate_70 : decode cX5_rotate 70 = .ok (.istore 8, 2) := by decide +kernel
theorem dX5_rotate_72 : decode cX5_rotate 72 = .ok (.aload_n 2, 1) := by decide +kernel
theorem dX5_rotate_73 : decode cX5_rotate 73 = .ok (.iload 5, 2) := by decide +kernel
theorem dX5_rotate_75 : decode cX5_rotate 75 = .ok (.iload 7, 2) := by decide +kernel
theorem dX5_rotate_77 : decode cX5_rotate 77 = .ok (.iadd, 1) := by decide +kernel
theorem dX5_rotate_78 : decode cX5_rotate 78 = .ok (.iload_n 3, 1) := by decide +kernel
theorem dX5_rotate_79 : decode cX5_rotate 79 = .ok (.irem, 1) := by decide +kernel
theorem dX5_rotate_80 : decode cX5_rotate 80 = .ok (.iaload, 1) := by decide +kernel
theorem dX5_rotate_81 : decode cX5_rotate 81 = .ok (.istore 9, 2) := by decide +kernel
theorem dX5_rotate_83 : decode cX5_rotate 83 = .ok (.aload_n 0, 1) := by decide +kernel
theorem dX5_rotate_84 : decode cX5_rotate 84 = .ok (.getfield 15, 3) := by decide +kernel
theorem dX5_rotate_87 : decode cX5_rotate 87 = .ok (.iload 7, 2) := by decide +kernel
theorem dX5_rotate_89 : decode cX5_rotate 89 = .ok (.iload 8, 2) := by decide +kernel
theorem dX5_rotate_91 : decode cX5_rotate 91 = .ok (.bipush 8, 2) := by decide +kernel
theorem dX5_rotate_93 : decode cX5_rotate 93 = .ok (.ishl, 1) := by decide +kernel
theorem dX5_rotate_94 : decode cX5_rotate 94 = .ok (.iload 9, 2) := by decide +kernel
theorem dX5_rotate_96 : decode cX5_rotate 96 = .ok (.ior, 1) := by decide +kernel
theorem dX5_rotate_97 : decode cX5_rotate 97 = .ok (.iload 6, 2) := by decide +kernel
theorem dX5_rotate_99 : decode cX5_rotate 99 = .ok (.ishr, 1) := by decide +kernel
theorem dX5_rotate_100 : decode cX5_rotate 100 = .ok (.sipush 255, 3) := by decide +kernel
theorem dX5_rotate_103 : decode cX5_rotate 103 = .ok (.iand, 1) := by decide +kernel
theorem dX5_rotate_104 : decode cX5_rotate 104 = .ok (.iastore, 1) := by decide +kernel
theorem dX5_rotate_105 : decode cX5_rotate 105 = .ok (.iinc 7 1, 3) := by decide +kernel
theorem dX5_rotate_108 : decode cX5_rotate 108 = .ok (.goto (-55), 3) := by decide +kernel
theorem dX5_rotate_111 : decode cX5_rotate 111 = .ok (.aload_n 0, 1) := by decide +kernel
theorem dX5_rotate_112 : decode cX5_rotate 112 = .ok (.iconst 0, 1) := by decide +kernel
theorem dX5_rotate_113 : decode cX5_rotate 113 = .ok (.putfield 35, 3) := by decide +kernel
theorem dX5_rotate_116 : decode cX5_rotate 116 = .ok (.return_, 1) := by decide +kernel
theorem dX5_fillGap_0 : decode cX5_fillGap 0 = .ok (.iconst 0, 1) := by decide +kernel
theorem dX5_fillGap_1 : decode cX5_fillGap 1 = .ok (.istore_n 1, 1) := by decide +kernel
theorem dX5_fillGap_2 : decode cX5_fillGap 2 = .ok (.iload_n 1, 1) := by decide +kernel
theorem dX5_fillGap_3 : decode cX5_fillGap 3 = .ok (.aload_n 0, 1) := by decide +kernel
theorem dX5_fillGap_4 : decode cX5_fillGap 4 = .ok (.getfield 15, 3) := by decide +kernel
theorem dX5_fillGap_7 : decode cX5_fillGap 7 = .ok (.arraylength, 1) := by decide +kernel
theorem dX5_fillGap_8 : decode cX5_fillGap 8 = .ok (.if_icmp .ge 17, 3) := by decide +kernel
theorem dX5_fillGap_11 : decode cX5_fillGap 11 = .ok (.aload_n 0, 1) := by decide +kernel
theorem dX5_fillGap_12 : decode cX5_fillGap 12 = .ok (.getfield 15, 3) := by decide +kernel
theorem dX5_fillGap_15 : decode cX5_fillGap 15 = .ok (.iload_n 1, 1) := by decide +kernel
theorem dX5_fillGap_16 : decode cX5_fillGap 16 = .ok (.bipush 85, 2) := by decide +kernel
theorem dX5_fillGap_18 : decode cX5_fillGap 18 = .ok (.iastore, 1) := by decide +kernel
theorem dX5_fillGap_19 : decode cX5_fillGap 19 = .ok (.iinc 1 1, 3) := by decide +kernel
theorem dX5_fillGap_22 : decode cX5_fillGap 22 = .ok (.goto (-20), 3) := by decide +kernel
theorem dX5_fillGap_25 : decode cX5_fillGap 25 = .ok (.aload_n 0, 1) := by decide +kernel
theorem dX5_fillGap_26 : decode cX5_fillGap 26 = .ok (.iconst 0, 1) := by decide +kernel
theorem dX5_fillGap_27 : decode cX5_fillGap 27 = .ok (.putfield 35, 3) := by decide +kernel
theorem dX5_fillGap_30 : decode cX5_fillGap 30 = .ok (.return_, 1) := by decide +kernel
theorem dX5_layRing_0 : decode cX5_layRing 0 = .ok (.iload_n 2, 1) := by decide +kernel
theorem dX5_layRing_1 : decode cX5_layRing 1 = .ok (.ifCond .lt 41, 3) := by decide +kernel
theorem dX5_layRing_4 : decode cX5_layRing 4 = .ok (.iload_n 2, 1) := by decide +kernel
theorem dX5_layRing_5 : decode cX5_layRing 5 = .ok (.aload_n 1, 1) := by decide +kernel
theorem dX5_layRing_6 : decode cX5_layRing 6 = .ok (.getfield 15, 3) := by decide +kernel
theorem dX5_layRing_9 : decode cX5_layRing 9 = .ok (.arraylength, 1) := by decide +kernel
theorem dX5_layRing_10 : decode cX5_layRing 10 = .ok (.iadd, 1) := by decide +kernel
theorem dX5_layRing_11 : decode cX5_layRing 11 = .ok (.aload_n 0, 1) := by decide +kernel
theorem dX5_layRing_12 : decode cX5_layRing 12 = .ok (.getfield 15, 3) := by decide +kernel
theorem dX5_layRing_15 : decode cX5_layRing 15 = .ok (.arraylength, 1) := by decide +kernel
theorem dX5_layRing_16 : decode cX5_layRing 16 = .ok (.if_icmp .gt 26, 3) := by decide +kernel
theorem dX5_layRing_19 : decode cX5_layRing 19 = .ok (.aload_n 1, 1) := by decide +kernel
theorem dX5_layRing_20 : decode cX5_layRing 20 = .ok (.getfield 15, 3) := by decide +kernel
theorem dX5_layRing_23 : decode cX5_layRing 23 = .ok (.iconst 0, 1) := by decide +kernel
theorem dX5_layRing_24 : decode cX5_layRing 24 = .ok (.aload_n 0, 1) := by decide +kernel
theorem dX5_layRing_25 : decode cX5_layRing 25 = .ok (.getfield 15, 3) := by decide +kernel
theorem dX5_layRing_28 : decode cX5_layRing 28 = .ok (.iload_n 2, 1) := by decide +kernel
theorem dX5_layRing_29 : decode cX5_layRing 29 = .ok (.aload_n 1, 1) := by decide +kernel
theorem dX5_layRing_30 : decode cX5_layRing 30 = .ok (.getfield 15, 3) := by decide +kernel
theorem dX5_layRing_33 : decode cX5_layRing 33 = .ok (.arraylength, 1) := by decide +kernel
theorem dX5_layRing_34 : decode cX5_layRing 34 = .ok (.invokestatic 52, 3) := by decide +kernel
theorem dX5_layRing_37 : decode cX5_layRing 37 = .ok (.aload_n 0, 1) := by decide +kernel
theorem dX5_layRing_38 : decode cX5_layRing 38 = .ok (.iconst 0, 1) := by decide +kernel
theorem dX5_layRing_39 : decode cX5_layRing 39 = .ok (.putfield 35, 3) := by decide +kernel
theorem dX5_layRing_42 : decode cX5_layRing 42 = .ok (.return_, 1) := by decide +kernel
theorem dX5_putHeader_0 : decode cX5_putHeader 0 = .ok (.iload 4, 2) := by decide +kernel
theorem dX5_putHeader_2 : decode cX5_putHeader 2 = .ok (.bipush 8, 2) := by decide +kernel
theorem dX5_putHeader_4 : decode cX5_putHeader 4 = .ok (.ishr, 1) := by decide +kernel
theorem dX5_putHeader_5 : decode cX5_putHeader 5 = .ok (.sipush 255, 3) := by decide +kernel
theorem dX5_putHeader_8 : decode cX5_putHeader 8 = .ok (.iand, 1) := by decide +kernel
theorem dX5_putHeader_9 : decode cX5_putHeader 9 = .ok (.istore 5, 2) := by decide +kernel
theorem dX5_putHeader_11 : decode cX5_putHeader 11 = .ok (.iload 4, 2) := by decide +kernel
theorem dX5_putHeader_13 : decode cX5_putHeader 13 = .ok (.sipush 255, 3) := by decide +kernel
theorem dX5_putHeader_16 : decode cX5_putHeader 16 = .ok (.iand, 1) := by decide +kernel
theorem dX5_putHeader_17 : decode cX5_putHeader 17 = .ok (.istore 6, 2) := by decide +kernel
theorem dX5_putHeader_19 : decode cX5_putHeader 19 = .ok (.aload_n 0, 1) := by decide +kernel
theorem dX5_putHeader_20 : decode cX5_putHeader 20 = .ok (.iload_n 1, 1) := by decide +kernel
theorem dX5_putHeader_21 : decode cX5_putHeader 21 = .ok (.bipush 8, 2) := by decide +kernel
theorem dX5_putHeader_23 : decode cX5_putHeader 23 = .ok (.invokevirtual 58, 3) := by decide +kernel
theorem dX5_putHeader_26 : decode cX5_putHeader 26 = .ok (.aload_n 0, 1) := by decide +kernel
theorem dX5_putHeader_27 : decode cX5_putHeader 27 = .ok (.iload_n 1, 1) := by decide +kernel
theorem dX5_putHeader_28 : decode cX5_putHeader 28 = .ok (.bipush 10, 2) := by decide +kernel
theorem dX5_putHeader_30 : decode cX5_putHeader 30 = .ok (.iadd, 1) := by decide +kernel
theorem dX5_putHeader_31 : decode cX5_putHeader 31 = .ok (.iload_n 3, 1) := by decide +kernel
theorem dX5_putHeader_32 : decode cX5_putHeader 32 = .ok (.iload_n 2, 1) := by decide +kernel
theorem dX5_putHeader_33 : decode cX5_putHeader 33 = .ok (.ixor, 1) := by decide +kernel
theorem dX5_putHeader_34 : decode cX5_putHeader 34 = .ok (.iload 5, 2) := by decide +kernel
theorem dX5_putHeader_36 : decode cX5_putHeader 36 = .ok (.ixor, 1) := by decide +kernel
theorem dX5_putHeader_37 : decode cX5_putHeader 37 = .ok (.iload 6, 2) := by decide +kernel
theorem dX5_putHeader_39 : decode cX5_putHeader 39 = .ok (.ixor, 1) := by decide +kernel
theorem dX5_putHeader_40 : decode cX5_putHeader 40 = .ok (.invokevirtual 58, 3) := by decide +kernel
theorem dX5_putHeader_43 : decode cX5_putHeader 43 = .ok (.aload_n 0, 1) := by decide +kernel
theorem dX5_putHeader_44 : decode cX5_putHeader 44 = .ok (.iload_n 1, 1) := by decide +kernel
theorem dX5_putHeader_45 : decode cX5_putHeader 45 = .ok (.bipush 20, 2) := by decide +kernel
theorem dX5_putHeader_47 : decode cX5_putHeader 47 = .ok (.iadd, 1) := by decide +kernel
theorem dX5_putHeader_48 : decode cX5_putHeader 48 = .ok (.iload_n 3, 1) := by decide +kernel
theorem dX5_putHeader_49 : decode cX5_putHeader 49 = .ok (.invokevirtual 58, 3) := by decide +kernel
theorem dX5_putHeader_52 : decode cX5_putHeader 52 = .ok (.aload_n 0, 1) := by decide +kernel
theorem dX5_putHeader_53 : decode cX5_putHeader 53 = .ok (.iload_n 1, 1) := by decide +kernel
theorem dX5_putHeader_54 : decode cX5_putHeader 54 = .ok (.bipush 30, 2) := by decide +kernel
theorem dX5_putHeader_56 : decode cX5_putHeader 56 = .ok (.iadd, 1) := by decide +kernel
theorem dX5_putHeader_57 : decode cX5_putHeader 57 = .ok (.iload_n 2, 1) := by decide +kernel
theorem dX5_putHeader_58 : decode cX5_putHeader 58 = .ok (.invokevirtual 58, 3) := by decide +kernel
theorem dX5_putHeader_61 : decode cX5_putHeader 61 = .ok (.aload_n 0, 1) := by decide +kernel
theorem dX5_putHeader_62 : decode cX5_putHeader 62 = .ok (.iload_n 1, 1) := by decide +kernel
theorem dX5_putHeader_63 : decode cX5_putHeader 63 = .ok (.bipush 40, 2) := by decide +kernel
theorem dX5_putHeader_65 : decode cX5_putHeader 65 = .ok (.iadd, 1) := by decide +kernel
theorem dX5_putHeader_66 : decode cX5_putHeader 66 = .ok (.iload 5, 2) := by decide +kernel
theorem dX5_putHeader_68 : decode cX5_putHeader 68 = .ok (.invokevirtual 58, 3) := by decide +kernel
theorem dX5_putHeader_71 : decode cX5_putHeader 71 = .ok (.aload_n 0, 1) := by decide +kernel
theorem dX5_putHeader_72 : decode cX5_putHeader 72 = .ok (.iload_n 1, 1) := by decide +kernel
theorem dX5_putHeader_73 : decode cX5_putHeader 73 = .ok (.bipush 50, 2) := by decide +kernel
theorem dX5_putHeader_75 : decode cX5_putHeader 75 = .ok (.iadd, 1) := by decide +kernel
theorem dX5_putHeader_76 : decode cX5_putHeader 76 = .ok (.iload 6, 2) := by decide +kernel
theorem dX5_putHeader_78 : decode cX5_putHeader 78 = .ok (.invokevirtual 58, 3) := by decide +kernel
theorem dX5_putHeader_81 : decode cX5_putHeader 81 = .ok (.return_, 1) := by decide +kernel
theorem dX5_putData_0 : decode cX5_putData 0 = .ok (.iload_n 1, 1) := by decide +kernel
theorem dX5_putData_1 : decode cX5_putData 1 = .ok (.bipush 108, 2) := by decide +kernel
theorem dX5_putData_3 : decode cX5_putData 3 = .ok (.iadd, 1) := by decide +kernel
theorem dX5_putData_4 : decode cX5_putData 4 = .ok (.istore_n 3, 1) := by decide +kernel
theorem dX5_putData_5 : decode cX5_putData 5 = .ok (.aload_n 0, 1) := by decide +kernel
theorem dX5_putData_6 : decode cX5_putData 6 = .ok (.iload_n 3, 1) := by decide +kernel
theorem dX5_putData_7 : decode cX5_putData 7 = .ok (.invokevirtual 62, 3) := by decide +kernel
theorem dX5_putData_10 : decode cX5_putData 10 = .ok (.iinc 3 40, 3) := by decide +kernel
theorem dX5_putData_13 : decode cX5_putData 13 = .ok (.aload_n 0, 1) := by decide +kernel
theorem dX5_putData_14 : decode cX5_putData 14 = .ok (.iload_n 3, 1) := by decide +kernel
theorem dX5_putData_15 : decode cX5_putData 15 = .ok (.bipush 7, 2) := by decide +kernel
theorem dX5_putData_17 : decode cX5_putData 17 = .ok (.invokevirtual 58, 3) := by decide +kernel
theorem dX5_putData_20 : decode cX5_putData 20 = .ok (.iconst 0, 1) := by decide +kernel
theorem dX5_putData_21 : decode cX5_putData 21 = .ok (.istore 4, 2) := by decide +kernel
theorem dX5_putData_23 : decode cX5_putData 23 = .ok (.iconst 0, 1) := by decide +kernel
theorem dX5_putData_24 : decode cX5_putData 24 = .ok (.istore 5, 2) := by decide +kernel
theorem dX5_putData_26 : decode cX5_putData 26 = .ok (.iload 5, 2) := by decide +kernel
theorem dX5_putData_28 : decode cX5_putData 28 = .ok (.bipush 64, 2) := by decide +kernel
theorem dX5_putData_30 : decode cX5_putData 30 = .ok (.if_icmp .ge 37, 3) := by decide +kernel
theorem dX5_putData_33 : decode cX5_putData 33 = .ok (.iload 5, 2) := by decide +kernel
theorem dX5_putData_35 : decode cX5_putData 35 = .ok (.aload_n 2, 1) := by decide +kernel
theorem dX5_putData_36 : decode cX5_putData 36 = .ok (.arraylength, 1) := by decide +kernel
theorem dX5_putData_37 : decode cX5_putData 37 = .ok (.if_icmp .ge 30, 3) := by decide +kernel
theorem dX5_putData_40 : decode cX5_putData 40 = .ok (.iinc 3 10, 3) := by decide +kernel
theorem dX5_putData_43 : decode cX5_putData 43 = .ok (.aload_n 0, 1) := by decide +kernel
theorem dX5_putData_44 : decode cX5_putData 44 = .ok (.iload_n 3, 1) := by decide +kernel
theorem dX5_putData_45 : decode cX5_putData 45 = .ok (.aload_n 2, 1) := by decide +kernel
theorem dX5_putData_46 : decode cX5_putData 46 = .ok (.iload 5, 2) := by decide +kernel
theorem dX5_putData_48 : decode cX5_putData 48 = .ok (.iaload, 1) := by decide +kernel
theorem dX5_putData_49 : decode cX5_putData 49 = .ok (.invokevirtual 58, 3) := by decide +kernel
theorem dX5_putData_52 : decode cX5_putData 52 = .ok (.iload 4, 2) := by decide +kernel
theorem dX5_putData_54 : decode cX5_putData 54 = .ok (.aload_n 2, 1) := by decide +kernel
theorem dX5_putData_55 : decode cX5_putData 55 = .ok (.iload 5, 2) := by decide +kernel
theorem dX5_putData_57 : decode cX5_putData 57 = .ok (.iaload, 1) := by decide +kernel
theorem dX5_putData_58 : decode cX5_putData 58 = .ok (.ixor, 1) := by decide +kernel
theorem dX5_putData_59 : decode cX5_putData 59 = .ok (.istore 4, 2) := by decide +kernel
theorem dX5_putData_61 : decode cX5_putData 61 = .ok (.iinc 5 1, 3) := by decide +kernel
theorem dX5_putData_64 : decode cX5_putData 64 = .ok (.goto (-38), 3) := by decide +kernel
theorem dX5_putData_67 : decode cX5_putData 67 = .ok (.aload_n 0, 1) := by decide +kernel
theorem dX5_putData_68 : decode cX5_putData 68 = .ok (.iload_n 3, 1) := by decide +kernel
theorem dX5_putData_69 : decode cX5_putData 69 = .ok (.bipush 10, 2) := by decide +kernel
theorem dX5_putData_71 : decode cX5_putData 71 = .ok (.iadd, 1) := by decide +kernel
theorem dX5_putData_72 : decode cX5_putData 72 = .ok (.iload 4, 2) := by decide +kernel
theorem dX5_putData_74 : decode cX5_putData 74 = .ok (.invokevirtual 58, 3) := by decide +kernel
theorem dX5_putData_77 : decode cX5_putData 77 = .ok (.aload_n 0, 1) := by decide +kernel
theorem dX5_putData_78 : decode cX5_putData 78 = .ok (.iload_n 3, 1) := by decide +kernel
theorem dX5_putData_79 : decode cX5_putData 79 = .ok (.bipush 20, 2) := by decide +kernel
theorem dX5_putData_81 : decode cX5_putData 81 = .ok (.iadd, 1) := by decide +kernel
theorem dX5_putData_82 : decode cX5_putData 82 = .ok (.bipush 8, 2) := by decide +kernel
theorem dX5_putData_84 : decode cX5_putData 84 = .ok (.bipush 85, 2) := by decide +kernel
theorem dX5_putData_86 : decode cX5_putData 86 = .ok (.invokevirtual 42, 3) := by decide +kernel
theorem dX5_putData_89 : decode cX5_putData 89 = .ok (.return_, 1) := by decide +kernel
theorem dX5_takeData_0 : decode cX5_takeData 0 = .ok (.aload_n 0, 1) := by decide +kernel
theorem dX5_takeData_1 : decode cX5_takeData 1 = .ok (.iload_n 1, 1) := by decide +kernel
theorem dX5_takeData_2 : decode cX5_takeData 2 = .ok (.invokevirtual 66, 3) := by decide +kernel
theorem dX5_takeData_5 : decode cX5_takeData 5 = .ok (.bipush 7, 2) := by decide +kernel
theorem dX5_takeData_7 : decode cX5_takeData 7 = .ok (.if_icmp .eq 6, 3) := by decide +kernel
theorem dX5_takeData_10 : decode cX5_takeData 10 = .ok (.bipush 22, 2) := by decide +kernel
theorem dX5_takeData_12 : decode cX5_takeData 12 = .ok (.ireturn, 1) := by decide +kernel
theorem dX5_takeData_13 : decode cX5_takeData 13 = .ok (.iload_n 1, 1) := by decide +kernel
theorem dX5_takeData_14 : decode cX5_takeData 14 = .ok (.istore_n 3, 1) := by decide +kernel
theorem dX5_takeData_15 : decode cX5_takeData 15 = .ok (.iconst 0, 1) := by decide +kernel
theorem dX5_takeData_16 : decode cX5_takeData 16 = .ok (.istore 4, 2) := by decide +kernel
theorem dX5_takeData_18 : decode cX5_takeData 18 = .ok (.iconst 0, 1) := by decide +kernel
theorem dX5_takeData_19 : decode cX5_takeData 19 = .ok (.istore 5, 2) := by decide +kernel
theorem dX5_takeData_21 : decode cX5_takeData 21 = .ok (.iload 5, 2) := by decide +kernel
theorem dX5_takeData_23 : decode cX5_takeData 23 = .ok (.bipush 64, 2) := by decide +kernel
theorem dX5_takeData_25 : decode cX5_takeData 25 = .ok (.if_icmp .ge 48, 3) := by decide +kernel
theorem dX5_takeData_28 : decode cX5_takeData 28 = .ok (.iload 5, 2) := by decide +kernel
theorem dX5_takeData_30 : decode cX5_takeData 30 = .ok (.aload_n 2, 1) := by decide +kernel
theorem dX5_takeData_31 : decode cX5_takeData 31 = .ok (.arraylength, 1) := by decide +kernel
theorem dX5_takeData_32 : decode cX5_takeData 32 = .ok (.if_icmp .ge 41, 3) := by decide +kernel
theorem dX5_takeData_35 : decode cX5_takeData 35 = .ok (.iinc 3 10, 3) := by decide +kernel
theorem dX5_takeData_38 : decode cX5_takeData 38 = .ok (.aload_n 0, 1) := by decide +kernel
theorem dX5_takeData_39 : decode cX5_takeData 39 = .ok (.iload_n 3, 1) := by decide +kernel
theorem dX5_takeData_40 : decode cX5_takeData 40 = .ok (.invokevirtual 66, 3) := by decide +kernel
theorem dX5_takeData_43 : decode cX5_takeData 43 = .ok (.istore 6, 2) := by decide +kernel
theorem dX5_takeData_45 : decode cX5_takeData 45 = .ok (.iload 6, 2) := by decide +kernel
theorem dX5_takeData_47 : decode cX5_takeData 47 = .ok (.iconst (-1), 1) := by decide +kernel
theorem dX5_takeData_48 : decode cX5_takeData 48 = .ok (.if_icmp .ne 6, 3) := by decide +kernel
theorem dX5_takeData_51 : decode cX5_takeData 51 = .ok (.bipush 24, 2) := by decide +kernel
theorem dX5_takeData_53 : decode cX5_takeData 53 = .ok (.ireturn, 1) := by decide +kernel
theorem dX5_takeData_54 : decode cX5_takeData 54 = .ok (.aload_n 2, 1) := by decide +kernel
theorem dX5_takeData_55 : decode cX5_takeData 55 = .ok (.iload 5, 2) := by decide +kernel
theorem dX5_takeData_57 : decode cX5_takeData 57 = .ok (.iload 6, 2) := by decide +kernel
theorem dX5_takeData_59 : decode cX5_takeData 59 = .ok (.iastore, 1) := by decide +kernel
theorem dX5_takeData_60 : decode cX5_takeData 60 = .ok (.iload 4, 2) := by decide +kernel
theorem dX5_takeData_62 : decode cX5_takeData 62 = .ok (.iload 6, 2) := by decide +kernel
theorem dX5_takeData_64 : decode cX5_takeData 64 = .ok (.ixor, 1) := by decide +kernel
theorem dX5_takeData_65 : decode cX5_takeData 65 = .ok (.istore 4, 2) := by decide +kernel
theorem dX5_takeData_67 : decode cX5_takeData 67 = .ok (.iinc 5 1, 3) := by decide +kernel
theorem dX5_takeData_70 : decode cX5_takeData 70 = .ok (.goto (-49), 3) := by decide +kernel
theorem dX5_takeData_73 : decode cX5_takeData 73 = .ok (.aload_n 0, 1) := by decide +kernel
theorem dX5_takeData_74 : decode cX5_takeData 74 = .ok (.iload_n 3, 1) := by decide +kernel
theorem dX5_takeData_75 : decode cX5_takeData 75 = .ok (.bipush 10, 2) := by decide +kernel
theorem dX5_takeData_77 : decode cX5_takeData 77 = .ok (.iadd, 1) := by decide +kernel
theorem dX5_takeData_78 : decode cX5_takeData 78 = .ok (.invokevirtual 66, 3) := by decide +kernel
theorem dX5_takeData_81 : decode cX5_takeData 81 = .ok (.istore 5, 2) := by decide +kernel
theorem dX5_takeData_83 : decode cX5_takeData 83 = .ok (.iload 5, 2) := by decide +kernel
theorem dX5_takeData_85 : decode cX5_takeData 85 = .ok (.iconst (-1), 1) := by decide +kernel
theorem dX5_takeData_86 : decode cX5_takeData 86 = .ok (.if_icmp .ne 6, 3) := by decide +kernel
theorem dX5_takeData_89 : decode cX5_takeData 89 = .ok (.bipush 24, 2) := by decide +kernel
theorem dX5_takeData_91 : decode cX5_takeData 91 = .ok (.ireturn, 1) := by decide +kernel
theorem dX5_takeData_92 : decode cX5_takeData 92 = .ok (.iload 5, 2) := by decide +kernel
theorem dX5_takeData_94 : decode cX5_takeData 94 = .ok (.iload 4, 2) := by decide +kernel
theorem dX5_takeData_96 : decode cX5_takeData 96 = .ok (.if_icmp .ne 7, 3) := by decide +kernel
theorem dX5_takeData_99 : decode cX5_takeData 99 = .ok (.iconst 0, 1) := by decide +kernel
theorem dX5_takeData_100 : decode cX5_takeData 100 = .ok (.goto 5, 3) := by decide +kernel
theorem dX5_takeData_103 : decode cX5_takeData 103 = .ok (.bipush 23, 2) := by decide +kernel
theorem dX5_takeData_105 : decode cX5_takeData 105 = .ok (.ireturn, 1) := by decide +kernel
theorem dX6_init_0 : decode cX6_init 0 = .ok (.aload_n 0, 1) := by decide +kernel
theorem dX6_init_1 : decode cX6_init 1 = .ok (.invokespecial 1, 3) := by decide +kernel
theorem dX6_init_4 : decode cX6_init 4 = .ok (.return_, 1) := by decide +kernel
theorem dX6_tell_0 : decode cX6_tell 0 = .ok (.aload_n 0, 1) := by decide +kernel
theorem dX6_tell_1 : decode cX6_tell 1 = .ok (.iload_n 1, 1) := by decide +kernel
theorem dX6_tell_2 : decode cX6_tell 2 = .ok (.putfield 7, 3) := by decide +kernel
theorem dX6_tell_5 : decode cX6_tell 5 = .ok (.aload_n 0, 1) := by decide +kernel
theorem dX6_tell_6 : decode cX6_tell 6 = .ok (.iload_n 2, 1) := by decide +kernel
theorem dX6_tell_7 : decode cX6_tell 7 = .ok (.putfield 13, 3) := by decide +kernel
theorem dX6_tell_10 : decode cX6_tell 10 = .ok (.aload_n 0, 1) := by decide +kernel
theorem dX6_tell_11 : decode cX6_tell 11 = .ok (.iload_n 3, 1) := by decide +kernel
theorem dX6_tell_12 : decode cX6_tell 12 = .ok (.putfield 16, 3) := by decide +kernel
theorem dX6_tell_15 : decode cX6_tell 15 = .ok (.iload_n 1, 1) := by decide +kernel
theorem dX6_tell_16 : decode cX6_tell 16 = .ok (.ireturn, 1) := by decide +kernel
