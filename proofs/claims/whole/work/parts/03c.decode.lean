theorem dX7_init_0 : decode cX7_init 0 = .ok (.aload_n 0, 1) := by decide +kernel
theorem dX7_init_1 : decode cX7_init 1 = .ok (.invokespecial 3, 3) := by decide +kernel
theorem dX7_init_4 : decode cX7_init 4 = .ok (.aload_n 0, 1) := by decide +kernel
theorem dX7_init_5 : decode cX7_init 5 = .ok (.new 9, 3) := by decide +kernel
theorem dX7_init_8 : decode cX7_init 8 = .ok (.dup, 1) := by decide +kernel
theorem dX7_init_9 : decode cX7_init 9 = .ok (.invokespecial 11, 3) := by decide +kernel
theorem dX7_init_12 : decode cX7_init 12 = .ok (.putfield 12, 3) := by decide +kernel
theorem dX7_init_15 : decode cX7_init 15 = .ok (.aload_n 0, 1) := by decide +kernel
theorem dX7_init_16 : decode cX7_init 16 = .ok (.new 16, 3) := by decide +kernel
theorem dX7_init_19 : decode cX7_init 19 = .ok (.dup, 1) := by decide +kernel
theorem dX7_init_20 : decode cX7_init 20 = .ok (.aload_n 0, 1) := by decide +kernel
theorem dX7_init_21 : decode cX7_init 21 = .ok (.getfield 12, 3) := by decide +kernel
theorem dX7_init_24 : decode cX7_init 24 = .ok (.invokespecial 18, 3) := by decide +kernel
theorem dX7_init_27 : decode cX7_init 27 = .ok (.putfield 21, 3) := by decide +kernel
theorem dX7_init_30 : decode cX7_init 30 = .ok (.aload_n 0, 1) := by decide +kernel
theorem dX7_init_31 : decode cX7_init 31 = .ok (.new 25, 3) := by decide +kernel
theorem dX7_init_34 : decode cX7_init 34 = .ok (.dup, 1) := by decide +kernel
theorem dX7_init_35 : decode cX7_init 35 = .ok (.invokespecial 27, 3) := by decide +kernel
theorem dX7_init_38 : decode cX7_init 38 = .ok (.putfield 28, 3) := by decide +kernel
theorem dX7_init_41 : decode cX7_init 41 = .ok (.aload_n 0, 1) := by decide +kernel
theorem dX7_init_42 : decode cX7_init 42 = .ok (.new 32, 3) := by decide +kernel
theorem dX7_init_45 : decode cX7_init 45 = .ok (.dup, 1) := by decide +kernel
theorem dX7_init_46 : decode cX7_init 46 = .ok (.aload_n 0, 1) := by decide +kernel
theorem dX7_init_47 : decode cX7_init 47 = .ok (.getfield 21, 3) := by decide +kernel
theorem dX7_init_50 : decode cX7_init 50 = .ok (.aload_n 0, 1) := by decide +kernel
theorem dX7_init_51 : decode cX7_init 51 = .ok (.getfield 12, 3) := by decide +kernel
theorem dX7_init_54 : decode cX7_init 54 = .ok (.invokespecial 34, 3) := by decide +kernel
theorem dX7_init_57 : decode cX7_init 57 = .ok (.putfield 37, 3) := by decide +kernel
theorem dX7_init_60 : decode cX7_init 60 = .ok (.aload_n 0, 1) := by decide +kernel
theorem dX7_init_61 : decode cX7_init 61 = .ok (.new 41, 3) := by decide +kernel
theorem dX7_init_64 : decode cX7_init 64 = .ok (.dup, 1) := by decide +kernel
theorem dX7_init_65 : decode cX7_init 65 = .ok (.aload_n 0, 1) := by decide +kernel
theorem dX7_init_66 : decode cX7_init 66 = .ok (.getfield 21, 3) := by decide +kernel
theorem dX7_init_69 : decode cX7_init 69 = .ok (.aload_n 0, 1) := by decide +kernel
theorem dX7_init_70 : decode cX7_init 70 = .ok (.getfield 12, 3) := by decide +kernel
theorem dX7_init_73 : decode cX7_init 73 = .ok (.invokespecial 43, 3) := by decide +kernel
theorem dX7_init_76 : decode cX7_init 76 = .ok (.putfield 44, 3) := by decide +kernel
theorem dX7_init_79 : decode cX7_init 79 = .ok (.aload_n 0, 1) := by decide +kernel
theorem dX7_init_80 : decode cX7_init 80 = .ok (.new 48, 3) := by decide +kernel
theorem dX7_init_83 : decode cX7_init 83 = .ok (.dup, 1) := by decide +kernel
theorem dX7_init_84 : decode cX7_init 84 = .ok (.sipush 2480, 3) := by decide +kernel
theorem dX7_init_87 : decode cX7_init 87 = .ok (.invokespecial 50, 3) := by decide +kernel
theorem dX7_init_90 : decode cX7_init 90 = .ok (.putfield 53, 3) := by decide +kernel
theorem dX7_init_93 : decode cX7_init 93 = .ok (.aload_n 0, 1) := by decide +kernel
theorem dX7_init_94 : decode cX7_init 94 = .ok (.new 48, 3) := by decide +kernel
theorem dX7_init_97 : decode cX7_init 97 = .ok (.dup, 1) := by decide +kernel
theorem dX7_init_98 : decode cX7_init 98 = .ok (.sipush 2480, 3) := by decide +kernel
theorem dX7_init_101 : decode cX7_init 101 = .ok (.invokespecial 50, 3) := by decide +kernel
theorem dX7_init_104 : decode cX7_init 104 = .ok (.putfield 57, 3) := by decide +kernel
theorem dX7_init_107 : decode cX7_init 107 = .ok (.aload_n 0, 1) := by decide +kernel
theorem dX7_init_108 : decode cX7_init 108 = .ok (.new 48, 3) := by decide +kernel
theorem dX7_init_111 : decode cX7_init 111 = .ok (.dup, 1) := by decide +kernel
theorem dX7_init_112 : decode cX7_init 112 = .ok (.iconst 0, 1) := by decide +kernel
theorem dX7_init_113 : decode cX7_init 113 = .ok (.invokespecial 50, 3) := by decide +kernel
theorem dX7_init_116 : decode cX7_init 116 = .ok (.putfield 60, 3) := by decide +kernel
theorem dX7_init_119 : decode cX7_init 119 = .ok (.aload_n 0, 1) := by decide +kernel
theorem dX7_init_120 : decode cX7_init 120 = .ok (.bipush 64, 2) := by decide +kernel
theorem dX7_init_122 : decode cX7_init 122 = .ok (.newarray .int, 2) := by decide +kernel
theorem dX7_init_124 : decode cX7_init 124 = .ok (.putfield 63, 3) := by decide +kernel
theorem dX7_init_127 : decode cX7_init 127 = .ok (.aload_n 0, 1) := by decide +kernel
theorem dX7_init_128 : decode cX7_init 128 = .ok (.iconst 1, 1) := by decide +kernel
theorem dX7_init_129 : decode cX7_init 129 = .ok (.invokestatic 67, 3) := by decide +kernel
theorem dX7_init_132 : decode cX7_init 132 = .ok (.newarray .int, 2) := by decide +kernel
theorem dX7_init_134 : decode cX7_init 134 = .ok (.putfield 73, 3) := by decide +kernel
theorem dX7_init_137 : decode cX7_init 137 = .ok (.return_, 1) := by decide +kernel
theorem dX7_feed_0 : decode cX7_feed 0 = .ok (.aload_n 0, 1) := by decide +kernel
theorem dX7_feed_1 : decode cX7_feed 1 = .ok (.getfield 53, 3) := by decide +kernel
theorem dX7_feed_4 : decode cX7_feed 4 = .ok (.getfield 76, 3) := by decide +kernel
theorem dX7_feed_7 : decode cX7_feed 7 = .ok (.bipush 20, 2) := by decide +kernel
theorem dX7_feed_9 : decode cX7_feed 9 = .ok (.iadd, 1) := by decide +kernel
theorem dX7_feed_10 : decode cX7_feed 10 = .ok (.sipush 2480, 3) := by decide +kernel
theorem dX7_feed_13 : decode cX7_feed 13 = .ok (.if_icmp .le 5, 3) := by decide +kernel
theorem dX7_feed_16 : decode cX7_feed 16 = .ok (.iconst (-1), 1) := by decide +kernel
theorem dX7_feed_17 : decode cX7_feed 17 = .ok (.ireturn, 1) := by decide +kernel
theorem dX7_feed_18 : decode cX7_feed 18 = .ok (.aload_n 0, 1) := by decide +kernel
theorem dX7_feed_19 : decode cX7_feed 19 = .ok (.getfield 53, 3) := by decide +kernel
theorem dX7_feed_22 : decode cX7_feed 22 = .ok (.iload_n 1, 1) := by decide +kernel
theorem dX7_feed_23 : decode cX7_feed 23 = .ok (.invokevirtual 80, 3) := by decide +kernel
theorem dX7_feed_26 : decode cX7_feed 26 = .ok (.aload_n 0, 1) := by decide +kernel
theorem dX7_feed_27 : decode cX7_feed 27 = .ok (.getfield 53, 3) := by decide +kernel
theorem dX7_feed_30 : decode cX7_feed 30 = .ok (.iload_n 2, 1) := by decide +kernel
theorem dX7_feed_31 : decode cX7_feed 31 = .ok (.invokevirtual 80, 3) := by decide +kernel
theorem dX7_feed_34 : decode cX7_feed 34 = .ok (.aload_n 0, 1) := by decide +kernel
theorem dX7_feed_35 : decode cX7_feed 35 = .ok (.getfield 53, 3) := by decide +kernel
theorem dX7_feed_38 : decode cX7_feed 38 = .ok (.iload_n 3, 1) := by decide +kernel
theorem dX7_feed_39 : decode cX7_feed 39 = .ok (.invokevirtual 80, 3) := by decide +kernel
theorem dX7_feed_42 : decode cX7_feed 42 = .ok (.aload_n 0, 1) := by decide +kernel
theorem dX7_feed_43 : decode cX7_feed 43 = .ok (.getfield 53, 3) := by decide +kernel
theorem dX7_feed_46 : decode cX7_feed 46 = .ok (.iload 4, 2) := by decide +kernel
theorem dX7_feed_48 : decode cX7_feed 48 = .ok (.invokevirtual 80, 3) := by decide +kernel
theorem dX7_feed_51 : decode cX7_feed 51 = .ok (.aload_n 0, 1) := by decide +kernel
theorem dX7_feed_52 : decode cX7_feed 52 = .ok (.getfield 53, 3) := by decide +kernel
theorem dX7_feed_55 : decode cX7_feed 55 = .ok (.iload 5, 2) := by decide +kernel
theorem dX7_feed_57 : decode cX7_feed 57 = .ok (.invokevirtual 80, 3) := by decide +kernel
theorem dX7_feed_60 : decode cX7_feed 60 = .ok (.aload_n 0, 1) := by decide +kernel
theorem dX7_feed_61 : decode cX7_feed 61 = .ok (.getfield 53, 3) := by decide +kernel
theorem dX7_feed_64 : decode cX7_feed 64 = .ok (.getfield 76, 3) := by decide +kernel
theorem dX7_feed_67 : decode cX7_feed 67 = .ok (.ireturn, 1) := by decide +kernel
theorem dX7_end_0 : decode cX7_end 0 = .ok (.iload_n 1, 1) := by decide +kernel
theorem dX7_end_1 : decode cX7_end 1 = .ok (.ifCond .lt 14, 3) := by decide +kernel
theorem dX7_end_4 : decode cX7_end 4 = .ok (.iload_n 1, 1) := by decide +kernel
theorem dX7_end_5 : decode cX7_end 5 = .ok (.aload_n 0, 1) := by decide +kernel
theorem dX7_end_6 : decode cX7_end 6 = .ok (.getfield 53, 3) := by decide +kernel
theorem dX7_end_9 : decode cX7_end 9 = .ok (.getfield 76, 3) := by decide +kernel
theorem dX7_end_12 : decode cX7_end 12 = .ok (.if_icmp .le 5, 3) := by decide +kernel
theorem dX7_end_15 : decode cX7_end 15 = .ok (.iconst (-1), 1) := by decide +kernel
theorem dX7_end_16 : decode cX7_end 16 = .ok (.ireturn, 1) := by decide +kernel
theorem dX7_end_17 : decode cX7_end 17 = .ok (.aload_n 0, 1) := by decide +kernel
theorem dX7_end_18 : decode cX7_end 18 = .ok (.getfield 53, 3) := by decide +kernel
theorem dX7_end_21 : decode cX7_end 21 = .ok (.iload_n 1, 1) := by decide +kernel
theorem dX7_end_22 : decode cX7_end 22 = .ok (.putfield 76, 3) := by decide +kernel
theorem dX7_end_25 : decode cX7_end 25 = .ok (.iload_n 1, 1) := by decide +kernel
theorem dX7_end_26 : decode cX7_end 26 = .ok (.ireturn, 1) := by decide +kernel
theorem dX7_format_0 : decode cX7_format 0 = .ok (.aload_n 0, 1) := by decide +kernel
theorem dX7_format_1 : decode cX7_format 1 = .ok (.getfield 21, 3) := by decide +kernel
theorem dX7_format_4 : decode cX7_format 4 = .ok (.iload_n 1, 1) := by decide +kernel
theorem dX7_format_5 : decode cX7_format 5 = .ok (.ldc 83, 2) := by decide +kernel
theorem dX7_format_7 : decode cX7_format 7 = .ok (.iand, 1) := by decide +kernel
theorem dX7_format_8 : decode cX7_format 8 = .ok (.putfield 84, 3) := by decide +kernel
theorem dX7_format_11 : decode cX7_format 11 = .ok (.aload_n 0, 1) := by decide +kernel
theorem dX7_format_12 : decode cX7_format 12 = .ok (.getfield 21, 3) := by decide +kernel
theorem dX7_format_15 : decode cX7_format 15 = .ok (.invokevirtual 87, 3) := by decide +kernel
theorem dX7_format_18 : decode cX7_format 18 = .ok (.aload_n 0, 1) := by decide +kernel
theorem dX7_format_19 : decode cX7_format 19 = .ok (.getfield 28, 3) := by decide +kernel
theorem dX7_format_22 : decode cX7_format 22 = .ok (.aload_n 0, 1) := by decide +kernel
theorem dX7_format_23 : decode cX7_format 23 = .ok (.getfield 21, 3) := by decide +kernel
theorem dX7_format_26 : decode cX7_format 26 = .ok (.getfield 84, 3) := by decide +kernel
theorem dX7_format_29 : decode cX7_format 29 = .ok (.iload_n 2, 1) := by decide +kernel
theorem dX7_format_30 : decode cX7_format 30 = .ok (.iload_n 3, 1) := by decide +kernel
theorem dX7_format_31 : decode cX7_format 31 = .ok (.invokevirtual 90, 3) := by decide +kernel
theorem dX7_format_34 : decode cX7_format 34 = .ok (.aload_n 0, 1) := by decide +kernel
theorem dX7_format_35 : decode cX7_format 35 = .ok (.getfield 21, 3) := by decide +kernel
theorem dX7_format_38 : decode cX7_format 38 = .ok (.bipush 9, 2) := by decide +kernel
theorem dX7_format_40 : decode cX7_format 40 = .ok (.iconst 0, 1) := by decide +kernel
theorem dX7_format_41 : decode cX7_format 41 = .ok (.aload_n 0, 1) := by decide +kernel
theorem dX7_format_42 : decode cX7_format 42 = .ok (.getfield 28, 3) := by decide +kernel
theorem dX7_format_45 : decode cX7_format 45 = .ok (.getfield 94, 3) := by decide +kernel
theorem dX7_format_48 : decode cX7_format 48 = .ok (.invokevirtual 97, 3) := by decide +kernel
theorem dX7_format_51 : decode cX7_format 51 = .ok (.aload_n 0, 1) := by decide +kernel
theorem dX7_format_52 : decode cX7_format 52 = .ok (.getfield 12, 3) := by decide +kernel
theorem dX7_format_55 : decode cX7_format 55 = .ok (.iconst 0, 1) := by decide +kernel
theorem dX7_format_56 : decode cX7_format 56 = .ok (.iconst 0, 1) := by decide +kernel
theorem dX7_format_57 : decode cX7_format 57 = .ok (.iconst 0, 1) := by decide +kernel
theorem dX7_format_58 : decode cX7_format 58 = .ok (.invokevirtual 101, 3) := by decide +kernel
theorem dX7_format_61 : decode cX7_format 61 = .ok (.ireturn, 1) := by decide +kernel
theorem dX7_mount_0 : decode cX7_mount 0 = .ok (.aload_n 0, 1) := by decide +kernel
theorem dX7_mount_1 : decode cX7_mount 1 = .ok (.getfield 21, 3) := by decide +kernel
theorem dX7_mount_4 : decode cX7_mount 4 = .ok (.iload_n 1, 1) := by decide +kernel
theorem dX7_mount_5 : decode cX7_mount 5 = .ok (.ldc 83, 2) := by decide +kernel
theorem dX7_mount_7 : decode cX7_mount 7 = .ok (.iand, 1) := by decide +kernel
theorem dX7_mount_8 : decode cX7_mount 8 = .ok (.putfield 84, 3) := by decide +kernel
theorem dX7_mount_11 : decode cX7_mount 11 = .ok (.aload_n 0, 1) := by decide +kernel
theorem dX7_mount_12 : decode cX7_mount 12 = .ok (.getfield 12, 3) := by decide +kernel
theorem dX7_mount_15 : decode cX7_mount 15 = .ok (.iconst 0, 1) := by decide +kernel
theorem dX7_mount_16 : decode cX7_mount 16 = .ok (.iconst 0, 1) := by decide +kernel
theorem dX7_mount_17 : decode cX7_mount 17 = .ok (.iconst 0, 1) := by decide +kernel
theorem dX7_mount_18 : decode cX7_mount 18 = .ok (.invokevirtual 101, 3) := by decide +kernel
theorem dX7_mount_21 : decode cX7_mount 21 = .ok (.ireturn, 1) := by decide +kernel
theorem dX7_save_0 : decode cX7_save 0 = .ok (.iload_n 1, 1) := by decide +kernel
theorem dX7_save_1 : decode cX7_save 1 = .ok (.iconst 1, 1) := by decide +kernel
theorem dX7_save_2 : decode cX7_save 2 = .ok (.if_icmp .lt 17, 3) := by decide +kernel
theorem dX7_save_5 : decode cX7_save 5 = .ok (.iload_n 1, 1) := by decide +kernel
theorem dX7_save_6 : decode cX7_save 6 = .ok (.bipush 9, 2) := by decide +kernel
theorem dX7_save_8 : decode cX7_save 8 = .ok (.if_icmp .gt 11, 3) := by decide +kernel
theorem dX7_save_11 : decode cX7_save 11 = .ok (.iload_n 2, 1) := by decide +kernel
theorem dX7_save_12 : decode cX7_save 12 = .ok (.ifCond .ne 17, 3) := by decide +kernel
theorem dX7_save_15 : decode cX7_save 15 = .ok (.iload_n 3, 1) := by decide +kernel
theorem dX7_save_16 : decode cX7_save 16 = .ok (.ifCond .ne 13, 3) := by decide +kernel
theorem dX7_save_19 : decode cX7_save 19 = .ok (.aload_n 0, 1) := by decide +kernel
theorem dX7_save_20 : decode cX7_save 20 = .ok (.getfield 53, 3) := by decide +kernel
theorem dX7_save_23 : decode cX7_save 23 = .ok (.iconst 0, 1) := by decide +kernel
theorem dX7_save_24 : decode cX7_save 24 = .ok (.putfield 76, 3) := by decide +kernel
theorem dX7_save_27 : decode cX7_save 27 = .ok (.iconst (-1), 1) := by decide +kernel
theorem dX7_save_28 : decode cX7_save 28 = .ok (.ireturn, 1) := by decide +kernel
theorem dX7_save_29 : decode cX7_save 29 = .ok (.aload_n 0, 1) := by decide +kernel
theorem dX7_save_30 : decode cX7_save 30 = .ok (.iload_n 2, 1) := by decide +kernel
theorem dX7_save_31 : decode cX7_save 31 = .ok (.iload_n 3, 1) := by decide +kernel
theorem dX7_save_32 : decode cX7_save 32 = .ok (.invokevirtual 105, 3) := by decide +kernel
theorem dX7_save_35 : decode cX7_save 35 = .ok (.istore 4, 2) := by decide +kernel
theorem dX7_save_37 : decode cX7_save 37 = .ok (.iload 4, 2) := by decide +kernel
theorem dX7_save_39 : decode cX7_save 39 = .ok (.ifCond .ne 39, 3) := by decide +kernel
theorem dX7_save_42 : decode cX7_save 42 = .ok (.aload_n 0, 1) := by decide +kernel
theorem dX7_save_43 : decode cX7_save 43 = .ok (.getfield 37, 3) := by decide +kernel
theorem dX7_save_46 : decode cX7_save 46 = .ok (.getfield 109, 3) := by decide +kernel
theorem dX7_save_49 : decode cX7_save 49 = .ok (.iconst (-1), 1) := by decide +kernel
theorem dX7_save_50 : decode cX7_save 50 = .ok (.if_icmp .eq 28, 3) := by decide +kernel
theorem dX7_save_53 : decode cX7_save 53 = .ok (.aload_n 0, 1) := by decide +kernel
theorem dX7_save_54 : decode cX7_save 54 = .ok (.getfield 12, 3) := by decide +kernel
theorem dX7_save_57 : decode cX7_save 57 = .ok (.bipush 63, 2) := by decide +kernel
theorem dX7_save_59 : decode cX7_save 59 = .ok (.aload_n 0, 1) := by decide +kernel
theorem dX7_save_60 : decode cX7_save 60 = .ok (.getfield 37, 3) := by decide +kernel
theorem dX7_save_63 : decode cX7_save 63 = .ok (.getfield 112, 3) := by decide +kernel
theorem dX7_save_66 : decode cX7_save 66 = .ok (.aload_n 0, 1) := by decide +kernel
theorem dX7_save_67 : decode cX7_save 67 = .ok (.getfield 37, 3) := by decide +kernel
theorem dX7_save_70 : decode cX7_save 70 = .ok (.getfield 115, 3) := by decide +kernel
theorem dX7_save_73 : decode cX7_save 73 = .ok (.invokevirtual 101, 3) := by decide +kernel
theorem dX7_save_76 : decode cX7_save 76 = .ok (.istore 4, 2) := by decide +kernel
theorem dX7_save_78 : decode cX7_save 78 = .ok (.iload 4, 2) := by decide +kernel
theorem dX7_save_80 : decode cX7_save 80 = .ok (.ifCond .ne 23, 3) := by decide +kernel
theorem dX7_save_83 : decode cX7_save 83 = .ok (.aload_n 0, 1) := by decide +kernel
theorem dX7_save_84 : decode cX7_save 84 = .ok (.invokevirtual 118, 3) := by decide +kernel
theorem dX7_save_87 : decode cX7_save 87 = .ok (.ifCond .ne 16, 3) := by decide +kernel
theorem dX7_save_90 : decode cX7_save 90 = .ok (.aload_n 0, 1) := by decide +kernel
theorem dX7_save_91 : decode cX7_save 91 = .ok (.getfield 12, 3) := by decide +kernel
theorem dX7_save_94 : decode cX7_save 94 = .ok (.bipush 72, 2) := by decide +kernel
theorem dX7_save_96 : decode cX7_save 96 = .ok (.iconst 0, 1) := by decide +kernel
theorem dX7_save_97 : decode cX7_save 97 = .ok (.iconst 0, 1) := by decide +kernel
theorem dX7_save_98 : decode cX7_save 98 = .ok (.invokevirtual 101, 3) := by decide +kernel
theorem dX7_save_101 : decode cX7_save 101 = .ok (.istore 4, 2) := by decide +kernel
theorem dX7_save_103 : decode cX7_save 103 = .ok (.iload 4, 2) := by decide +kernel
theorem dX7_save_105 : decode cX7_save 105 = .ok (.ifCond .ne 16, 3) := by decide +kernel
theorem dX7_save_108 : decode cX7_save 108 = .ok (.aload_n 0, 1) := by decide +kernel
theorem dX7_save_109 : decode cX7_save 109 = .ok (.getfield 44, 3) := by decide +kernel
theorem dX7_save_112 : decode cX7_save 112 = .ok (.aload_n 0, 1) := by decide +kernel
theorem dX7_save_113 : decode cX7_save 113 = .ok (.getfield 53, 3) := by decide +kernel
theorem dX7_save_116 : decode cX7_save 116 = .ok (.invokevirtual 122, 3) := by decide +kernel
theorem dX7_save_119 : decode cX7_save 119 = .ok (.istore 4, 2) := by decide +kernel
theorem dX7_save_121 : decode cX7_save 121 = .ok (.iload 4, 2) := by decide +kernel
theorem dX7_save_123 : decode cX7_save 123 = .ok (.ifCond .ne 12, 3) := by decide +kernel
theorem dX7_save_126 : decode cX7_save 126 = .ok (.aload_n 0, 1) := by decide +kernel
theorem dX7_save_127 : decode cX7_save 127 = .ok (.iload_n 1, 1) := by decide +kernel
theorem dX7_save_128 : decode cX7_save 128 = .ok (.iload_n 2, 1) := by decide +kernel
theorem dX7_save_129 : decode cX7_save 129 = .ok (.iload_n 3, 1) := by decide +kernel
theorem dX7_save_130 : decode cX7_save 130 = .ok (.invokevirtual 126, 3) := by decide +kernel
theorem dX7_save_133 : decode cX7_save 133 = .ok (.istore 4, 2) := by decide +kernel
theorem dX7_save_135 : decode cX7_save 135 = .ok (.iload 4, 2) := by decide +kernel
theorem dX7_save_137 : decode cX7_save 137 = .ok (.ifCond .ne 22, 3) := by decide +kernel
theorem dX7_save_140 : decode cX7_save 140 = .ok (.aload_n 0, 1) := by decide +kernel
theorem dX7_save_141 : decode cX7_save 141 = .ok (.getfield 21, 3) := by decide +kernel
theorem dX7_save_144 : decode cX7_save 144 = .ok (.bipush 9, 2) := by decide +kernel
theorem dX7_save_146 : decode cX7_save 146 = .ok (.iconst 0, 1) := by decide +kernel
theorem dX7_save_147 : decode cX7_save 147 = .ok (.aload_n 0, 1) := by decide +kernel
theorem dX7_save_148 : decode cX7_save 148 = .ok (.getfield 28, 3) := by decide +kernel
theorem dX7_save_151 : decode cX7_save 151 = .ok (.getfield 94, 3) := by decide +kernel
theorem dX7_save_154 : decode cX7_save 154 = .ok (.invokevirtual 129, 3) := by decide +kernel
theorem dX7_save_157 : decode cX7_save 157 = .ok (.istore 4, 2) := by decide +kernel
theorem dX7_save_159 : decode cX7_save 159 = .ok (.aload_n 0, 1) := by decide +kernel
theorem dX7_save_160 : decode cX7_save 160 = .ok (.getfield 53, 3) := by decide +kernel
theorem dX7_save_163 : decode cX7_save 163 = .ok (.iconst 0, 1) := by decide +kernel
theorem dX7_save_164 : decode cX7_save 164 = .ok (.putfield 76, 3) := by decide +kernel
theorem dX7_save_167 : decode cX7_save 167 = .ok (.iload 4, 2) := by decide +kernel
theorem dX7_save_169 : decode cX7_save 169 = .ok (.ireturn, 1) := by decide +kernel
theorem dX7_load_0 : decode cX7_load 0 = .ok (.aload_n 0, 1) := by decide +kernel
theorem dX7_load_1 : decode cX7_load 1 = .ok (.getfield 57, 3) := by decide +kernel
theorem dX7_load_4 : decode cX7_load 4 = .ok (.iconst 0, 1) := by decide +kernel
theorem dX7_load_5 : decode cX7_load 5 = .ok (.putfield 76, 3) := by decide +kernel
theorem dX7_load_8 : decode cX7_load 8 = .ok (.aload_n 0, 1) := by decide +kernel
theorem dX7_load_9 : decode cX7_load 9 = .ok (.iload_n 1, 1) := by decide +kernel
theorem dX7_load_10 : decode cX7_load 10 = .ok (.iload_n 2, 1) := by decide +kernel
theorem dX7_load_11 : decode cX7_load 11 = .ok (.invokevirtual 105, 3) := by decide +kernel
theorem dX7_load_14 : decode cX7_load 14 = .ok (.istore_n 3, 1) := by decide +kernel
theorem dX7_load_15 : decode cX7_load 15 = .ok (.iload_n 3, 1) := by decide +kernel
theorem dX7_load_16 : decode cX7_load 16 = .ok (.ifCond .ne 19, 3) := by decide +kernel
theorem dX7_load_19 : decode cX7_load 19 = .ok (.aload_n 0, 1) := by decide +kernel
theorem dX7_load_20 : decode cX7_load 20 = .ok (.getfield 44, 3) := by decide +kernel
theorem dX7_load_23 : decode cX7_load 23 = .ok (.aload_n 0, 1) := by decide +kernel
theorem dX7_load_24 : decode cX7_load 24 = .ok (.getfield 37, 3) := by decide +kernel
theorem dX7_load_27 : decode cX7_load 27 = .ok (.aload_n 0, 1) := by decide +kernel
theorem dX7_load_28 : decode cX7_load 28 = .ok (.getfield 57, 3) := by decide +kernel
theorem dX7_load_31 : decode cX7_load 31 = .ok (.invokevirtual 132, 3) := by decide +kernel
theorem dX7_load_34 : decode cX7_load 34 = .ok (.istore_n 3, 1) := by decide +kernel
theorem dX7_load_35 : decode cX7_load 35 = .ok (.aload_n 0, 1) := by decide +kernel
theorem dX7_load_36 : decode cX7_load 36 = .ok (.iload_n 3, 1) := by decide +kernel
theorem dX7_load_37 : decode cX7_load 37 = .ok (.invokevirtual 136, 3) := by decide +kernel
theorem dX7_load_40 : decode cX7_load 40 = .ok (.ireturn, 1) := by decide +kernel
theorem dX7_scratch_0 : decode cX7_scratch 0 = .ok (.aload_n 0, 1) := by decide +kernel
theorem dX7_scratch_1 : decode cX7_scratch 1 = .ok (.iload_n 1, 1) := by decide +kernel
theorem dX7_scratch_2 : decode cX7_scratch 2 = .ok (.iload_n 2, 1) := by decide +kernel
theorem dX7_scratch_3 : decode cX7_scratch 3 = .ok (.invokevirtual 105, 3) := by decide +kernel
theorem dX7_scratch_6 : decode cX7_scratch 6 = .ok (.istore_n 3, 1) := by decide +kernel
theorem dX7_scratch_7 : decode cX7_scratch 7 = .ok (.iload_n 3, 1) := by decide +kernel
theorem dX7_scratch_8 : decode cX7_scratch 8 = .ok (.ifCond .ne 19, 3) := by decide +kernel
theorem dX7_scratch_11 : decode cX7_scratch 11 = .ok (.aload_n 0, 1) := by decide +kernel
theorem dX7_scratch_12 : decode cX7_scratch 12 = .ok (.getfield 44, 3) := by decide +kernel
theorem dX7_scratch_15 : decode cX7_scratch 15 = .ok (.aload_n 0, 1) := by decide +kernel
theorem dX7_scratch_16 : decode cX7_scratch 16 = .ok (.getfield 37, 3) := by decide +kernel
theorem dX7_scratch_19 : decode cX7_scratch 19 = .ok (.aload_n 0, 1) := by decide +kernel
theorem dX7_scratch_20 : decode cX7_scratch 20 = .ok (.getfield 60, 3) := by decide +kernel
theorem dX7_scratch_23 : decode cX7_scratch 23 = .ok (.invokevirtual 132, 3) := by decide +kernel
theorem dX7_scratch_26 : decode cX7_scratch 26 = .ok (.istore_n 3, 1) := by decide +kernel
theorem dX7_scratch_27 : decode cX7_scratch 27 = .ok (.iload_n 3, 1) := by decide +kernel
theorem dX7_scratch_28 : decode cX7_scratch 28 = .ok (.ifCond .ne 11, 3) := by decide +kernel
theorem dX7_scratch_31 : decode cX7_scratch 31 = .ok (.aload_n 0, 1) := by decide +kernel
theorem dX7_scratch_32 : decode cX7_scratch 32 = .ok (.getfield 37, 3) := by decide +kernel
theorem dX7_scratch_35 : decode cX7_scratch 35 = .ok (.invokevirtual 139, 3) := by decide +kernel
theorem dX7_scratch_38 : decode cX7_scratch 38 = .ok (.istore_n 3, 1) := by decide +kernel
theorem dX7_scratch_39 : decode cX7_scratch 39 = .ok (.iload_n 3, 1) := by decide +kernel
theorem dX7_scratch_40 : decode cX7_scratch 40 = .ok (.ifCond .ne 32, 3) := by decide +kernel
theorem dX7_scratch_43 : decode cX7_scratch 43 = .ok (.aload_n 0, 1) := by decide +kernel
theorem dX7_scratch_44 : decode cX7_scratch 44 = .ok (.getfield 44, 3) := by decide +kernel
theorem dX7_scratch_47 : decode cX7_scratch 47 = .ok (.aload_n 0, 1) := by decide +kernel
theorem dX7_scratch_48 : decode cX7_scratch 48 = .ok (.getfield 28, 3) := by decide +kernel
theorem dX7_scratch_51 : decode cX7_scratch 51 = .ok (.invokevirtual 143, 3) := by decide +kernel
theorem dX7_scratch_54 : decode cX7_scratch 54 = .ok (.aload_n 0, 1) := by decide +kernel
theorem dX7_scratch_55 : decode cX7_scratch 55 = .ok (.getfield 21, 3) := by decide +kernel
theorem dX7_scratch_58 : decode cX7_scratch 58 = .ok (.bipush 9, 2) := by decide +kernel
theorem dX7_scratch_60 : decode cX7_scratch 60 = .ok (.iconst 0, 1) := by decide +kernel
theorem dX7_scratch_61 : decode cX7_scratch 61 = .ok (.aload_n 0, 1) := by decide +kernel
theorem dX7_scratch_62 : decode cX7_scratch 62 = .ok (.getfield 28, 3) := by decide +kernel
theorem dX7_scratch_65 : decode cX7_scratch 65 = .ok (.getfield 94, 3) := by decide +kernel
theorem dX7_scratch_68 : decode cX7_scratch 68 = .ok (.invokevirtual 129, 3) := by decide +kernel
theorem dX7_scratch_71 : decode cX7_scratch 71 = .ok (.istore_n 3, 1) := by decide +kernel
theorem dX7_scratch_72 : decode cX7_scratch 72 = .ok (.iload_n 3, 1) := by decide +kernel
theorem dX7_scratch_73 : decode cX7_scratch 73 = .ok (.ifCond .ne 22, 3) := by decide +kernel
theorem dX7_scratch_76 : decode cX7_scratch 76 = .ok (.aload_n 0, 1) := by decide +kernel
theorem dX7_scratch_77 : decode cX7_scratch 77 = .ok (.getfield 12, 3) := by decide +kernel
theorem dX7_scratch_80 : decode cX7_scratch 80 = .ok (.iconst 1, 1) := by decide +kernel
theorem dX7_scratch_81 : decode cX7_scratch 81 = .ok (.aload_n 0, 1) := by decide +kernel
theorem dX7_scratch_82 : decode cX7_scratch 82 = .ok (.getfield 44, 3) := by decide +kernel
theorem dX7_scratch_85 : decode cX7_scratch 85 = .ok (.getfield 147, 3) := by decide +kernel
theorem dX7_scratch_88 : decode cX7_scratch 88 = .ok (.iconst 0, 1) := by decide +kernel
theorem dX7_scratch_89 : decode cX7_scratch 89 = .ok (.invokevirtual 101, 3) := by decide +kernel
theorem dX7_scratch_92 : decode cX7_scratch 92 = .ok (.goto 4, 3) := by decide +kernel
theorem dX7_scratch_95 : decode cX7_scratch 95 = .ok (.iload_n 3, 1) := by decide +kernel
theorem dX7_scratch_96 : decode cX7_scratch 96 = .ok (.ireturn, 1) := by decide +kernel
theorem dX7_list_0 : decode cX7_list 0 = .ok (.aload_n 0, 1) := by decide +kernel
theorem dX7_list_1 : decode cX7_list 1 = .ok (.getfield 57, 3) := by decide +kernel
theorem dX7_list_4 : decode cX7_list 4 = .ok (.iconst 0, 1) := by decide +kernel
theorem dX7_list_5 : decode cX7_list 5 = .ok (.putfield 76, 3) := by decide +kernel
theorem dX7_list_8 : decode cX7_list 8 = .ok (.aload_n 0, 1) := by decide +kernel
theorem dX7_list_9 : decode cX7_list 9 = .ok (.invokevirtual 148, 3) := by decide +kernel
theorem dX7_list_12 : decode cX7_list 12 = .ok (.istore_n 1, 1) := by decide +kernel
theorem dX7_list_13 : decode cX7_list 13 = .ok (.iload_n 1, 1) := by decide +kernel
theorem dX7_list_14 : decode cX7_list 14 = .ok (.ifCond .ne 11, 3) := by decide +kernel
theorem dX7_list_17 : decode cX7_list 17 = .ok (.aload_n 0, 1) := by decide +kernel
theorem dX7_list_18 : decode cX7_list 18 = .ok (.getfield 37, 3) := by decide +kernel
theorem dX7_list_21 : decode cX7_list 21 = .ok (.invokevirtual 151, 3) := by decide +kernel
theorem dX7_list_24 : decode cX7_list 24 = .ok (.istore_n 1, 1) := by decide +kernel
theorem dX7_list_25 : decode cX7_list 25 = .ok (.iconst 0, 1) := by decide +kernel
theorem dX7_list_26 : decode cX7_list 26 = .ok (.istore_n 2, 1) := by decide +kernel
theorem dX7_list_27 : decode cX7_list 27 = .ok (.iload_n 2, 1) := by decide +kernel
theorem dX7_list_28 : decode cX7_list 28 = .ok (.bipush 7, 2) := by decide +kernel
theorem dX7_list_30 : decode cX7_list 30 = .ok (.if_icmp .ge 45, 3) := by decide +kernel
theorem dX7_list_33 : decode cX7_list 33 = .ok (.iload_n 1, 1) := by decide +kernel
theorem dX7_list_34 : decode cX7_list 34 = .ok (.ifCond .ne 41, 3) := by decide +kernel
theorem dX7_list_37 : decode cX7_list 37 = .ok (.aload_n 0, 1) := by decide +kernel
theorem dX7_list_38 : decode cX7_list 38 = .ok (.getfield 37, 3) := by decide +kernel
theorem dX7_list_41 : decode cX7_list 41 = .ok (.aload_n 0, 1) := by decide +kernel
theorem dX7_list_42 : decode cX7_list 42 = .ok (.getfield 57, 3) := by decide +kernel
theorem dX7_list_45 : decode cX7_list 45 = .ok (.invokevirtual 154, 3) := by decide +kernel
theorem dX7_list_48 : decode cX7_list 48 = .ok (.aload_n 0, 1) := by decide +kernel
theorem dX7_list_49 : decode cX7_list 49 = .ok (.getfield 37, 3) := by decide +kernel
theorem dX7_list_52 : decode cX7_list 52 = .ok (.invokevirtual 158, 3) := by decide +kernel
theorem dX7_list_55 : decode cX7_list 55 = .ok (.ifCond .eq 6, 3) := by decide +kernel
theorem dX7_list_58 : decode cX7_list 58 = .ok (.goto 17, 3) := by decide +kernel
theorem dX7_list_61 : decode cX7_list 61 = .ok (.aload_n 0, 1) := by decide +kernel
theorem dX7_list_62 : decode cX7_list 62 = .ok (.getfield 37, 3) := by decide +kernel
theorem dX7_list_65 : decode cX7_list 65 = .ok (.invokevirtual 161, 3) := by decide +kernel
theorem dX7_list_68 : decode cX7_list 68 = .ok (.istore_n 1, 1) := by decide +kernel
theorem dX7_list_69 : decode cX7_list 69 = .ok (.iinc 2 1, 3) := by decide +kernel
theorem dX7_list_72 : decode cX7_list 72 = .ok (.goto (-45), 3) := by decide +kernel
theorem dX7_list_75 : decode cX7_list 75 = .ok (.aload_n 0, 1) := by decide +kernel
theorem dX7_list_76 : decode cX7_list 76 = .ok (.iload_n 1, 1) := by decide +kernel
theorem dX7_list_77 : decode cX7_list 77 = .ok (.invokevirtual 136, 3) := by decide +kernel
theorem dX7_list_80 : decode cX7_list 80 = .ok (.ireturn, 1) := by decide +kernel
theorem dX7_info_0 : decode cX7_info 0 = .ok (.aload_n 0, 1) := by decide +kernel
theorem dX7_info_1 : decode cX7_info 1 = .ok (.getfield 57, 3) := by decide +kernel
theorem dX7_info_4 : decode cX7_info 4 = .ok (.iconst 0, 1) := by decide +kernel
theorem dX7_info_5 : decode cX7_info 5 = .ok (.putfield 76, 3) := by decide +kernel
theorem dX7_info_8 : decode cX7_info 8 = .ok (.aload_n 0, 1) := by decide +kernel
theorem dX7_info_9 : decode cX7_info 9 = .ok (.invokevirtual 148, 3) := by decide +kernel
theorem dX7_info_12 : decode cX7_info 12 = .ok (.istore_n 1, 1) := by decide +kernel
theorem dX7_info_13 : decode cX7_info 13 = .ok (.iload_n 1, 1) := by decide +kernel
theorem dX7_info_14 : decode cX7_info 14 = .ok (.ifCond .ne 52, 3) := by decide +kernel
theorem dX7_info_17 : decode cX7_info 17 = .ok (.aload_n 0, 1) := by decide +kernel
theorem dX7_info_18 : decode cX7_info 18 = .ok (.getfield 57, 3) := by decide +kernel
theorem dX7_info_21 : decode cX7_info 21 = .ok (.aload_n 0, 1) := by decide +kernel
theorem dX7_info_22 : decode cX7_info 22 = .ok (.getfield 28, 3) := by decide +kernel
theorem dX7_info_25 : decode cX7_info 25 = .ok (.getfield 94, 3) := by decide +kernel
theorem dX7_info_28 : decode cX7_info 28 = .ok (.bipush 40, 2) := by decide +kernel
theorem dX7_info_30 : decode cX7_info 30 = .ok (.bipush 8, 2) := by decide +kernel
theorem dX7_info_32 : decode cX7_info 32 = .ok (.invokevirtual 164, 3) := by decide +kernel
theorem dX7_info_35 : decode cX7_info 35 = .ok (.aload_n 0, 1) := by decide +kernel
theorem dX7_info_36 : decode cX7_info 36 = .ok (.getfield 57, 3) := by decide +kernel
theorem dX7_info_39 : decode cX7_info 39 = .ok (.aload_n 0, 1) := by decide +kernel
theorem dX7_info_40 : decode cX7_info 40 = .ok (.getfield 28, 3) := by decide +kernel
theorem dX7_info_43 : decode cX7_info 43 = .ok (.getfield 94, 3) := by decide +kernel
theorem dX7_info_46 : decode cX7_info 46 = .ok (.bipush 48, 2) := by decide +kernel
theorem dX7_info_48 : decode cX7_info 48 = .ok (.iconst 2, 1) := by decide +kernel
theorem dX7_info_49 : decode cX7_info 49 = .ok (.invokevirtual 164, 3) := by decide +kernel
theorem dX7_info_52 : decode cX7_info 52 = .ok (.aload_n 0, 1) := by decide +kernel
theorem dX7_info_53 : decode cX7_info 53 = .ok (.getfield 57, 3) := by decide +kernel
theorem dX7_info_56 : decode cX7_info 56 = .ok (.aload_n 0, 1) := by decide +kernel
theorem dX7_info_57 : decode cX7_info 57 = .ok (.getfield 28, 3) := by decide +kernel
theorem dX7_info_60 : decode cX7_info 60 = .ok (.invokevirtual 168, 3) := by decide +kernel
theorem dX7_info_63 : decode cX7_info 63 = .ok (.invokevirtual 171, 3) := by decide +kernel
theorem dX7_info_66 : decode cX7_info 66 = .ok (.aload_n 0, 1) := by decide +kernel
theorem dX7_info_67 : decode cX7_info 67 = .ok (.iload_n 1, 1) := by decide +kernel
theorem dX7_info_68 : decode cX7_info 68 = .ok (.invokevirtual 136, 3) := by decide +kernel
theorem dX7_info_71 : decode cX7_info 71 = .ok (.ireturn, 1) := by decide +kernel
theorem dX7_out_0 : decode cX7_out 0 = .ok (.aload_n 0, 1) := by decide +kernel
theorem dX7_out_1 : decode cX7_out 1 = .ok (.getfield 57, 3) := by decide +kernel
theorem dX7_out_4 : decode cX7_out 4 = .ok (.iload_n 1, 1) := by decide +kernel
theorem dX7_out_5 : decode cX7_out 5 = .ok (.invokevirtual 174, 3) := by decide +kernel
theorem dX7_out_8 : decode cX7_out 8 = .ok (.ireturn, 1) := by decide +kernel
theorem dX7_status_0 : decode cX7_status 0 = .ok (.iload_n 1, 1) := by decide +kernel
theorem dX7_status_1 : decode cX7_status 1 = .ok (.tableswitch 51 0 2 #[27, 35, 43], 27) := by decide +kernel
theorem dX7_status_28 : decode cX7_status 28 = .ok (.aload_n 0, 1) := by decide +kernel
theorem dX7_status_29 : decode cX7_status 29 = .ok (.getfield 12, 3) := by decide +kernel
theorem dX7_status_32 : decode cX7_status 32 = .ok (.getfield 177, 3) := by decide +kernel
theorem dX7_status_35 : decode cX7_status 35 = .ok (.ireturn, 1) := by decide +kernel
theorem dX7_status_36 : decode cX7_status 36 = .ok (.aload_n 0, 1) := by decide +kernel
theorem dX7_status_37 : decode cX7_status 37 = .ok (.getfield 12, 3) := by decide +kernel
theorem dX7_status_40 : decode cX7_status 40 = .ok (.getfield 180, 3) := by decide +kernel
theorem dX7_status_43 : decode cX7_status 43 = .ok (.ireturn, 1) := by decide +kernel
theorem dX7_status_44 : decode cX7_status 44 = .ok (.aload_n 0, 1) := by decide +kernel
theorem dX7_status_45 : decode cX7_status 45 = .ok (.getfield 12, 3) := by decide +kernel
theorem dX7_status_48 : decode cX7_status 48 = .ok (.getfield 181, 3) := by decide +kernel
theorem dX7_status_51 : decode cX7_status 51 = .ok (.ireturn, 1) := by decide +kernel
theorem dX7_status_52 : decode cX7_status 52 = .ok (.iconst (-1), 1) := by decide +kernel
theorem dX7_status_53 : decode cX7_status 53 = .ok (.ireturn, 1) := by decide +kernel
theorem dX7_peek_0 : decode cX7_peek 0 = .ok (.aload_n 0, 1) := by decide +kernel
theorem dX7_peek_1 : decode cX7_peek 1 = .ok (.getfield 21, 3) := by decide +kernel
theorem dX7_peek_4 : decode cX7_peek 4 = .ok (.iload_n 1, 1) := by decide +kernel
theorem dX7_peek_5 : decode cX7_peek 5 = .ok (.invokevirtual 182, 3) := by decide +kernel
theorem dX7_peek_8 : decode cX7_peek 8 = .ok (.astore_n 3, 1) := by decide +kernel
theorem dX7_peek_9 : decode cX7_peek 9 = .ok (.aload_n 3, 1) := by decide +kernel
theorem dX7_peek_10 : decode cX7_peek 10 = .ok (.ifnull 11, 3) := by decide +kernel
theorem dX7_peek_13 : decode cX7_peek 13 = .ok (.aload_n 3, 1) := by decide +kernel
theorem dX7_peek_14 : decode cX7_peek 14 = .ok (.iload_n 2, 1) := by decide +kernel
theorem dX7_peek_15 : decode cX7_peek 15 = .ok (.invokevirtual 186, 3) := by decide +kernel
theorem dX7_peek_18 : decode cX7_peek 18 = .ok (.ifCond .ne 7, 3) := by decide +kernel
theorem dX7_peek_21 : decode cX7_peek 21 = .ok (.iconst (-1), 1) := by decide +kernel
theorem dX7_peek_22 : decode cX7_peek 22 = .ok (.goto 8, 3) := by decide +kernel
theorem dX7_peek_25 : decode cX7_peek 25 = .ok (.aload_n 3, 1) := by decide +kernel
theorem dX7_peek_26 : decode cX7_peek 26 = .ok (.iload_n 2, 1) := by decide +kernel
theorem dX7_peek_27 : decode cX7_peek 27 = .ok (.invokevirtual 190, 3) := by decide +kernel
theorem dX7_peek_30 : decode cX7_peek 30 = .ok (.ireturn, 1) := by decide +kernel
theorem dX7_poke_0 : decode cX7_poke 0 = .ok (.aload_n 0, 1) := by decide +kernel
theorem dX7_poke_1 : decode cX7_poke 1 = .ok (.getfield 21, 3) := by decide +kernel
theorem dX7_poke_4 : decode cX7_poke 4 = .ok (.iload_n 1, 1) := by decide +kernel
theorem dX7_poke_5 : decode cX7_poke 5 = .ok (.invokevirtual 182, 3) := by decide +kernel
theorem dX7_poke_8 : decode cX7_poke 8 = .ok (.astore 4, 2) := by decide +kernel
theorem dX7_poke_10 : decode cX7_poke 10 = .ok (.aload 4, 2) := by decide +kernel
theorem dX7_poke_12 : decode cX7_poke 12 = .ok (.ifnull 12, 3) := by decide +kernel
theorem dX7_poke_15 : decode cX7_poke 15 = .ok (.aload 4, 2) := by decide +kernel
theorem dX7_poke_17 : decode cX7_poke 17 = .ok (.iload_n 2, 1) := by decide +kernel
theorem dX7_poke_18 : decode cX7_poke 18 = .ok (.invokevirtual 186, 3) := by decide +kernel
theorem dX7_poke_21 : decode cX7_poke 21 = .ok (.ifCond .ne 5, 3) := by decide +kernel
theorem dX7_poke_24 : decode cX7_poke 24 = .ok (.iconst (-1), 1) := by decide +kernel
theorem dX7_poke_25 : decode cX7_poke 25 = .ok (.ireturn, 1) := by decide +kernel
theorem dX7_poke_26 : decode cX7_poke 26 = .ok (.aload 4, 2) := by decide +kernel
theorem dX7_poke_28 : decode cX7_poke 28 = .ok (.iload_n 2, 1) := by decide +kernel
theorem dX7_poke_29 : decode cX7_poke 29 = .ok (.invokevirtual 190, 3) := by decide +kernel
theorem dX7_poke_32 : decode cX7_poke 32 = .ok (.istore 5, 2) := by decide +kernel
theorem dX7_poke_34 : decode cX7_poke 34 = .ok (.aload 4, 2) := by decide +kernel
theorem dX7_poke_36 : decode cX7_poke 36 = .ok (.bipush 8, 2) := by decide +kernel
theorem dX7_poke_38 : decode cX7_poke 38 = .ok (.iload_n 2, 1) := by decide +kernel
theorem dX7_poke_39 : decode cX7_poke 39 = .ok (.imul, 1) := by decide +kernel
theorem dX7_poke_40 : decode cX7_poke 40 = .ok (.bipush 8, 2) := by decide +kernel
theorem dX7_poke_42 : decode cX7_poke 42 = .ok (.iload_n 3, 1) := by decide +kernel
theorem dX7_poke_43 : decode cX7_poke 43 = .ok (.invokevirtual 191, 3) := by decide +kernel
theorem dX7_poke_46 : decode cX7_poke 46 = .ok (.iload 5, 2) := by decide +kernel
theorem dX7_poke_48 : decode cX7_poke 48 = .ok (.ireturn, 1) := by decide +kernel
theorem dX7_stamp_0 : decode cX7_stamp 0 = .ok (.aload_n 0, 1) := by decide +kernel
theorem dX7_stamp_1 : decode cX7_stamp 1 = .ok (.getfield 21, 3) := by decide +kernel
theorem dX7_stamp_4 : decode cX7_stamp 4 = .ok (.iload_n 1, 1) := by decide +kernel
theorem dX7_stamp_5 : decode cX7_stamp 5 = .ok (.invokevirtual 182, 3) := by decide +kernel
theorem dX7_stamp_8 : decode cX7_stamp 8 = .ok (.astore 4, 2) := by decide +kernel
theorem dX7_stamp_10 : decode cX7_stamp 10 = .ok (.aload 4, 2) := by decide +kernel
theorem dX7_stamp_12 : decode cX7_stamp 12 = .ok (.ifnull 12, 3) := by decide +kernel
theorem dX7_stamp_15 : decode cX7_stamp 15 = .ok (.aload 4, 2) := by decide +kernel
theorem dX7_stamp_17 : decode cX7_stamp 17 = .ok (.iload_n 2, 1) := by decide +kernel
theorem dX7_stamp_18 : decode cX7_stamp 18 = .ok (.invokevirtual 186, 3) := by decide +kernel
theorem dX7_stamp_21 : decode cX7_stamp 21 = .ok (.ifCond .ne 5, 3) := by decide +kernel
theorem dX7_stamp_24 : decode cX7_stamp 24 = .ok (.iconst (-1), 1) := by decide +kernel
theorem dX7_stamp_25 : decode cX7_stamp 25 = .ok (.ireturn, 1) := by decide +kernel
theorem dX7_stamp_26 : decode cX7_stamp 26 = .ok (.aload 4, 2) := by decide +kernel
theorem dX7_stamp_28 : decode cX7_stamp 28 = .ok (.bipush 8, 2) := by decide +kernel
theorem dX7_stamp_30 : decode cX7_stamp 30 = .ok (.iload_n 2, 1) := by decide +kernel
theorem dX7_stamp_31 : decode cX7_stamp 31 = .ok (.imul, 1) := by decide +kernel
theorem dX7_stamp_32 : decode cX7_stamp 32 = .ok (.bipush 16, 2) := by decide +kernel
theorem dX7_stamp_34 : decode cX7_stamp 34 = .ok (.iload_n 3, 1) := by decide +kernel
theorem dX7_stamp_35 : decode cX7_stamp 35 = .ok (.bipush 16, 2) := by decide +kernel
theorem dX7_stamp_37 : decode cX7_stamp 37 = .ok (.iushr, 1) := by decide +kernel
theorem dX7_stamp_38 : decode cX7_stamp 38 = .ok (.invokevirtual 191, 3) := by decide +kernel
theorem dX7_stamp_41 : decode cX7_stamp 41 = .ok (.aload 4, 2) := by decide +kernel
theorem dX7_stamp_43 : decode cX7_stamp 43 = .ok (.bipush 8, 2) := by decide +kernel
theorem dX7_stamp_45 : decode cX7_stamp 45 = .ok (.iload_n 2, 1) := by decide +kernel
theorem dX7_stamp_46 : decode cX7_stamp 46 = .ok (.imul, 1) := by decide +kernel
theorem dX7_stamp_47 : decode cX7_stamp 47 = .ok (.bipush 16, 2) := by decide +kernel
theorem dX7_stamp_49 : decode cX7_stamp 49 = .ok (.iadd, 1) := by decide +kernel
theorem dX7_stamp_50 : decode cX7_stamp 50 = .ok (.bipush 16, 2) := by decide +kernel
theorem dX7_stamp_52 : decode cX7_stamp 52 = .ok (.iload_n 3, 1) := by decide +kernel
theorem dX7_stamp_53 : decode cX7_stamp 53 = .ok (.invokevirtual 191, 3) := by decide +kernel
theorem dX7_stamp_56 : decode cX7_stamp 56 = .ok (.iconst 1, 1) := by decide +kernel
theorem dX7_stamp_57 : decode cX7_stamp 57 = .ok (.ireturn, 1) := by decide +kernel
theorem dX7_turn_0 : decode cX7_turn 0 = .ok (.aload_n 0, 1) := by decide +kernel
theorem dX7_turn_1 : decode cX7_turn 1 = .ok (.getfield 21, 3) := by decide +kernel
theorem dX7_turn_4 : decode cX7_turn 4 = .ok (.iload_n 1, 1) := by decide +kernel
theorem dX7_turn_5 : decode cX7_turn 5 = .ok (.invokevirtual 182, 3) := by decide +kernel
theorem dX7_turn_8 : decode cX7_turn 8 = .ok (.astore_n 3, 1) := by decide +kernel
theorem dX7_turn_9 : decode cX7_turn 9 = .ok (.aload_n 3, 1) := by decide +kernel
theorem dX7_turn_10 : decode cX7_turn 10 = .ok (.ifnonnull 5, 3) := by decide +kernel
theorem dX7_turn_13 : decode cX7_turn 13 = .ok (.iconst (-1), 1) := by decide +kernel
theorem dX7_turn_14 : decode cX7_turn 14 = .ok (.ireturn, 1) := by decide +kernel
theorem dX7_turn_15 : decode cX7_turn 15 = .ok (.aload_n 3, 1) := by decide +kernel
theorem dX7_turn_16 : decode cX7_turn 16 = .ok (.iload_n 2, 1) := by decide +kernel
theorem dX7_turn_17 : decode cX7_turn 17 = .ok (.aload_n 0, 1) := by decide +kernel
theorem dX7_turn_18 : decode cX7_turn 18 = .ok (.getfield 73, 3) := by decide +kernel
theorem dX7_turn_21 : decode cX7_turn 21 = .ok (.invokevirtual 194, 3) := by decide +kernel
theorem dX7_turn_24 : decode cX7_turn 24 = .ok (.iconst 1, 1) := by decide +kernel
theorem dX7_turn_25 : decode cX7_turn 25 = .ok (.ireturn, 1) := by decide +kernel
theorem dX7_syncs_0 : decode cX7_syncs 0 = .ok (.aload_n 0, 1) := by decide +kernel
theorem dX7_syncs_1 : decode cX7_syncs 1 = .ok (.getfield 21, 3) := by decide +kernel
theorem dX7_syncs_4 : decode cX7_syncs 4 = .ok (.iload_n 1, 1) := by decide +kernel
theorem dX7_syncs_5 : decode cX7_syncs 5 = .ok (.invokevirtual 182, 3) := by decide +kernel
theorem dX7_syncs_8 : decode cX7_syncs 8 = .ok (.astore_n 2, 1) := by decide +kernel
theorem dX7_syncs_9 : decode cX7_syncs 9 = .ok (.aload_n 2, 1) := by decide +kernel
theorem dX7_syncs_10 : decode cX7_syncs 10 = .ok (.ifnonnull 7, 3) := by decide +kernel
theorem dX7_syncs_13 : decode cX7_syncs 13 = .ok (.iconst (-1), 1) := by decide +kernel
theorem dX7_syncs_14 : decode cX7_syncs 14 = .ok (.goto 7, 3) := by decide +kernel
theorem dX7_syncs_17 : decode cX7_syncs 17 = .ok (.aload_n 2, 1) := by decide +kernel
theorem dX7_syncs_18 : decode cX7_syncs 18 = .ok (.invokevirtual 198, 3) := by decide +kernel
theorem dX7_syncs_21 : decode cX7_syncs 21 = .ok (.ireturn, 1) := by decide +kernel
theorem dX7_read_0 : decode cX7_read 0 = .ok (.aload_n 0, 1) := by decide +kernel
theorem dX7_read_1 : decode cX7_read 1 = .ok (.getfield 57, 3) := by decide +kernel
theorem dX7_read_4 : decode cX7_read 4 = .ok (.iconst 0, 1) := by decide +kernel
theorem dX7_read_5 : decode cX7_read 5 = .ok (.putfield 76, 3) := by decide +kernel
theorem dX7_read_8 : decode cX7_read 8 = .ok (.aload_n 0, 1) := by decide +kernel
theorem dX7_read_9 : decode cX7_read 9 = .ok (.getfield 21, 3) := by decide +kernel
theorem dX7_read_12 : decode cX7_read 12 = .ok (.iload_n 1, 1) := by decide +kernel
theorem dX7_read_13 : decode cX7_read 13 = .ok (.iload_n 2, 1) := by decide +kernel
theorem dX7_read_14 : decode cX7_read 14 = .ok (.aload_n 0, 1) := by decide +kernel
theorem dX7_read_15 : decode cX7_read 15 = .ok (.getfield 63, 3) := by decide +kernel
theorem dX7_read_18 : decode cX7_read 18 = .ok (.invokevirtual 201, 3) := by decide +kernel
theorem dX7_read_21 : decode cX7_read 21 = .ok (.istore_n 3, 1) := by decide +kernel
theorem dX7_read_22 : decode cX7_read 22 = .ok (.iload_n 3, 1) := by decide +kernel
theorem dX7_read_23 : decode cX7_read 23 = .ok (.ifCond .ne 17, 3) := by decide +kernel
theorem dX7_read_26 : decode cX7_read 26 = .ok (.aload_n 0, 1) := by decide +kernel
theorem dX7_read_27 : decode cX7_read 27 = .ok (.getfield 57, 3) := by decide +kernel
theorem dX7_read_30 : decode cX7_read 30 = .ok (.aload_n 0, 1) := by decide +kernel
theorem dX7_read_31 : decode cX7_read 31 = .ok (.getfield 63, 3) := by decide +kernel
theorem dX7_read_34 : decode cX7_read 34 = .ok (.iconst 0, 1) := by decide +kernel
theorem dX7_read_35 : decode cX7_read 35 = .ok (.bipush 64, 2) := by decide +kernel
theorem dX7_read_37 : decode cX7_read 37 = .ok (.invokevirtual 164, 3) := by decide +kernel
theorem dX7_read_40 : decode cX7_read 40 = .ok (.iload_n 3, 1) := by decide +kernel
theorem dX7_read_41 : decode cX7_read 41 = .ok (.ireturn, 1) := by decide +kernel
theorem dX7_write_0 : decode cX7_write 0 = .ok (.iconst 0, 1) := by decide +kernel
theorem dX7_write_1 : decode cX7_write 1 = .ok (.istore_n 3, 1) := by decide +kernel
theorem dX7_write_2 : decode cX7_write 2 = .ok (.iload_n 3, 1) := by decide +kernel
theorem dX7_write_3 : decode cX7_write 3 = .ok (.bipush 64, 2) := by decide +kernel
theorem dX7_write_5 : decode cX7_write 5 = .ok (.if_icmp .ge 27, 3) := by decide +kernel
theorem dX7_write_8 : decode cX7_write 8 = .ok (.aload_n 0, 1) := by decide +kernel
theorem dX7_write_9 : decode cX7_write 9 = .ok (.getfield 63, 3) := by decide +kernel
theorem dX7_write_12 : decode cX7_write 12 = .ok (.iload_n 3, 1) := by decide +kernel
theorem dX7_write_13 : decode cX7_write 13 = .ok (.iconst 0, 1) := by decide +kernel
theorem dX7_write_14 : decode cX7_write 14 = .ok (.aload_n 0, 1) := by decide +kernel
theorem dX7_write_15 : decode cX7_write 15 = .ok (.getfield 53, 3) := by decide +kernel
theorem dX7_write_18 : decode cX7_write 18 = .ok (.iload_n 3, 1) := by decide +kernel
theorem dX7_write_19 : decode cX7_write 19 = .ok (.invokevirtual 174, 3) := by decide +kernel
theorem dX7_write_22 : decode cX7_write 22 = .ok (.invokestatic 204, 3) := by decide +kernel
theorem dX7_write_25 : decode cX7_write 25 = .ok (.iastore, 1) := by decide +kernel
theorem dX7_write_26 : decode cX7_write 26 = .ok (.iinc 3 1, 3) := by decide +kernel
theorem dX7_write_29 : decode cX7_write 29 = .ok (.goto (-27), 3) := by decide +kernel
theorem dX7_write_32 : decode cX7_write 32 = .ok (.aload_n 0, 1) := by decide +kernel
theorem dX7_write_33 : decode cX7_write 33 = .ok (.getfield 53, 3) := by decide +kernel
theorem dX7_write_36 : decode cX7_write 36 = .ok (.iconst 0, 1) := by decide +kernel
theorem dX7_write_37 : decode cX7_write 37 = .ok (.putfield 76, 3) := by decide +kernel
theorem dX7_write_40 : decode cX7_write 40 = .ok (.aload_n 0, 1) := by decide +kernel
theorem dX7_write_41 : decode cX7_write 41 = .ok (.getfield 21, 3) := by decide +kernel
theorem dX7_write_44 : decode cX7_write 44 = .ok (.iload_n 1, 1) := by decide +kernel
theorem dX7_write_45 : decode cX7_write 45 = .ok (.iload_n 2, 1) := by decide +kernel
theorem dX7_write_46 : decode cX7_write 46 = .ok (.aload_n 0, 1) := by decide +kernel
theorem dX7_write_47 : decode cX7_write 47 = .ok (.getfield 63, 3) := by decide +kernel
theorem dX7_write_50 : decode cX7_write 50 = .ok (.invokevirtual 209, 3) := by decide +kernel
theorem dX7_write_53 : decode cX7_write 53 = .ok (.ireturn, 1) := by decide +kernel
theorem dX7_count_0 : decode cX7_count 0 = .ok (.iload_n 1, 1) := by decide +kernel
theorem dX7_count_1 : decode cX7_count 1 = .ok (.tableswitch 63 0 3 #[31, 39, 47, 55], 31) := by decide +kernel
theorem dX7_count_32 : decode cX7_count 32 = .ok (.aload_n 0, 1) := by decide +kernel
theorem dX7_count_33 : decode cX7_count 33 = .ok (.getfield 21, 3) := by decide +kernel
theorem dX7_count_36 : decode cX7_count 36 = .ok (.getfield 212, 3) := by decide +kernel
theorem dX7_count_39 : decode cX7_count 39 = .ok (.ireturn, 1) := by decide +kernel
theorem dX7_count_40 : decode cX7_count 40 = .ok (.aload_n 0, 1) := by decide +kernel
theorem dX7_count_41 : decode cX7_count 41 = .ok (.getfield 21, 3) := by decide +kernel
theorem dX7_count_44 : decode cX7_count 44 = .ok (.getfield 215, 3) := by decide +kernel
theorem dX7_count_47 : decode cX7_count 47 = .ok (.ireturn, 1) := by decide +kernel
theorem dX7_count_48 : decode cX7_count 48 = .ok (.aload_n 0, 1) := by decide +kernel
theorem dX7_count_49 : decode cX7_count 49 = .ok (.getfield 21, 3) := by decide +kernel
theorem dX7_count_52 : decode cX7_count 52 = .ok (.getfield 218, 3) := by decide +kernel
theorem dX7_count_55 : decode cX7_count 55 = .ok (.ireturn, 1) := by decide +kernel
theorem dX7_count_56 : decode cX7_count 56 = .ok (.aload_n 0, 1) := by decide +kernel
theorem dX7_count_57 : decode cX7_count 57 = .ok (.getfield 53, 3) := by decide +kernel
theorem dX7_count_60 : decode cX7_count 60 = .ok (.getfield 76, 3) := by decide +kernel
theorem dX7_count_63 : decode cX7_count 63 = .ok (.ireturn, 1) := by decide +kernel
theorem dX7_count_64 : decode cX7_count 64 = .ok (.iconst (-1), 1) := by decide +kernel
theorem dX7_count_65 : decode cX7_count 65 = .ok (.ireturn, 1) := by decide +kernel
theorem dX7_openDisk_0 : decode cX7_openDisk 0 = .ok (.aload_n 0, 1) := by decide +kernel
theorem dX7_openDisk_1 : decode cX7_openDisk 1 = .ok (.getfield 12, 3) := by decide +kernel
theorem dX7_openDisk_4 : decode cX7_openDisk 4 = .ok (.iconst 0, 1) := by decide +kernel
theorem dX7_openDisk_5 : decode cX7_openDisk 5 = .ok (.iconst 0, 1) := by decide +kernel
theorem dX7_openDisk_6 : decode cX7_openDisk 6 = .ok (.iconst 0, 1) := by decide +kernel
theorem dX7_openDisk_7 : decode cX7_openDisk 7 = .ok (.invokevirtual 101, 3) := by decide +kernel
theorem dX7_openDisk_10 : decode cX7_openDisk 10 = .ok (.pop, 1) := by decide +kernel
theorem dX7_openDisk_11 : decode cX7_openDisk 11 = .ok (.aload_n 0, 1) := by decide +kernel
theorem dX7_openDisk_12 : decode cX7_openDisk 12 = .ok (.getfield 21, 3) := by decide +kernel
theorem dX7_openDisk_15 : decode cX7_openDisk 15 = .ok (.getfield 84, 3) := by decide +kernel
theorem dX7_openDisk_18 : decode cX7_openDisk 18 = .ok (.iconst (-1), 1) := by decide +kernel
theorem dX7_openDisk_19 : decode cX7_openDisk 19 = .ok (.if_icmp .ne 15, 3) := by decide +kernel
theorem dX7_openDisk_22 : decode cX7_openDisk 22 = .ok (.aload_n 0, 1) := by decide +kernel
theorem dX7_openDisk_23 : decode cX7_openDisk 23 = .ok (.getfield 12, 3) := by decide +kernel
theorem dX7_openDisk_26 : decode cX7_openDisk 26 = .ok (.bipush 74, 2) := by decide +kernel
theorem dX7_openDisk_28 : decode cX7_openDisk 28 = .ok (.iconst 0, 1) := by decide +kernel
theorem dX7_openDisk_29 : decode cX7_openDisk 29 = .ok (.iconst 0, 1) := by decide +kernel
theorem dX7_openDisk_30 : decode cX7_openDisk 30 = .ok (.invokevirtual 101, 3) := by decide +kernel
theorem dX7_openDisk_33 : decode cX7_openDisk 33 = .ok (.ireturn, 1) := by decide +kernel
theorem dX7_openDisk_34 : decode cX7_openDisk 34 = .ok (.aload_n 0, 1) := by decide +kernel
theorem dX7_openDisk_35 : decode cX7_openDisk 35 = .ok (.getfield 21, 3) := by decide +kernel
theorem dX7_openDisk_38 : decode cX7_openDisk 38 = .ok (.bipush 9, 2) := by decide +kernel
theorem dX7_openDisk_40 : decode cX7_openDisk 40 = .ok (.iconst 0, 1) := by decide +kernel
theorem dX7_openDisk_41 : decode cX7_openDisk 41 = .ok (.aload_n 0, 1) := by decide +kernel
theorem dX7_openDisk_42 : decode cX7_openDisk 42 = .ok (.getfield 28, 3) := by decide +kernel
theorem dX7_openDisk_45 : decode cX7_openDisk 45 = .ok (.getfield 94, 3) := by decide +kernel
theorem dX7_openDisk_48 : decode cX7_openDisk 48 = .ok (.invokevirtual 221, 3) := by decide +kernel
theorem dX7_openDisk_51 : decode cX7_openDisk 51 = .ok (.ireturn, 1) := by decide +kernel
theorem dX7_lookFor_0 : decode cX7_lookFor 0 = .ok (.aload_n 0, 1) := by decide +kernel
theorem dX7_lookFor_1 : decode cX7_lookFor 1 = .ok (.invokevirtual 148, 3) := by decide +kernel
theorem dX7_lookFor_4 : decode cX7_lookFor 4 = .ok (.istore_n 3, 1) := by decide +kernel
theorem dX7_lookFor_5 : decode cX7_lookFor 5 = .ok (.iload_n 3, 1) := by decide +kernel
theorem dX7_lookFor_6 : decode cX7_lookFor 6 = .ok (.ifCond .ne 11, 3) := by decide +kernel
theorem dX7_lookFor_9 : decode cX7_lookFor 9 = .ok (.aload_n 0, 1) := by decide +kernel
theorem dX7_lookFor_10 : decode cX7_lookFor 10 = .ok (.getfield 37, 3) := by decide +kernel
theorem dX7_lookFor_13 : decode cX7_lookFor 13 = .ok (.invokevirtual 151, 3) := by decide +kernel
theorem dX7_lookFor_16 : decode cX7_lookFor 16 = .ok (.istore_n 3, 1) := by decide +kernel
theorem dX7_lookFor_17 : decode cX7_lookFor 17 = .ok (.iconst 0, 1) := by decide +kernel
theorem dX7_lookFor_18 : decode cX7_lookFor 18 = .ok (.istore 4, 2) := by decide +kernel
theorem dX7_lookFor_20 : decode cX7_lookFor 20 = .ok (.iload 4, 2) := by decide +kernel
theorem dX7_lookFor_22 : decode cX7_lookFor 22 = .ok (.bipush 7, 2) := by decide +kernel
theorem dX7_lookFor_24 : decode cX7_lookFor 24 = .ok (.if_icmp .ge 45, 3) := by decide +kernel
theorem dX7_lookFor_27 : decode cX7_lookFor 27 = .ok (.iload_n 3, 1) := by decide +kernel
theorem dX7_lookFor_28 : decode cX7_lookFor 28 = .ok (.ifCond .ne 41, 3) := by decide +kernel
theorem dX7_lookFor_31 : decode cX7_lookFor 31 = .ok (.aload_n 0, 1) := by decide +kernel
theorem dX7_lookFor_32 : decode cX7_lookFor 32 = .ok (.getfield 37, 3) := by decide +kernel
theorem dX7_lookFor_35 : decode cX7_lookFor 35 = .ok (.iload_n 1, 1) := by decide +kernel
theorem dX7_lookFor_36 : decode cX7_lookFor 36 = .ok (.iload_n 2, 1) := by decide +kernel
theorem dX7_lookFor_37 : decode cX7_lookFor 37 = .ok (.invokevirtual 224, 3) := by decide +kernel
theorem dX7_lookFor_40 : decode cX7_lookFor 40 = .ok (.ifCond .ne 13, 3) := by decide +kernel
theorem dX7_lookFor_43 : decode cX7_lookFor 43 = .ok (.aload_n 0, 1) := by decide +kernel
theorem dX7_lookFor_44 : decode cX7_lookFor 44 = .ok (.getfield 37, 3) := by decide +kernel
theorem dX7_lookFor_47 : decode cX7_lookFor 47 = .ok (.invokevirtual 158, 3) := by decide +kernel
theorem dX7_lookFor_50 : decode cX7_lookFor 50 = .ok (.ifCond .eq 5, 3) := by decide +kernel
theorem dX7_lookFor_53 : decode cX7_lookFor 53 = .ok (.iconst 0, 1) := by decide +kernel
theorem dX7_lookFor_54 : decode cX7_lookFor 54 = .ok (.ireturn, 1) := by decide +kernel
theorem dX7_lookFor_55 : decode cX7_lookFor 55 = .ok (.aload_n 0, 1) := by decide +kernel
theorem dX7_lookFor_56 : decode cX7_lookFor 56 = .ok (.getfield 37, 3) := by decide +kernel
theorem dX7_lookFor_59 : decode cX7_lookFor 59 = .ok (.invokevirtual 161, 3) := by decide +kernel
theorem dX7_lookFor_62 : decode cX7_lookFor 62 = .ok (.istore_n 3, 1) := by decide +kernel
theorem dX7_lookFor_63 : decode cX7_lookFor 63 = .ok (.iinc 4 1, 3) := by decide +kernel
theorem dX7_lookFor_66 : decode cX7_lookFor 66 = .ok (.goto (-46), 3) := by decide +kernel
theorem dX7_lookFor_69 : decode cX7_lookFor 69 = .ok (.iload_n 3, 1) := by decide +kernel
theorem dX7_lookFor_70 : decode cX7_lookFor 70 = .ok (.ireturn, 1) := by decide +kernel
theorem dX7_outputOr_0 : decode cX7_outputOr 0 = .ok (.iload_n 1, 1) := by decide +kernel
theorem dX7_outputOr_1 : decode cX7_outputOr 1 = .ok (.ifCond .eq 13, 3) := by decide +kernel
theorem dX7_outputOr_4 : decode cX7_outputOr 4 = .ok (.aload_n 0, 1) := by decide +kernel
theorem dX7_outputOr_5 : decode cX7_outputOr 5 = .ok (.getfield 57, 3) := by decide +kernel
theorem dX7_outputOr_8 : decode cX7_outputOr 8 = .ok (.iconst 0, 1) := by decide +kernel
theorem dX7_outputOr_9 : decode cX7_outputOr 9 = .ok (.putfield 76, 3) := by decide +kernel
theorem dX7_outputOr_12 : decode cX7_outputOr 12 = .ok (.iconst (-1), 1) := by decide +kernel
theorem dX7_outputOr_13 : decode cX7_outputOr 13 = .ok (.ireturn, 1) := by decide +kernel
theorem dX7_outputOr_14 : decode cX7_outputOr 14 = .ok (.aload_n 0, 1) := by decide +kernel
theorem dX7_outputOr_15 : decode cX7_outputOr 15 = .ok (.getfield 57, 3) := by decide +kernel
theorem dX7_outputOr_18 : decode cX7_outputOr 18 = .ok (.getfield 76, 3) := by decide +kernel
theorem dX7_outputOr_21 : decode cX7_outputOr 21 = .ok (.ireturn, 1) := by decide +kernel
theorem dX7_takeRoom_0 : decode cX7_takeRoom 0 = .ok (.aload_n 0, 1) := by decide +kernel
theorem dX7_takeRoom_1 : decode cX7_takeRoom 1 = .ok (.getfield 37, 3) := by decide +kernel
theorem dX7_takeRoom_4 : decode cX7_takeRoom 4 = .ok (.aload_n 0, 1) := by decide +kernel
theorem dX7_takeRoom_5 : decode cX7_takeRoom 5 = .ok (.getfield 28, 3) := by decide +kernel
theorem dX7_takeRoom_8 : decode cX7_takeRoom 8 = .ok (.invokevirtual 228, 3) := by decide +kernel
theorem dX7_takeRoom_11 : decode cX7_takeRoom 11 = .ok (.ifCond .eq 31, 3) := by decide +kernel
theorem dX7_takeRoom_14 : decode cX7_takeRoom 14 = .ok (.aload_n 0, 1) := by decide +kernel
theorem dX7_takeRoom_15 : decode cX7_takeRoom 15 = .ok (.getfield 44, 3) := by decide +kernel
theorem dX7_takeRoom_18 : decode cX7_takeRoom 18 = .ok (.aload_n 0, 1) := by decide +kernel
theorem dX7_takeRoom_19 : decode cX7_takeRoom 19 = .ok (.getfield 28, 3) := by decide +kernel
theorem dX7_takeRoom_22 : decode cX7_takeRoom 22 = .ok (.aload_n 0, 1) := by decide +kernel
theorem dX7_takeRoom_23 : decode cX7_takeRoom 23 = .ok (.getfield 53, 3) := by decide +kernel
theorem dX7_takeRoom_26 : decode cX7_takeRoom 26 = .ok (.getfield 76, 3) := by decide +kernel
theorem dX7_takeRoom_29 : decode cX7_takeRoom 29 = .ok (.invokestatic 232, 3) := by decide +kernel
theorem dX7_takeRoom_32 : decode cX7_takeRoom 32 = .ok (.invokevirtual 235, 3) := by decide +kernel
theorem dX7_takeRoom_35 : decode cX7_takeRoom 35 = .ok (.ifCond .eq 7, 3) := by decide +kernel
theorem dX7_takeRoom_38 : decode cX7_takeRoom 38 = .ok (.iconst 1, 1) := by decide +kernel
theorem dX7_takeRoom_39 : decode cX7_takeRoom 39 = .ok (.goto 4, 3) := by decide +kernel
theorem dX7_takeRoom_42 : decode cX7_takeRoom 42 = .ok (.iconst 0, 1) := by decide +kernel
theorem dX7_takeRoom_43 : decode cX7_takeRoom 43 = .ok (.ireturn, 1) := by decide +kernel
theorem dX7_storeEntry_0 : decode cX7_storeEntry 0 = .ok (.aload_n 0, 1) := by decide +kernel
theorem dX7_storeEntry_1 : decode cX7_storeEntry 1 = .ok (.aload_n 0, 1) := by decide +kernel
theorem dX7_storeEntry_2 : decode cX7_storeEntry 2 = .ok (.getfield 37, 3) := by decide +kernel
theorem dX7_storeEntry_5 : decode cX7_storeEntry 5 = .ok (.getfield 239, 3) := by decide +kernel
theorem dX7_storeEntry_8 : decode cX7_storeEntry 8 = .ok (.aload_n 0, 1) := by decide +kernel
theorem dX7_storeEntry_9 : decode cX7_storeEntry 9 = .ok (.getfield 37, 3) := by decide +kernel
theorem dX7_storeEntry_12 : decode cX7_storeEntry 12 = .ok (.getfield 242, 3) := by decide +kernel
theorem dX7_storeEntry_15 : decode cX7_storeEntry 15 = .ok (.iload_n 1, 1) := by decide +kernel
theorem dX7_storeEntry_16 : decode cX7_storeEntry 16 = .ok (.iload_n 2, 1) := by decide +kernel
theorem dX7_storeEntry_17 : decode cX7_storeEntry 17 = .ok (.iload_n 3, 1) := by decide +kernel
theorem dX7_storeEntry_18 : decode cX7_storeEntry 18 = .ok (.invokevirtual 245, 3) := by decide +kernel
theorem dX7_storeEntry_21 : decode cX7_storeEntry 21 = .ok (.aload_n 0, 1) := by decide +kernel
theorem dX7_storeEntry_22 : decode cX7_storeEntry 22 = .ok (.getfield 21, 3) := by decide +kernel
theorem dX7_storeEntry_25 : decode cX7_storeEntry 25 = .ok (.aload_n 0, 1) := by decide +kernel
theorem dX7_storeEntry_26 : decode cX7_storeEntry 26 = .ok (.getfield 37, 3) := by decide +kernel
theorem dX7_storeEntry_29 : decode cX7_storeEntry 29 = .ok (.getfield 249, 3) := by decide +kernel
theorem dX7_storeEntry_32 : decode cX7_storeEntry 32 = .ok (.aload_n 0, 1) := by decide +kernel
theorem dX7_storeEntry_33 : decode cX7_storeEntry 33 = .ok (.getfield 37, 3) := by decide +kernel
theorem dX7_storeEntry_36 : decode cX7_storeEntry 36 = .ok (.getfield 252, 3) := by decide +kernel
theorem dX7_storeEntry_39 : decode cX7_storeEntry 39 = .ok (.aload_n 0, 1) := by decide +kernel
theorem dX7_storeEntry_40 : decode cX7_storeEntry 40 = .ok (.getfield 37, 3) := by decide +kernel
theorem dX7_storeEntry_43 : decode cX7_storeEntry 43 = .ok (.getfield 239, 3) := by decide +kernel
theorem dX7_storeEntry_46 : decode cX7_storeEntry 46 = .ok (.invokevirtual 129, 3) := by decide +kernel
theorem dX7_storeEntry_49 : decode cX7_storeEntry 49 = .ok (.istore 4, 2) := by decide +kernel
theorem dX7_storeEntry_51 : decode cX7_storeEntry 51 = .ok (.iload 4, 2) := by decide +kernel
theorem dX7_storeEntry_53 : decode cX7_storeEntry 53 = .ok (.ifCond .ne 23, 3) := by decide +kernel
theorem dX7_storeEntry_56 : decode cX7_storeEntry 56 = .ok (.aload_n 0, 1) := by decide +kernel
theorem dX7_storeEntry_57 : decode cX7_storeEntry 57 = .ok (.getfield 37, 3) := by decide +kernel
theorem dX7_storeEntry_60 : decode cX7_storeEntry 60 = .ok (.getfield 255, 3) := by decide +kernel
theorem dX7_storeEntry_63 : decode cX7_storeEntry 63 = .ok (.ifCond .eq 13, 3) := by decide +kernel
theorem dX7_storeEntry_66 : decode cX7_storeEntry 66 = .ok (.aload_n 0, 1) := by decide +kernel
theorem dX7_storeEntry_67 : decode cX7_storeEntry 67 = .ok (.getfield 37, 3) := by decide +kernel
theorem dX7_storeEntry_70 : decode cX7_storeEntry 70 = .ok (.invokevirtual 259, 3) := by decide +kernel
theorem dX7_storeEntry_73 : decode cX7_storeEntry 73 = .ok (.goto 5, 3) := by decide +kernel
theorem dX7_storeEntry_76 : decode cX7_storeEntry 76 = .ok (.iload 4, 2) := by decide +kernel
theorem dX7_storeEntry_78 : decode cX7_storeEntry 78 = .ok (.ireturn, 1) := by decide +kernel
theorem dX7_fillEntry_0 : decode cX7_fillEntry 0 = .ok (.iload_n 2, 1) := by decide +kernel
theorem dX7_fillEntry_1 : decode cX7_fillEntry 1 = .ok (.iconst 2, 1) := by decide +kernel
theorem dX7_fillEntry_2 : decode cX7_fillEntry 2 = .ok (.if_icmp .lt 12, 3) := by decide +kernel
theorem dX7_fillEntry_5 : decode cX7_fillEntry 5 = .ok (.iload_n 2, 1) := by decide +kernel
theorem dX7_fillEntry_6 : decode cX7_fillEntry 6 = .ok (.bipush 12, 2) := by decide +kernel
theorem dX7_fillEntry_8 : decode cX7_fillEntry 8 = .ok (.iadd, 1) := by decide +kernel
theorem dX7_fillEntry_9 : decode cX7_fillEntry 9 = .ok (.aload_n 1, 1) := by decide +kernel
theorem dX7_fillEntry_10 : decode cX7_fillEntry 10 = .ok (.arraylength, 1) := by decide +kernel
theorem dX7_fillEntry_11 : decode cX7_fillEntry 11 = .ok (.if_icmp .le 4, 3) := by decide +kernel
theorem dX7_fillEntry_14 : decode cX7_fillEntry 14 = .ok (.return_, 1) := by decide +kernel
theorem dX7_fillEntry_15 : decode cX7_fillEntry 15 = .ok (.aload_n 1, 1) := by decide +kernel
theorem dX7_fillEntry_16 : decode cX7_fillEntry 16 = .ok (.iload_n 2, 1) := by decide +kernel
theorem dX7_fillEntry_17 : decode cX7_fillEntry 17 = .ok (.iload_n 3, 1) := by decide +kernel
theorem dX7_fillEntry_18 : decode cX7_fillEntry 18 = .ok (.iastore, 1) := by decide +kernel
theorem dX7_fillEntry_19 : decode cX7_fillEntry 19 = .ok (.aload_n 1, 1) := by decide +kernel
theorem dX7_fillEntry_20 : decode cX7_fillEntry 20 = .ok (.iload_n 2, 1) := by decide +kernel
theorem dX7_fillEntry_21 : decode cX7_fillEntry 21 = .ok (.iconst 1, 1) := by decide +kernel
theorem dX7_fillEntry_22 : decode cX7_fillEntry 22 = .ok (.iadd, 1) := by decide +kernel
theorem dX7_fillEntry_23 : decode cX7_fillEntry 23 = .ok (.aload_n 0, 1) := by decide +kernel
theorem dX7_fillEntry_24 : decode cX7_fillEntry 24 = .ok (.getfield 44, 3) := by decide +kernel
theorem dX7_fillEntry_27 : decode cX7_fillEntry 27 = .ok (.getfield 262, 3) := by decide +kernel
theorem dX7_fillEntry_30 : decode cX7_fillEntry 30 = .ok (.iconst 0, 1) := by decide +kernel
theorem dX7_fillEntry_31 : decode cX7_fillEntry 31 = .ok (.iaload, 1) := by decide +kernel
theorem dX7_fillEntry_32 : decode cX7_fillEntry 32 = .ok (.iastore, 1) := by decide +kernel
theorem dX7_fillEntry_33 : decode cX7_fillEntry 33 = .ok (.aload_n 1, 1) := by decide +kernel
theorem dX7_fillEntry_34 : decode cX7_fillEntry 34 = .ok (.iload_n 2, 1) := by decide +kernel
theorem dX7_fillEntry_35 : decode cX7_fillEntry 35 = .ok (.iconst 2, 1) := by decide +kernel
theorem dX7_fillEntry_36 : decode cX7_fillEntry 36 = .ok (.iadd, 1) := by decide +kernel
theorem dX7_fillEntry_37 : decode cX7_fillEntry 37 = .ok (.aload_n 0, 1) := by decide +kernel
theorem dX7_fillEntry_38 : decode cX7_fillEntry 38 = .ok (.getfield 44, 3) := by decide +kernel
theorem dX7_fillEntry_41 : decode cX7_fillEntry 41 = .ok (.getfield 265, 3) := by decide +kernel
theorem dX7_fillEntry_44 : decode cX7_fillEntry 44 = .ok (.iconst 0, 1) := by decide +kernel
theorem dX7_fillEntry_45 : decode cX7_fillEntry 45 = .ok (.iaload, 1) := by decide +kernel
theorem dX7_fillEntry_46 : decode cX7_fillEntry 46 = .ok (.iastore, 1) := by decide +kernel
theorem dX7_fillEntry_47 : decode cX7_fillEntry 47 = .ok (.aload_n 1, 1) := by decide +kernel
theorem dX7_fillEntry_48 : decode cX7_fillEntry 48 = .ok (.iload_n 2, 1) := by decide +kernel
theorem dX7_fillEntry_49 : decode cX7_fillEntry 49 = .ok (.iconst 3, 1) := by decide +kernel
theorem dX7_fillEntry_50 : decode cX7_fillEntry 50 = .ok (.iadd, 1) := by decide +kernel
theorem dX7_fillEntry_51 : decode cX7_fillEntry 51 = .ok (.aload_n 0, 1) := by decide +kernel
theorem dX7_fillEntry_52 : decode cX7_fillEntry 52 = .ok (.getfield 44, 3) := by decide +kernel
theorem dX7_fillEntry_55 : decode cX7_fillEntry 55 = .ok (.getfield 147, 3) := by decide +kernel
theorem dX7_fillEntry_58 : decode cX7_fillEntry 58 = .ok (.iastore, 1) := by decide +kernel
theorem dX7_fillEntry_59 : decode cX7_fillEntry 59 = .ok (.aload_n 1, 1) := by decide +kernel
theorem dX7_fillEntry_60 : decode cX7_fillEntry 60 = .ok (.iload_n 2, 1) := by decide +kernel
theorem dX7_fillEntry_61 : decode cX7_fillEntry 61 = .ok (.iconst 4, 1) := by decide +kernel
theorem dX7_fillEntry_62 : decode cX7_fillEntry 62 = .ok (.iadd, 1) := by decide +kernel
theorem dX7_fillEntry_63 : decode cX7_fillEntry 63 = .ok (.iload 4, 2) := by decide +kernel
theorem dX7_fillEntry_65 : decode cX7_fillEntry 65 = .ok (.iload 5, 2) := by decide +kernel
theorem dX7_fillEntry_67 : decode cX7_fillEntry 67 = .ok (.invokestatic 268, 3) := by decide +kernel
theorem dX7_fillEntry_70 : decode cX7_fillEntry 70 = .ok (.return_, 1) := by decide +kernel
theorem dX7_blocksNeeded_0 : decode cX7_blocksNeeded 0 = .ok (.iconst 1, 1) := by decide +kernel
theorem dX7_blocksNeeded_1 : decode cX7_blocksNeeded 1 = .ok (.iload_n 0, 1) := by decide +kernel
theorem dX7_blocksNeeded_2 : decode cX7_blocksNeeded 2 = .ok (.bipush 62, 2) := by decide +kernel
theorem dX7_blocksNeeded_4 : decode cX7_blocksNeeded 4 = .ok (.iadd, 1) := by decide +kernel
theorem dX7_blocksNeeded_5 : decode cX7_blocksNeeded 5 = .ok (.iconst 1, 1) := by decide +kernel
theorem dX7_blocksNeeded_6 : decode cX7_blocksNeeded 6 = .ok (.isub, 1) := by decide +kernel
theorem dX7_blocksNeeded_7 : decode cX7_blocksNeeded 7 = .ok (.bipush 62, 2) := by decide +kernel
theorem dX7_blocksNeeded_9 : decode cX7_blocksNeeded 9 = .ok (.idiv, 1) := by decide +kernel
theorem dX7_blocksNeeded_10 : decode cX7_blocksNeeded 10 = .ok (.invokestatic 204, 3) := by decide +kernel
theorem dX7_blocksNeeded_13 : decode cX7_blocksNeeded 13 = .ok (.ireturn, 1) := by decide +kernel
theorem dX7_nameByte_0 : decode cX7_nameByte 0 = .ok (.iload_n 2, 1) := by decide +kernel
theorem dX7_nameByte_1 : decode cX7_nameByte 1 = .ok (.iconst 4, 1) := by decide +kernel
theorem dX7_nameByte_2 : decode cX7_nameByte 2 = .ok (.if_icmp .ge 7, 3) := by decide +kernel
theorem dX7_nameByte_5 : decode cX7_nameByte 5 = .ok (.iload_n 0, 1) := by decide +kernel
theorem dX7_nameByte_6 : decode cX7_nameByte 6 = .ok (.goto 4, 3) := by decide +kernel
theorem dX7_nameByte_9 : decode cX7_nameByte 9 = .ok (.iload_n 1, 1) := by decide +kernel
theorem dX7_nameByte_10 : decode cX7_nameByte 10 = .ok (.bipush 24, 2) := by decide +kernel
theorem dX7_nameByte_12 : decode cX7_nameByte 12 = .ok (.bipush 8, 2) := by decide +kernel
theorem dX7_nameByte_14 : decode cX7_nameByte 14 = .ok (.iload_n 2, 1) := by decide +kernel
theorem dX7_nameByte_15 : decode cX7_nameByte 15 = .ok (.iconst 4, 1) := by decide +kernel
theorem dX7_nameByte_16 : decode cX7_nameByte 16 = .ok (.irem, 1) := by decide +kernel
theorem dX7_nameByte_17 : decode cX7_nameByte 17 = .ok (.imul, 1) := by decide +kernel
theorem dX7_nameByte_18 : decode cX7_nameByte 18 = .ok (.isub, 1) := by decide +kernel
theorem dX7_nameByte_19 : decode cX7_nameByte 19 = .ok (.iushr, 1) := by decide +kernel
theorem dX7_nameByte_20 : decode cX7_nameByte 20 = .ok (.sipush 255, 3) := by decide +kernel
theorem dX7_nameByte_23 : decode cX7_nameByte 23 = .ok (.iand, 1) := by decide +kernel
theorem dX7_nameByte_24 : decode cX7_nameByte 24 = .ok (.ireturn, 1) := by decide +kernel
theorem dX7_fillName_0 : decode cX7_fillName 0 = .ok (.iconst 0, 1) := by decide +kernel
theorem dX7_fillName_1 : decode cX7_fillName 1 = .ok (.istore 4, 2) := by decide +kernel
theorem dX7_fillName_3 : decode cX7_fillName 3 = .ok (.iload 4, 2) := by decide +kernel
theorem dX7_fillName_5 : decode cX7_fillName 5 = .ok (.bipush 8, 2) := by decide +kernel
theorem dX7_fillName_7 : decode cX7_fillName 7 = .ok (.if_icmp .ge 22, 3) := by decide +kernel
theorem dX7_fillName_10 : decode cX7_fillName 10 = .ok (.aload_n 0, 1) := by decide +kernel
theorem dX7_fillName_11 : decode cX7_fillName 11 = .ok (.iload_n 1, 1) := by decide +kernel
theorem dX7_fillName_12 : decode cX7_fillName 12 = .ok (.iload 4, 2) := by decide +kernel
theorem dX7_fillName_14 : decode cX7_fillName 14 = .ok (.iadd, 1) := by decide +kernel
theorem dX7_fillName_15 : decode cX7_fillName 15 = .ok (.iload_n 2, 1) := by decide +kernel
theorem dX7_fillName_16 : decode cX7_fillName 16 = .ok (.iload_n 3, 1) := by decide +kernel
theorem dX7_fillName_17 : decode cX7_fillName 17 = .ok (.iload 4, 2) := by decide +kernel
theorem dX7_fillName_19 : decode cX7_fillName 19 = .ok (.invokestatic 272, 3) := by decide +kernel
theorem dX7_fillName_22 : decode cX7_fillName 22 = .ok (.iastore, 1) := by decide +kernel
theorem dX7_fillName_23 : decode cX7_fillName 23 = .ok (.iinc 4 1, 3) := by decide +kernel
theorem dX7_fillName_26 : decode cX7_fillName 26 = .ok (.goto (-23), 3) := by decide +kernel
theorem dX7_fillName_29 : decode cX7_fillName 29 = .ok (.return_, 1) := by decide +kernel
theorem dX7_hasName_0 : decode cX7_hasName 0 = .ok (.iconst 0, 1) := by decide +kernel
theorem dX7_hasName_1 : decode cX7_hasName 1 = .ok (.istore 4, 2) := by decide +kernel
theorem dX7_hasName_3 : decode cX7_hasName 3 = .ok (.iload 4, 2) := by decide +kernel
theorem dX7_hasName_5 : decode cX7_hasName 5 = .ok (.bipush 8, 2) := by decide +kernel
theorem dX7_hasName_7 : decode cX7_hasName 7 = .ok (.if_icmp .ge 27, 3) := by decide +kernel
theorem dX7_hasName_10 : decode cX7_hasName 10 = .ok (.aload_n 0, 1) := by decide +kernel
theorem dX7_hasName_11 : decode cX7_hasName 11 = .ok (.iload_n 1, 1) := by decide +kernel
theorem dX7_hasName_12 : decode cX7_hasName 12 = .ok (.iload 4, 2) := by decide +kernel
theorem dX7_hasName_14 : decode cX7_hasName 14 = .ok (.iadd, 1) := by decide +kernel
theorem dX7_hasName_15 : decode cX7_hasName 15 = .ok (.iaload, 1) := by decide +kernel
theorem dX7_hasName_16 : decode cX7_hasName 16 = .ok (.iload_n 2, 1) := by decide +kernel
theorem dX7_hasName_17 : decode cX7_hasName 17 = .ok (.iload_n 3, 1) := by decide +kernel
theorem dX7_hasName_18 : decode cX7_hasName 18 = .ok (.iload 4, 2) := by decide +kernel
theorem dX7_hasName_20 : decode cX7_hasName 20 = .ok (.invokestatic 272, 3) := by decide +kernel
theorem dX7_hasName_23 : decode cX7_hasName 23 = .ok (.if_icmp .eq 5, 3) := by decide +kernel
theorem dX7_hasName_26 : decode cX7_hasName 26 = .ok (.iconst 0, 1) := by decide +kernel
theorem dX7_hasName_27 : decode cX7_hasName 27 = .ok (.ireturn, 1) := by decide +kernel
theorem dX7_hasName_28 : decode cX7_hasName 28 = .ok (.iinc 4 1, 3) := by decide +kernel
theorem dX7_hasName_31 : decode cX7_hasName 31 = .ok (.goto (-28), 3) := by decide +kernel
theorem dX7_hasName_34 : decode cX7_hasName 34 = .ok (.iconst 1, 1) := by decide +kernel
theorem dX7_hasName_35 : decode cX7_hasName 35 = .ok (.ireturn, 1) := by decide +kernel
theorem dX7_clearRow_0 : decode cX7_clearRow 0 = .ok (.iload_n 1, 1) := by decide +kernel
theorem dX7_clearRow_1 : decode cX7_clearRow 1 = .ok (.istore_n 3, 1) := by decide +kernel
theorem dX7_clearRow_2 : decode cX7_clearRow 2 = .ok (.iload_n 3, 1) := by decide +kernel
theorem dX7_clearRow_3 : decode cX7_clearRow 3 = .ok (.iload_n 1, 1) := by decide +kernel
theorem dX7_clearRow_4 : decode cX7_clearRow 4 = .ok (.iload_n 2, 1) := by decide +kernel
theorem dX7_clearRow_5 : decode cX7_clearRow 5 = .ok (.iadd, 1) := by decide +kernel
theorem dX7_clearRow_6 : decode cX7_clearRow 6 = .ok (.if_icmp .ge 19, 3) := by decide +kernel
theorem dX7_clearRow_9 : decode cX7_clearRow 9 = .ok (.iload_n 3, 1) := by decide +kernel
theorem dX7_clearRow_10 : decode cX7_clearRow 10 = .ok (.aload_n 0, 1) := by decide +kernel
theorem dX7_clearRow_11 : decode cX7_clearRow 11 = .ok (.arraylength, 1) := by decide +kernel
theorem dX7_clearRow_12 : decode cX7_clearRow 12 = .ok (.if_icmp .ge 13, 3) := by decide +kernel
theorem dX7_clearRow_15 : decode cX7_clearRow 15 = .ok (.aload_n 0, 1) := by decide +kernel
theorem dX7_clearRow_16 : decode cX7_clearRow 16 = .ok (.iload_n 3, 1) := by decide +kernel
theorem dX7_clearRow_17 : decode cX7_clearRow 17 = .ok (.iconst 0, 1) := by decide +kernel
theorem dX7_clearRow_18 : decode cX7_clearRow 18 = .ok (.iastore, 1) := by decide +kernel
theorem dX7_clearRow_19 : decode cX7_clearRow 19 = .ok (.iinc 3 1, 3) := by decide +kernel
theorem dX7_clearRow_22 : decode cX7_clearRow 22 = .ok (.goto (-20), 3) := by decide +kernel
theorem dX7_clearRow_25 : decode cX7_clearRow 25 = .ok (.return_, 1) := by decide +kernel
theorem dX8_init_0 : decode cX8_init 0 = .ok (.aload_n 0, 1) := by decide +kernel
theorem dX8_init_1 : decode cX8_init 1 = .ok (.invokespecial 1, 3) := by decide +kernel
theorem dX8_init_4 : decode cX8_init 4 = .ok (.aload_n 0, 1) := by decide +kernel
theorem dX8_init_5 : decode cX8_init 5 = .ok (.ldc 7, 2) := by decide +kernel
theorem dX8_init_7 : decode cX8_init 7 = .ok (.newarray .boolean, 2) := by decide +kernel
theorem dX8_init_9 : decode cX8_init 9 = .ok (.putfield 8, 3) := by decide +kernel
theorem dX8_init_12 : decode cX8_init 12 = .ok (.aload_n 0, 1) := by decide +kernel
theorem dX8_init_13 : decode cX8_init 13 = .ok (.sipush 8480, 3) := by decide +kernel
theorem dX8_init_16 : decode cX8_init 16 = .ok (.newarray .boolean, 2) := by decide +kernel
theorem dX8_init_18 : decode cX8_init 18 = .ok (.putfield 14, 3) := by decide +kernel
theorem dX8_init_21 : decode cX8_init 21 = .ok (.aload_n 0, 1) := by decide +kernel
theorem dX8_init_22 : decode cX8_init 22 = .ok (.bipush 16, 2) := by decide +kernel
theorem dX8_init_24 : decode cX8_init 24 = .ok (.newarray .int, 2) := by decide +kernel
theorem dX8_init_26 : decode cX8_init 26 = .ok (.putfield 17, 3) := by decide +kernel
theorem dX8_init_29 : decode cX8_init 29 = .ok (.aload_n 0, 1) := by decide +kernel
theorem dX8_init_30 : decode cX8_init 30 = .ok (.bipush 32, 2) := by decide +kernel
theorem dX8_init_32 : decode cX8_init 32 = .ok (.newarray .int, 2) := by decide +kernel
theorem dX8_init_34 : decode cX8_init 34 = .ok (.putfield 21, 3) := by decide +kernel
theorem dX8_init_37 : decode cX8_init 37 = .ok (.aload_n 0, 1) := by decide +kernel
theorem dX8_init_38 : decode cX8_init 38 = .ok (.iconst (-1), 1) := by decide +kernel
theorem dX8_init_39 : decode cX8_init 39 = .ok (.putfield 24, 3) := by decide +kernel
theorem dX8_init_42 : decode cX8_init 42 = .ok (.aload_n 0, 1) := by decide +kernel
theorem dX8_init_43 : decode cX8_init 43 = .ok (.sipush 2480, 3) := by decide +kernel
theorem dX8_init_46 : decode cX8_init 46 = .ok (.newarray .int, 2) := by decide +kernel
theorem dX8_init_48 : decode cX8_init 48 = .ok (.putfield 28, 3) := by decide +kernel
theorem dX8_init_51 : decode cX8_init 51 = .ok (.aload_n 0, 1) := by decide +kernel
theorem dX8_init_52 : decode cX8_init 52 = .ok (.sipush 2480, 3) := by decide +kernel
theorem dX8_init_55 : decode cX8_init 55 = .ok (.newarray .int, 2) := by decide +kernel
theorem dX8_init_57 : decode cX8_init 57 = .ok (.putfield 31, 3) := by decide +kernel
theorem dX8_init_60 : decode cX8_init 60 = .ok (.aload_n 0, 1) := by decide +kernel
theorem dX8_init_61 : decode cX8_init 61 = .ok (.sipush 800, 3) := by decide +kernel
theorem dX8_init_64 : decode cX8_init 64 = .ok (.newarray .int, 2) := by decide +kernel
theorem dX8_init_66 : decode cX8_init 66 = .ok (.putfield 34, 3) := by decide +kernel
theorem dX8_init_69 : decode cX8_init 69 = .ok (.aload_n 0, 1) := by decide +kernel
theorem dX8_init_70 : decode cX8_init 70 = .ok (.bipush 64, 2) := by decide +kernel
theorem dX8_init_72 : decode cX8_init 72 = .ok (.newarray .int, 2) := by decide +kernel
theorem dX8_init_74 : decode cX8_init 74 = .ok (.putfield 37, 3) := by decide +kernel
theorem dX8_init_77 : decode cX8_init 77 = .ok (.aload_n 0, 1) := by decide +kernel
theorem dX8_init_78 : decode cX8_init 78 = .ok (.bipush 64, 2) := by decide +kernel
theorem dX8_init_80 : decode cX8_init 80 = .ok (.newarray .int, 2) := by decide +kernel
theorem dX8_init_82 : decode cX8_init 82 = .ok (.putfield 40, 3) := by decide +kernel
theorem dX8_init_85 : decode cX8_init 85 = .ok (.aload_n 0, 1) := by decide +kernel
theorem dX8_init_86 : decode cX8_init 86 = .ok (.sipush 448, 3) := by decide +kernel
theorem dX8_init_89 : decode cX8_init 89 = .ok (.newarray .int, 2) := by decide +kernel
theorem dX8_init_91 : decode cX8_init 91 = .ok (.putfield 43, 3) := by decide +kernel
theorem dX8_init_94 : decode cX8_init 94 = .ok (.aload_n 0, 1) := by decide +kernel
theorem dX8_init_95 : decode cX8_init 95 = .ok (.bipush 7, 2) := by decide +kernel
theorem dX8_init_97 : decode cX8_init 97 = .ok (.newarray .int, 2) := by decide +kernel
theorem dX8_init_99 : decode cX8_init 99 = .ok (.putfield 46, 3) := by decide +kernel
theorem dX8_init_102 : decode cX8_init 102 = .ok (.aload_n 0, 1) := by decide +kernel
theorem dX8_init_103 : decode cX8_init 103 = .ok (.bipush 7, 2) := by decide +kernel
theorem dX8_init_105 : decode cX8_init 105 = .ok (.newarray .int, 2) := by decide +kernel
theorem dX8_init_107 : decode cX8_init 107 = .ok (.putfield 49, 3) := by decide +kernel
theorem dX8_init_110 : decode cX8_init 110 = .ok (.aload_n 0, 1) := by decide +kernel
theorem dX8_init_111 : decode cX8_init 111 = .ok (.bipush 40, 2) := by decide +kernel
theorem dX8_init_113 : decode cX8_init 113 = .ok (.newarray .int, 2) := by decide +kernel
theorem dX8_init_115 : decode cX8_init 115 = .ok (.putfield 52, 3) := by decide +kernel
theorem dX8_init_118 : decode cX8_init 118 = .ok (.aload_n 0, 1) := by decide +kernel
theorem dX8_init_119 : decode cX8_init 119 = .ok (.bipush 40, 2) := by decide +kernel
theorem dX8_init_121 : decode cX8_init 121 = .ok (.newarray .int, 2) := by decide +kernel
theorem dX8_init_123 : decode cX8_init 123 = .ok (.putfield 55, 3) := by decide +kernel
theorem dX8_init_126 : decode cX8_init 126 = .ok (.aload_n 0, 1) := by decide +kernel
theorem dX8_init_127 : decode cX8_init 127 = .ok (.iconst 0, 1) := by decide +kernel
theorem dX8_init_128 : decode cX8_init 128 = .ok (.bipush 10, 2) := by decide +kernel
theorem dX8_init_130 : decode cX8_init 130 = .ok (.bipush 11, 2) := by decide +kernel
theorem dX8_init_132 : decode cX8_init 132 = .ok (.bipush 18, 2) := by decide +kernel
theorem dX8_init_134 : decode cX8_init 134 = .ok (.bipush 19, 2) := by decide +kernel
theorem dX8_init_136 : decode cX8_init 136 = .ok (.invokevirtual 58, 3) := by decide +kernel
theorem dX8_init_139 : decode cX8_init 139 = .ok (.aload_n 0, 1) := by decide +kernel
theorem dX8_init_140 : decode cX8_init 140 = .ok (.iconst 4, 1) := by decide +kernel
theorem dX8_init_141 : decode cX8_init 141 = .ok (.bipush 14, 2) := by decide +kernel
theorem dX8_init_143 : decode cX8_init 143 = .ok (.bipush 15, 2) := by decide +kernel
theorem dX8_init_145 : decode cX8_init 145 = .ok (.bipush 22, 2) := by decide +kernel
theorem dX8_init_147 : decode cX8_init 147 = .ok (.bipush 23, 2) := by decide +kernel
theorem dX8_init_149 : decode cX8_init 149 = .ok (.invokevirtual 58, 3) := by decide +kernel
theorem dX8_init_152 : decode cX8_init 152 = .ok (.aload_n 0, 1) := by decide +kernel
theorem dX8_init_153 : decode cX8_init 153 = .ok (.bipush 8, 2) := by decide +kernel
theorem dX8_init_155 : decode cX8_init 155 = .ok (.bipush 9, 2) := by decide +kernel
theorem dX8_init_157 : decode cX8_init 157 = .ok (.bipush 25, 2) := by decide +kernel
theorem dX8_init_159 : decode cX8_init 159 = .ok (.bipush 26, 2) := by decide +kernel
theorem dX8_init_161 : decode cX8_init 161 = .ok (.bipush 27, 2) := by decide +kernel
theorem dX8_init_163 : decode cX8_init 163 = .ok (.invokevirtual 58, 3) := by decide +kernel
theorem dX8_init_166 : decode cX8_init 166 = .ok (.aload_n 0, 1) := by decide +kernel
theorem dX8_init_167 : decode cX8_init 167 = .ok (.bipush 12, 2) := by decide +kernel
theorem dX8_init_169 : decode cX8_init 169 = .ok (.bipush 13, 2) := by decide +kernel
theorem dX8_init_171 : decode cX8_init 171 = .ok (.bipush 29, 2) := by decide +kernel
theorem dX8_init_173 : decode cX8_init 173 = .ok (.bipush 30, 2) := by decide +kernel
theorem dX8_init_175 : decode cX8_init 175 = .ok (.bipush 21, 2) := by decide +kernel
theorem dX8_init_177 : decode cX8_init 177 = .ok (.invokevirtual 58, 3) := by decide +kernel
theorem dX8_init_180 : decode cX8_init 180 = .ok (.iconst 0, 1) := by decide +kernel
theorem dX8_init_181 : decode cX8_init 181 = .ok (.istore_n 1, 1) := by decide +kernel
theorem dX8_init_182 : decode cX8_init 182 = .ok (.iload_n 1, 1) := by decide +kernel
theorem dX8_init_183 : decode cX8_init 183 = .ok (.bipush 32, 2) := by decide +kernel
theorem dX8_init_185 : decode cX8_init 185 = .ok (.if_icmp .ge 16, 3) := by decide +kernel
theorem dX8_init_188 : decode cX8_init 188 = .ok (.aload_n 0, 1) := by decide +kernel
theorem dX8_init_189 : decode cX8_init 189 = .ok (.getfield 21, 3) := by decide +kernel
theorem dX8_init_192 : decode cX8_init 192 = .ok (.iload_n 1, 1) := by decide +kernel
theorem dX8_init_193 : decode cX8_init 193 = .ok (.iconst (-1), 1) := by decide +kernel
theorem dX8_init_194 : decode cX8_init 194 = .ok (.iastore, 1) := by decide +kernel
theorem dX8_init_195 : decode cX8_init 195 = .ok (.iinc 1 1, 3) := by decide +kernel
theorem dX8_init_198 : decode cX8_init 198 = .ok (.goto (-16), 3) := by decide +kernel
theorem dX8_init_201 : decode cX8_init 201 = .ok (.iconst 0, 1) := by decide +kernel
theorem dX8_init_202 : decode cX8_init 202 = .ok (.istore_n 1, 1) := by decide +kernel
theorem dX8_init_203 : decode cX8_init 203 = .ok (.iload_n 1, 1) := by decide +kernel
theorem dX8_init_204 : decode cX8_init 204 = .ok (.bipush 16, 2) := by decide +kernel
theorem dX8_init_206 : decode cX8_init 206 = .ok (.if_icmp .ge 21, 3) := by decide +kernel
theorem dX8_init_209 : decode cX8_init 209 = .ok (.aload_n 0, 1) := by decide +kernel
theorem dX8_init_210 : decode cX8_init 210 = .ok (.getfield 21, 3) := by decide +kernel
theorem dX8_init_213 : decode cX8_init 213 = .ok (.aload_n 0, 1) := by decide +kernel
theorem dX8_init_214 : decode cX8_init 214 = .ok (.getfield 17, 3) := by decide +kernel
theorem dX8_init_217 : decode cX8_init 217 = .ok (.iload_n 1, 1) := by decide +kernel
theorem dX8_init_218 : decode cX8_init 218 = .ok (.iaload, 1) := by decide +kernel
theorem dX8_init_219 : decode cX8_init 219 = .ok (.iload_n 1, 1) := by decide +kernel
theorem dX8_init_220 : decode cX8_init 220 = .ok (.iastore, 1) := by decide +kernel
theorem dX8_init_221 : decode cX8_init 221 = .ok (.iinc 1 1, 3) := by decide +kernel
theorem dX8_init_224 : decode cX8_init 224 = .ok (.goto (-21), 3) := by decide +kernel
theorem dX8_init_227 : decode cX8_init 227 = .ok (.return_, 1) := by decide +kernel
theorem dX8_setCodes_0 : decode cX8_setCodes 0 = .ok (.aload_n 0, 1) := by decide +kernel
theorem dX8_setCodes_1 : decode cX8_setCodes 1 = .ok (.getfield 17, 3) := by decide +kernel
theorem dX8_setCodes_4 : decode cX8_setCodes 4 = .ok (.iload_n 1, 1) := by decide +kernel
theorem dX8_setCodes_5 : decode cX8_setCodes 5 = .ok (.iload_n 2, 1) := by decide +kernel
theorem dX8_setCodes_6 : decode cX8_setCodes 6 = .ok (.iastore, 1) := by decide +kernel
theorem dX8_setCodes_7 : decode cX8_setCodes 7 = .ok (.aload_n 0, 1) := by decide +kernel
theorem dX8_setCodes_8 : decode cX8_setCodes 8 = .ok (.getfield 17, 3) := by decide +kernel
theorem dX8_setCodes_11 : decode cX8_setCodes 11 = .ok (.iload_n 1, 1) := by decide +kernel
theorem dX8_setCodes_12 : decode cX8_setCodes 12 = .ok (.iconst 1, 1) := by decide +kernel
theorem dX8_setCodes_13 : decode cX8_setCodes 13 = .ok (.iadd, 1) := by decide +kernel
theorem dX8_setCodes_14 : decode cX8_setCodes 14 = .ok (.iload_n 3, 1) := by decide +kernel
theorem dX8_setCodes_15 : decode cX8_setCodes 15 = .ok (.iastore, 1) := by decide +kernel
theorem dX8_setCodes_16 : decode cX8_setCodes 16 = .ok (.aload_n 0, 1) := by decide +kernel
theorem dX8_setCodes_17 : decode cX8_setCodes 17 = .ok (.getfield 17, 3) := by decide +kernel
theorem dX8_setCodes_20 : decode cX8_setCodes 20 = .ok (.iload_n 1, 1) := by decide +kernel
theorem dX8_setCodes_21 : decode cX8_setCodes 21 = .ok (.iconst 2, 1) := by decide +kernel
theorem dX8_setCodes_22 : decode cX8_setCodes 22 = .ok (.iadd, 1) := by decide +kernel
theorem dX8_setCodes_23 : decode cX8_setCodes 23 = .ok (.iload 4, 2) := by decide +kernel
theorem dX8_setCodes_25 : decode cX8_setCodes 25 = .ok (.iastore, 1) := by decide +kernel
theorem dX8_setCodes_26 : decode cX8_setCodes 26 = .ok (.aload_n 0, 1) := by decide +kernel
theorem dX8_setCodes_27 : decode cX8_setCodes 27 = .ok (.getfield 17, 3) := by decide +kernel
theorem dX8_setCodes_30 : decode cX8_setCodes 30 = .ok (.iload_n 1, 1) := by decide +kernel
theorem dX8_setCodes_31 : decode cX8_setCodes 31 = .ok (.iconst 3, 1) := by decide +kernel
theorem dX8_setCodes_32 : decode cX8_setCodes 32 = .ok (.iadd, 1) := by decide +kernel
theorem dX8_setCodes_33 : decode cX8_setCodes 33 = .ok (.iload 5, 2) := by decide +kernel
theorem dX8_setCodes_35 : decode cX8_setCodes 35 = .ok (.iastore, 1) := by decide +kernel
theorem dX8_setCodes_36 : decode cX8_setCodes 36 = .ok (.return_, 1) := by decide +kernel
theorem dX8_isIn_0 : decode cX8_isIn 0 = .ok (.iload_n 0, 1) := by decide +kernel
theorem dX8_isIn_1 : decode cX8_isIn 1 = .ok (.iload_n 1, 1) := by decide +kernel
theorem dX8_isIn_2 : decode cX8_isIn 2 = .ok (.if_icmp .lt 12, 3) := by decide +kernel
theorem dX8_isIn_5 : decode cX8_isIn 5 = .ok (.iload_n 0, 1) := by decide +kernel
theorem dX8_isIn_6 : decode cX8_isIn 6 = .ok (.iload_n 2, 1) := by decide +kernel
theorem dX8_isIn_7 : decode cX8_isIn 7 = .ok (.if_icmp .gt 7, 3) := by decide +kernel
theorem dX8_isIn_10 : decode cX8_isIn 10 = .ok (.iconst 1, 1) := by decide +kernel
theorem dX8_isIn_11 : decode cX8_isIn 11 = .ok (.goto 4, 3) := by decide +kernel
theorem dX8_isIn_14 : decode cX8_isIn 14 = .ok (.iconst 0, 1) := by decide +kernel
theorem dX8_isIn_15 : decode cX8_isIn 15 = .ok (.ireturn, 1) := by decide +kernel
theorem dX8_bytesOf_0 : decode cX8_bytesOf 0 = .ok (.iload_n 0, 1) := by decide +kernel
theorem dX8_bytesOf_1 : decode cX8_bytesOf 1 = .ok (.bipush 9, 2) := by decide +kernel
theorem dX8_bytesOf_3 : decode cX8_bytesOf 3 = .ok (.if_icmp .ge 9, 3) := by decide +kernel
theorem dX8_bytesOf_6 : decode cX8_bytesOf 6 = .ok (.sipush 1060, 3) := by decide +kernel
theorem dX8_bytesOf_9 : decode cX8_bytesOf 9 = .ok (.goto 18, 3) := by decide +kernel
theorem dX8_bytesOf_12 : decode cX8_bytesOf 12 = .ok (.iload_n 0, 1) := by decide +kernel
theorem dX8_bytesOf_13 : decode cX8_bytesOf 13 = .ok (.bipush 13, 2) := by decide +kernel
theorem dX8_bytesOf_15 : decode cX8_bytesOf 15 = .ok (.if_icmp .ge 9, 3) := by decide +kernel
theorem dX8_bytesOf_18 : decode cX8_bytesOf 18 = .ok (.sipush 940, 3) := by decide +kernel
theorem dX8_bytesOf_21 : decode cX8_bytesOf 21 = .ok (.goto 6, 3) := by decide +kernel
theorem dX8_bytesOf_24 : decode cX8_bytesOf 24 = .ok (.sipush 830, 3) := by decide +kernel
theorem dX8_bytesOf_27 : decode cX8_bytesOf 27 = .ok (.ireturn, 1) := by decide +kernel
theorem dX8_sectorsOf_0 : decode cX8_sectorsOf 0 = .ok (.iload_n 0, 1) := by decide +kernel
theorem dX8_sectorsOf_1 : decode cX8_sectorsOf 1 = .ok (.bipush 9, 2) := by decide +kernel
theorem dX8_sectorsOf_3 : decode cX8_sectorsOf 3 = .ok (.if_icmp .ge 8, 3) := by decide +kernel
theorem dX8_sectorsOf_6 : decode cX8_sectorsOf 6 = .ok (.bipush 9, 2) := by decide +kernel
theorem dX8_sectorsOf_8 : decode cX8_sectorsOf 8 = .ok (.goto 16, 3) := by decide +kernel
