theorem dX8_sectorsOf_11 : decode cX8_sectorsOf 11 = .ok (.iload_n 0, 1) := by decide +kernel
theorem dX8_sectorsOf_12 : decode cX8_sectorsOf 12 = .ok (.bipush 13, 2) := by decide +kernel
theorem dX8_sectorsOf_14 : decode cX8_sectorsOf 14 = .ok (.if_icmp .ge 8, 3) := by decide +kernel
theorem dX8_sectorsOf_17 : decode cX8_sectorsOf 17 = .ok (.bipush 8, 2) := by decide +kernel
theorem dX8_sectorsOf_19 : decode cX8_sectorsOf 19 = .ok (.goto 5, 3) := by decide +kernel
theorem dX8_sectorsOf_22 : decode cX8_sectorsOf 22 = .ok (.bipush 7, 2) := by decide +kernel
theorem dX8_sectorsOf_24 : decode cX8_sectorsOf 24 = .ok (.ireturn, 1) := by decide +kernel
theorem dX8_lengthOf_0 : decode cX8_lengthOf 0 = .ok (.bipush 8, 2) := by decide +kernel
theorem dX8_lengthOf_2 : decode cX8_lengthOf 2 = .ok (.iload_n 0, 1) := by decide +kernel
theorem dX8_lengthOf_3 : decode cX8_lengthOf 3 = .ok (.invokestatic 62, 3) := by decide +kernel
theorem dX8_lengthOf_6 : decode cX8_lengthOf 6 = .ok (.imul, 1) := by decide +kernel
theorem dX8_lengthOf_7 : decode cX8_lengthOf 7 = .ok (.ireturn, 1) := by decide +kernel
theorem dX8_startOf_0 : decode cX8_startOf 0 = .ok (.iconst 0, 1) := by decide +kernel
theorem dX8_startOf_1 : decode cX8_startOf 1 = .ok (.istore_n 1, 1) := by decide +kernel
theorem dX8_startOf_2 : decode cX8_startOf 2 = .ok (.iconst 1, 1) := by decide +kernel
theorem dX8_startOf_3 : decode cX8_startOf 3 = .ok (.istore_n 2, 1) := by decide +kernel
theorem dX8_startOf_4 : decode cX8_startOf 4 = .ok (.iload_n 2, 1) := by decide +kernel
theorem dX8_startOf_5 : decode cX8_startOf 5 = .ok (.iload_n 0, 1) := by decide +kernel
theorem dX8_startOf_6 : decode cX8_startOf 6 = .ok (.if_icmp .ge 16, 3) := by decide +kernel
theorem dX8_startOf_9 : decode cX8_startOf 9 = .ok (.iload_n 1, 1) := by decide +kernel
theorem dX8_startOf_10 : decode cX8_startOf 10 = .ok (.iload_n 2, 1) := by decide +kernel
theorem dX8_startOf_11 : decode cX8_startOf 11 = .ok (.invokestatic 66, 3) := by decide +kernel
theorem dX8_startOf_14 : decode cX8_startOf 14 = .ok (.iadd, 1) := by decide +kernel
theorem dX8_startOf_15 : decode cX8_startOf 15 = .ok (.istore_n 1, 1) := by decide +kernel
theorem dX8_startOf_16 : decode cX8_startOf 16 = .ok (.iinc 2 1, 3) := by decide +kernel
theorem dX8_startOf_19 : decode cX8_startOf 19 = .ok (.goto (-15), 3) := by decide +kernel
theorem dX8_startOf_22 : decode cX8_startOf 22 = .ok (.iload_n 1, 1) := by decide +kernel
theorem dX8_startOf_23 : decode cX8_startOf 23 = .ok (.ireturn, 1) := by decide +kernel
theorem dX8_isTrack_0 : decode cX8_isTrack 0 = .ok (.iload_n 0, 1) := by decide +kernel
theorem dX8_isTrack_1 : decode cX8_isTrack 1 = .ok (.iconst 1, 1) := by decide +kernel
theorem dX8_isTrack_2 : decode cX8_isTrack 2 = .ok (.bipush 16, 2) := by decide +kernel
theorem dX8_isTrack_4 : decode cX8_isTrack 4 = .ok (.invokestatic 69, 3) := by decide +kernel
theorem dX8_isTrack_7 : decode cX8_isTrack 7 = .ok (.ireturn, 1) := by decide +kernel
theorem dX8_isBlock_0 : decode cX8_isBlock 0 = .ok (.iload_n 0, 1) := by decide +kernel
theorem dX8_isBlock_1 : decode cX8_isBlock 1 = .ok (.invokestatic 73, 3) := by decide +kernel
theorem dX8_isBlock_4 : decode cX8_isBlock 4 = .ok (.ifCond .eq 21, 3) := by decide +kernel
theorem dX8_isBlock_7 : decode cX8_isBlock 7 = .ok (.iload_n 1, 1) := by decide +kernel
theorem dX8_isBlock_8 : decode cX8_isBlock 8 = .ok (.iconst 0, 1) := by decide +kernel
theorem dX8_isBlock_9 : decode cX8_isBlock 9 = .ok (.iload_n 0, 1) := by decide +kernel
theorem dX8_isBlock_10 : decode cX8_isBlock 10 = .ok (.invokestatic 77, 3) := by decide +kernel
theorem dX8_isBlock_13 : decode cX8_isBlock 13 = .ok (.iconst 1, 1) := by decide +kernel
theorem dX8_isBlock_14 : decode cX8_isBlock 14 = .ok (.isub, 1) := by decide +kernel
theorem dX8_isBlock_15 : decode cX8_isBlock 15 = .ok (.invokestatic 69, 3) := by decide +kernel
theorem dX8_isBlock_18 : decode cX8_isBlock 18 = .ok (.ifCond .eq 7, 3) := by decide +kernel
theorem dX8_isBlock_21 : decode cX8_isBlock 21 = .ok (.iconst 1, 1) := by decide +kernel
theorem dX8_isBlock_22 : decode cX8_isBlock 22 = .ok (.goto 4, 3) := by decide +kernel
theorem dX8_isBlock_25 : decode cX8_isBlock 25 = .ok (.iconst 0, 1) := by decide +kernel
theorem dX8_isBlock_26 : decode cX8_isBlock 26 = .ok (.ireturn, 1) := by decide +kernel
theorem dX8_isByte_0 : decode cX8_isByte 0 = .ok (.iload_n 0, 1) := by decide +kernel
theorem dX8_isByte_1 : decode cX8_isByte 1 = .ok (.invokestatic 73, 3) := by decide +kernel
theorem dX8_isByte_4 : decode cX8_isByte 4 = .ok (.ifCond .eq 21, 3) := by decide +kernel
theorem dX8_isByte_7 : decode cX8_isByte 7 = .ok (.iload_n 1, 1) := by decide +kernel
theorem dX8_isByte_8 : decode cX8_isByte 8 = .ok (.iconst 0, 1) := by decide +kernel
theorem dX8_isByte_9 : decode cX8_isByte 9 = .ok (.iload_n 0, 1) := by decide +kernel
theorem dX8_isByte_10 : decode cX8_isByte 10 = .ok (.invokestatic 62, 3) := by decide +kernel
theorem dX8_isByte_13 : decode cX8_isByte 13 = .ok (.iconst 1, 1) := by decide +kernel
theorem dX8_isByte_14 : decode cX8_isByte 14 = .ok (.isub, 1) := by decide +kernel
theorem dX8_isByte_15 : decode cX8_isByte 15 = .ok (.invokestatic 69, 3) := by decide +kernel
theorem dX8_isByte_18 : decode cX8_isByte 18 = .ok (.ifCond .eq 7, 3) := by decide +kernel
theorem dX8_isByte_21 : decode cX8_isByte 21 = .ok (.iconst 1, 1) := by decide +kernel
theorem dX8_isByte_22 : decode cX8_isByte 22 = .ok (.goto 4, 3) := by decide +kernel
theorem dX8_isByte_25 : decode cX8_isByte 25 = .ok (.iconst 0, 1) := by decide +kernel
theorem dX8_isByte_26 : decode cX8_isByte 26 = .ok (.ireturn, 1) := by decide +kernel
theorem dX8_byteAt_0 : decode cX8_byteAt 0 = .ok (.iconst 0, 1) := by decide +kernel
theorem dX8_byteAt_1 : decode cX8_byteAt 1 = .ok (.istore_n 3, 1) := by decide +kernel
theorem dX8_byteAt_2 : decode cX8_byteAt 2 = .ok (.iload_n 1, 1) := by decide +kernel
theorem dX8_byteAt_3 : decode cX8_byteAt 3 = .ok (.invokestatic 80, 3) := by decide +kernel
theorem dX8_byteAt_6 : decode cX8_byteAt 6 = .ok (.bipush 8, 2) := by decide +kernel
theorem dX8_byteAt_8 : decode cX8_byteAt 8 = .ok (.iload_n 2, 1) := by decide +kernel
theorem dX8_byteAt_9 : decode cX8_byteAt 9 = .ok (.imul, 1) := by decide +kernel
theorem dX8_byteAt_10 : decode cX8_byteAt 10 = .ok (.iadd, 1) := by decide +kernel
theorem dX8_byteAt_11 : decode cX8_byteAt 11 = .ok (.istore 4, 2) := by decide +kernel
theorem dX8_byteAt_13 : decode cX8_byteAt 13 = .ok (.iconst 0, 1) := by decide +kernel
theorem dX8_byteAt_14 : decode cX8_byteAt 14 = .ok (.istore 5, 2) := by decide +kernel
theorem dX8_byteAt_16 : decode cX8_byteAt 16 = .ok (.iload 5, 2) := by decide +kernel
theorem dX8_byteAt_18 : decode cX8_byteAt 18 = .ok (.bipush 8, 2) := by decide +kernel
theorem dX8_byteAt_20 : decode cX8_byteAt 20 = .ok (.if_icmp .ge 32, 3) := by decide +kernel
theorem dX8_byteAt_23 : decode cX8_byteAt 23 = .ok (.iconst 2, 1) := by decide +kernel
theorem dX8_byteAt_24 : decode cX8_byteAt 24 = .ok (.iload_n 3, 1) := by decide +kernel
theorem dX8_byteAt_25 : decode cX8_byteAt 25 = .ok (.imul, 1) := by decide +kernel
theorem dX8_byteAt_26 : decode cX8_byteAt 26 = .ok (.aload_n 0, 1) := by decide +kernel
theorem dX8_byteAt_27 : decode cX8_byteAt 27 = .ok (.getfield 8, 3) := by decide +kernel
theorem dX8_byteAt_30 : decode cX8_byteAt 30 = .ok (.iload 4, 2) := by decide +kernel
theorem dX8_byteAt_32 : decode cX8_byteAt 32 = .ok (.iload 5, 2) := by decide +kernel
theorem dX8_byteAt_34 : decode cX8_byteAt 34 = .ok (.iadd, 1) := by decide +kernel
theorem dX8_byteAt_35 : decode cX8_byteAt 35 = .ok (.baload, 1) := by decide +kernel
theorem dX8_byteAt_36 : decode cX8_byteAt 36 = .ok (.ifCond .eq 7, 3) := by decide +kernel
theorem dX8_byteAt_39 : decode cX8_byteAt 39 = .ok (.iconst 1, 1) := by decide +kernel
theorem dX8_byteAt_40 : decode cX8_byteAt 40 = .ok (.goto 4, 3) := by decide +kernel
theorem dX8_byteAt_43 : decode cX8_byteAt 43 = .ok (.iconst 0, 1) := by decide +kernel
theorem dX8_byteAt_44 : decode cX8_byteAt 44 = .ok (.iadd, 1) := by decide +kernel
theorem dX8_byteAt_45 : decode cX8_byteAt 45 = .ok (.istore_n 3, 1) := by decide +kernel
theorem dX8_byteAt_46 : decode cX8_byteAt 46 = .ok (.iinc 5 1, 3) := by decide +kernel
theorem dX8_byteAt_49 : decode cX8_byteAt 49 = .ok (.goto (-33), 3) := by decide +kernel
theorem dX8_byteAt_52 : decode cX8_byteAt 52 = .ok (.iload_n 3, 1) := by decide +kernel
theorem dX8_byteAt_53 : decode cX8_byteAt 53 = .ok (.ireturn, 1) := by decide +kernel
theorem dX8_setByte_0 : decode cX8_setByte 0 = .ok (.iload_n 1, 1) := by decide +kernel
theorem dX8_setByte_1 : decode cX8_setByte 1 = .ok (.invokestatic 80, 3) := by decide +kernel
theorem dX8_setByte_4 : decode cX8_setByte 4 = .ok (.bipush 8, 2) := by decide +kernel
theorem dX8_setByte_6 : decode cX8_setByte 6 = .ok (.iload_n 2, 1) := by decide +kernel
theorem dX8_setByte_7 : decode cX8_setByte 7 = .ok (.imul, 1) := by decide +kernel
theorem dX8_setByte_8 : decode cX8_setByte 8 = .ok (.iadd, 1) := by decide +kernel
theorem dX8_setByte_9 : decode cX8_setByte 9 = .ok (.istore 4, 2) := by decide +kernel
theorem dX8_setByte_11 : decode cX8_setByte 11 = .ok (.iconst 0, 1) := by decide +kernel
theorem dX8_setByte_12 : decode cX8_setByte 12 = .ok (.istore 5, 2) := by decide +kernel
theorem dX8_setByte_14 : decode cX8_setByte 14 = .ok (.iload 5, 2) := by decide +kernel
theorem dX8_setByte_16 : decode cX8_setByte 16 = .ok (.bipush 8, 2) := by decide +kernel
theorem dX8_setByte_18 : decode cX8_setByte 18 = .ok (.if_icmp .ge 37, 3) := by decide +kernel
theorem dX8_setByte_21 : decode cX8_setByte 21 = .ok (.aload_n 0, 1) := by decide +kernel
theorem dX8_setByte_22 : decode cX8_setByte 22 = .ok (.getfield 8, 3) := by decide +kernel
theorem dX8_setByte_25 : decode cX8_setByte 25 = .ok (.iload 4, 2) := by decide +kernel
theorem dX8_setByte_27 : decode cX8_setByte 27 = .ok (.iload 5, 2) := by decide +kernel
theorem dX8_setByte_29 : decode cX8_setByte 29 = .ok (.iadd, 1) := by decide +kernel
theorem dX8_setByte_30 : decode cX8_setByte 30 = .ok (.iload_n 3, 1) := by decide +kernel
theorem dX8_setByte_31 : decode cX8_setByte 31 = .ok (.bipush 7, 2) := by decide +kernel
theorem dX8_setByte_33 : decode cX8_setByte 33 = .ok (.iload 5, 2) := by decide +kernel
theorem dX8_setByte_35 : decode cX8_setByte 35 = .ok (.isub, 1) := by decide +kernel
theorem dX8_setByte_36 : decode cX8_setByte 36 = .ok (.ishr, 1) := by decide +kernel
theorem dX8_setByte_37 : decode cX8_setByte 37 = .ok (.iconst 1, 1) := by decide +kernel
theorem dX8_setByte_38 : decode cX8_setByte 38 = .ok (.iand, 1) := by decide +kernel
theorem dX8_setByte_39 : decode cX8_setByte 39 = .ok (.iconst 1, 1) := by decide +kernel
theorem dX8_setByte_40 : decode cX8_setByte 40 = .ok (.if_icmp .ne 7, 3) := by decide +kernel
theorem dX8_setByte_43 : decode cX8_setByte 43 = .ok (.iconst 1, 1) := by decide +kernel
theorem dX8_setByte_44 : decode cX8_setByte 44 = .ok (.goto 4, 3) := by decide +kernel
theorem dX8_setByte_47 : decode cX8_setByte 47 = .ok (.iconst 0, 1) := by decide +kernel
theorem dX8_setByte_48 : decode cX8_setByte 48 = .ok (.bastore, 1) := by decide +kernel
theorem dX8_setByte_49 : decode cX8_setByte 49 = .ok (.iinc 5 1, 3) := by decide +kernel
theorem dX8_setByte_52 : decode cX8_setByte 52 = .ok (.goto (-38), 3) := by decide +kernel
theorem dX8_setByte_55 : decode cX8_setByte 55 = .ok (.return_, 1) := by decide +kernel
theorem dX8_findSyncs_0 : decode cX8_findSyncs 0 = .ok (.iload_n 1, 1) := by decide +kernel
theorem dX8_findSyncs_1 : decode cX8_findSyncs 1 = .ok (.invokestatic 80, 3) := by decide +kernel
theorem dX8_findSyncs_4 : decode cX8_findSyncs 4 = .ok (.istore_n 2, 1) := by decide +kernel
theorem dX8_findSyncs_5 : decode cX8_findSyncs 5 = .ok (.iload_n 1, 1) := by decide +kernel
theorem dX8_findSyncs_6 : decode cX8_findSyncs 6 = .ok (.invokestatic 66, 3) := by decide +kernel
theorem dX8_findSyncs_9 : decode cX8_findSyncs 9 = .ok (.istore_n 3, 1) := by decide +kernel
theorem dX8_findSyncs_10 : decode cX8_findSyncs 10 = .ok (.iconst 0, 1) := by decide +kernel
theorem dX8_findSyncs_11 : decode cX8_findSyncs 11 = .ok (.istore 4, 2) := by decide +kernel
theorem dX8_findSyncs_13 : decode cX8_findSyncs 13 = .ok (.iload 4, 2) := by decide +kernel
theorem dX8_findSyncs_15 : decode cX8_findSyncs 15 = .ok (.iload_n 3, 1) := by decide +kernel
theorem dX8_findSyncs_16 : decode cX8_findSyncs 16 = .ok (.if_icmp .ge 25, 3) := by decide +kernel
theorem dX8_findSyncs_19 : decode cX8_findSyncs 19 = .ok (.aload_n 0, 1) := by decide +kernel
theorem dX8_findSyncs_20 : decode cX8_findSyncs 20 = .ok (.getfield 8, 3) := by decide +kernel
theorem dX8_findSyncs_23 : decode cX8_findSyncs 23 = .ok (.iload_n 2, 1) := by decide +kernel
theorem dX8_findSyncs_24 : decode cX8_findSyncs 24 = .ok (.iload_n 3, 1) := by decide +kernel
theorem dX8_findSyncs_25 : decode cX8_findSyncs 25 = .ok (.iadd, 1) := by decide +kernel
theorem dX8_findSyncs_26 : decode cX8_findSyncs 26 = .ok (.iconst 1, 1) := by decide +kernel
theorem dX8_findSyncs_27 : decode cX8_findSyncs 27 = .ok (.isub, 1) := by decide +kernel
theorem dX8_findSyncs_28 : decode cX8_findSyncs 28 = .ok (.iload 4, 2) := by decide +kernel
theorem dX8_findSyncs_30 : decode cX8_findSyncs 30 = .ok (.isub, 1) := by decide +kernel
theorem dX8_findSyncs_31 : decode cX8_findSyncs 31 = .ok (.baload, 1) := by decide +kernel
theorem dX8_findSyncs_32 : decode cX8_findSyncs 32 = .ok (.ifCond .eq 9, 3) := by decide +kernel
theorem dX8_findSyncs_35 : decode cX8_findSyncs 35 = .ok (.iinc 4 1, 3) := by decide +kernel
theorem dX8_findSyncs_38 : decode cX8_findSyncs 38 = .ok (.goto (-25), 3) := by decide +kernel
theorem dX8_findSyncs_41 : decode cX8_findSyncs 41 = .ok (.aload_n 0, 1) := by decide +kernel
theorem dX8_findSyncs_42 : decode cX8_findSyncs 42 = .ok (.iconst 0, 1) := by decide +kernel
theorem dX8_findSyncs_43 : decode cX8_findSyncs 43 = .ok (.putfield 83, 3) := by decide +kernel
theorem dX8_findSyncs_46 : decode cX8_findSyncs 46 = .ok (.iconst 0, 1) := by decide +kernel
theorem dX8_findSyncs_47 : decode cX8_findSyncs 47 = .ok (.istore 5, 2) := by decide +kernel
theorem dX8_findSyncs_49 : decode cX8_findSyncs 49 = .ok (.iload 5, 2) := by decide +kernel
theorem dX8_findSyncs_51 : decode cX8_findSyncs 51 = .ok (.iload_n 3, 1) := by decide +kernel
theorem dX8_findSyncs_52 : decode cX8_findSyncs 52 = .ok (.if_icmp .ge 71, 3) := by decide +kernel
theorem dX8_findSyncs_55 : decode cX8_findSyncs 55 = .ok (.aload_n 0, 1) := by decide +kernel
theorem dX8_findSyncs_56 : decode cX8_findSyncs 56 = .ok (.getfield 8, 3) := by decide +kernel
theorem dX8_findSyncs_59 : decode cX8_findSyncs 59 = .ok (.iload_n 2, 1) := by decide +kernel
theorem dX8_findSyncs_60 : decode cX8_findSyncs 60 = .ok (.iload 5, 2) := by decide +kernel
theorem dX8_findSyncs_62 : decode cX8_findSyncs 62 = .ok (.iadd, 1) := by decide +kernel
theorem dX8_findSyncs_63 : decode cX8_findSyncs 63 = .ok (.baload, 1) := by decide +kernel
theorem dX8_findSyncs_64 : decode cX8_findSyncs 64 = .ok (.ifCond .ne 31, 3) := by decide +kernel
theorem dX8_findSyncs_67 : decode cX8_findSyncs 67 = .ok (.iload 4, 2) := by decide +kernel
theorem dX8_findSyncs_69 : decode cX8_findSyncs 69 = .ok (.bipush 10, 2) := by decide +kernel
theorem dX8_findSyncs_71 : decode cX8_findSyncs 71 = .ok (.if_icmp .lt 24, 3) := by decide +kernel
theorem dX8_findSyncs_74 : decode cX8_findSyncs 74 = .ok (.aload_n 0, 1) := by decide +kernel
theorem dX8_findSyncs_75 : decode cX8_findSyncs 75 = .ok (.getfield 34, 3) := by decide +kernel
theorem dX8_findSyncs_78 : decode cX8_findSyncs 78 = .ok (.aload_n 0, 1) := by decide +kernel
theorem dX8_findSyncs_79 : decode cX8_findSyncs 79 = .ok (.getfield 83, 3) := by decide +kernel
theorem dX8_findSyncs_82 : decode cX8_findSyncs 82 = .ok (.iload 5, 2) := by decide +kernel
theorem dX8_findSyncs_84 : decode cX8_findSyncs 84 = .ok (.iastore, 1) := by decide +kernel
theorem dX8_findSyncs_85 : decode cX8_findSyncs 85 = .ok (.aload_n 0, 1) := by decide +kernel
theorem dX8_findSyncs_86 : decode cX8_findSyncs 86 = .ok (.dup, 1) := by decide +kernel
theorem dX8_findSyncs_87 : decode cX8_findSyncs 87 = .ok (.getfield 83, 3) := by decide +kernel
theorem dX8_findSyncs_90 : decode cX8_findSyncs 90 = .ok (.iconst 1, 1) := by decide +kernel
theorem dX8_findSyncs_91 : decode cX8_findSyncs 91 = .ok (.iadd, 1) := by decide +kernel
theorem dX8_findSyncs_92 : decode cX8_findSyncs 92 = .ok (.putfield 83, 3) := by decide +kernel
theorem dX8_findSyncs_95 : decode cX8_findSyncs 95 = .ok (.aload_n 0, 1) := by decide +kernel
theorem dX8_findSyncs_96 : decode cX8_findSyncs 96 = .ok (.getfield 8, 3) := by decide +kernel
theorem dX8_findSyncs_99 : decode cX8_findSyncs 99 = .ok (.iload_n 2, 1) := by decide +kernel
theorem dX8_findSyncs_100 : decode cX8_findSyncs 100 = .ok (.iload 5, 2) := by decide +kernel
theorem dX8_findSyncs_102 : decode cX8_findSyncs 102 = .ok (.iadd, 1) := by decide +kernel
theorem dX8_findSyncs_103 : decode cX8_findSyncs 103 = .ok (.baload, 1) := by decide +kernel
theorem dX8_findSyncs_104 : decode cX8_findSyncs 104 = .ok (.ifCond .eq 10, 3) := by decide +kernel
theorem dX8_findSyncs_107 : decode cX8_findSyncs 107 = .ok (.iload 4, 2) := by decide +kernel
theorem dX8_findSyncs_109 : decode cX8_findSyncs 109 = .ok (.iconst 1, 1) := by decide +kernel
theorem dX8_findSyncs_110 : decode cX8_findSyncs 110 = .ok (.iadd, 1) := by decide +kernel
theorem dX8_findSyncs_111 : decode cX8_findSyncs 111 = .ok (.goto 4, 3) := by decide +kernel
theorem dX8_findSyncs_114 : decode cX8_findSyncs 114 = .ok (.iconst 0, 1) := by decide +kernel
theorem dX8_findSyncs_115 : decode cX8_findSyncs 115 = .ok (.istore 4, 2) := by decide +kernel
theorem dX8_findSyncs_117 : decode cX8_findSyncs 117 = .ok (.iinc 5 1, 3) := by decide +kernel
theorem dX8_findSyncs_120 : decode cX8_findSyncs 120 = .ok (.goto (-71), 3) := by decide +kernel
theorem dX8_findSyncs_123 : decode cX8_findSyncs 123 = .ok (.return_, 1) := by decide +kernel
theorem dX8_decoded_0 : decode cX8_decoded 0 = .ok (.iload_n 1, 1) := by decide +kernel
theorem dX8_decoded_1 : decode cX8_decoded 1 = .ok (.invokestatic 80, 3) := by decide +kernel
theorem dX8_decoded_4 : decode cX8_decoded 4 = .ok (.istore_n 3, 1) := by decide +kernel
theorem dX8_decoded_5 : decode cX8_decoded 5 = .ok (.iload_n 1, 1) := by decide +kernel
theorem dX8_decoded_6 : decode cX8_decoded 6 = .ok (.invokestatic 66, 3) := by decide +kernel
theorem dX8_decoded_9 : decode cX8_decoded 9 = .ok (.istore 4, 2) := by decide +kernel
theorem dX8_decoded_11 : decode cX8_decoded 11 = .ok (.iconst 0, 1) := by decide +kernel
theorem dX8_decoded_12 : decode cX8_decoded 12 = .ok (.istore 5, 2) := by decide +kernel
theorem dX8_decoded_14 : decode cX8_decoded 14 = .ok (.iconst 0, 1) := by decide +kernel
theorem dX8_decoded_15 : decode cX8_decoded 15 = .ok (.istore 6, 2) := by decide +kernel
theorem dX8_decoded_17 : decode cX8_decoded 17 = .ok (.iload 6, 2) := by decide +kernel
theorem dX8_decoded_19 : decode cX8_decoded 19 = .ok (.bipush 10, 2) := by decide +kernel
theorem dX8_decoded_21 : decode cX8_decoded 21 = .ok (.if_icmp .ge 38, 3) := by decide +kernel
theorem dX8_decoded_24 : decode cX8_decoded 24 = .ok (.iconst 2, 1) := by decide +kernel
theorem dX8_decoded_25 : decode cX8_decoded 25 = .ok (.iload 5, 2) := by decide +kernel
theorem dX8_decoded_27 : decode cX8_decoded 27 = .ok (.imul, 1) := by decide +kernel
theorem dX8_decoded_28 : decode cX8_decoded 28 = .ok (.aload_n 0, 1) := by decide +kernel
theorem dX8_decoded_29 : decode cX8_decoded 29 = .ok (.getfield 8, 3) := by decide +kernel
theorem dX8_decoded_32 : decode cX8_decoded 32 = .ok (.iload_n 3, 1) := by decide +kernel
theorem dX8_decoded_33 : decode cX8_decoded 33 = .ok (.iload_n 2, 1) := by decide +kernel
theorem dX8_decoded_34 : decode cX8_decoded 34 = .ok (.iload 6, 2) := by decide +kernel
theorem dX8_decoded_36 : decode cX8_decoded 36 = .ok (.iadd, 1) := by decide +kernel
theorem dX8_decoded_37 : decode cX8_decoded 37 = .ok (.iload 4, 2) := by decide +kernel
theorem dX8_decoded_39 : decode cX8_decoded 39 = .ok (.irem, 1) := by decide +kernel
theorem dX8_decoded_40 : decode cX8_decoded 40 = .ok (.iadd, 1) := by decide +kernel
theorem dX8_decoded_41 : decode cX8_decoded 41 = .ok (.baload, 1) := by decide +kernel
theorem dX8_decoded_42 : decode cX8_decoded 42 = .ok (.ifCond .eq 7, 3) := by decide +kernel
theorem dX8_decoded_45 : decode cX8_decoded 45 = .ok (.iconst 1, 1) := by decide +kernel
theorem dX8_decoded_46 : decode cX8_decoded 46 = .ok (.goto 4, 3) := by decide +kernel
theorem dX8_decoded_49 : decode cX8_decoded 49 = .ok (.iconst 0, 1) := by decide +kernel
theorem dX8_decoded_50 : decode cX8_decoded 50 = .ok (.iadd, 1) := by decide +kernel
theorem dX8_decoded_51 : decode cX8_decoded 51 = .ok (.istore 5, 2) := by decide +kernel
theorem dX8_decoded_53 : decode cX8_decoded 53 = .ok (.iinc 6 1, 3) := by decide +kernel
theorem dX8_decoded_56 : decode cX8_decoded 56 = .ok (.goto (-39), 3) := by decide +kernel
theorem dX8_decoded_59 : decode cX8_decoded 59 = .ok (.aload_n 0, 1) := by decide +kernel
theorem dX8_decoded_60 : decode cX8_decoded 60 = .ok (.getfield 21, 3) := by decide +kernel
theorem dX8_decoded_63 : decode cX8_decoded 63 = .ok (.iload 5, 2) := by decide +kernel
theorem dX8_decoded_65 : decode cX8_decoded 65 = .ok (.iconst 5, 1) := by decide +kernel
theorem dX8_decoded_66 : decode cX8_decoded 66 = .ok (.ishr, 1) := by decide +kernel
theorem dX8_decoded_67 : decode cX8_decoded 67 = .ok (.iaload, 1) := by decide +kernel
theorem dX8_decoded_68 : decode cX8_decoded 68 = .ok (.istore 6, 2) := by decide +kernel
theorem dX8_decoded_70 : decode cX8_decoded 70 = .ok (.aload_n 0, 1) := by decide +kernel
theorem dX8_decoded_71 : decode cX8_decoded 71 = .ok (.getfield 21, 3) := by decide +kernel
theorem dX8_decoded_74 : decode cX8_decoded 74 = .ok (.iload 5, 2) := by decide +kernel
theorem dX8_decoded_76 : decode cX8_decoded 76 = .ok (.bipush 31, 2) := by decide +kernel
theorem dX8_decoded_78 : decode cX8_decoded 78 = .ok (.iand, 1) := by decide +kernel
theorem dX8_decoded_79 : decode cX8_decoded 79 = .ok (.iaload, 1) := by decide +kernel
theorem dX8_decoded_80 : decode cX8_decoded 80 = .ok (.istore 7, 2) := by decide +kernel
theorem dX8_decoded_82 : decode cX8_decoded 82 = .ok (.iload 6, 2) := by decide +kernel
theorem dX8_decoded_84 : decode cX8_decoded 84 = .ok (.ifCond .lt 8, 3) := by decide +kernel
theorem dX8_decoded_87 : decode cX8_decoded 87 = .ok (.iload 7, 2) := by decide +kernel
theorem dX8_decoded_89 : decode cX8_decoded 89 = .ok (.ifCond .ge 7, 3) := by decide +kernel
theorem dX8_decoded_92 : decode cX8_decoded 92 = .ok (.iconst (-1), 1) := by decide +kernel
theorem dX8_decoded_93 : decode cX8_decoded 93 = .ok (.goto 11, 3) := by decide +kernel
theorem dX8_decoded_96 : decode cX8_decoded 96 = .ok (.bipush 16, 2) := by decide +kernel
theorem dX8_decoded_98 : decode cX8_decoded 98 = .ok (.iload 6, 2) := by decide +kernel
theorem dX8_decoded_100 : decode cX8_decoded 100 = .ok (.imul, 1) := by decide +kernel
theorem dX8_decoded_101 : decode cX8_decoded 101 = .ok (.iload 7, 2) := by decide +kernel
theorem dX8_decoded_103 : decode cX8_decoded 103 = .ok (.iadd, 1) := by decide +kernel
theorem dX8_decoded_104 : decode cX8_decoded 104 = .ok (.ireturn, 1) := by decide +kernel
theorem dX8_putBits_0 : decode cX8_putBits 0 = .ok (.aload_n 0, 1) := by decide +kernel
theorem dX8_putBits_1 : decode cX8_putBits 1 = .ok (.getfield 86, 3) := by decide +kernel
theorem dX8_putBits_4 : decode cX8_putBits 4 = .ok (.invokestatic 80, 3) := by decide +kernel
theorem dX8_putBits_7 : decode cX8_putBits 7 = .ok (.istore_n 3, 1) := by decide +kernel
theorem dX8_putBits_8 : decode cX8_putBits 8 = .ok (.aload_n 0, 1) := by decide +kernel
theorem dX8_putBits_9 : decode cX8_putBits 9 = .ok (.getfield 86, 3) := by decide +kernel
theorem dX8_putBits_12 : decode cX8_putBits 12 = .ok (.invokestatic 66, 3) := by decide +kernel
theorem dX8_putBits_15 : decode cX8_putBits 15 = .ok (.istore 4, 2) := by decide +kernel
theorem dX8_putBits_17 : decode cX8_putBits 17 = .ok (.iload_n 2, 1) := by decide +kernel
theorem dX8_putBits_18 : decode cX8_putBits 18 = .ok (.iconst 1, 1) := by decide +kernel
theorem dX8_putBits_19 : decode cX8_putBits 19 = .ok (.isub, 1) := by decide +kernel
theorem dX8_putBits_20 : decode cX8_putBits 20 = .ok (.istore 5, 2) := by decide +kernel
theorem dX8_putBits_22 : decode cX8_putBits 22 = .ok (.iload 5, 2) := by decide +kernel
theorem dX8_putBits_24 : decode cX8_putBits 24 = .ok (.ifCond .lt 48, 3) := by decide +kernel
theorem dX8_putBits_27 : decode cX8_putBits 27 = .ok (.aload_n 0, 1) := by decide +kernel
theorem dX8_putBits_28 : decode cX8_putBits 28 = .ok (.getfield 8, 3) := by decide +kernel
theorem dX8_putBits_31 : decode cX8_putBits 31 = .ok (.iload_n 3, 1) := by decide +kernel
theorem dX8_putBits_32 : decode cX8_putBits 32 = .ok (.aload_n 0, 1) := by decide +kernel
theorem dX8_putBits_33 : decode cX8_putBits 33 = .ok (.getfield 89, 3) := by decide +kernel
theorem dX8_putBits_36 : decode cX8_putBits 36 = .ok (.iload 4, 2) := by decide +kernel
theorem dX8_putBits_38 : decode cX8_putBits 38 = .ok (.irem, 1) := by decide +kernel
theorem dX8_putBits_39 : decode cX8_putBits 39 = .ok (.iadd, 1) := by decide +kernel
theorem dX8_putBits_40 : decode cX8_putBits 40 = .ok (.iload_n 1, 1) := by decide +kernel
theorem dX8_putBits_41 : decode cX8_putBits 41 = .ok (.iload 5, 2) := by decide +kernel
theorem dX8_putBits_43 : decode cX8_putBits 43 = .ok (.ishr, 1) := by decide +kernel
theorem dX8_putBits_44 : decode cX8_putBits 44 = .ok (.iconst 1, 1) := by decide +kernel
theorem dX8_putBits_45 : decode cX8_putBits 45 = .ok (.iand, 1) := by decide +kernel
theorem dX8_putBits_46 : decode cX8_putBits 46 = .ok (.iconst 1, 1) := by decide +kernel
theorem dX8_putBits_47 : decode cX8_putBits 47 = .ok (.if_icmp .ne 7, 3) := by decide +kernel
theorem dX8_putBits_50 : decode cX8_putBits 50 = .ok (.iconst 1, 1) := by decide +kernel
theorem dX8_putBits_51 : decode cX8_putBits 51 = .ok (.goto 4, 3) := by decide +kernel
theorem dX8_putBits_54 : decode cX8_putBits 54 = .ok (.iconst 0, 1) := by decide +kernel
theorem dX8_putBits_55 : decode cX8_putBits 55 = .ok (.bastore, 1) := by decide +kernel
theorem dX8_putBits_56 : decode cX8_putBits 56 = .ok (.aload_n 0, 1) := by decide +kernel
theorem dX8_putBits_57 : decode cX8_putBits 57 = .ok (.dup, 1) := by decide +kernel
theorem dX8_putBits_58 : decode cX8_putBits 58 = .ok (.getfield 89, 3) := by decide +kernel
theorem dX8_putBits_61 : decode cX8_putBits 61 = .ok (.iconst 1, 1) := by decide +kernel
theorem dX8_putBits_62 : decode cX8_putBits 62 = .ok (.iadd, 1) := by decide +kernel
theorem dX8_putBits_63 : decode cX8_putBits 63 = .ok (.putfield 89, 3) := by decide +kernel
theorem dX8_putBits_66 : decode cX8_putBits 66 = .ok (.iinc 5 (-1), 3) := by decide +kernel
theorem dX8_putBits_69 : decode cX8_putBits 69 = .ok (.goto (-47), 3) := by decide +kernel
theorem dX8_putBits_72 : decode cX8_putBits 72 = .ok (.return_, 1) := by decide +kernel
theorem dX8_putCoded_0 : decode cX8_putCoded 0 = .ok (.aload_n 0, 1) := by decide +kernel
theorem dX8_putCoded_1 : decode cX8_putCoded 1 = .ok (.aload_n 0, 1) := by decide +kernel
theorem dX8_putCoded_2 : decode cX8_putCoded 2 = .ok (.getfield 17, 3) := by decide +kernel
theorem dX8_putCoded_5 : decode cX8_putCoded 5 = .ok (.iload_n 1, 1) := by decide +kernel
theorem dX8_putCoded_6 : decode cX8_putCoded 6 = .ok (.iconst 4, 1) := by decide +kernel
theorem dX8_putCoded_7 : decode cX8_putCoded 7 = .ok (.ishr, 1) := by decide +kernel
theorem dX8_putCoded_8 : decode cX8_putCoded 8 = .ok (.bipush 15, 2) := by decide +kernel
theorem dX8_putCoded_10 : decode cX8_putCoded 10 = .ok (.iand, 1) := by decide +kernel
theorem dX8_putCoded_11 : decode cX8_putCoded 11 = .ok (.iaload, 1) := by decide +kernel
theorem dX8_putCoded_12 : decode cX8_putCoded 12 = .ok (.iconst 5, 1) := by decide +kernel
theorem dX8_putCoded_13 : decode cX8_putCoded 13 = .ok (.invokevirtual 92, 3) := by decide +kernel
theorem dX8_putCoded_16 : decode cX8_putCoded 16 = .ok (.aload_n 0, 1) := by decide +kernel
theorem dX8_putCoded_17 : decode cX8_putCoded 17 = .ok (.aload_n 0, 1) := by decide +kernel
theorem dX8_putCoded_18 : decode cX8_putCoded 18 = .ok (.getfield 17, 3) := by decide +kernel
theorem dX8_putCoded_21 : decode cX8_putCoded 21 = .ok (.iload_n 1, 1) := by decide +kernel
theorem dX8_putCoded_22 : decode cX8_putCoded 22 = .ok (.bipush 15, 2) := by decide +kernel
theorem dX8_putCoded_24 : decode cX8_putCoded 24 = .ok (.iand, 1) := by decide +kernel
theorem dX8_putCoded_25 : decode cX8_putCoded 25 = .ok (.iaload, 1) := by decide +kernel
theorem dX8_putCoded_26 : decode cX8_putCoded 26 = .ok (.iconst 5, 1) := by decide +kernel
theorem dX8_putCoded_27 : decode cX8_putCoded 27 = .ok (.invokevirtual 92, 3) := by decide +kernel
theorem dX8_putCoded_30 : decode cX8_putCoded 30 = .ok (.return_, 1) := by decide +kernel
theorem dX8_putSync_0 : decode cX8_putSync 0 = .ok (.aload_n 0, 1) := by decide +kernel
theorem dX8_putSync_1 : decode cX8_putSync 1 = .ok (.sipush 255, 3) := by decide +kernel
theorem dX8_putSync_4 : decode cX8_putSync 4 = .ok (.bipush 8, 2) := by decide +kernel
theorem dX8_putSync_6 : decode cX8_putSync 6 = .ok (.invokevirtual 92, 3) := by decide +kernel
theorem dX8_putSync_9 : decode cX8_putSync 9 = .ok (.aload_n 0, 1) := by decide +kernel
theorem dX8_putSync_10 : decode cX8_putSync 10 = .ok (.iconst (-1), 1) := by decide +kernel
theorem dX8_putSync_11 : decode cX8_putSync 11 = .ok (.bipush 32, 2) := by decide +kernel
theorem dX8_putSync_13 : decode cX8_putSync 13 = .ok (.invokevirtual 92, 3) := by decide +kernel
theorem dX8_putSync_16 : decode cX8_putSync 16 = .ok (.return_, 1) := by decide +kernel
theorem dX8_putData_0 : decode cX8_putData 0 = .ok (.aload_n 0, 1) := by decide +kernel
theorem dX8_putData_1 : decode cX8_putData 1 = .ok (.invokevirtual 96, 3) := by decide +kernel
theorem dX8_putData_4 : decode cX8_putData 4 = .ok (.iconst 0, 1) := by decide +kernel
theorem dX8_putData_5 : decode cX8_putData 5 = .ok (.istore_n 1, 1) := by decide +kernel
theorem dX8_putData_6 : decode cX8_putData 6 = .ok (.aload_n 0, 1) := by decide +kernel
theorem dX8_putData_7 : decode cX8_putData 7 = .ok (.bipush 7, 2) := by decide +kernel
theorem dX8_putData_9 : decode cX8_putData 9 = .ok (.invokevirtual 99, 3) := by decide +kernel
theorem dX8_putData_12 : decode cX8_putData 12 = .ok (.iconst 0, 1) := by decide +kernel
theorem dX8_putData_13 : decode cX8_putData 13 = .ok (.istore_n 2, 1) := by decide +kernel
theorem dX8_putData_14 : decode cX8_putData 14 = .ok (.iload_n 2, 1) := by decide +kernel
theorem dX8_putData_15 : decode cX8_putData 15 = .ok (.bipush 64, 2) := by decide +kernel
theorem dX8_putData_17 : decode cX8_putData 17 = .ok (.if_icmp .ge 28, 3) := by decide +kernel
theorem dX8_putData_20 : decode cX8_putData 20 = .ok (.aload_n 0, 1) := by decide +kernel
theorem dX8_putData_21 : decode cX8_putData 21 = .ok (.aload_n 0, 1) := by decide +kernel
theorem dX8_putData_22 : decode cX8_putData 22 = .ok (.getfield 37, 3) := by decide +kernel
theorem dX8_putData_25 : decode cX8_putData 25 = .ok (.iload_n 2, 1) := by decide +kernel
theorem dX8_putData_26 : decode cX8_putData 26 = .ok (.iaload, 1) := by decide +kernel
theorem dX8_putData_27 : decode cX8_putData 27 = .ok (.invokevirtual 99, 3) := by decide +kernel
theorem dX8_putData_30 : decode cX8_putData 30 = .ok (.iload_n 1, 1) := by decide +kernel
theorem dX8_putData_31 : decode cX8_putData 31 = .ok (.aload_n 0, 1) := by decide +kernel
theorem dX8_putData_32 : decode cX8_putData 32 = .ok (.getfield 37, 3) := by decide +kernel
theorem dX8_putData_35 : decode cX8_putData 35 = .ok (.iload_n 2, 1) := by decide +kernel
theorem dX8_putData_36 : decode cX8_putData 36 = .ok (.iaload, 1) := by decide +kernel
theorem dX8_putData_37 : decode cX8_putData 37 = .ok (.ixor, 1) := by decide +kernel
theorem dX8_putData_38 : decode cX8_putData 38 = .ok (.istore_n 1, 1) := by decide +kernel
theorem dX8_putData_39 : decode cX8_putData 39 = .ok (.iinc 2 1, 3) := by decide +kernel
theorem dX8_putData_42 : decode cX8_putData 42 = .ok (.goto (-28), 3) := by decide +kernel
theorem dX8_putData_45 : decode cX8_putData 45 = .ok (.aload_n 0, 1) := by decide +kernel
theorem dX8_putData_46 : decode cX8_putData 46 = .ok (.iload_n 1, 1) := by decide +kernel
theorem dX8_putData_47 : decode cX8_putData 47 = .ok (.invokevirtual 99, 3) := by decide +kernel
theorem dX8_putData_50 : decode cX8_putData 50 = .ok (.return_, 1) := by decide +kernel
theorem dX8_isHeaderOf_0 : decode cX8_isHeaderOf 0 = .ok (.aload_n 0, 1) := by decide +kernel
theorem dX8_isHeaderOf_1 : decode cX8_isHeaderOf 1 = .ok (.iload_n 1, 1) := by decide +kernel
theorem dX8_isHeaderOf_2 : decode cX8_isHeaderOf 2 = .ok (.iload_n 3, 1) := by decide +kernel
theorem dX8_isHeaderOf_3 : decode cX8_isHeaderOf 3 = .ok (.invokevirtual 103, 3) := by decide +kernel
theorem dX8_isHeaderOf_6 : decode cX8_isHeaderOf 6 = .ok (.bipush 8, 2) := by decide +kernel
theorem dX8_isHeaderOf_8 : decode cX8_isHeaderOf 8 = .ok (.if_icmp .ne 7, 3) := by decide +kernel
theorem dX8_isHeaderOf_11 : decode cX8_isHeaderOf 11 = .ok (.iconst 1, 1) := by decide +kernel
theorem dX8_isHeaderOf_12 : decode cX8_isHeaderOf 12 = .ok (.goto 4, 3) := by decide +kernel
theorem dX8_isHeaderOf_15 : decode cX8_isHeaderOf 15 = .ok (.iconst 0, 1) := by decide +kernel
theorem dX8_isHeaderOf_16 : decode cX8_isHeaderOf 16 = .ok (.istore 4, 2) := by decide +kernel
theorem dX8_isHeaderOf_18 : decode cX8_isHeaderOf 18 = .ok (.iconst 1, 1) := by decide +kernel
theorem dX8_isHeaderOf_19 : decode cX8_isHeaderOf 19 = .ok (.istore 5, 2) := by decide +kernel
theorem dX8_isHeaderOf_21 : decode cX8_isHeaderOf 21 = .ok (.iload 5, 2) := by decide +kernel
theorem dX8_isHeaderOf_23 : decode cX8_isHeaderOf 23 = .ok (.bipush 6, 2) := by decide +kernel
theorem dX8_isHeaderOf_25 : decode cX8_isHeaderOf 25 = .ok (.if_icmp .ge 36, 3) := by decide +kernel
theorem dX8_isHeaderOf_28 : decode cX8_isHeaderOf 28 = .ok (.iload 4, 2) := by decide +kernel
theorem dX8_isHeaderOf_30 : decode cX8_isHeaderOf 30 = .ok (.ifCond .eq 31, 3) := by decide +kernel
theorem dX8_isHeaderOf_33 : decode cX8_isHeaderOf 33 = .ok (.aload_n 0, 1) := by decide +kernel
theorem dX8_isHeaderOf_34 : decode cX8_isHeaderOf 34 = .ok (.iload_n 1, 1) := by decide +kernel
theorem dX8_isHeaderOf_35 : decode cX8_isHeaderOf 35 = .ok (.iload_n 3, 1) := by decide +kernel
theorem dX8_isHeaderOf_36 : decode cX8_isHeaderOf 36 = .ok (.bipush 10, 2) := by decide +kernel
theorem dX8_isHeaderOf_38 : decode cX8_isHeaderOf 38 = .ok (.iload 5, 2) := by decide +kernel
theorem dX8_isHeaderOf_40 : decode cX8_isHeaderOf 40 = .ok (.imul, 1) := by decide +kernel
theorem dX8_isHeaderOf_41 : decode cX8_isHeaderOf 41 = .ok (.iadd, 1) := by decide +kernel
theorem dX8_isHeaderOf_42 : decode cX8_isHeaderOf 42 = .ok (.invokevirtual 103, 3) := by decide +kernel
theorem dX8_isHeaderOf_45 : decode cX8_isHeaderOf 45 = .ok (.ifCond .lt 7, 3) := by decide +kernel
theorem dX8_isHeaderOf_48 : decode cX8_isHeaderOf 48 = .ok (.iconst 1, 1) := by decide +kernel
theorem dX8_isHeaderOf_49 : decode cX8_isHeaderOf 49 = .ok (.goto 4, 3) := by decide +kernel
theorem dX8_isHeaderOf_52 : decode cX8_isHeaderOf 52 = .ok (.iconst 0, 1) := by decide +kernel
theorem dX8_isHeaderOf_53 : decode cX8_isHeaderOf 53 = .ok (.istore 4, 2) := by decide +kernel
theorem dX8_isHeaderOf_55 : decode cX8_isHeaderOf 55 = .ok (.iinc 5 1, 3) := by decide +kernel
theorem dX8_isHeaderOf_58 : decode cX8_isHeaderOf 58 = .ok (.goto (-37), 3) := by decide +kernel
theorem dX8_isHeaderOf_61 : decode cX8_isHeaderOf 61 = .ok (.iload 4, 2) := by decide +kernel
theorem dX8_isHeaderOf_63 : decode cX8_isHeaderOf 63 = .ok (.ifCond .eq 33, 3) := by decide +kernel
theorem dX8_isHeaderOf_66 : decode cX8_isHeaderOf 66 = .ok (.aload_n 0, 1) := by decide +kernel
theorem dX8_isHeaderOf_67 : decode cX8_isHeaderOf 67 = .ok (.iload_n 1, 1) := by decide +kernel
theorem dX8_isHeaderOf_68 : decode cX8_isHeaderOf 68 = .ok (.iload_n 3, 1) := by decide +kernel
theorem dX8_isHeaderOf_69 : decode cX8_isHeaderOf 69 = .ok (.bipush 20, 2) := by decide +kernel
theorem dX8_isHeaderOf_71 : decode cX8_isHeaderOf 71 = .ok (.iadd, 1) := by decide +kernel
theorem dX8_isHeaderOf_72 : decode cX8_isHeaderOf 72 = .ok (.invokevirtual 103, 3) := by decide +kernel
theorem dX8_isHeaderOf_75 : decode cX8_isHeaderOf 75 = .ok (.iload_n 2, 1) := by decide +kernel
theorem dX8_isHeaderOf_76 : decode cX8_isHeaderOf 76 = .ok (.if_icmp .ne 20, 3) := by decide +kernel
theorem dX8_isHeaderOf_79 : decode cX8_isHeaderOf 79 = .ok (.aload_n 0, 1) := by decide +kernel
theorem dX8_isHeaderOf_80 : decode cX8_isHeaderOf 80 = .ok (.iload_n 1, 1) := by decide +kernel
theorem dX8_isHeaderOf_81 : decode cX8_isHeaderOf 81 = .ok (.iload_n 3, 1) := by decide +kernel
theorem dX8_isHeaderOf_82 : decode cX8_isHeaderOf 82 = .ok (.bipush 30, 2) := by decide +kernel
theorem dX8_isHeaderOf_84 : decode cX8_isHeaderOf 84 = .ok (.iadd, 1) := by decide +kernel
theorem dX8_isHeaderOf_85 : decode cX8_isHeaderOf 85 = .ok (.invokevirtual 103, 3) := by decide +kernel
theorem dX8_isHeaderOf_88 : decode cX8_isHeaderOf 88 = .ok (.iload_n 1, 1) := by decide +kernel
theorem dX8_isHeaderOf_89 : decode cX8_isHeaderOf 89 = .ok (.if_icmp .ne 7, 3) := by decide +kernel
theorem dX8_isHeaderOf_92 : decode cX8_isHeaderOf 92 = .ok (.iconst 1, 1) := by decide +kernel
theorem dX8_isHeaderOf_93 : decode cX8_isHeaderOf 93 = .ok (.goto 4, 3) := by decide +kernel
theorem dX8_isHeaderOf_96 : decode cX8_isHeaderOf 96 = .ok (.iconst 0, 1) := by decide +kernel
theorem dX8_isHeaderOf_97 : decode cX8_isHeaderOf 97 = .ok (.ireturn, 1) := by decide +kernel
theorem dX8_seek_0 : decode cX8_seek 0 = .ok (.aload_n 0, 1) := by decide +kernel
theorem dX8_seek_1 : decode cX8_seek 1 = .ok (.iload_n 1, 1) := by decide +kernel
theorem dX8_seek_2 : decode cX8_seek 2 = .ok (.invokevirtual 107, 3) := by decide +kernel
theorem dX8_seek_5 : decode cX8_seek 5 = .ok (.aload_n 0, 1) := by decide +kernel
theorem dX8_seek_6 : decode cX8_seek 6 = .ok (.getfield 83, 3) := by decide +kernel
theorem dX8_seek_9 : decode cX8_seek 9 = .ok (.ifCond .ne 6, 3) := by decide +kernel
theorem dX8_seek_12 : decode cX8_seek 12 = .ok (.bipush 21, 2) := by decide +kernel
theorem dX8_seek_14 : decode cX8_seek 14 = .ok (.ireturn, 1) := by decide +kernel
theorem dX8_seek_15 : decode cX8_seek 15 = .ok (.aload_n 0, 1) := by decide +kernel
theorem dX8_seek_16 : decode cX8_seek 16 = .ok (.iconst (-1), 1) := by decide +kernel
theorem dX8_seek_17 : decode cX8_seek 17 = .ok (.putfield 110, 3) := by decide +kernel
theorem dX8_seek_20 : decode cX8_seek 20 = .ok (.iconst 0, 1) := by decide +kernel
theorem dX8_seek_21 : decode cX8_seek 21 = .ok (.istore_n 3, 1) := by decide +kernel
theorem dX8_seek_22 : decode cX8_seek 22 = .ok (.iload_n 3, 1) := by decide +kernel
theorem dX8_seek_23 : decode cX8_seek 23 = .ok (.aload_n 0, 1) := by decide +kernel
theorem dX8_seek_24 : decode cX8_seek 24 = .ok (.getfield 83, 3) := by decide +kernel
theorem dX8_seek_27 : decode cX8_seek 27 = .ok (.if_icmp .ge 40, 3) := by decide +kernel
theorem dX8_seek_30 : decode cX8_seek 30 = .ok (.aload_n 0, 1) := by decide +kernel
theorem dX8_seek_31 : decode cX8_seek 31 = .ok (.getfield 110, 3) := by decide +kernel
theorem dX8_seek_34 : decode cX8_seek 34 = .ok (.ifCond .ge 33, 3) := by decide +kernel
theorem dX8_seek_37 : decode cX8_seek 37 = .ok (.aload_n 0, 1) := by decide +kernel
theorem dX8_seek_38 : decode cX8_seek 38 = .ok (.aload_n 0, 1) := by decide +kernel
theorem dX8_seek_39 : decode cX8_seek 39 = .ok (.iload_n 1, 1) := by decide +kernel
theorem dX8_seek_40 : decode cX8_seek 40 = .ok (.iload_n 2, 1) := by decide +kernel
theorem dX8_seek_41 : decode cX8_seek 41 = .ok (.aload_n 0, 1) := by decide +kernel
theorem dX8_seek_42 : decode cX8_seek 42 = .ok (.getfield 34, 3) := by decide +kernel
theorem dX8_seek_45 : decode cX8_seek 45 = .ok (.iload_n 3, 1) := by decide +kernel
theorem dX8_seek_46 : decode cX8_seek 46 = .ok (.iaload, 1) := by decide +kernel
theorem dX8_seek_47 : decode cX8_seek 47 = .ok (.invokevirtual 113, 3) := by decide +kernel
theorem dX8_seek_50 : decode cX8_seek 50 = .ok (.ifCond .eq 7, 3) := by decide +kernel
theorem dX8_seek_53 : decode cX8_seek 53 = .ok (.iload_n 3, 1) := by decide +kernel
theorem dX8_seek_54 : decode cX8_seek 54 = .ok (.goto 4, 3) := by decide +kernel
theorem dX8_seek_57 : decode cX8_seek 57 = .ok (.iconst (-1), 1) := by decide +kernel
theorem dX8_seek_58 : decode cX8_seek 58 = .ok (.putfield 110, 3) := by decide +kernel
theorem dX8_seek_61 : decode cX8_seek 61 = .ok (.iinc 3 1, 3) := by decide +kernel
theorem dX8_seek_64 : decode cX8_seek 64 = .ok (.goto (-42), 3) := by decide +kernel
theorem dX8_seek_67 : decode cX8_seek 67 = .ok (.aload_n 0, 1) := by decide +kernel
theorem dX8_seek_68 : decode cX8_seek 68 = .ok (.getfield 110, 3) := by decide +kernel
theorem dX8_seek_71 : decode cX8_seek 71 = .ok (.ifCond .ge 6, 3) := by decide +kernel
theorem dX8_seek_74 : decode cX8_seek 74 = .ok (.bipush 20, 2) := by decide +kernel
theorem dX8_seek_76 : decode cX8_seek 76 = .ok (.ireturn, 1) := by decide +kernel
theorem dX8_seek_77 : decode cX8_seek 77 = .ok (.aload_n 0, 1) := by decide +kernel
theorem dX8_seek_78 : decode cX8_seek 78 = .ok (.getfield 34, 3) := by decide +kernel
theorem dX8_seek_81 : decode cX8_seek 81 = .ok (.aload_n 0, 1) := by decide +kernel
theorem dX8_seek_82 : decode cX8_seek 82 = .ok (.getfield 110, 3) := by decide +kernel
theorem dX8_seek_85 : decode cX8_seek 85 = .ok (.iaload, 1) := by decide +kernel
theorem dX8_seek_86 : decode cX8_seek 86 = .ok (.istore_n 3, 1) := by decide +kernel
theorem dX8_seek_87 : decode cX8_seek 87 = .ok (.aload_n 0, 1) := by decide +kernel
theorem dX8_seek_88 : decode cX8_seek 88 = .ok (.iload_n 1, 1) := by decide +kernel
theorem dX8_seek_89 : decode cX8_seek 89 = .ok (.iload_n 3, 1) := by decide +kernel
theorem dX8_seek_90 : decode cX8_seek 90 = .ok (.bipush 40, 2) := by decide +kernel
theorem dX8_seek_92 : decode cX8_seek 92 = .ok (.iadd, 1) := by decide +kernel
theorem dX8_seek_93 : decode cX8_seek 93 = .ok (.invokevirtual 103, 3) := by decide +kernel
theorem dX8_seek_96 : decode cX8_seek 96 = .ok (.istore 4, 2) := by decide +kernel
theorem dX8_seek_98 : decode cX8_seek 98 = .ok (.aload_n 0, 1) := by decide +kernel
theorem dX8_seek_99 : decode cX8_seek 99 = .ok (.iload_n 1, 1) := by decide +kernel
theorem dX8_seek_100 : decode cX8_seek 100 = .ok (.iload_n 3, 1) := by decide +kernel
theorem dX8_seek_101 : decode cX8_seek 101 = .ok (.bipush 50, 2) := by decide +kernel
theorem dX8_seek_103 : decode cX8_seek 103 = .ok (.iadd, 1) := by decide +kernel
theorem dX8_seek_104 : decode cX8_seek 104 = .ok (.invokevirtual 103, 3) := by decide +kernel
theorem dX8_seek_107 : decode cX8_seek 107 = .ok (.istore 5, 2) := by decide +kernel
theorem dX8_seek_109 : decode cX8_seek 109 = .ok (.aload_n 0, 1) := by decide +kernel
theorem dX8_seek_110 : decode cX8_seek 110 = .ok (.iload_n 1, 1) := by decide +kernel
theorem dX8_seek_111 : decode cX8_seek 111 = .ok (.iload_n 3, 1) := by decide +kernel
theorem dX8_seek_112 : decode cX8_seek 112 = .ok (.bipush 10, 2) := by decide +kernel
theorem dX8_seek_114 : decode cX8_seek 114 = .ok (.iadd, 1) := by decide +kernel
theorem dX8_seek_115 : decode cX8_seek 115 = .ok (.invokevirtual 103, 3) := by decide +kernel
theorem dX8_seek_118 : decode cX8_seek 118 = .ok (.iload_n 2, 1) := by decide +kernel
theorem dX8_seek_119 : decode cX8_seek 119 = .ok (.iload_n 1, 1) := by decide +kernel
theorem dX8_seek_120 : decode cX8_seek 120 = .ok (.ixor, 1) := by decide +kernel
theorem dX8_seek_121 : decode cX8_seek 121 = .ok (.iload 4, 2) := by decide +kernel
theorem dX8_seek_123 : decode cX8_seek 123 = .ok (.ixor, 1) := by decide +kernel
theorem dX8_seek_124 : decode cX8_seek 124 = .ok (.iload 5, 2) := by decide +kernel
theorem dX8_seek_126 : decode cX8_seek 126 = .ok (.ixor, 1) := by decide +kernel
theorem dX8_seek_127 : decode cX8_seek 127 = .ok (.if_icmp .eq 6, 3) := by decide +kernel
theorem dX8_seek_130 : decode cX8_seek 130 = .ok (.bipush 27, 2) := by decide +kernel
theorem dX8_seek_132 : decode cX8_seek 132 = .ok (.ireturn, 1) := by decide +kernel
theorem dX8_seek_133 : decode cX8_seek 133 = .ok (.sipush 256, 3) := by decide +kernel
theorem dX8_seek_136 : decode cX8_seek 136 = .ok (.iload 4, 2) := by decide +kernel
theorem dX8_seek_138 : decode cX8_seek 138 = .ok (.imul, 1) := by decide +kernel
theorem dX8_seek_139 : decode cX8_seek 139 = .ok (.iload 5, 2) := by decide +kernel
theorem dX8_seek_141 : decode cX8_seek 141 = .ok (.iadd, 1) := by decide +kernel
theorem dX8_seek_142 : decode cX8_seek 142 = .ok (.aload_n 0, 1) := by decide +kernel
theorem dX8_seek_143 : decode cX8_seek 143 = .ok (.getfield 24, 3) := by decide +kernel
theorem dX8_seek_146 : decode cX8_seek 146 = .ok (.if_icmp .ne 7, 3) := by decide +kernel
theorem dX8_seek_149 : decode cX8_seek 149 = .ok (.iconst 0, 1) := by decide +kernel
theorem dX8_seek_150 : decode cX8_seek 150 = .ok (.goto 5, 3) := by decide +kernel
theorem dX8_seek_153 : decode cX8_seek 153 = .ok (.bipush 29, 2) := by decide +kernel
theorem dX8_seek_155 : decode cX8_seek 155 = .ok (.ireturn, 1) := by decide +kernel
theorem dX8_dataOf_0 : decode cX8_dataOf 0 = .ok (.aload_n 0, 1) := by decide +kernel
theorem dX8_dataOf_1 : decode cX8_dataOf 1 = .ok (.getfield 34, 3) := by decide +kernel
theorem dX8_dataOf_4 : decode cX8_dataOf 4 = .ok (.aload_n 0, 1) := by decide +kernel
theorem dX8_dataOf_5 : decode cX8_dataOf 5 = .ok (.getfield 110, 3) := by decide +kernel
theorem dX8_dataOf_8 : decode cX8_dataOf 8 = .ok (.iconst 1, 1) := by decide +kernel
theorem dX8_dataOf_9 : decode cX8_dataOf 9 = .ok (.iadd, 1) := by decide +kernel
theorem dX8_dataOf_10 : decode cX8_dataOf 10 = .ok (.aload_n 0, 1) := by decide +kernel
theorem dX8_dataOf_11 : decode cX8_dataOf 11 = .ok (.getfield 83, 3) := by decide +kernel
theorem dX8_dataOf_14 : decode cX8_dataOf 14 = .ok (.irem, 1) := by decide +kernel
theorem dX8_dataOf_15 : decode cX8_dataOf 15 = .ok (.iaload, 1) := by decide +kernel
theorem dX8_dataOf_16 : decode cX8_dataOf 16 = .ok (.istore_n 2, 1) := by decide +kernel
theorem dX8_dataOf_17 : decode cX8_dataOf 17 = .ok (.aload_n 0, 1) := by decide +kernel
theorem dX8_dataOf_18 : decode cX8_dataOf 18 = .ok (.iload_n 1, 1) := by decide +kernel
theorem dX8_dataOf_19 : decode cX8_dataOf 19 = .ok (.iload_n 2, 1) := by decide +kernel
theorem dX8_dataOf_20 : decode cX8_dataOf 20 = .ok (.invokevirtual 103, 3) := by decide +kernel
theorem dX8_dataOf_23 : decode cX8_dataOf 23 = .ok (.bipush 7, 2) := by decide +kernel
theorem dX8_dataOf_25 : decode cX8_dataOf 25 = .ok (.if_icmp .eq 6, 3) := by decide +kernel
theorem dX8_dataOf_28 : decode cX8_dataOf 28 = .ok (.bipush 22, 2) := by decide +kernel
theorem dX8_dataOf_30 : decode cX8_dataOf 30 = .ok (.ireturn, 1) := by decide +kernel
theorem dX8_dataOf_31 : decode cX8_dataOf 31 = .ok (.iconst 0, 1) := by decide +kernel
theorem dX8_dataOf_32 : decode cX8_dataOf 32 = .ok (.istore_n 3, 1) := by decide +kernel
theorem dX8_dataOf_33 : decode cX8_dataOf 33 = .ok (.iconst 0, 1) := by decide +kernel
theorem dX8_dataOf_34 : decode cX8_dataOf 34 = .ok (.istore 4, 2) := by decide +kernel
theorem dX8_dataOf_36 : decode cX8_dataOf 36 = .ok (.iload 4, 2) := by decide +kernel
theorem dX8_dataOf_38 : decode cX8_dataOf 38 = .ok (.bipush 65, 2) := by decide +kernel
theorem dX8_dataOf_40 : decode cX8_dataOf 40 = .ok (.if_icmp .ge 54, 3) := by decide +kernel
theorem dX8_dataOf_43 : decode cX8_dataOf 43 = .ok (.aload_n 0, 1) := by decide +kernel
theorem dX8_dataOf_44 : decode cX8_dataOf 44 = .ok (.iload_n 1, 1) := by decide +kernel
theorem dX8_dataOf_45 : decode cX8_dataOf 45 = .ok (.iload_n 2, 1) := by decide +kernel
theorem dX8_dataOf_46 : decode cX8_dataOf 46 = .ok (.bipush 10, 2) := by decide +kernel
theorem dX8_dataOf_48 : decode cX8_dataOf 48 = .ok (.iload 4, 2) := by decide +kernel
theorem dX8_dataOf_50 : decode cX8_dataOf 50 = .ok (.iconst 1, 1) := by decide +kernel
theorem dX8_dataOf_51 : decode cX8_dataOf 51 = .ok (.iadd, 1) := by decide +kernel
theorem dX8_dataOf_52 : decode cX8_dataOf 52 = .ok (.imul, 1) := by decide +kernel
theorem dX8_dataOf_53 : decode cX8_dataOf 53 = .ok (.iadd, 1) := by decide +kernel
theorem dX8_dataOf_54 : decode cX8_dataOf 54 = .ok (.invokevirtual 103, 3) := by decide +kernel
theorem dX8_dataOf_57 : decode cX8_dataOf 57 = .ok (.istore 5, 2) := by decide +kernel
theorem dX8_dataOf_59 : decode cX8_dataOf 59 = .ok (.iload 5, 2) := by decide +kernel
theorem dX8_dataOf_61 : decode cX8_dataOf 61 = .ok (.ifCond .ge 6, 3) := by decide +kernel
theorem dX8_dataOf_64 : decode cX8_dataOf 64 = .ok (.bipush 24, 2) := by decide +kernel
theorem dX8_dataOf_66 : decode cX8_dataOf 66 = .ok (.ireturn, 1) := by decide +kernel
theorem dX8_dataOf_67 : decode cX8_dataOf 67 = .ok (.iload_n 3, 1) := by decide +kernel
theorem dX8_dataOf_68 : decode cX8_dataOf 68 = .ok (.iload 5, 2) := by decide +kernel
theorem dX8_dataOf_70 : decode cX8_dataOf 70 = .ok (.ixor, 1) := by decide +kernel
theorem dX8_dataOf_71 : decode cX8_dataOf 71 = .ok (.istore_n 3, 1) := by decide +kernel
theorem dX8_dataOf_72 : decode cX8_dataOf 72 = .ok (.iload 4, 2) := by decide +kernel
theorem dX8_dataOf_74 : decode cX8_dataOf 74 = .ok (.bipush 64, 2) := by decide +kernel
theorem dX8_dataOf_76 : decode cX8_dataOf 76 = .ok (.if_icmp .ge 12, 3) := by decide +kernel
theorem dX8_dataOf_79 : decode cX8_dataOf 79 = .ok (.aload_n 0, 1) := by decide +kernel
theorem dX8_dataOf_80 : decode cX8_dataOf 80 = .ok (.getfield 37, 3) := by decide +kernel
theorem dX8_dataOf_83 : decode cX8_dataOf 83 = .ok (.iload 4, 2) := by decide +kernel
theorem dX8_dataOf_85 : decode cX8_dataOf 85 = .ok (.iload 5, 2) := by decide +kernel
theorem dX8_dataOf_87 : decode cX8_dataOf 87 = .ok (.iastore, 1) := by decide +kernel
theorem dX8_dataOf_88 : decode cX8_dataOf 88 = .ok (.iinc 4 1, 3) := by decide +kernel
theorem dX8_dataOf_91 : decode cX8_dataOf 91 = .ok (.goto (-55), 3) := by decide +kernel
theorem dX8_dataOf_94 : decode cX8_dataOf 94 = .ok (.iload_n 3, 1) := by decide +kernel
theorem dX8_dataOf_95 : decode cX8_dataOf 95 = .ok (.ifCond .ne 7, 3) := by decide +kernel
theorem dX8_dataOf_98 : decode cX8_dataOf 98 = .ok (.iconst 0, 1) := by decide +kernel
theorem dX8_dataOf_99 : decode cX8_dataOf 99 = .ok (.goto 5, 3) := by decide +kernel
theorem dX8_dataOf_102 : decode cX8_dataOf 102 = .ok (.bipush 23, 2) := by decide +kernel
theorem dX8_dataOf_104 : decode cX8_dataOf 104 = .ok (.ireturn, 1) := by decide +kernel
theorem dX8_readBlock_0 : decode cX8_readBlock 0 = .ok (.aload_n 0, 1) := by decide +kernel
theorem dX8_readBlock_1 : decode cX8_readBlock 1 = .ok (.iload_n 1, 1) := by decide +kernel
theorem dX8_readBlock_2 : decode cX8_readBlock 2 = .ok (.iload_n 2, 1) := by decide +kernel
theorem dX8_readBlock_3 : decode cX8_readBlock 3 = .ok (.invokevirtual 116, 3) := by decide +kernel
theorem dX8_readBlock_6 : decode cX8_readBlock 6 = .ok (.istore_n 3, 1) := by decide +kernel
theorem dX8_readBlock_7 : decode cX8_readBlock 7 = .ok (.iload_n 3, 1) := by decide +kernel
theorem dX8_readBlock_8 : decode cX8_readBlock 8 = .ok (.ifCond .ne 11, 3) := by decide +kernel
theorem dX8_readBlock_11 : decode cX8_readBlock 11 = .ok (.aload_n 0, 1) := by decide +kernel
theorem dX8_readBlock_12 : decode cX8_readBlock 12 = .ok (.iload_n 1, 1) := by decide +kernel
theorem dX8_readBlock_13 : decode cX8_readBlock 13 = .ok (.invokevirtual 119, 3) := by decide +kernel
theorem dX8_readBlock_16 : decode cX8_readBlock 16 = .ok (.goto 4, 3) := by decide +kernel
theorem dX8_readBlock_19 : decode cX8_readBlock 19 = .ok (.iload_n 3, 1) := by decide +kernel
theorem dX8_readBlock_20 : decode cX8_readBlock 20 = .ok (.istore_n 3, 1) := by decide +kernel
theorem dX8_readBlock_21 : decode cX8_readBlock 21 = .ok (.aload_n 0, 1) := by decide +kernel
theorem dX8_readBlock_22 : decode cX8_readBlock 22 = .ok (.dup, 1) := by decide +kernel
theorem dX8_readBlock_23 : decode cX8_readBlock 23 = .ok (.getfield 122, 3) := by decide +kernel
theorem dX8_readBlock_26 : decode cX8_readBlock 26 = .ok (.iload_n 3, 1) := by decide +kernel
theorem dX8_readBlock_27 : decode cX8_readBlock 27 = .ok (.ifCond .ne 7, 3) := by decide +kernel
theorem dX8_readBlock_30 : decode cX8_readBlock 30 = .ok (.iconst 1, 1) := by decide +kernel
theorem dX8_readBlock_31 : decode cX8_readBlock 31 = .ok (.goto 4, 3) := by decide +kernel
theorem dX8_readBlock_34 : decode cX8_readBlock 34 = .ok (.iconst 0, 1) := by decide +kernel
theorem dX8_readBlock_35 : decode cX8_readBlock 35 = .ok (.iadd, 1) := by decide +kernel
theorem dX8_readBlock_36 : decode cX8_readBlock 36 = .ok (.putfield 122, 3) := by decide +kernel
theorem dX8_readBlock_39 : decode cX8_readBlock 39 = .ok (.aload_n 0, 1) := by decide +kernel
theorem dX8_readBlock_40 : decode cX8_readBlock 40 = .ok (.dup, 1) := by decide +kernel
theorem dX8_readBlock_41 : decode cX8_readBlock 41 = .ok (.getfield 125, 3) := by decide +kernel
theorem dX8_readBlock_44 : decode cX8_readBlock 44 = .ok (.iload_n 3, 1) := by decide +kernel
theorem dX8_readBlock_45 : decode cX8_readBlock 45 = .ok (.ifCond .ne 7, 3) := by decide +kernel
theorem dX8_readBlock_48 : decode cX8_readBlock 48 = .ok (.iconst 0, 1) := by decide +kernel
theorem dX8_readBlock_49 : decode cX8_readBlock 49 = .ok (.goto 4, 3) := by decide +kernel
theorem dX8_readBlock_52 : decode cX8_readBlock 52 = .ok (.iconst 1, 1) := by decide +kernel
theorem dX8_readBlock_53 : decode cX8_readBlock 53 = .ok (.iadd, 1) := by decide +kernel
theorem dX8_readBlock_54 : decode cX8_readBlock 54 = .ok (.putfield 125, 3) := by decide +kernel
theorem dX8_readBlock_57 : decode cX8_readBlock 57 = .ok (.iload_n 3, 1) := by decide +kernel
theorem dX8_readBlock_58 : decode cX8_readBlock 58 = .ok (.ireturn, 1) := by decide +kernel
theorem dX8_writeBlock_0 : decode cX8_writeBlock 0 = .ok (.aload_n 0, 1) := by decide +kernel
theorem dX8_writeBlock_1 : decode cX8_writeBlock 1 = .ok (.iload_n 1, 1) := by decide +kernel
theorem dX8_writeBlock_2 : decode cX8_writeBlock 2 = .ok (.iload_n 2, 1) := by decide +kernel
theorem dX8_writeBlock_3 : decode cX8_writeBlock 3 = .ok (.invokevirtual 116, 3) := by decide +kernel
theorem dX8_writeBlock_6 : decode cX8_writeBlock 6 = .ok (.istore_n 3, 1) := by decide +kernel
theorem dX8_writeBlock_7 : decode cX8_writeBlock 7 = .ok (.aload_n 0, 1) := by decide +kernel
theorem dX8_writeBlock_8 : decode cX8_writeBlock 8 = .ok (.dup, 1) := by decide +kernel
theorem dX8_writeBlock_9 : decode cX8_writeBlock 9 = .ok (.getfield 125, 3) := by decide +kernel
theorem dX8_writeBlock_12 : decode cX8_writeBlock 12 = .ok (.iload_n 3, 1) := by decide +kernel
theorem dX8_writeBlock_13 : decode cX8_writeBlock 13 = .ok (.ifCond .ne 7, 3) := by decide +kernel
theorem dX8_writeBlock_16 : decode cX8_writeBlock 16 = .ok (.iconst 0, 1) := by decide +kernel
theorem dX8_writeBlock_17 : decode cX8_writeBlock 17 = .ok (.goto 4, 3) := by decide +kernel
theorem dX8_writeBlock_20 : decode cX8_writeBlock 20 = .ok (.iconst 1, 1) := by decide +kernel
theorem dX8_writeBlock_21 : decode cX8_writeBlock 21 = .ok (.iadd, 1) := by decide +kernel
theorem dX8_writeBlock_22 : decode cX8_writeBlock 22 = .ok (.putfield 125, 3) := by decide +kernel
theorem dX8_writeBlock_25 : decode cX8_writeBlock 25 = .ok (.iload_n 3, 1) := by decide +kernel
theorem dX8_writeBlock_26 : decode cX8_writeBlock 26 = .ok (.ifCond .le 5, 3) := by decide +kernel
theorem dX8_writeBlock_29 : decode cX8_writeBlock 29 = .ok (.iload_n 3, 1) := by decide +kernel
theorem dX8_writeBlock_30 : decode cX8_writeBlock 30 = .ok (.ireturn, 1) := by decide +kernel
theorem dX8_writeBlock_31 : decode cX8_writeBlock 31 = .ok (.aload_n 0, 1) := by decide +kernel
theorem dX8_writeBlock_32 : decode cX8_writeBlock 32 = .ok (.iload_n 1, 1) := by decide +kernel
theorem dX8_writeBlock_33 : decode cX8_writeBlock 33 = .ok (.putfield 86, 3) := by decide +kernel
theorem dX8_writeBlock_36 : decode cX8_writeBlock 36 = .ok (.aload_n 0, 1) := by decide +kernel
theorem dX8_writeBlock_37 : decode cX8_writeBlock 37 = .ok (.aload_n 0, 1) := by decide +kernel
theorem dX8_writeBlock_38 : decode cX8_writeBlock 38 = .ok (.getfield 34, 3) := by decide +kernel
theorem dX8_writeBlock_41 : decode cX8_writeBlock 41 = .ok (.aload_n 0, 1) := by decide +kernel
theorem dX8_writeBlock_42 : decode cX8_writeBlock 42 = .ok (.getfield 110, 3) := by decide +kernel
theorem dX8_writeBlock_45 : decode cX8_writeBlock 45 = .ok (.iaload, 1) := by decide +kernel
theorem dX8_writeBlock_46 : decode cX8_writeBlock 46 = .ok (.bipush 108, 2) := by decide +kernel
theorem dX8_writeBlock_48 : decode cX8_writeBlock 48 = .ok (.iadd, 1) := by decide +kernel
theorem dX8_writeBlock_49 : decode cX8_writeBlock 49 = .ok (.putfield 89, 3) := by decide +kernel
theorem dX8_writeBlock_52 : decode cX8_writeBlock 52 = .ok (.aload_n 0, 1) := by decide +kernel
theorem dX8_writeBlock_53 : decode cX8_writeBlock 53 = .ok (.invokevirtual 128, 3) := by decide +kernel
theorem dX8_writeBlock_56 : decode cX8_writeBlock 56 = .ok (.aload_n 0, 1) := by decide +kernel
theorem dX8_writeBlock_57 : decode cX8_writeBlock 57 = .ok (.bipush 85, 2) := by decide +kernel
theorem dX8_writeBlock_59 : decode cX8_writeBlock 59 = .ok (.bipush 8, 2) := by decide +kernel
theorem dX8_writeBlock_61 : decode cX8_writeBlock 61 = .ok (.invokevirtual 92, 3) := by decide +kernel
theorem dX8_writeBlock_64 : decode cX8_writeBlock 64 = .ok (.aload_n 0, 1) := by decide +kernel
theorem dX8_writeBlock_65 : decode cX8_writeBlock 65 = .ok (.dup, 1) := by decide +kernel
theorem dX8_writeBlock_66 : decode cX8_writeBlock 66 = .ok (.getfield 131, 3) := by decide +kernel
theorem dX8_writeBlock_69 : decode cX8_writeBlock 69 = .ok (.iconst 1, 1) := by decide +kernel
theorem dX8_writeBlock_70 : decode cX8_writeBlock 70 = .ok (.iadd, 1) := by decide +kernel
theorem dX8_writeBlock_71 : decode cX8_writeBlock 71 = .ok (.putfield 131, 3) := by decide +kernel
theorem dX8_writeBlock_74 : decode cX8_writeBlock 74 = .ok (.iconst 0, 1) := by decide +kernel
theorem dX8_writeBlock_75 : decode cX8_writeBlock 75 = .ok (.ireturn, 1) := by decide +kernel
theorem dX8_ends_0 : decode cX8_ends 0 = .ok (.aload_n 0, 1) := by decide +kernel
theorem dX8_ends_1 : decode cX8_ends 1 = .ok (.iload_n 1, 1) := by decide +kernel
theorem dX8_ends_2 : decode cX8_ends 2 = .ok (.putfield 134, 3) := by decide +kernel
theorem dX8_ends_5 : decode cX8_ends 5 = .ok (.aload_n 0, 1) := by decide +kernel
theorem dX8_ends_6 : decode cX8_ends 6 = .ok (.iload_n 2, 1) := by decide +kernel
theorem dX8_ends_7 : decode cX8_ends 7 = .ok (.putfield 137, 3) := by decide +kernel
theorem dX8_ends_10 : decode cX8_ends 10 = .ok (.aload_n 0, 1) := by decide +kernel
theorem dX8_ends_11 : decode cX8_ends 11 = .ok (.iload_n 3, 1) := by decide +kernel
theorem dX8_ends_12 : decode cX8_ends 12 = .ok (.putfield 140, 3) := by decide +kernel
theorem dX8_ends_15 : decode cX8_ends 15 = .ok (.iload_n 1, 1) := by decide +kernel
theorem dX8_ends_16 : decode cX8_ends 16 = .ok (.ireturn, 1) := by decide +kernel
theorem dX8_begins_0 : decode cX8_begins 0 = .ok (.aload_n 0, 1) := by decide +kernel
theorem dX8_begins_1 : decode cX8_begins 1 = .ok (.iconst 0, 1) := by decide +kernel
theorem dX8_begins_2 : decode cX8_begins 2 = .ok (.iconst 0, 1) := by decide +kernel
theorem dX8_begins_3 : decode cX8_begins 3 = .ok (.iconst 0, 1) := by decide +kernel
theorem dX8_begins_4 : decode cX8_begins 4 = .ok (.invokevirtual 143, 3) := by decide +kernel
theorem dX8_begins_7 : decode cX8_begins 7 = .ok (.istore_n 1, 1) := by decide +kernel
theorem dX8_begins_8 : decode cX8_begins 8 = .ok (.aload_n 0, 1) := by decide +kernel
theorem dX8_begins_9 : decode cX8_begins 9 = .ok (.getfield 24, 3) := by decide +kernel
theorem dX8_begins_12 : decode cX8_begins 12 = .ok (.ifCond .ge 20, 3) := by decide +kernel
theorem dX8_begins_15 : decode cX8_begins 15 = .ok (.aload_n 0, 1) := by decide +kernel
theorem dX8_begins_16 : decode cX8_begins 16 = .ok (.bipush 74, 2) := by decide +kernel
theorem dX8_begins_18 : decode cX8_begins 18 = .ok (.iconst 0, 1) := by decide +kernel
theorem dX8_begins_19 : decode cX8_begins 19 = .ok (.iconst 0, 1) := by decide +kernel
theorem dX8_begins_20 : decode cX8_begins 20 = .ok (.invokevirtual 143, 3) := by decide +kernel
theorem dX8_begins_23 : decode cX8_begins 23 = .ok (.ifCond .ne 7, 3) := by decide +kernel
theorem dX8_begins_26 : decode cX8_begins 26 = .ok (.iconst 1, 1) := by decide +kernel
theorem dX8_begins_27 : decode cX8_begins 27 = .ok (.goto 4, 3) := by decide +kernel
theorem dX8_begins_30 : decode cX8_begins 30 = .ok (.iconst 0, 1) := by decide +kernel
theorem dX8_begins_31 : decode cX8_begins 31 = .ok (.ireturn, 1) := by decide +kernel
theorem dX8_begins_32 : decode cX8_begins 32 = .ok (.aload_n 0, 1) := by decide +kernel
theorem dX8_begins_33 : decode cX8_begins 33 = .ok (.bipush 9, 2) := by decide +kernel
theorem dX8_begins_35 : decode cX8_begins 35 = .ok (.iconst 0, 1) := by decide +kernel
theorem dX8_begins_36 : decode cX8_begins 36 = .ok (.invokevirtual 147, 3) := by decide +kernel
theorem dX8_begins_39 : decode cX8_begins 39 = .ok (.istore_n 2, 1) := by decide +kernel
theorem dX8_begins_40 : decode cX8_begins 40 = .ok (.iload_n 2, 1) := by decide +kernel
theorem dX8_begins_41 : decode cX8_begins 41 = .ok (.ifCond .le 20, 3) := by decide +kernel
theorem dX8_begins_44 : decode cX8_begins 44 = .ok (.aload_n 0, 1) := by decide +kernel
theorem dX8_begins_45 : decode cX8_begins 45 = .ok (.iload_n 2, 1) := by decide +kernel
theorem dX8_begins_46 : decode cX8_begins 46 = .ok (.bipush 9, 2) := by decide +kernel
theorem dX8_begins_48 : decode cX8_begins 48 = .ok (.iconst 0, 1) := by decide +kernel
theorem dX8_begins_49 : decode cX8_begins 49 = .ok (.invokevirtual 143, 3) := by decide +kernel
theorem dX8_begins_52 : decode cX8_begins 52 = .ok (.ifCond .ne 7, 3) := by decide +kernel
theorem dX8_begins_55 : decode cX8_begins 55 = .ok (.iconst 1, 1) := by decide +kernel
theorem dX8_begins_56 : decode cX8_begins 56 = .ok (.goto 4, 3) := by decide +kernel
theorem dX8_begins_59 : decode cX8_begins 59 = .ok (.iconst 0, 1) := by decide +kernel
theorem dX8_begins_60 : decode cX8_begins 60 = .ok (.ireturn, 1) := by decide +kernel
theorem dX8_begins_61 : decode cX8_begins 61 = .ok (.iconst 0, 1) := by decide +kernel
theorem dX8_begins_62 : decode cX8_begins 62 = .ok (.istore_n 3, 1) := by decide +kernel
theorem dX8_begins_63 : decode cX8_begins 63 = .ok (.iload_n 3, 1) := by decide +kernel
theorem dX8_begins_64 : decode cX8_begins 64 = .ok (.bipush 64, 2) := by decide +kernel
theorem dX8_begins_66 : decode cX8_begins 66 = .ok (.if_icmp .ge 21, 3) := by decide +kernel
theorem dX8_begins_69 : decode cX8_begins 69 = .ok (.aload_n 0, 1) := by decide +kernel
theorem dX8_begins_70 : decode cX8_begins 70 = .ok (.getfield 40, 3) := by decide +kernel
theorem dX8_begins_73 : decode cX8_begins 73 = .ok (.iload_n 3, 1) := by decide +kernel
theorem dX8_begins_74 : decode cX8_begins 74 = .ok (.aload_n 0, 1) := by decide +kernel
theorem dX8_begins_75 : decode cX8_begins 75 = .ok (.getfield 37, 3) := by decide +kernel
theorem dX8_begins_78 : decode cX8_begins 78 = .ok (.iload_n 3, 1) := by decide +kernel
theorem dX8_begins_79 : decode cX8_begins 79 = .ok (.iaload, 1) := by decide +kernel
theorem dX8_begins_80 : decode cX8_begins 80 = .ok (.iastore, 1) := by decide +kernel
theorem dX8_begins_81 : decode cX8_begins 81 = .ok (.iinc 3 1, 3) := by decide +kernel
theorem dX8_begins_84 : decode cX8_begins 84 = .ok (.goto (-21), 3) := by decide +kernel
theorem dX8_begins_87 : decode cX8_begins 87 = .ok (.iconst 1, 1) := by decide +kernel
theorem dX8_begins_88 : decode cX8_begins 88 = .ok (.ireturn, 1) := by decide +kernel
theorem dX8_isFree_0 : decode cX8_isFree 0 = .ok (.aload_n 0, 1) := by decide +kernel
theorem dX8_isFree_1 : decode cX8_isFree 1 = .ok (.getfield 40, 3) := by decide +kernel
theorem dX8_isFree_4 : decode cX8_isFree 4 = .ok (.iconst 2, 1) := by decide +kernel
theorem dX8_isFree_5 : decode cX8_isFree 5 = .ok (.iload_n 1, 1) := by decide +kernel
theorem dX8_isFree_6 : decode cX8_isFree 6 = .ok (.imul, 1) := by decide +kernel
theorem dX8_isFree_7 : decode cX8_isFree 7 = .ok (.iload_n 2, 1) := by decide +kernel
theorem dX8_isFree_8 : decode cX8_isFree 8 = .ok (.bipush 8, 2) := by decide +kernel
theorem dX8_isFree_10 : decode cX8_isFree 10 = .ok (.idiv, 1) := by decide +kernel
theorem dX8_isFree_11 : decode cX8_isFree 11 = .ok (.iadd, 1) := by decide +kernel
theorem dX8_isFree_12 : decode cX8_isFree 12 = .ok (.iaload, 1) := by decide +kernel
theorem dX8_isFree_13 : decode cX8_isFree 13 = .ok (.iload_n 2, 1) := by decide +kernel
theorem dX8_isFree_14 : decode cX8_isFree 14 = .ok (.bipush 8, 2) := by decide +kernel
theorem dX8_isFree_16 : decode cX8_isFree 16 = .ok (.irem, 1) := by decide +kernel
theorem dX8_isFree_17 : decode cX8_isFree 17 = .ok (.ishr, 1) := by decide +kernel
theorem dX8_isFree_18 : decode cX8_isFree 18 = .ok (.iconst 1, 1) := by decide +kernel
theorem dX8_isFree_19 : decode cX8_isFree 19 = .ok (.iand, 1) := by decide +kernel
theorem dX8_isFree_20 : decode cX8_isFree 20 = .ok (.iconst 1, 1) := by decide +kernel
theorem dX8_isFree_21 : decode cX8_isFree 21 = .ok (.if_icmp .ne 7, 3) := by decide +kernel
theorem dX8_isFree_24 : decode cX8_isFree 24 = .ok (.iconst 1, 1) := by decide +kernel
theorem dX8_isFree_25 : decode cX8_isFree 25 = .ok (.goto 4, 3) := by decide +kernel
theorem dX8_isFree_28 : decode cX8_isFree 28 = .ok (.iconst 0, 1) := by decide +kernel
theorem dX8_isFree_29 : decode cX8_isFree 29 = .ok (.ireturn, 1) := by decide +kernel
theorem dX8_setFree_0 : decode cX8_setFree 0 = .ok (.iconst 2, 1) := by decide +kernel
theorem dX8_setFree_1 : decode cX8_setFree 1 = .ok (.iload_n 1, 1) := by decide +kernel
theorem dX8_setFree_2 : decode cX8_setFree 2 = .ok (.imul, 1) := by decide +kernel
theorem dX8_setFree_3 : decode cX8_setFree 3 = .ok (.iload_n 2, 1) := by decide +kernel
theorem dX8_setFree_4 : decode cX8_setFree 4 = .ok (.bipush 8, 2) := by decide +kernel
theorem dX8_setFree_6 : decode cX8_setFree 6 = .ok (.idiv, 1) := by decide +kernel
theorem dX8_setFree_7 : decode cX8_setFree 7 = .ok (.iadd, 1) := by decide +kernel
theorem dX8_setFree_8 : decode cX8_setFree 8 = .ok (.istore 4, 2) := by decide +kernel
theorem dX8_setFree_10 : decode cX8_setFree 10 = .ok (.iconst 1, 1) := by decide +kernel
theorem dX8_setFree_11 : decode cX8_setFree 11 = .ok (.iload_n 2, 1) := by decide +kernel
theorem dX8_setFree_12 : decode cX8_setFree 12 = .ok (.bipush 8, 2) := by decide +kernel
theorem dX8_setFree_14 : decode cX8_setFree 14 = .ok (.irem, 1) := by decide +kernel
theorem dX8_setFree_15 : decode cX8_setFree 15 = .ok (.ishl, 1) := by decide +kernel
theorem dX8_setFree_16 : decode cX8_setFree 16 = .ok (.istore 5, 2) := by decide +kernel
theorem dX8_setFree_18 : decode cX8_setFree 18 = .ok (.aload_n 0, 1) := by decide +kernel
theorem dX8_setFree_19 : decode cX8_setFree 19 = .ok (.getfield 40, 3) := by decide +kernel
theorem dX8_setFree_22 : decode cX8_setFree 22 = .ok (.iload 4, 2) := by decide +kernel
theorem dX8_setFree_24 : decode cX8_setFree 24 = .ok (.iload_n 3, 1) := by decide +kernel
theorem dX8_setFree_25 : decode cX8_setFree 25 = .ok (.ifCond .eq 16, 3) := by decide +kernel
theorem dX8_setFree_28 : decode cX8_setFree 28 = .ok (.aload_n 0, 1) := by decide +kernel
theorem dX8_setFree_29 : decode cX8_setFree 29 = .ok (.getfield 40, 3) := by decide +kernel
theorem dX8_setFree_32 : decode cX8_setFree 32 = .ok (.iload 4, 2) := by decide +kernel
theorem dX8_setFree_34 : decode cX8_setFree 34 = .ok (.iaload, 1) := by decide +kernel
theorem dX8_setFree_35 : decode cX8_setFree 35 = .ok (.iload 5, 2) := by decide +kernel
theorem dX8_setFree_37 : decode cX8_setFree 37 = .ok (.ior, 1) := by decide +kernel
theorem dX8_setFree_38 : decode cX8_setFree 38 = .ok (.goto 15, 3) := by decide +kernel
theorem dX8_setFree_41 : decode cX8_setFree 41 = .ok (.aload_n 0, 1) := by decide +kernel
theorem dX8_setFree_42 : decode cX8_setFree 42 = .ok (.getfield 40, 3) := by decide +kernel
theorem dX8_setFree_45 : decode cX8_setFree 45 = .ok (.iload 4, 2) := by decide +kernel
theorem dX8_setFree_47 : decode cX8_setFree 47 = .ok (.iaload, 1) := by decide +kernel
theorem dX8_setFree_48 : decode cX8_setFree 48 = .ok (.iload 5, 2) := by decide +kernel
theorem dX8_setFree_50 : decode cX8_setFree 50 = .ok (.iconst (-1), 1) := by decide +kernel
theorem dX8_setFree_51 : decode cX8_setFree 51 = .ok (.ixor, 1) := by decide +kernel
theorem dX8_setFree_52 : decode cX8_setFree 52 = .ok (.iand, 1) := by decide +kernel
theorem dX8_setFree_53 : decode cX8_setFree 53 = .ok (.iastore, 1) := by decide +kernel
theorem dX8_setFree_54 : decode cX8_setFree 54 = .ok (.return_, 1) := by decide +kernel
theorem dX8_writeMap_0 : decode cX8_writeMap 0 = .ok (.iconst 0, 1) := by decide +kernel
theorem dX8_writeMap_1 : decode cX8_writeMap 1 = .ok (.istore_n 1, 1) := by decide +kernel
theorem dX8_writeMap_2 : decode cX8_writeMap 2 = .ok (.iload_n 1, 1) := by decide +kernel
theorem dX8_writeMap_3 : decode cX8_writeMap 3 = .ok (.bipush 64, 2) := by decide +kernel
theorem dX8_writeMap_5 : decode cX8_writeMap 5 = .ok (.if_icmp .ge 21, 3) := by decide +kernel
theorem dX8_writeMap_8 : decode cX8_writeMap 8 = .ok (.aload_n 0, 1) := by decide +kernel
theorem dX8_writeMap_9 : decode cX8_writeMap 9 = .ok (.getfield 37, 3) := by decide +kernel
theorem dX8_writeMap_12 : decode cX8_writeMap 12 = .ok (.iload_n 1, 1) := by decide +kernel
theorem dX8_writeMap_13 : decode cX8_writeMap 13 = .ok (.aload_n 0, 1) := by decide +kernel
theorem dX8_writeMap_14 : decode cX8_writeMap 14 = .ok (.getfield 40, 3) := by decide +kernel
theorem dX8_writeMap_17 : decode cX8_writeMap 17 = .ok (.iload_n 1, 1) := by decide +kernel
theorem dX8_writeMap_18 : decode cX8_writeMap 18 = .ok (.iaload, 1) := by decide +kernel
theorem dX8_writeMap_19 : decode cX8_writeMap 19 = .ok (.iastore, 1) := by decide +kernel
theorem dX8_writeMap_20 : decode cX8_writeMap 20 = .ok (.iinc 1 1, 3) := by decide +kernel
theorem dX8_writeMap_23 : decode cX8_writeMap 23 = .ok (.goto (-21), 3) := by decide +kernel
theorem dX8_writeMap_26 : decode cX8_writeMap 26 = .ok (.aload_n 0, 1) := by decide +kernel
theorem dX8_writeMap_27 : decode cX8_writeMap 27 = .ok (.bipush 9, 2) := by decide +kernel
theorem dX8_writeMap_29 : decode cX8_writeMap 29 = .ok (.iconst 0, 1) := by decide +kernel
theorem dX8_writeMap_30 : decode cX8_writeMap 30 = .ok (.invokevirtual 150, 3) := by decide +kernel
theorem dX8_writeMap_33 : decode cX8_writeMap 33 = .ok (.istore_n 1, 1) := by decide +kernel
theorem dX8_writeMap_34 : decode cX8_writeMap 34 = .ok (.iload_n 1, 1) := by decide +kernel
theorem dX8_writeMap_35 : decode cX8_writeMap 35 = .ok (.ifCond .eq 14, 3) := by decide +kernel
theorem dX8_writeMap_38 : decode cX8_writeMap 38 = .ok (.aload_n 0, 1) := by decide +kernel
theorem dX8_writeMap_39 : decode cX8_writeMap 39 = .ok (.iload_n 1, 1) := by decide +kernel
theorem dX8_writeMap_40 : decode cX8_writeMap 40 = .ok (.bipush 9, 2) := by decide +kernel
theorem dX8_writeMap_42 : decode cX8_writeMap 42 = .ok (.iconst 0, 1) := by decide +kernel
theorem dX8_writeMap_43 : decode cX8_writeMap 43 = .ok (.invokevirtual 143, 3) := by decide +kernel
theorem dX8_writeMap_46 : decode cX8_writeMap 46 = .ok (.ifCond .ne 7, 3) := by decide +kernel
theorem dX8_writeMap_49 : decode cX8_writeMap 49 = .ok (.iconst 1, 1) := by decide +kernel
theorem dX8_writeMap_50 : decode cX8_writeMap 50 = .ok (.goto 4, 3) := by decide +kernel
theorem dX8_writeMap_53 : decode cX8_writeMap 53 = .ok (.iconst 0, 1) := by decide +kernel
theorem dX8_writeMap_54 : decode cX8_writeMap 54 = .ok (.ireturn, 1) := by decide +kernel
theorem dX8_nameByte_0 : decode cX8_nameByte 0 = .ok (.iload_n 2, 1) := by decide +kernel
theorem dX8_nameByte_1 : decode cX8_nameByte 1 = .ok (.iconst 4, 1) := by decide +kernel
theorem dX8_nameByte_2 : decode cX8_nameByte 2 = .ok (.if_icmp .ge 15, 3) := by decide +kernel
theorem dX8_nameByte_5 : decode cX8_nameByte 5 = .ok (.iload_n 0, 1) := by decide +kernel
theorem dX8_nameByte_6 : decode cX8_nameByte 6 = .ok (.bipush 24, 2) := by decide +kernel
theorem dX8_nameByte_8 : decode cX8_nameByte 8 = .ok (.bipush 8, 2) := by decide +kernel
theorem dX8_nameByte_10 : decode cX8_nameByte 10 = .ok (.iload_n 2, 1) := by decide +kernel
theorem dX8_nameByte_11 : decode cX8_nameByte 11 = .ok (.imul, 1) := by decide +kernel
theorem dX8_nameByte_12 : decode cX8_nameByte 12 = .ok (.isub, 1) := by decide +kernel
theorem dX8_nameByte_13 : decode cX8_nameByte 13 = .ok (.ishr, 1) := by decide +kernel
theorem dX8_nameByte_14 : decode cX8_nameByte 14 = .ok (.goto 12, 3) := by decide +kernel
theorem dX8_nameByte_17 : decode cX8_nameByte 17 = .ok (.iload_n 1, 1) := by decide +kernel
theorem dX8_nameByte_18 : decode cX8_nameByte 18 = .ok (.bipush 56, 2) := by decide +kernel
theorem dX8_nameByte_20 : decode cX8_nameByte 20 = .ok (.bipush 8, 2) := by decide +kernel
theorem dX8_nameByte_22 : decode cX8_nameByte 22 = .ok (.iload_n 2, 1) := by decide +kernel
theorem dX8_nameByte_23 : decode cX8_nameByte 23 = .ok (.imul, 1) := by decide +kernel
theorem dX8_nameByte_24 : decode cX8_nameByte 24 = .ok (.isub, 1) := by decide +kernel
theorem dX8_nameByte_25 : decode cX8_nameByte 25 = .ok (.ishr, 1) := by decide +kernel
theorem dX8_nameByte_26 : decode cX8_nameByte 26 = .ok (.sipush 255, 3) := by decide +kernel
theorem dX8_nameByte_29 : decode cX8_nameByte 29 = .ok (.iand, 1) := by decide +kernel
theorem dX8_nameByte_30 : decode cX8_nameByte 30 = .ok (.ireturn, 1) := by decide +kernel
theorem dX8_hasName_0 : decode cX8_hasName 0 = .ok (.aload_n 0, 1) := by decide +kernel
theorem dX8_hasName_1 : decode cX8_hasName 1 = .ok (.getfield 43, 3) := by decide +kernel
theorem dX8_hasName_4 : decode cX8_hasName 4 = .ok (.iload_n 1, 1) := by decide +kernel
theorem dX8_hasName_5 : decode cX8_hasName 5 = .ok (.iaload, 1) := by decide +kernel
theorem dX8_hasName_6 : decode cX8_hasName 6 = .ok (.ifCond .eq 7, 3) := by decide +kernel
theorem dX8_hasName_9 : decode cX8_hasName 9 = .ok (.iconst 1, 1) := by decide +kernel
theorem dX8_hasName_10 : decode cX8_hasName 10 = .ok (.goto 4, 3) := by decide +kernel
theorem dX8_hasName_13 : decode cX8_hasName 13 = .ok (.iconst 0, 1) := by decide +kernel
theorem dX8_hasName_14 : decode cX8_hasName 14 = .ok (.istore 4, 2) := by decide +kernel
theorem dX8_hasName_16 : decode cX8_hasName 16 = .ok (.iconst 0, 1) := by decide +kernel
theorem dX8_hasName_17 : decode cX8_hasName 17 = .ok (.istore 5, 2) := by decide +kernel
theorem dX8_hasName_19 : decode cX8_hasName 19 = .ok (.iload 5, 2) := by decide +kernel
theorem dX8_hasName_21 : decode cX8_hasName 21 = .ok (.bipush 8, 2) := by decide +kernel
theorem dX8_hasName_23 : decode cX8_hasName 23 = .ok (.if_icmp .ge 42, 3) := by decide +kernel
theorem dX8_hasName_26 : decode cX8_hasName 26 = .ok (.iload 4, 2) := by decide +kernel
theorem dX8_hasName_28 : decode cX8_hasName 28 = .ok (.ifCond .eq 28, 3) := by decide +kernel
theorem dX8_hasName_31 : decode cX8_hasName 31 = .ok (.aload_n 0, 1) := by decide +kernel
theorem dX8_hasName_32 : decode cX8_hasName 32 = .ok (.getfield 43, 3) := by decide +kernel
theorem dX8_hasName_35 : decode cX8_hasName 35 = .ok (.iload_n 1, 1) := by decide +kernel
theorem dX8_hasName_36 : decode cX8_hasName 36 = .ok (.iconst 4, 1) := by decide +kernel
theorem dX8_hasName_37 : decode cX8_hasName 37 = .ok (.iadd, 1) := by decide +kernel
theorem dX8_hasName_38 : decode cX8_hasName 38 = .ok (.iload 5, 2) := by decide +kernel
theorem dX8_hasName_40 : decode cX8_hasName 40 = .ok (.iadd, 1) := by decide +kernel
theorem dX8_hasName_41 : decode cX8_hasName 41 = .ok (.iaload, 1) := by decide +kernel
theorem dX8_hasName_42 : decode cX8_hasName 42 = .ok (.iload_n 2, 1) := by decide +kernel
theorem dX8_hasName_43 : decode cX8_hasName 43 = .ok (.iload_n 3, 1) := by decide +kernel
theorem dX8_hasName_44 : decode cX8_hasName 44 = .ok (.iload 5, 2) := by decide +kernel
theorem dX8_hasName_46 : decode cX8_hasName 46 = .ok (.invokestatic 153, 3) := by decide +kernel
theorem dX8_hasName_49 : decode cX8_hasName 49 = .ok (.if_icmp .ne 7, 3) := by decide +kernel
theorem dX8_hasName_52 : decode cX8_hasName 52 = .ok (.iconst 1, 1) := by decide +kernel
theorem dX8_hasName_53 : decode cX8_hasName 53 = .ok (.goto 4, 3) := by decide +kernel
theorem dX8_hasName_56 : decode cX8_hasName 56 = .ok (.iconst 0, 1) := by decide +kernel
theorem dX8_hasName_57 : decode cX8_hasName 57 = .ok (.istore 4, 2) := by decide +kernel
theorem dX8_hasName_59 : decode cX8_hasName 59 = .ok (.iinc 5 1, 3) := by decide +kernel
theorem dX8_hasName_62 : decode cX8_hasName 62 = .ok (.goto (-43), 3) := by decide +kernel
theorem dX8_hasName_65 : decode cX8_hasName 65 = .ok (.iload 4, 2) := by decide +kernel
theorem dX8_hasName_67 : decode cX8_hasName 67 = .ok (.ireturn, 1) := by decide +kernel
theorem dX8_readDirectory_0 : decode cX8_readDirectory 0 = .ok (.aload_n 0, 1) := by decide +kernel
theorem dX8_readDirectory_1 : decode cX8_readDirectory 1 = .ok (.iconst 0, 1) := by decide +kernel
theorem dX8_readDirectory_2 : decode cX8_readDirectory 2 = .ok (.putfield 156, 3) := by decide +kernel
theorem dX8_readDirectory_5 : decode cX8_readDirectory 5 = .ok (.aload_n 0, 1) := by decide +kernel
theorem dX8_readDirectory_6 : decode cX8_readDirectory 6 = .ok (.iconst (-1), 1) := by decide +kernel
theorem dX8_readDirectory_7 : decode cX8_readDirectory 7 = .ok (.putfield 159, 3) := by decide +kernel
theorem dX8_readDirectory_10 : decode cX8_readDirectory 10 = .ok (.bipush 9, 2) := by decide +kernel
theorem dX8_readDirectory_12 : decode cX8_readDirectory 12 = .ok (.istore 4, 2) := by decide +kernel
theorem dX8_readDirectory_14 : decode cX8_readDirectory 14 = .ok (.iconst 1, 1) := by decide +kernel
theorem dX8_readDirectory_15 : decode cX8_readDirectory 15 = .ok (.istore 5, 2) := by decide +kernel
theorem dX8_readDirectory_17 : decode cX8_readDirectory 17 = .ok (.aload_n 0, 1) := by decide +kernel
theorem dX8_readDirectory_18 : decode cX8_readDirectory 18 = .ok (.iload 4, 2) := by decide +kernel
theorem dX8_readDirectory_20 : decode cX8_readDirectory 20 = .ok (.iload 5, 2) := by decide +kernel
theorem dX8_readDirectory_22 : decode cX8_readDirectory 22 = .ok (.invokevirtual 147, 3) := by decide +kernel
theorem dX8_readDirectory_25 : decode cX8_readDirectory 25 = .ok (.istore 6, 2) := by decide +kernel
theorem dX8_readDirectory_27 : decode cX8_readDirectory 27 = .ok (.iload 6, 2) := by decide +kernel
theorem dX8_readDirectory_29 : decode cX8_readDirectory 29 = .ok (.ifCond .le 22, 3) := by decide +kernel
theorem dX8_readDirectory_32 : decode cX8_readDirectory 32 = .ok (.aload_n 0, 1) := by decide +kernel
theorem dX8_readDirectory_33 : decode cX8_readDirectory 33 = .ok (.iload 6, 2) := by decide +kernel
theorem dX8_readDirectory_35 : decode cX8_readDirectory 35 = .ok (.iload 4, 2) := by decide +kernel
theorem dX8_readDirectory_37 : decode cX8_readDirectory 37 = .ok (.iload 5, 2) := by decide +kernel
theorem dX8_readDirectory_39 : decode cX8_readDirectory 39 = .ok (.invokevirtual 143, 3) := by decide +kernel
theorem dX8_readDirectory_42 : decode cX8_readDirectory 42 = .ok (.ifCond .ne 7, 3) := by decide +kernel
theorem dX8_readDirectory_45 : decode cX8_readDirectory 45 = .ok (.iconst 1, 1) := by decide +kernel
theorem dX8_readDirectory_46 : decode cX8_readDirectory 46 = .ok (.goto 4, 3) := by decide +kernel
theorem dX8_readDirectory_49 : decode cX8_readDirectory 49 = .ok (.iconst 0, 1) := by decide +kernel
theorem dX8_readDirectory_50 : decode cX8_readDirectory 50 = .ok (.ireturn, 1) := by decide +kernel
theorem dX8_readDirectory_51 : decode cX8_readDirectory 51 = .ok (.bipush 64, 2) := by decide +kernel
theorem dX8_readDirectory_53 : decode cX8_readDirectory 53 = .ok (.aload_n 0, 1) := by decide +kernel
theorem dX8_readDirectory_54 : decode cX8_readDirectory 54 = .ok (.getfield 156, 3) := by decide +kernel
theorem dX8_readDirectory_57 : decode cX8_readDirectory 57 = .ok (.imul, 1) := by decide +kernel
theorem dX8_readDirectory_58 : decode cX8_readDirectory 58 = .ok (.istore 7, 2) := by decide +kernel
theorem dX8_readDirectory_60 : decode cX8_readDirectory 60 = .ok (.aload_n 0, 1) := by decide +kernel
theorem dX8_readDirectory_61 : decode cX8_readDirectory 61 = .ok (.getfield 46, 3) := by decide +kernel
theorem dX8_readDirectory_64 : decode cX8_readDirectory 64 = .ok (.aload_n 0, 1) := by decide +kernel
theorem dX8_readDirectory_65 : decode cX8_readDirectory 65 = .ok (.getfield 156, 3) := by decide +kernel
theorem dX8_readDirectory_68 : decode cX8_readDirectory 68 = .ok (.iload 4, 2) := by decide +kernel
theorem dX8_readDirectory_70 : decode cX8_readDirectory 70 = .ok (.iastore, 1) := by decide +kernel
theorem dX8_readDirectory_71 : decode cX8_readDirectory 71 = .ok (.aload_n 0, 1) := by decide +kernel
theorem dX8_readDirectory_72 : decode cX8_readDirectory 72 = .ok (.getfield 49, 3) := by decide +kernel
theorem dX8_readDirectory_75 : decode cX8_readDirectory 75 = .ok (.aload_n 0, 1) := by decide +kernel
theorem dX8_readDirectory_76 : decode cX8_readDirectory 76 = .ok (.getfield 156, 3) := by decide +kernel
theorem dX8_readDirectory_79 : decode cX8_readDirectory 79 = .ok (.iload 5, 2) := by decide +kernel
theorem dX8_readDirectory_81 : decode cX8_readDirectory 81 = .ok (.iastore, 1) := by decide +kernel
theorem dX8_readDirectory_82 : decode cX8_readDirectory 82 = .ok (.aload_n 0, 1) := by decide +kernel
theorem dX8_readDirectory_83 : decode cX8_readDirectory 83 = .ok (.dup, 1) := by decide +kernel
theorem dX8_readDirectory_84 : decode cX8_readDirectory 84 = .ok (.getfield 156, 3) := by decide +kernel
theorem dX8_readDirectory_87 : decode cX8_readDirectory 87 = .ok (.iconst 1, 1) := by decide +kernel
theorem dX8_readDirectory_88 : decode cX8_readDirectory 88 = .ok (.iadd, 1) := by decide +kernel
theorem dX8_readDirectory_89 : decode cX8_readDirectory 89 = .ok (.putfield 156, 3) := by decide +kernel
theorem dX8_readDirectory_92 : decode cX8_readDirectory 92 = .ok (.iconst 0, 1) := by decide +kernel
theorem dX8_readDirectory_93 : decode cX8_readDirectory 93 = .ok (.istore 8, 2) := by decide +kernel
theorem dX8_readDirectory_95 : decode cX8_readDirectory 95 = .ok (.iload 8, 2) := by decide +kernel
theorem dX8_readDirectory_97 : decode cX8_readDirectory 97 = .ok (.bipush 64, 2) := by decide +kernel
theorem dX8_readDirectory_99 : decode cX8_readDirectory 99 = .ok (.if_icmp .ge 26, 3) := by decide +kernel
theorem dX8_readDirectory_102 : decode cX8_readDirectory 102 = .ok (.aload_n 0, 1) := by decide +kernel
theorem dX8_readDirectory_103 : decode cX8_readDirectory 103 = .ok (.getfield 43, 3) := by decide +kernel
theorem dX8_readDirectory_106 : decode cX8_readDirectory 106 = .ok (.iload 7, 2) := by decide +kernel
theorem dX8_readDirectory_108 : decode cX8_readDirectory 108 = .ok (.iload 8, 2) := by decide +kernel
theorem dX8_readDirectory_110 : decode cX8_readDirectory 110 = .ok (.iadd, 1) := by decide +kernel
theorem dX8_readDirectory_111 : decode cX8_readDirectory 111 = .ok (.aload_n 0, 1) := by decide +kernel
theorem dX8_readDirectory_112 : decode cX8_readDirectory 112 = .ok (.getfield 37, 3) := by decide +kernel
theorem dX8_readDirectory_115 : decode cX8_readDirectory 115 = .ok (.iload 8, 2) := by decide +kernel
theorem dX8_readDirectory_117 : decode cX8_readDirectory 117 = .ok (.iaload, 1) := by decide +kernel
theorem dX8_readDirectory_118 : decode cX8_readDirectory 118 = .ok (.iastore, 1) := by decide +kernel
theorem dX8_readDirectory_119 : decode cX8_readDirectory 119 = .ok (.iinc 8 1, 3) := by decide +kernel
theorem dX8_readDirectory_122 : decode cX8_readDirectory 122 = .ok (.goto (-27), 3) := by decide +kernel
theorem dX8_readDirectory_125 : decode cX8_readDirectory 125 = .ok (.iconst 2, 1) := by decide +kernel
theorem dX8_readDirectory_126 : decode cX8_readDirectory 126 = .ok (.istore 8, 2) := by decide +kernel
theorem dX8_readDirectory_128 : decode cX8_readDirectory 128 = .ok (.iload 8, 2) := by decide +kernel
theorem dX8_readDirectory_130 : decode cX8_readDirectory 130 = .ok (.bipush 62, 2) := by decide +kernel
theorem dX8_readDirectory_132 : decode cX8_readDirectory 132 = .ok (.if_icmp .ge 53, 3) := by decide +kernel
theorem dX8_readDirectory_135 : decode cX8_readDirectory 135 = .ok (.iload_n 1, 1) := by decide +kernel
theorem dX8_readDirectory_136 : decode cX8_readDirectory 136 = .ok (.ifCond .eq 49, 3) := by decide +kernel
theorem dX8_readDirectory_139 : decode cX8_readDirectory 139 = .ok (.aload_n 0, 1) := by decide +kernel
theorem dX8_readDirectory_140 : decode cX8_readDirectory 140 = .ok (.getfield 159, 3) := by decide +kernel
theorem dX8_readDirectory_143 : decode cX8_readDirectory 143 = .ok (.ifCond .ge 42, 3) := by decide +kernel
theorem dX8_readDirectory_146 : decode cX8_readDirectory 146 = .ok (.aload_n 0, 1) := by decide +kernel
theorem dX8_readDirectory_147 : decode cX8_readDirectory 147 = .ok (.iload 7, 2) := by decide +kernel
theorem dX8_readDirectory_149 : decode cX8_readDirectory 149 = .ok (.iload 8, 2) := by decide +kernel
theorem dX8_readDirectory_151 : decode cX8_readDirectory 151 = .ok (.iadd, 1) := by decide +kernel
theorem dX8_readDirectory_152 : decode cX8_readDirectory 152 = .ok (.iload_n 2, 1) := by decide +kernel
theorem dX8_readDirectory_153 : decode cX8_readDirectory 153 = .ok (.iload_n 3, 1) := by decide +kernel
theorem dX8_readDirectory_154 : decode cX8_readDirectory 154 = .ok (.invokevirtual 162, 3) := by decide +kernel
theorem dX8_readDirectory_157 : decode cX8_readDirectory 157 = .ok (.ifCond .eq 22, 3) := by decide +kernel
theorem dX8_readDirectory_160 : decode cX8_readDirectory 160 = .ok (.aload_n 0, 1) := by decide +kernel
theorem dX8_readDirectory_161 : decode cX8_readDirectory 161 = .ok (.aload_n 0, 1) := by decide +kernel
theorem dX8_readDirectory_162 : decode cX8_readDirectory 162 = .ok (.getfield 156, 3) := by decide +kernel
theorem dX8_readDirectory_165 : decode cX8_readDirectory 165 = .ok (.iconst 1, 1) := by decide +kernel
theorem dX8_readDirectory_166 : decode cX8_readDirectory 166 = .ok (.isub, 1) := by decide +kernel
theorem dX8_readDirectory_167 : decode cX8_readDirectory 167 = .ok (.putfield 159, 3) := by decide +kernel
theorem dX8_readDirectory_170 : decode cX8_readDirectory 170 = .ok (.aload_n 0, 1) := by decide +kernel
theorem dX8_readDirectory_171 : decode cX8_readDirectory 171 = .ok (.iload 7, 2) := by decide +kernel
theorem dX8_readDirectory_173 : decode cX8_readDirectory 173 = .ok (.iload 8, 2) := by decide +kernel
theorem dX8_readDirectory_175 : decode cX8_readDirectory 175 = .ok (.iadd, 1) := by decide +kernel
theorem dX8_readDirectory_176 : decode cX8_readDirectory 176 = .ok (.putfield 165, 3) := by decide +kernel
theorem dX8_readDirectory_179 : decode cX8_readDirectory 179 = .ok (.iinc 8 12, 3) := by decide +kernel
theorem dX8_readDirectory_182 : decode cX8_readDirectory 182 = .ok (.goto (-54), 3) := by decide +kernel
theorem dX8_readDirectory_185 : decode cX8_readDirectory 185 = .ok (.aload_n 0, 1) := by decide +kernel
theorem dX8_readDirectory_186 : decode cX8_readDirectory 186 = .ok (.getfield 159, 3) := by decide +kernel
theorem dX8_readDirectory_189 : decode cX8_readDirectory 189 = .ok (.ifCond .ge 21, 3) := by decide +kernel
theorem dX8_readDirectory_192 : decode cX8_readDirectory 192 = .ok (.aload_n 0, 1) := by decide +kernel
theorem dX8_readDirectory_193 : decode cX8_readDirectory 193 = .ok (.getfield 37, 3) := by decide +kernel
theorem dX8_readDirectory_196 : decode cX8_readDirectory 196 = .ok (.iconst 0, 1) := by decide +kernel
theorem dX8_readDirectory_197 : decode cX8_readDirectory 197 = .ok (.iaload, 1) := by decide +kernel
theorem dX8_readDirectory_198 : decode cX8_readDirectory 198 = .ok (.ifCond .ne 14, 3) := by decide +kernel
theorem dX8_readDirectory_201 : decode cX8_readDirectory 201 = .ok (.aload_n 0, 1) := by decide +kernel
theorem dX8_readDirectory_202 : decode cX8_readDirectory 202 = .ok (.getfield 37, 3) := by decide +kernel
theorem dX8_readDirectory_205 : decode cX8_readDirectory 205 = .ok (.iconst 1, 1) := by decide +kernel
theorem dX8_readDirectory_206 : decode cX8_readDirectory 206 = .ok (.iaload, 1) := by decide +kernel
theorem dX8_readDirectory_207 : decode cX8_readDirectory 207 = .ok (.ifCond .ne 5, 3) := by decide +kernel
theorem dX8_readDirectory_210 : decode cX8_readDirectory 210 = .ok (.iconst 1, 1) := by decide +kernel
theorem dX8_readDirectory_211 : decode cX8_readDirectory 211 = .ok (.ireturn, 1) := by decide +kernel
theorem dX8_readDirectory_212 : decode cX8_readDirectory 212 = .ok (.aload_n 0, 1) := by decide +kernel
theorem dX8_readDirectory_213 : decode cX8_readDirectory 213 = .ok (.getfield 37, 3) := by decide +kernel
theorem dX8_readDirectory_216 : decode cX8_readDirectory 216 = .ok (.iconst 0, 1) := by decide +kernel
theorem dX8_readDirectory_217 : decode cX8_readDirectory 217 = .ok (.iaload, 1) := by decide +kernel
theorem dX8_readDirectory_218 : decode cX8_readDirectory 218 = .ok (.aload_n 0, 1) := by decide +kernel
theorem dX8_readDirectory_219 : decode cX8_readDirectory 219 = .ok (.getfield 37, 3) := by decide +kernel
theorem dX8_readDirectory_222 : decode cX8_readDirectory 222 = .ok (.iconst 1, 1) := by decide +kernel
theorem dX8_readDirectory_223 : decode cX8_readDirectory 223 = .ok (.iaload, 1) := by decide +kernel
theorem dX8_readDirectory_224 : decode cX8_readDirectory 224 = .ok (.invokestatic 168, 3) := by decide +kernel
theorem dX8_readDirectory_227 : decode cX8_readDirectory 227 = .ok (.ifCond .eq 12, 3) := by decide +kernel
theorem dX8_readDirectory_230 : decode cX8_readDirectory 230 = .ok (.aload_n 0, 1) := by decide +kernel
theorem dX8_readDirectory_231 : decode cX8_readDirectory 231 = .ok (.getfield 156, 3) := by decide +kernel
theorem dX8_readDirectory_234 : decode cX8_readDirectory 234 = .ok (.bipush 7, 2) := by decide +kernel
theorem dX8_readDirectory_236 : decode cX8_readDirectory 236 = .ok (.if_icmp .ne 22, 3) := by decide +kernel
theorem dX8_readDirectory_239 : decode cX8_readDirectory 239 = .ok (.aload_n 0, 1) := by decide +kernel
theorem dX8_readDirectory_240 : decode cX8_readDirectory 240 = .ok (.bipush 66, 2) := by decide +kernel
theorem dX8_readDirectory_242 : decode cX8_readDirectory 242 = .ok (.iload 4, 2) := by decide +kernel
theorem dX8_readDirectory_244 : decode cX8_readDirectory 244 = .ok (.iload 5, 2) := by decide +kernel
theorem dX8_readDirectory_246 : decode cX8_readDirectory 246 = .ok (.invokevirtual 143, 3) := by decide +kernel
theorem dX8_readDirectory_249 : decode cX8_readDirectory 249 = .ok (.ifCond .ne 7, 3) := by decide +kernel
theorem dX8_readDirectory_252 : decode cX8_readDirectory 252 = .ok (.iconst 1, 1) := by decide +kernel
theorem dX8_readDirectory_253 : decode cX8_readDirectory 253 = .ok (.goto 4, 3) := by decide +kernel
theorem dX8_readDirectory_256 : decode cX8_readDirectory 256 = .ok (.iconst 0, 1) := by decide +kernel
theorem dX8_readDirectory_257 : decode cX8_readDirectory 257 = .ok (.ireturn, 1) := by decide +kernel
theorem dX8_readDirectory_258 : decode cX8_readDirectory 258 = .ok (.aload_n 0, 1) := by decide +kernel
theorem dX8_readDirectory_259 : decode cX8_readDirectory 259 = .ok (.getfield 37, 3) := by decide +kernel
theorem dX8_readDirectory_262 : decode cX8_readDirectory 262 = .ok (.iconst 0, 1) := by decide +kernel
theorem dX8_readDirectory_263 : decode cX8_readDirectory 263 = .ok (.iaload, 1) := by decide +kernel
theorem dX8_readDirectory_264 : decode cX8_readDirectory 264 = .ok (.istore 4, 2) := by decide +kernel
theorem dX8_readDirectory_266 : decode cX8_readDirectory 266 = .ok (.aload_n 0, 1) := by decide +kernel
theorem dX8_readDirectory_267 : decode cX8_readDirectory 267 = .ok (.getfield 37, 3) := by decide +kernel
theorem dX8_readDirectory_270 : decode cX8_readDirectory 270 = .ok (.iconst 1, 1) := by decide +kernel
theorem dX8_readDirectory_271 : decode cX8_readDirectory 271 = .ok (.iaload, 1) := by decide +kernel
theorem dX8_readDirectory_272 : decode cX8_readDirectory 272 = .ok (.istore 5, 2) := by decide +kernel
theorem dX8_readDirectory_274 : decode cX8_readDirectory 274 = .ok (.goto (-257), 3) := by decide +kernel
theorem dX8_writeDirectory_0 : decode cX8_writeDirectory 0 = .ok (.iconst 0, 1) := by decide +kernel
theorem dX8_writeDirectory_1 : decode cX8_writeDirectory 1 = .ok (.istore_n 2, 1) := by decide +kernel
theorem dX8_writeDirectory_2 : decode cX8_writeDirectory 2 = .ok (.iload_n 2, 1) := by decide +kernel
theorem dX8_writeDirectory_3 : decode cX8_writeDirectory 3 = .ok (.bipush 64, 2) := by decide +kernel
theorem dX8_writeDirectory_5 : decode cX8_writeDirectory 5 = .ok (.if_icmp .ge 26, 3) := by decide +kernel
theorem dX8_writeDirectory_8 : decode cX8_writeDirectory 8 = .ok (.aload_n 0, 1) := by decide +kernel
theorem dX8_writeDirectory_9 : decode cX8_writeDirectory 9 = .ok (.getfield 37, 3) := by decide +kernel
theorem dX8_writeDirectory_12 : decode cX8_writeDirectory 12 = .ok (.iload_n 2, 1) := by decide +kernel
theorem dX8_writeDirectory_13 : decode cX8_writeDirectory 13 = .ok (.aload_n 0, 1) := by decide +kernel
theorem dX8_writeDirectory_14 : decode cX8_writeDirectory 14 = .ok (.getfield 43, 3) := by decide +kernel
theorem dX8_writeDirectory_17 : decode cX8_writeDirectory 17 = .ok (.bipush 64, 2) := by decide +kernel
theorem dX8_writeDirectory_19 : decode cX8_writeDirectory 19 = .ok (.iload_n 1, 1) := by decide +kernel
theorem dX8_writeDirectory_20 : decode cX8_writeDirectory 20 = .ok (.imul, 1) := by decide +kernel
theorem dX8_writeDirectory_21 : decode cX8_writeDirectory 21 = .ok (.iload_n 2, 1) := by decide +kernel
theorem dX8_writeDirectory_22 : decode cX8_writeDirectory 22 = .ok (.iadd, 1) := by decide +kernel
theorem dX8_writeDirectory_23 : decode cX8_writeDirectory 23 = .ok (.iaload, 1) := by decide +kernel
theorem dX8_writeDirectory_24 : decode cX8_writeDirectory 24 = .ok (.iastore, 1) := by decide +kernel
