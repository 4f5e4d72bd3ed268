theorem dX0_init_0 : decode cX0_init 0 = .ok (.aload_n 0, 1) := by decide +kernel
theorem dX0_init_1 : decode cX0_init 1 = .ok (.invokespecial 3, 3) := by decide +kernel
theorem dX0_init_4 : decode cX0_init 4 = .ok (.aload_n 0, 1) := by decide +kernel
theorem dX0_init_5 : decode cX0_init 5 = .ok (.aload_n 1, 1) := by decide +kernel
theorem dX0_init_6 : decode cX0_init 6 = .ok (.putfield 9, 3) := by decide +kernel
theorem dX0_init_9 : decode cX0_init 9 = .ok (.aload_n 0, 1) := by decide +kernel
theorem dX0_init_10 : decode cX0_init 10 = .ok (.iconst (-1), 1) := by decide +kernel
theorem dX0_init_11 : decode cX0_init 11 = .ok (.putfield 15, 3) := by decide +kernel
theorem dX0_init_14 : decode cX0_init 14 = .ok (.aload_n 0, 1) := by decide +kernel
theorem dX0_init_15 : decode cX0_init 15 = .ok (.bipush 16, 2) := by decide +kernel
theorem dX0_init_17 : decode cX0_init 17 = .ok (.anewarray 19, 3) := by decide +kernel
theorem dX0_init_20 : decode cX0_init 20 = .ok (.putfield 21, 3) := by decide +kernel
theorem dX0_init_23 : decode cX0_init 23 = .ok (.iconst 0, 1) := by decide +kernel
theorem dX0_init_24 : decode cX0_init 24 = .ok (.istore_n 2, 1) := by decide +kernel
theorem dX0_init_25 : decode cX0_init 25 = .ok (.iload_n 2, 1) := by decide +kernel
theorem dX0_init_26 : decode cX0_init 26 = .ok (.bipush 16, 2) := by decide +kernel
theorem dX0_init_28 : decode cX0_init 28 = .ok (.if_icmp .ge 28, 3) := by decide +kernel
theorem dX0_init_31 : decode cX0_init 31 = .ok (.aload_n 0, 1) := by decide +kernel
theorem dX0_init_32 : decode cX0_init 32 = .ok (.getfield 21, 3) := by decide +kernel
theorem dX0_init_35 : decode cX0_init 35 = .ok (.iload_n 2, 1) := by decide +kernel
theorem dX0_init_36 : decode cX0_init 36 = .ok (.new 19, 3) := by decide +kernel
theorem dX0_init_39 : decode cX0_init 39 = .ok (.dup, 1) := by decide +kernel
theorem dX0_init_40 : decode cX0_init 40 = .ok (.iload_n 2, 1) := by decide +kernel
theorem dX0_init_41 : decode cX0_init 41 = .ok (.iconst 1, 1) := by decide +kernel
theorem dX0_init_42 : decode cX0_init 42 = .ok (.iadd, 1) := by decide +kernel
theorem dX0_init_43 : decode cX0_init 43 = .ok (.invokestatic 25, 3) := by decide +kernel
theorem dX0_init_46 : decode cX0_init 46 = .ok (.invokespecial 29, 3) := by decide +kernel
theorem dX0_init_49 : decode cX0_init 49 = .ok (.aastore, 1) := by decide +kernel
theorem dX0_init_50 : decode cX0_init 50 = .ok (.iinc 2 1, 3) := by decide +kernel
theorem dX0_init_53 : decode cX0_init 53 = .ok (.goto (-28), 3) := by decide +kernel
theorem dX0_init_56 : decode cX0_init 56 = .ok (.aload_n 0, 1) := by decide +kernel
theorem dX0_init_57 : decode cX0_init 57 = .ok (.new 19, 3) := by decide +kernel
theorem dX0_init_60 : decode cX0_init 60 = .ok (.dup, 1) := by decide +kernel
theorem dX0_init_61 : decode cX0_init 61 = .ok (.bipush 114, 2) := by decide +kernel
theorem dX0_init_63 : decode cX0_init 63 = .ok (.invokespecial 29, 3) := by decide +kernel
theorem dX0_init_66 : decode cX0_init 66 = .ok (.putfield 32, 3) := by decide +kernel
theorem dX0_init_69 : decode cX0_init 69 = .ok (.aload_n 0, 1) := by decide +kernel
theorem dX0_init_70 : decode cX0_init 70 = .ok (.getfield 32, 3) := by decide +kernel
theorem dX0_init_73 : decode cX0_init 73 = .ok (.invokevirtual 36, 3) := by decide +kernel
theorem dX0_init_76 : decode cX0_init 76 = .ok (.aload_n 0, 1) := by decide +kernel
theorem dX0_init_77 : decode cX0_init 77 = .ok (.getfield 32, 3) := by decide +kernel
theorem dX0_init_80 : decode cX0_init 80 = .ok (.iconst 0, 1) := by decide +kernel
theorem dX0_init_81 : decode cX0_init 81 = .ok (.invokevirtual 39, 3) := by decide +kernel
theorem dX0_init_84 : decode cX0_init 84 = .ok (.aload_n 0, 1) := by decide +kernel
theorem dX0_init_85 : decode cX0_init 85 = .ok (.getfield 32, 3) := by decide +kernel
theorem dX0_init_88 : decode cX0_init 88 = .ok (.bipush 40, 2) := by decide +kernel
theorem dX0_init_90 : decode cX0_init 90 = .ok (.bipush 64, 2) := by decide +kernel
theorem dX0_init_92 : decode cX0_init 92 = .ok (.newarray .int, 2) := by decide +kernel
theorem dX0_init_94 : decode cX0_init 94 = .ok (.invokevirtual 42, 3) := by decide +kernel
theorem dX0_init_97 : decode cX0_init 97 = .ok (.return_, 1) := by decide +kernel
theorem dX0_ringOf_0 : decode cX0_ringOf 0 = .ok (.iload_n 1, 1) := by decide +kernel
theorem dX0_ringOf_1 : decode cX0_ringOf 1 = .ok (.iconst 1, 1) := by decide +kernel
theorem dX0_ringOf_2 : decode cX0_ringOf 2 = .ok (.if_icmp .lt 20, 3) := by decide +kernel
theorem dX0_ringOf_5 : decode cX0_ringOf 5 = .ok (.iload_n 1, 1) := by decide +kernel
theorem dX0_ringOf_6 : decode cX0_ringOf 6 = .ok (.bipush 16, 2) := by decide +kernel
theorem dX0_ringOf_8 : decode cX0_ringOf 8 = .ok (.if_icmp .gt 14, 3) := by decide +kernel
theorem dX0_ringOf_11 : decode cX0_ringOf 11 = .ok (.aload_n 0, 1) := by decide +kernel
theorem dX0_ringOf_12 : decode cX0_ringOf 12 = .ok (.getfield 21, 3) := by decide +kernel
theorem dX0_ringOf_15 : decode cX0_ringOf 15 = .ok (.iload_n 1, 1) := by decide +kernel
theorem dX0_ringOf_16 : decode cX0_ringOf 16 = .ok (.iconst 1, 1) := by decide +kernel
theorem dX0_ringOf_17 : decode cX0_ringOf 17 = .ok (.isub, 1) := by decide +kernel
theorem dX0_ringOf_18 : decode cX0_ringOf 18 = .ok (.aaload, 1) := by decide +kernel
theorem dX0_ringOf_19 : decode cX0_ringOf 19 = .ok (.goto 4, 3) := by decide +kernel
theorem dX0_ringOf_22 : decode cX0_ringOf 22 = .ok (.aconst_null, 1) := by decide +kernel
theorem dX0_ringOf_23 : decode cX0_ringOf 23 = .ok (.areturn, 1) := by decide +kernel
theorem dX0_sectorsOf_0 : decode cX0_sectorsOf 0 = .ok (.iload_n 0, 1) := by decide +kernel
theorem dX0_sectorsOf_1 : decode cX0_sectorsOf 1 = .ok (.iconst 1, 1) := by decide +kernel
theorem dX0_sectorsOf_2 : decode cX0_sectorsOf 2 = .ok (.if_icmp .lt 9, 3) := by decide +kernel
theorem dX0_sectorsOf_5 : decode cX0_sectorsOf 5 = .ok (.iload_n 0, 1) := by decide +kernel
theorem dX0_sectorsOf_6 : decode cX0_sectorsOf 6 = .ok (.bipush 16, 2) := by decide +kernel
theorem dX0_sectorsOf_8 : decode cX0_sectorsOf 8 = .ok (.if_icmp .le 5, 3) := by decide +kernel
theorem dX0_sectorsOf_11 : decode cX0_sectorsOf 11 = .ok (.iconst 0, 1) := by decide +kernel
theorem dX0_sectorsOf_12 : decode cX0_sectorsOf 12 = .ok (.ireturn, 1) := by decide +kernel
theorem dX0_sectorsOf_13 : decode cX0_sectorsOf 13 = .ok (.iload_n 0, 1) := by decide +kernel
theorem dX0_sectorsOf_14 : decode cX0_sectorsOf 14 = .ok (.bipush 8, 2) := by decide +kernel
theorem dX0_sectorsOf_16 : decode cX0_sectorsOf 16 = .ok (.if_icmp .gt 8, 3) := by decide +kernel
theorem dX0_sectorsOf_19 : decode cX0_sectorsOf 19 = .ok (.bipush 9, 2) := by decide +kernel
theorem dX0_sectorsOf_21 : decode cX0_sectorsOf 21 = .ok (.goto 16, 3) := by decide +kernel
theorem dX0_sectorsOf_24 : decode cX0_sectorsOf 24 = .ok (.iload_n 0, 1) := by decide +kernel
theorem dX0_sectorsOf_25 : decode cX0_sectorsOf 25 = .ok (.bipush 12, 2) := by decide +kernel
theorem dX0_sectorsOf_27 : decode cX0_sectorsOf 27 = .ok (.if_icmp .gt 8, 3) := by decide +kernel
theorem dX0_sectorsOf_30 : decode cX0_sectorsOf 30 = .ok (.bipush 8, 2) := by decide +kernel
theorem dX0_sectorsOf_32 : decode cX0_sectorsOf 32 = .ok (.goto 5, 3) := by decide +kernel
theorem dX0_sectorsOf_35 : decode cX0_sectorsOf 35 = .ok (.bipush 7, 2) := by decide +kernel
theorem dX0_sectorsOf_37 : decode cX0_sectorsOf 37 = .ok (.ireturn, 1) := by decide +kernel
theorem dX0_isBlock_0 : decode cX0_isBlock 0 = .ok (.iload_n 1, 1) := by decide +kernel
theorem dX0_isBlock_1 : decode cX0_isBlock 1 = .ok (.ifCond .lt 15, 3) := by decide +kernel
theorem dX0_isBlock_4 : decode cX0_isBlock 4 = .ok (.iload_n 1, 1) := by decide +kernel
theorem dX0_isBlock_5 : decode cX0_isBlock 5 = .ok (.iload_n 0, 1) := by decide +kernel
theorem dX0_isBlock_6 : decode cX0_isBlock 6 = .ok (.invokestatic 46, 3) := by decide +kernel
theorem dX0_isBlock_9 : decode cX0_isBlock 9 = .ok (.if_icmp .ge 7, 3) := by decide +kernel
theorem dX0_isBlock_12 : decode cX0_isBlock 12 = .ok (.iconst 1, 1) := by decide +kernel
theorem dX0_isBlock_13 : decode cX0_isBlock 13 = .ok (.goto 4, 3) := by decide +kernel
theorem dX0_isBlock_16 : decode cX0_isBlock 16 = .ok (.iconst 0, 1) := by decide +kernel
theorem dX0_isBlock_17 : decode cX0_isBlock 17 = .ok (.ireturn, 1) := by decide +kernel
theorem dX0_formatTracks_0 : decode cX0_formatTracks 0 = .ok (.iconst 1, 1) := by decide +kernel
theorem dX0_formatTracks_1 : decode cX0_formatTracks 1 = .ok (.istore_n 1, 1) := by decide +kernel
theorem dX0_formatTracks_2 : decode cX0_formatTracks 2 = .ok (.iload_n 1, 1) := by decide +kernel
theorem dX0_formatTracks_3 : decode cX0_formatTracks 3 = .ok (.bipush 16, 2) := by decide +kernel
theorem dX0_formatTracks_5 : decode cX0_formatTracks 5 = .ok (.if_icmp .gt 25, 3) := by decide +kernel
theorem dX0_formatTracks_8 : decode cX0_formatTracks 8 = .ok (.aload_n 0, 1) := by decide +kernel
theorem dX0_formatTracks_9 : decode cX0_formatTracks 9 = .ok (.iload_n 1, 1) := by decide +kernel
theorem dX0_formatTracks_10 : decode cX0_formatTracks 10 = .ok (.invokevirtual 49, 3) := by decide +kernel
theorem dX0_formatTracks_13 : decode cX0_formatTracks 13 = .ok (.astore_n 2, 1) := by decide +kernel
theorem dX0_formatTracks_14 : decode cX0_formatTracks 14 = .ok (.aload_n 2, 1) := by decide +kernel
theorem dX0_formatTracks_15 : decode cX0_formatTracks 15 = .ok (.ifnull 9, 3) := by decide +kernel
theorem dX0_formatTracks_18 : decode cX0_formatTracks 18 = .ok (.aload_n 0, 1) := by decide +kernel
theorem dX0_formatTracks_19 : decode cX0_formatTracks 19 = .ok (.aload_n 2, 1) := by decide +kernel
theorem dX0_formatTracks_20 : decode cX0_formatTracks 20 = .ok (.iload_n 1, 1) := by decide +kernel
theorem dX0_formatTracks_21 : decode cX0_formatTracks 21 = .ok (.invokevirtual 53, 3) := by decide +kernel
theorem dX0_formatTracks_24 : decode cX0_formatTracks 24 = .ok (.iinc 1 1, 3) := by decide +kernel
theorem dX0_formatTracks_27 : decode cX0_formatTracks 27 = .ok (.goto (-25), 3) := by decide +kernel
theorem dX0_formatTracks_30 : decode cX0_formatTracks 30 = .ok (.return_, 1) := by decide +kernel
theorem dX0_formatTrack_0 : decode cX0_formatTrack 0 = .ok (.aload_n 1, 1) := by decide +kernel
theorem dX0_formatTrack_1 : decode cX0_formatTrack 1 = .ok (.invokevirtual 36, 3) := by decide +kernel
theorem dX0_formatTrack_4 : decode cX0_formatTrack 4 = .ok (.iload_n 2, 1) := by decide +kernel
theorem dX0_formatTrack_5 : decode cX0_formatTrack 5 = .ok (.invokestatic 46, 3) := by decide +kernel
theorem dX0_formatTrack_8 : decode cX0_formatTrack 8 = .ok (.istore_n 3, 1) := by decide +kernel
theorem dX0_formatTrack_9 : decode cX0_formatTrack 9 = .ok (.iconst 0, 1) := by decide +kernel
theorem dX0_formatTrack_10 : decode cX0_formatTrack 10 = .ok (.istore 4, 2) := by decide +kernel
theorem dX0_formatTrack_12 : decode cX0_formatTrack 12 = .ok (.iload 4, 2) := by decide +kernel
theorem dX0_formatTrack_14 : decode cX0_formatTrack 14 = .ok (.iload_n 3, 1) := by decide +kernel
theorem dX0_formatTrack_15 : decode cX0_formatTrack 15 = .ok (.if_icmp .ge 38, 3) := by decide +kernel
theorem dX0_formatTrack_18 : decode cX0_formatTrack 18 = .ok (.aload_n 0, 1) := by decide +kernel
theorem dX0_formatTrack_19 : decode cX0_formatTrack 19 = .ok (.getfield 32, 3) := by decide +kernel
theorem dX0_formatTrack_22 : decode cX0_formatTrack 22 = .ok (.bipush 40, 2) := by decide +kernel
theorem dX0_formatTrack_24 : decode cX0_formatTrack 24 = .ok (.iload_n 2, 1) := by decide +kernel
theorem dX0_formatTrack_25 : decode cX0_formatTrack 25 = .ok (.iload 4, 2) := by decide +kernel
theorem dX0_formatTrack_27 : decode cX0_formatTrack 27 = .ok (.aload_n 0, 1) := by decide +kernel
theorem dX0_formatTrack_28 : decode cX0_formatTrack 28 = .ok (.getfield 15, 3) := by decide +kernel
theorem dX0_formatTrack_31 : decode cX0_formatTrack 31 = .ok (.invokevirtual 57, 3) := by decide +kernel
theorem dX0_formatTrack_34 : decode cX0_formatTrack 34 = .ok (.aload_n 1, 1) := by decide +kernel
theorem dX0_formatTrack_35 : decode cX0_formatTrack 35 = .ok (.aload_n 0, 1) := by decide +kernel
theorem dX0_formatTrack_36 : decode cX0_formatTrack 36 = .ok (.getfield 32, 3) := by decide +kernel
theorem dX0_formatTrack_39 : decode cX0_formatTrack 39 = .ok (.bipush 114, 2) := by decide +kernel
theorem dX0_formatTrack_41 : decode cX0_formatTrack 41 = .ok (.iload 4, 2) := by decide +kernel
theorem dX0_formatTrack_43 : decode cX0_formatTrack 43 = .ok (.imul, 1) := by decide +kernel
theorem dX0_formatTrack_44 : decode cX0_formatTrack 44 = .ok (.invokevirtual 61, 3) := by decide +kernel
theorem dX0_formatTrack_47 : decode cX0_formatTrack 47 = .ok (.iinc 4 1, 3) := by decide +kernel
theorem dX0_formatTrack_50 : decode cX0_formatTrack 50 = .ok (.goto (-38), 3) := by decide +kernel
theorem dX0_formatTrack_53 : decode cX0_formatTrack 53 = .ok (.return_, 1) := by decide +kernel
theorem dX0_layFormatted_0 : decode cX0_layFormatted 0 = .ok (.aload_n 0, 1) := by decide +kernel
theorem dX0_layFormatted_1 : decode cX0_layFormatted 1 = .ok (.iload_n 1, 1) := by decide +kernel
theorem dX0_layFormatted_2 : decode cX0_layFormatted 2 = .ok (.invokevirtual 49, 3) := by decide +kernel
theorem dX0_layFormatted_5 : decode cX0_layFormatted 5 = .ok (.astore 4, 2) := by decide +kernel
theorem dX0_layFormatted_7 : decode cX0_layFormatted 7 = .ok (.aload 4, 2) := by decide +kernel
theorem dX0_layFormatted_9 : decode cX0_layFormatted 9 = .ok (.ifnull 18, 3) := by decide +kernel
theorem dX0_layFormatted_12 : decode cX0_layFormatted 12 = .ok (.aload 4, 2) := by decide +kernel
theorem dX0_layFormatted_14 : decode cX0_layFormatted 14 = .ok (.bipush 8, 2) := by decide +kernel
theorem dX0_layFormatted_16 : decode cX0_layFormatted 16 = .ok (.bipush 114, 2) := by decide +kernel
theorem dX0_layFormatted_18 : decode cX0_layFormatted 18 = .ok (.iload_n 2, 1) := by decide +kernel
theorem dX0_layFormatted_19 : decode cX0_layFormatted 19 = .ok (.imul, 1) := by decide +kernel
theorem dX0_layFormatted_20 : decode cX0_layFormatted 20 = .ok (.iconst 5, 1) := by decide +kernel
theorem dX0_layFormatted_21 : decode cX0_layFormatted 21 = .ok (.iadd, 1) := by decide +kernel
theorem dX0_layFormatted_22 : decode cX0_layFormatted 22 = .ok (.imul, 1) := by decide +kernel
theorem dX0_layFormatted_23 : decode cX0_layFormatted 23 = .ok (.aload_n 3, 1) := by decide +kernel
theorem dX0_layFormatted_24 : decode cX0_layFormatted 24 = .ok (.invokevirtual 42, 3) := by decide +kernel
theorem dX0_layFormatted_27 : decode cX0_layFormatted 27 = .ok (.return_, 1) := by decide +kernel
theorem dX0_fetch_0 : decode cX0_fetch 0 = .ok (.aload_n 0, 1) := by decide +kernel
theorem dX0_fetch_1 : decode cX0_fetch 1 = .ok (.iload_n 1, 1) := by decide +kernel
theorem dX0_fetch_2 : decode cX0_fetch 2 = .ok (.iload_n 2, 1) := by decide +kernel
theorem dX0_fetch_3 : decode cX0_fetch 3 = .ok (.aload_n 3, 1) := by decide +kernel
theorem dX0_fetch_4 : decode cX0_fetch 4 = .ok (.invokevirtual 64, 3) := by decide +kernel
theorem dX0_fetch_7 : decode cX0_fetch 7 = .ok (.istore 4, 2) := by decide +kernel
theorem dX0_fetch_9 : decode cX0_fetch 9 = .ok (.iload 4, 2) := by decide +kernel
theorem dX0_fetch_11 : decode cX0_fetch 11 = .ok (.ifCond .ne 7, 3) := by decide +kernel
theorem dX0_fetch_14 : decode cX0_fetch 14 = .ok (.iconst 0, 1) := by decide +kernel
theorem dX0_fetch_15 : decode cX0_fetch 15 = .ok (.goto 14, 3) := by decide +kernel
theorem dX0_fetch_18 : decode cX0_fetch 18 = .ok (.aload_n 0, 1) := by decide +kernel
theorem dX0_fetch_19 : decode cX0_fetch 19 = .ok (.getfield 9, 3) := by decide +kernel
theorem dX0_fetch_22 : decode cX0_fetch 22 = .ok (.iload 4, 2) := by decide +kernel
theorem dX0_fetch_24 : decode cX0_fetch 24 = .ok (.iload_n 1, 1) := by decide +kernel
theorem dX0_fetch_25 : decode cX0_fetch 25 = .ok (.iload_n 2, 1) := by decide +kernel
theorem dX0_fetch_26 : decode cX0_fetch 26 = .ok (.invokevirtual 68, 3) := by decide +kernel
theorem dX0_fetch_29 : decode cX0_fetch 29 = .ok (.ireturn, 1) := by decide +kernel
theorem dX0_store_0 : decode cX0_store 0 = .ok (.aload_n 0, 1) := by decide +kernel
theorem dX0_store_1 : decode cX0_store 1 = .ok (.iload_n 1, 1) := by decide +kernel
theorem dX0_store_2 : decode cX0_store 2 = .ok (.iload_n 2, 1) := by decide +kernel
theorem dX0_store_3 : decode cX0_store 3 = .ok (.aload_n 3, 1) := by decide +kernel
theorem dX0_store_4 : decode cX0_store 4 = .ok (.invokevirtual 74, 3) := by decide +kernel
theorem dX0_store_7 : decode cX0_store 7 = .ok (.istore 4, 2) := by decide +kernel
theorem dX0_store_9 : decode cX0_store 9 = .ok (.iload 4, 2) := by decide +kernel
theorem dX0_store_11 : decode cX0_store 11 = .ok (.ifCond .ne 7, 3) := by decide +kernel
theorem dX0_store_14 : decode cX0_store 14 = .ok (.iconst 0, 1) := by decide +kernel
theorem dX0_store_15 : decode cX0_store 15 = .ok (.goto 14, 3) := by decide +kernel
theorem dX0_store_18 : decode cX0_store 18 = .ok (.aload_n 0, 1) := by decide +kernel
theorem dX0_store_19 : decode cX0_store 19 = .ok (.getfield 9, 3) := by decide +kernel
theorem dX0_store_22 : decode cX0_store 22 = .ok (.iload 4, 2) := by decide +kernel
theorem dX0_store_24 : decode cX0_store 24 = .ok (.iload_n 1, 1) := by decide +kernel
theorem dX0_store_25 : decode cX0_store 25 = .ok (.iload_n 2, 1) := by decide +kernel
theorem dX0_store_26 : decode cX0_store 26 = .ok (.invokevirtual 68, 3) := by decide +kernel
theorem dX0_store_29 : decode cX0_store 29 = .ok (.ireturn, 1) := by decide +kernel
theorem dX0_readBlock_0 : decode cX0_readBlock 0 = .ok (.aload_n 0, 1) := by decide +kernel
theorem dX0_readBlock_1 : decode cX0_readBlock 1 = .ok (.iload_n 1, 1) := by decide +kernel
theorem dX0_readBlock_2 : decode cX0_readBlock 2 = .ok (.invokevirtual 49, 3) := by decide +kernel
theorem dX0_readBlock_5 : decode cX0_readBlock 5 = .ok (.astore 4, 2) := by decide +kernel
theorem dX0_readBlock_7 : decode cX0_readBlock 7 = .ok (.aload_n 0, 1) := by decide +kernel
theorem dX0_readBlock_8 : decode cX0_readBlock 8 = .ok (.getfield 15, 3) := by decide +kernel
theorem dX0_readBlock_11 : decode cX0_readBlock 11 = .ok (.iconst (-1), 1) := by decide +kernel
theorem dX0_readBlock_12 : decode cX0_readBlock 12 = .ok (.if_icmp .ne 6, 3) := by decide +kernel
theorem dX0_readBlock_15 : decode cX0_readBlock 15 = .ok (.bipush 74, 2) := by decide +kernel
theorem dX0_readBlock_17 : decode cX0_readBlock 17 = .ok (.ireturn, 1) := by decide +kernel
theorem dX0_readBlock_18 : decode cX0_readBlock 18 = .ok (.aload 4, 2) := by decide +kernel
theorem dX0_readBlock_20 : decode cX0_readBlock 20 = .ok (.ifnull 11, 3) := by decide +kernel
theorem dX0_readBlock_23 : decode cX0_readBlock 23 = .ok (.iload_n 1, 1) := by decide +kernel
theorem dX0_readBlock_24 : decode cX0_readBlock 24 = .ok (.iload_n 2, 1) := by decide +kernel
theorem dX0_readBlock_25 : decode cX0_readBlock 25 = .ok (.invokestatic 77, 3) := by decide +kernel
theorem dX0_readBlock_28 : decode cX0_readBlock 28 = .ok (.ifCond .ne 6, 3) := by decide +kernel
theorem dX0_readBlock_31 : decode cX0_readBlock 31 = .ok (.bipush 66, 2) := by decide +kernel
theorem dX0_readBlock_33 : decode cX0_readBlock 33 = .ok (.ireturn, 1) := by decide +kernel
theorem dX0_readBlock_34 : decode cX0_readBlock 34 = .ok (.aload_n 0, 1) := by decide +kernel
theorem dX0_readBlock_35 : decode cX0_readBlock 35 = .ok (.aload 4, 2) := by decide +kernel
theorem dX0_readBlock_37 : decode cX0_readBlock 37 = .ok (.iload_n 1, 1) := by decide +kernel
theorem dX0_readBlock_38 : decode cX0_readBlock 38 = .ok (.iload_n 2, 1) := by decide +kernel
theorem dX0_readBlock_39 : decode cX0_readBlock 39 = .ok (.invokevirtual 81, 3) := by decide +kernel
theorem dX0_readBlock_42 : decode cX0_readBlock 42 = .ok (.istore 5, 2) := by decide +kernel
theorem dX0_readBlock_44 : decode cX0_readBlock 44 = .ok (.iload 5, 2) := by decide +kernel
theorem dX0_readBlock_46 : decode cX0_readBlock 46 = .ok (.iconst 1, 1) := by decide +kernel
theorem dX0_readBlock_47 : decode cX0_readBlock 47 = .ok (.iadd, 1) := by decide +kernel
theorem dX0_readBlock_48 : decode cX0_readBlock 48 = .ok (.aload 4, 2) := by decide +kernel
theorem dX0_readBlock_50 : decode cX0_readBlock 50 = .ok (.getfield 85, 3) := by decide +kernel
theorem dX0_readBlock_53 : decode cX0_readBlock 53 = .ok (.if_icmp .ge 10, 3) := by decide +kernel
theorem dX0_readBlock_56 : decode cX0_readBlock 56 = .ok (.iload 5, 2) := by decide +kernel
theorem dX0_readBlock_58 : decode cX0_readBlock 58 = .ok (.iconst 1, 1) := by decide +kernel
theorem dX0_readBlock_59 : decode cX0_readBlock 59 = .ok (.iadd, 1) := by decide +kernel
theorem dX0_readBlock_60 : decode cX0_readBlock 60 = .ok (.goto 4, 3) := by decide +kernel
theorem dX0_readBlock_63 : decode cX0_readBlock 63 = .ok (.iconst 0, 1) := by decide +kernel
theorem dX0_readBlock_64 : decode cX0_readBlock 64 = .ok (.istore 6, 2) := by decide +kernel
theorem dX0_readBlock_66 : decode cX0_readBlock 66 = .ok (.iload 5, 2) := by decide +kernel
theorem dX0_readBlock_68 : decode cX0_readBlock 68 = .ok (.ifCond .ge 9, 3) := by decide +kernel
theorem dX0_readBlock_71 : decode cX0_readBlock 71 = .ok (.iload 5, 2) := by decide +kernel
theorem dX0_readBlock_73 : decode cX0_readBlock 73 = .ok (.ineg, 1) := by decide +kernel
theorem dX0_readBlock_74 : decode cX0_readBlock 74 = .ok (.goto 16, 3) := by decide +kernel
theorem dX0_readBlock_77 : decode cX0_readBlock 77 = .ok (.aload 4, 2) := by decide +kernel
theorem dX0_readBlock_79 : decode cX0_readBlock 79 = .ok (.aload 4, 2) := by decide +kernel
theorem dX0_readBlock_81 : decode cX0_readBlock 81 = .ok (.iload 6, 2) := by decide +kernel
theorem dX0_readBlock_83 : decode cX0_readBlock 83 = .ok (.invokevirtual 88, 3) := by decide +kernel
theorem dX0_readBlock_86 : decode cX0_readBlock 86 = .ok (.aload_n 3, 1) := by decide +kernel
theorem dX0_readBlock_87 : decode cX0_readBlock 87 = .ok (.invokevirtual 91, 3) := by decide +kernel
theorem dX0_readBlock_90 : decode cX0_readBlock 90 = .ok (.istore 7, 2) := by decide +kernel
theorem dX0_readBlock_92 : decode cX0_readBlock 92 = .ok (.iload 7, 2) := by decide +kernel
theorem dX0_readBlock_94 : decode cX0_readBlock 94 = .ok (.ifCond .ne 16, 3) := by decide +kernel
theorem dX0_readBlock_97 : decode cX0_readBlock 97 = .ok (.aload_n 0, 1) := by decide +kernel
theorem dX0_readBlock_98 : decode cX0_readBlock 98 = .ok (.dup, 1) := by decide +kernel
theorem dX0_readBlock_99 : decode cX0_readBlock 99 = .ok (.getfield 95, 3) := by decide +kernel
theorem dX0_readBlock_102 : decode cX0_readBlock 102 = .ok (.iconst 1, 1) := by decide +kernel
theorem dX0_readBlock_103 : decode cX0_readBlock 103 = .ok (.iadd, 1) := by decide +kernel
theorem dX0_readBlock_104 : decode cX0_readBlock 104 = .ok (.putfield 95, 3) := by decide +kernel
theorem dX0_readBlock_107 : decode cX0_readBlock 107 = .ok (.goto 13, 3) := by decide +kernel
theorem dX0_readBlock_110 : decode cX0_readBlock 110 = .ok (.aload_n 0, 1) := by decide +kernel
theorem dX0_readBlock_111 : decode cX0_readBlock 111 = .ok (.dup, 1) := by decide +kernel
theorem dX0_readBlock_112 : decode cX0_readBlock 112 = .ok (.getfield 98, 3) := by decide +kernel
theorem dX0_readBlock_115 : decode cX0_readBlock 115 = .ok (.iconst 1, 1) := by decide +kernel
theorem dX0_readBlock_116 : decode cX0_readBlock 116 = .ok (.iadd, 1) := by decide +kernel
theorem dX0_readBlock_117 : decode cX0_readBlock 117 = .ok (.putfield 98, 3) := by decide +kernel
theorem dX0_readBlock_120 : decode cX0_readBlock 120 = .ok (.iload 7, 2) := by decide +kernel
theorem dX0_readBlock_122 : decode cX0_readBlock 122 = .ok (.ireturn, 1) := by decide +kernel
theorem dX0_writeBlock_0 : decode cX0_writeBlock 0 = .ok (.aload_n 0, 1) := by decide +kernel
theorem dX0_writeBlock_1 : decode cX0_writeBlock 1 = .ok (.iload_n 1, 1) := by decide +kernel
theorem dX0_writeBlock_2 : decode cX0_writeBlock 2 = .ok (.invokevirtual 49, 3) := by decide +kernel
theorem dX0_writeBlock_5 : decode cX0_writeBlock 5 = .ok (.astore 4, 2) := by decide +kernel
theorem dX0_writeBlock_7 : decode cX0_writeBlock 7 = .ok (.aload_n 0, 1) := by decide +kernel
theorem dX0_writeBlock_8 : decode cX0_writeBlock 8 = .ok (.getfield 15, 3) := by decide +kernel
theorem dX0_writeBlock_11 : decode cX0_writeBlock 11 = .ok (.iconst (-1), 1) := by decide +kernel
theorem dX0_writeBlock_12 : decode cX0_writeBlock 12 = .ok (.if_icmp .ne 6, 3) := by decide +kernel
theorem dX0_writeBlock_15 : decode cX0_writeBlock 15 = .ok (.bipush 74, 2) := by decide +kernel
theorem dX0_writeBlock_17 : decode cX0_writeBlock 17 = .ok (.ireturn, 1) := by decide +kernel
theorem dX0_writeBlock_18 : decode cX0_writeBlock 18 = .ok (.aload 4, 2) := by decide +kernel
theorem dX0_writeBlock_20 : decode cX0_writeBlock 20 = .ok (.ifnull 11, 3) := by decide +kernel
theorem dX0_writeBlock_23 : decode cX0_writeBlock 23 = .ok (.iload_n 1, 1) := by decide +kernel
theorem dX0_writeBlock_24 : decode cX0_writeBlock 24 = .ok (.iload_n 2, 1) := by decide +kernel
theorem dX0_writeBlock_25 : decode cX0_writeBlock 25 = .ok (.invokestatic 77, 3) := by decide +kernel
theorem dX0_writeBlock_28 : decode cX0_writeBlock 28 = .ok (.ifCond .ne 6, 3) := by decide +kernel
theorem dX0_writeBlock_31 : decode cX0_writeBlock 31 = .ok (.bipush 66, 2) := by decide +kernel
theorem dX0_writeBlock_33 : decode cX0_writeBlock 33 = .ok (.ireturn, 1) := by decide +kernel
theorem dX0_writeBlock_34 : decode cX0_writeBlock 34 = .ok (.aload_n 0, 1) := by decide +kernel
theorem dX0_writeBlock_35 : decode cX0_writeBlock 35 = .ok (.aload 4, 2) := by decide +kernel
theorem dX0_writeBlock_37 : decode cX0_writeBlock 37 = .ok (.iload_n 1, 1) := by decide +kernel
theorem dX0_writeBlock_38 : decode cX0_writeBlock 38 = .ok (.iload_n 2, 1) := by decide +kernel
theorem dX0_writeBlock_39 : decode cX0_writeBlock 39 = .ok (.invokevirtual 81, 3) := by decide +kernel
theorem dX0_writeBlock_42 : decode cX0_writeBlock 42 = .ok (.istore 5, 2) := by decide +kernel
theorem dX0_writeBlock_44 : decode cX0_writeBlock 44 = .ok (.iload 5, 2) := by decide +kernel
theorem dX0_writeBlock_46 : decode cX0_writeBlock 46 = .ok (.ifCond .ge 17, 3) := by decide +kernel
theorem dX0_writeBlock_49 : decode cX0_writeBlock 49 = .ok (.aload_n 0, 1) := by decide +kernel
theorem dX0_writeBlock_50 : decode cX0_writeBlock 50 = .ok (.dup, 1) := by decide +kernel
theorem dX0_writeBlock_51 : decode cX0_writeBlock 51 = .ok (.getfield 98, 3) := by decide +kernel
theorem dX0_writeBlock_54 : decode cX0_writeBlock 54 = .ok (.iconst 1, 1) := by decide +kernel
theorem dX0_writeBlock_55 : decode cX0_writeBlock 55 = .ok (.iadd, 1) := by decide +kernel
theorem dX0_writeBlock_56 : decode cX0_writeBlock 56 = .ok (.putfield 98, 3) := by decide +kernel
theorem dX0_writeBlock_59 : decode cX0_writeBlock 59 = .ok (.iload 5, 2) := by decide +kernel
theorem dX0_writeBlock_61 : decode cX0_writeBlock 61 = .ok (.ineg, 1) := by decide +kernel
theorem dX0_writeBlock_62 : decode cX0_writeBlock 62 = .ok (.ireturn, 1) := by decide +kernel
theorem dX0_writeBlock_63 : decode cX0_writeBlock 63 = .ok (.aload 4, 2) := by decide +kernel
theorem dX0_writeBlock_65 : decode cX0_writeBlock 65 = .ok (.aload 4, 2) := by decide +kernel
theorem dX0_writeBlock_67 : decode cX0_writeBlock 67 = .ok (.iload 5, 2) := by decide +kernel
theorem dX0_writeBlock_69 : decode cX0_writeBlock 69 = .ok (.invokevirtual 88, 3) := by decide +kernel
theorem dX0_writeBlock_72 : decode cX0_writeBlock 72 = .ok (.aload_n 3, 1) := by decide +kernel
theorem dX0_writeBlock_73 : decode cX0_writeBlock 73 = .ok (.invokevirtual 42, 3) := by decide +kernel
theorem dX0_writeBlock_76 : decode cX0_writeBlock 76 = .ok (.aload_n 0, 1) := by decide +kernel
theorem dX0_writeBlock_77 : decode cX0_writeBlock 77 = .ok (.dup, 1) := by decide +kernel
theorem dX0_writeBlock_78 : decode cX0_writeBlock 78 = .ok (.getfield 101, 3) := by decide +kernel
theorem dX0_writeBlock_81 : decode cX0_writeBlock 81 = .ok (.iconst 1, 1) := by decide +kernel
theorem dX0_writeBlock_82 : decode cX0_writeBlock 82 = .ok (.iadd, 1) := by decide +kernel
theorem dX0_writeBlock_83 : decode cX0_writeBlock 83 = .ok (.putfield 101, 3) := by decide +kernel
theorem dX0_writeBlock_86 : decode cX0_writeBlock 86 = .ok (.iconst 0, 1) := by decide +kernel
theorem dX0_writeBlock_87 : decode cX0_writeBlock 87 = .ok (.ireturn, 1) := by decide +kernel
theorem dX0_seek_0 : decode cX0_seek 0 = .ok (.aload_n 1, 1) := by decide +kernel
theorem dX0_seek_1 : decode cX0_seek 1 = .ok (.invokevirtual 104, 3) := by decide +kernel
theorem dX0_seek_4 : decode cX0_seek 4 = .ok (.istore 4, 2) := by decide +kernel
theorem dX0_seek_6 : decode cX0_seek 6 = .ok (.iload 4, 2) := by decide +kernel
theorem dX0_seek_8 : decode cX0_seek 8 = .ok (.ifCond .ne 6, 3) := by decide +kernel
theorem dX0_seek_11 : decode cX0_seek 11 = .ok (.bipush (-21), 2) := by decide +kernel
theorem dX0_seek_13 : decode cX0_seek 13 = .ok (.ireturn, 1) := by decide +kernel
theorem dX0_seek_14 : decode cX0_seek 14 = .ok (.iconst 0, 1) := by decide +kernel
theorem dX0_seek_15 : decode cX0_seek 15 = .ok (.istore 5, 2) := by decide +kernel
theorem dX0_seek_17 : decode cX0_seek 17 = .ok (.iload 5, 2) := by decide +kernel
theorem dX0_seek_19 : decode cX0_seek 19 = .ok (.iload 4, 2) := by decide +kernel
theorem dX0_seek_21 : decode cX0_seek 21 = .ok (.if_icmp .ge 45, 3) := by decide +kernel
theorem dX0_seek_24 : decode cX0_seek 24 = .ok (.aload_n 0, 1) := by decide +kernel
theorem dX0_seek_25 : decode cX0_seek 25 = .ok (.aload_n 1, 1) := by decide +kernel
theorem dX0_seek_26 : decode cX0_seek 26 = .ok (.aload_n 1, 1) := by decide +kernel
theorem dX0_seek_27 : decode cX0_seek 27 = .ok (.iload 5, 2) := by decide +kernel
theorem dX0_seek_29 : decode cX0_seek 29 = .ok (.invokevirtual 88, 3) := by decide +kernel
theorem dX0_seek_32 : decode cX0_seek 32 = .ok (.iload_n 2, 1) := by decide +kernel
theorem dX0_seek_33 : decode cX0_seek 33 = .ok (.iload_n 3, 1) := by decide +kernel
theorem dX0_seek_34 : decode cX0_seek 34 = .ok (.invokevirtual 108, 3) := by decide +kernel
theorem dX0_seek_37 : decode cX0_seek 37 = .ok (.istore 6, 2) := by decide +kernel
theorem dX0_seek_39 : decode cX0_seek 39 = .ok (.iload 6, 2) := by decide +kernel
theorem dX0_seek_41 : decode cX0_seek 41 = .ok (.bipush 20, 2) := by decide +kernel
theorem dX0_seek_43 : decode cX0_seek 43 = .ok (.if_icmp .eq 17, 3) := by decide +kernel
theorem dX0_seek_46 : decode cX0_seek 46 = .ok (.iload 6, 2) := by decide +kernel
theorem dX0_seek_48 : decode cX0_seek 48 = .ok (.ifCond .ne 8, 3) := by decide +kernel
theorem dX0_seek_51 : decode cX0_seek 51 = .ok (.iload 5, 2) := by decide +kernel
theorem dX0_seek_53 : decode cX0_seek 53 = .ok (.goto 6, 3) := by decide +kernel
theorem dX0_seek_56 : decode cX0_seek 56 = .ok (.iload 6, 2) := by decide +kernel
theorem dX0_seek_58 : decode cX0_seek 58 = .ok (.ineg, 1) := by decide +kernel
theorem dX0_seek_59 : decode cX0_seek 59 = .ok (.ireturn, 1) := by decide +kernel
theorem dX0_seek_60 : decode cX0_seek 60 = .ok (.iinc 5 1, 3) := by decide +kernel
theorem dX0_seek_63 : decode cX0_seek 63 = .ok (.goto (-46), 3) := by decide +kernel
theorem dX0_seek_66 : decode cX0_seek 66 = .ok (.bipush (-20), 2) := by decide +kernel
theorem dX0_seek_68 : decode cX0_seek 68 = .ok (.ireturn, 1) := by decide +kernel
theorem dX0_headerError_0 : decode cX0_headerError 0 = .ok (.aload_n 1, 1) := by decide +kernel
theorem dX0_headerError_1 : decode cX0_headerError 1 = .ok (.iload_n 2, 1) := by decide +kernel
theorem dX0_headerError_2 : decode cX0_headerError 2 = .ok (.invokevirtual 112, 3) := by decide +kernel
theorem dX0_headerError_5 : decode cX0_headerError 5 = .ok (.bipush 8, 2) := by decide +kernel
theorem dX0_headerError_7 : decode cX0_headerError 7 = .ok (.if_icmp .ne 28, 3) := by decide +kernel
theorem dX0_headerError_10 : decode cX0_headerError 10 = .ok (.aload_n 1, 1) := by decide +kernel
theorem dX0_headerError_11 : decode cX0_headerError 11 = .ok (.iload_n 2, 1) := by decide +kernel
theorem dX0_headerError_12 : decode cX0_headerError 12 = .ok (.bipush 20, 2) := by decide +kernel
theorem dX0_headerError_14 : decode cX0_headerError 14 = .ok (.iadd, 1) := by decide +kernel
theorem dX0_headerError_15 : decode cX0_headerError 15 = .ok (.invokevirtual 112, 3) := by decide +kernel
theorem dX0_headerError_18 : decode cX0_headerError 18 = .ok (.iload 4, 2) := by decide +kernel
theorem dX0_headerError_20 : decode cX0_headerError 20 = .ok (.if_icmp .ne 15, 3) := by decide +kernel
theorem dX0_headerError_23 : decode cX0_headerError 23 = .ok (.aload_n 1, 1) := by decide +kernel
theorem dX0_headerError_24 : decode cX0_headerError 24 = .ok (.iload_n 2, 1) := by decide +kernel
theorem dX0_headerError_25 : decode cX0_headerError 25 = .ok (.bipush 30, 2) := by decide +kernel
theorem dX0_headerError_27 : decode cX0_headerError 27 = .ok (.iadd, 1) := by decide +kernel
theorem dX0_headerError_28 : decode cX0_headerError 28 = .ok (.invokevirtual 112, 3) := by decide +kernel
theorem dX0_headerError_31 : decode cX0_headerError 31 = .ok (.iload_n 3, 1) := by decide +kernel
theorem dX0_headerError_32 : decode cX0_headerError 32 = .ok (.if_icmp .eq 6, 3) := by decide +kernel
theorem dX0_headerError_35 : decode cX0_headerError 35 = .ok (.bipush 20, 2) := by decide +kernel
theorem dX0_headerError_37 : decode cX0_headerError 37 = .ok (.ireturn, 1) := by decide +kernel
theorem dX0_headerError_38 : decode cX0_headerError 38 = .ok (.aload_n 1, 1) := by decide +kernel
theorem dX0_headerError_39 : decode cX0_headerError 39 = .ok (.iload_n 2, 1) := by decide +kernel
theorem dX0_headerError_40 : decode cX0_headerError 40 = .ok (.bipush 10, 2) := by decide +kernel
theorem dX0_headerError_42 : decode cX0_headerError 42 = .ok (.iadd, 1) := by decide +kernel
theorem dX0_headerError_43 : decode cX0_headerError 43 = .ok (.invokevirtual 112, 3) := by decide +kernel
theorem dX0_headerError_46 : decode cX0_headerError 46 = .ok (.istore 5, 2) := by decide +kernel
theorem dX0_headerError_48 : decode cX0_headerError 48 = .ok (.aload_n 1, 1) := by decide +kernel
theorem dX0_headerError_49 : decode cX0_headerError 49 = .ok (.iload_n 2, 1) := by decide +kernel
theorem dX0_headerError_50 : decode cX0_headerError 50 = .ok (.bipush 40, 2) := by decide +kernel
theorem dX0_headerError_52 : decode cX0_headerError 52 = .ok (.iadd, 1) := by decide +kernel
theorem dX0_headerError_53 : decode cX0_headerError 53 = .ok (.invokevirtual 112, 3) := by decide +kernel
theorem dX0_headerError_56 : decode cX0_headerError 56 = .ok (.istore 6, 2) := by decide +kernel
theorem dX0_headerError_58 : decode cX0_headerError 58 = .ok (.aload_n 1, 1) := by decide +kernel
theorem dX0_headerError_59 : decode cX0_headerError 59 = .ok (.iload_n 2, 1) := by decide +kernel
theorem dX0_headerError_60 : decode cX0_headerError 60 = .ok (.bipush 50, 2) := by decide +kernel
theorem dX0_headerError_62 : decode cX0_headerError 62 = .ok (.iadd, 1) := by decide +kernel
theorem dX0_headerError_63 : decode cX0_headerError 63 = .ok (.invokevirtual 112, 3) := by decide +kernel
theorem dX0_headerError_66 : decode cX0_headerError 66 = .ok (.istore 7, 2) := by decide +kernel
theorem dX0_headerError_68 : decode cX0_headerError 68 = .ok (.iload 5, 2) := by decide +kernel
theorem dX0_headerError_70 : decode cX0_headerError 70 = .ok (.iconst (-1), 1) := by decide +kernel
theorem dX0_headerError_71 : decode cX0_headerError 71 = .ok (.if_icmp .eq 15, 3) := by decide +kernel
theorem dX0_headerError_74 : decode cX0_headerError 74 = .ok (.iload 6, 2) := by decide +kernel
theorem dX0_headerError_76 : decode cX0_headerError 76 = .ok (.iconst (-1), 1) := by decide +kernel
theorem dX0_headerError_77 : decode cX0_headerError 77 = .ok (.if_icmp .eq 9, 3) := by decide +kernel
theorem dX0_headerError_80 : decode cX0_headerError 80 = .ok (.iload 7, 2) := by decide +kernel
theorem dX0_headerError_82 : decode cX0_headerError 82 = .ok (.iconst (-1), 1) := by decide +kernel
theorem dX0_headerError_83 : decode cX0_headerError 83 = .ok (.if_icmp .ne 6, 3) := by decide +kernel
theorem dX0_headerError_86 : decode cX0_headerError 86 = .ok (.bipush 20, 2) := by decide +kernel
theorem dX0_headerError_88 : decode cX0_headerError 88 = .ok (.ireturn, 1) := by decide +kernel
theorem dX0_headerError_89 : decode cX0_headerError 89 = .ok (.iload 5, 2) := by decide +kernel
theorem dX0_headerError_91 : decode cX0_headerError 91 = .ok (.iload 4, 2) := by decide +kernel
theorem dX0_headerError_93 : decode cX0_headerError 93 = .ok (.iload_n 3, 1) := by decide +kernel
theorem dX0_headerError_94 : decode cX0_headerError 94 = .ok (.ixor, 1) := by decide +kernel
theorem dX0_headerError_95 : decode cX0_headerError 95 = .ok (.iload 6, 2) := by decide +kernel
theorem dX0_headerError_97 : decode cX0_headerError 97 = .ok (.ixor, 1) := by decide +kernel
theorem dX0_headerError_98 : decode cX0_headerError 98 = .ok (.iload 7, 2) := by decide +kernel
theorem dX0_headerError_100 : decode cX0_headerError 100 = .ok (.ixor, 1) := by decide +kernel
theorem dX0_headerError_101 : decode cX0_headerError 101 = .ok (.if_icmp .eq 6, 3) := by decide +kernel
theorem dX0_headerError_104 : decode cX0_headerError 104 = .ok (.bipush 27, 2) := by decide +kernel
theorem dX0_headerError_106 : decode cX0_headerError 106 = .ok (.ireturn, 1) := by decide +kernel
theorem dX0_headerError_107 : decode cX0_headerError 107 = .ok (.iload 6, 2) := by decide +kernel
theorem dX0_headerError_109 : decode cX0_headerError 109 = .ok (.bipush 8, 2) := by decide +kernel
theorem dX0_headerError_111 : decode cX0_headerError 111 = .ok (.ishl, 1) := by decide +kernel
theorem dX0_headerError_112 : decode cX0_headerError 112 = .ok (.iload 7, 2) := by decide +kernel
theorem dX0_headerError_114 : decode cX0_headerError 114 = .ok (.ior, 1) := by decide +kernel
theorem dX0_headerError_115 : decode cX0_headerError 115 = .ok (.aload_n 0, 1) := by decide +kernel
theorem dX0_headerError_116 : decode cX0_headerError 116 = .ok (.getfield 15, 3) := by decide +kernel
theorem dX0_headerError_119 : decode cX0_headerError 119 = .ok (.if_icmp .ne 7, 3) := by decide +kernel
theorem dX0_headerError_122 : decode cX0_headerError 122 = .ok (.iconst 0, 1) := by decide +kernel
theorem dX0_headerError_123 : decode cX0_headerError 123 = .ok (.goto 5, 3) := by decide +kernel
theorem dX0_headerError_126 : decode cX0_headerError 126 = .ok (.bipush 29, 2) := by decide +kernel
theorem dX0_headerError_128 : decode cX0_headerError 128 = .ok (.ireturn, 1) := by decide +kernel
theorem dX1_init_0 : decode cX1_init 0 = .ok (.aload_n 0, 1) := by decide +kernel
theorem dX1_init_1 : decode cX1_init 1 = .ok (.invokespecial 1, 3) := by decide +kernel
theorem dX1_init_4 : decode cX1_init 4 = .ok (.aload_n 0, 1) := by decide +kernel
theorem dX1_init_5 : decode cX1_init 5 = .ok (.iconst 0, 1) := by decide +kernel
theorem dX1_init_6 : decode cX1_init 6 = .ok (.iload_n 1, 1) := by decide +kernel
theorem dX1_init_7 : decode cX1_init 7 = .ok (.invokestatic 7, 3) := by decide +kernel
theorem dX1_init_10 : decode cX1_init 10 = .ok (.newarray .int, 2) := by decide +kernel
theorem dX1_init_12 : decode cX1_init 12 = .ok (.putfield 13, 3) := by decide +kernel
theorem dX1_init_15 : decode cX1_init 15 = .ok (.return_, 1) := by decide +kernel
theorem dX1_add_0 : decode cX1_add 0 = .ok (.aload_n 0, 1) := by decide +kernel
theorem dX1_add_1 : decode cX1_add 1 = .ok (.getfield 19, 3) := by decide +kernel
theorem dX1_add_4 : decode cX1_add 4 = .ok (.aload_n 0, 1) := by decide +kernel
theorem dX1_add_5 : decode cX1_add 5 = .ok (.getfield 13, 3) := by decide +kernel
theorem dX1_add_8 : decode cX1_add 8 = .ok (.arraylength, 1) := by decide +kernel
theorem dX1_add_9 : decode cX1_add 9 = .ok (.if_icmp .ge 27, 3) := by decide +kernel
theorem dX1_add_12 : decode cX1_add 12 = .ok (.aload_n 0, 1) := by decide +kernel
theorem dX1_add_13 : decode cX1_add 13 = .ok (.getfield 13, 3) := by decide +kernel
theorem dX1_add_16 : decode cX1_add 16 = .ok (.aload_n 0, 1) := by decide +kernel
theorem dX1_add_17 : decode cX1_add 17 = .ok (.getfield 19, 3) := by decide +kernel
theorem dX1_add_20 : decode cX1_add 20 = .ok (.iload_n 1, 1) := by decide +kernel
theorem dX1_add_21 : decode cX1_add 21 = .ok (.sipush 255, 3) := by decide +kernel
theorem dX1_add_24 : decode cX1_add 24 = .ok (.iand, 1) := by decide +kernel
theorem dX1_add_25 : decode cX1_add 25 = .ok (.iastore, 1) := by decide +kernel
theorem dX1_add_26 : decode cX1_add 26 = .ok (.aload_n 0, 1) := by decide +kernel
theorem dX1_add_27 : decode cX1_add 27 = .ok (.dup, 1) := by decide +kernel
theorem dX1_add_28 : decode cX1_add 28 = .ok (.getfield 19, 3) := by decide +kernel
theorem dX1_add_31 : decode cX1_add 31 = .ok (.iconst 1, 1) := by decide +kernel
theorem dX1_add_32 : decode cX1_add 32 = .ok (.iadd, 1) := by decide +kernel
theorem dX1_add_33 : decode cX1_add 33 = .ok (.putfield 19, 3) := by decide +kernel
theorem dX1_add_36 : decode cX1_add 36 = .ok (.return_, 1) := by decide +kernel
theorem dX1_addNumber_0 : decode cX1_addNumber 0 = .ok (.aload_n 0, 1) := by decide +kernel
theorem dX1_addNumber_1 : decode cX1_addNumber 1 = .ok (.iload_n 1, 1) := by decide +kernel
theorem dX1_addNumber_2 : decode cX1_addNumber 2 = .ok (.bipush 24, 2) := by decide +kernel
theorem dX1_addNumber_4 : decode cX1_addNumber 4 = .ok (.iushr, 1) := by decide +kernel
theorem dX1_addNumber_5 : decode cX1_addNumber 5 = .ok (.invokevirtual 23, 3) := by decide +kernel
theorem dX1_addNumber_8 : decode cX1_addNumber 8 = .ok (.aload_n 0, 1) := by decide +kernel
theorem dX1_addNumber_9 : decode cX1_addNumber 9 = .ok (.iload_n 1, 1) := by decide +kernel
theorem dX1_addNumber_10 : decode cX1_addNumber 10 = .ok (.bipush 16, 2) := by decide +kernel
theorem dX1_addNumber_12 : decode cX1_addNumber 12 = .ok (.iushr, 1) := by decide +kernel
theorem dX1_addNumber_13 : decode cX1_addNumber 13 = .ok (.invokevirtual 23, 3) := by decide +kernel
theorem dX1_addNumber_16 : decode cX1_addNumber 16 = .ok (.aload_n 0, 1) := by decide +kernel
theorem dX1_addNumber_17 : decode cX1_addNumber 17 = .ok (.iload_n 1, 1) := by decide +kernel
theorem dX1_addNumber_18 : decode cX1_addNumber 18 = .ok (.bipush 8, 2) := by decide +kernel
theorem dX1_addNumber_20 : decode cX1_addNumber 20 = .ok (.iushr, 1) := by decide +kernel
theorem dX1_addNumber_21 : decode cX1_addNumber 21 = .ok (.invokevirtual 23, 3) := by decide +kernel
theorem dX1_addNumber_24 : decode cX1_addNumber 24 = .ok (.aload_n 0, 1) := by decide +kernel
theorem dX1_addNumber_25 : decode cX1_addNumber 25 = .ok (.iload_n 1, 1) := by decide +kernel
theorem dX1_addNumber_26 : decode cX1_addNumber 26 = .ok (.invokevirtual 23, 3) := by decide +kernel
theorem dX1_addNumber_29 : decode cX1_addNumber 29 = .ok (.return_, 1) := by decide +kernel
theorem dX1_addRow_0 : decode cX1_addRow 0 = .ok (.iload_n 2, 1) := by decide +kernel
theorem dX1_addRow_1 : decode cX1_addRow 1 = .ok (.istore 4, 2) := by decide +kernel
theorem dX1_addRow_3 : decode cX1_addRow 3 = .ok (.iload 4, 2) := by decide +kernel
theorem dX1_addRow_5 : decode cX1_addRow 5 = .ok (.iload_n 2, 1) := by decide +kernel
theorem dX1_addRow_6 : decode cX1_addRow 6 = .ok (.iload_n 3, 1) := by decide +kernel
theorem dX1_addRow_7 : decode cX1_addRow 7 = .ok (.iadd, 1) := by decide +kernel
theorem dX1_addRow_8 : decode cX1_addRow 8 = .ok (.if_icmp .ge 24, 3) := by decide +kernel
theorem dX1_addRow_11 : decode cX1_addRow 11 = .ok (.iload 4, 2) := by decide +kernel
theorem dX1_addRow_13 : decode cX1_addRow 13 = .ok (.aload_n 1, 1) := by decide +kernel
theorem dX1_addRow_14 : decode cX1_addRow 14 = .ok (.arraylength, 1) := by decide +kernel
theorem dX1_addRow_15 : decode cX1_addRow 15 = .ok (.if_icmp .ge 17, 3) := by decide +kernel
theorem dX1_addRow_18 : decode cX1_addRow 18 = .ok (.aload_n 0, 1) := by decide +kernel
theorem dX1_addRow_19 : decode cX1_addRow 19 = .ok (.aload_n 1, 1) := by decide +kernel
theorem dX1_addRow_20 : decode cX1_addRow 20 = .ok (.iload 4, 2) := by decide +kernel
theorem dX1_addRow_22 : decode cX1_addRow 22 = .ok (.iaload, 1) := by decide +kernel
theorem dX1_addRow_23 : decode cX1_addRow 23 = .ok (.invokevirtual 23, 3) := by decide +kernel
theorem dX1_addRow_26 : decode cX1_addRow 26 = .ok (.iinc 4 1, 3) := by decide +kernel
theorem dX1_addRow_29 : decode cX1_addRow 29 = .ok (.goto (-26), 3) := by decide +kernel
theorem dX1_addRow_32 : decode cX1_addRow 32 = .ok (.return_, 1) := by decide +kernel
theorem dX1_byteAt_0 : decode cX1_byteAt 0 = .ok (.iload_n 1, 1) := by decide +kernel
theorem dX1_byteAt_1 : decode cX1_byteAt 1 = .ok (.ifCond .lt 20, 3) := by decide +kernel
theorem dX1_byteAt_4 : decode cX1_byteAt 4 = .ok (.iload_n 1, 1) := by decide +kernel
theorem dX1_byteAt_5 : decode cX1_byteAt 5 = .ok (.aload_n 0, 1) := by decide +kernel
theorem dX1_byteAt_6 : decode cX1_byteAt 6 = .ok (.getfield 19, 3) := by decide +kernel
theorem dX1_byteAt_9 : decode cX1_byteAt 9 = .ok (.if_icmp .ge 12, 3) := by decide +kernel
theorem dX1_byteAt_12 : decode cX1_byteAt 12 = .ok (.aload_n 0, 1) := by decide +kernel
theorem dX1_byteAt_13 : decode cX1_byteAt 13 = .ok (.getfield 13, 3) := by decide +kernel
theorem dX1_byteAt_16 : decode cX1_byteAt 16 = .ok (.iload_n 1, 1) := by decide +kernel
theorem dX1_byteAt_17 : decode cX1_byteAt 17 = .ok (.iaload, 1) := by decide +kernel
theorem dX1_byteAt_18 : decode cX1_byteAt 18 = .ok (.goto 4, 3) := by decide +kernel
theorem dX1_byteAt_21 : decode cX1_byteAt 21 = .ok (.iconst (-1), 1) := by decide +kernel
theorem dX1_byteAt_22 : decode cX1_byteAt 22 = .ok (.ireturn, 1) := by decide +kernel
theorem dX2_init_0 : decode cX2_init 0 = .ok (.aload_n 0, 1) := by decide +kernel
theorem dX2_init_1 : decode cX2_init 1 = .ok (.invokespecial 3, 3) := by decide +kernel
theorem dX2_init_4 : decode cX2_init 4 = .ok (.aload_n 0, 1) := by decide +kernel
theorem dX2_init_5 : decode cX2_init 5 = .ok (.bipush 40, 2) := by decide +kernel
theorem dX2_init_7 : decode cX2_init 7 = .ok (.newarray .int, 2) := by decide +kernel
theorem dX2_init_9 : decode cX2_init 9 = .ok (.putfield 9, 3) := by decide +kernel
theorem dX2_init_12 : decode cX2_init 12 = .ok (.aload_n 0, 1) := by decide +kernel
theorem dX2_init_13 : decode cX2_init 13 = .ok (.bipush 40, 2) := by decide +kernel
theorem dX2_init_15 : decode cX2_init 15 = .ok (.newarray .int, 2) := by decide +kernel
theorem dX2_init_17 : decode cX2_init 17 = .ok (.putfield 15, 3) := by decide +kernel
theorem dX2_init_20 : decode cX2_init 20 = .ok (.aload_n 0, 1) := by decide +kernel
theorem dX2_init_21 : decode cX2_init 21 = .ok (.bipush 64, 2) := by decide +kernel
theorem dX2_init_23 : decode cX2_init 23 = .ok (.newarray .int, 2) := by decide +kernel
theorem dX2_init_25 : decode cX2_init 25 = .ok (.putfield 18, 3) := by decide +kernel
theorem dX2_init_28 : decode cX2_init 28 = .ok (.aload_n 0, 1) := by decide +kernel
theorem dX2_init_29 : decode cX2_init 29 = .ok (.aload_n 1, 1) := by decide +kernel
theorem dX2_init_30 : decode cX2_init 30 = .ok (.putfield 21, 3) := by decide +kernel
theorem dX2_init_33 : decode cX2_init 33 = .ok (.aload_n 0, 1) := by decide +kernel
theorem dX2_init_34 : decode cX2_init 34 = .ok (.aload_n 2, 1) := by decide +kernel
theorem dX2_init_35 : decode cX2_init 35 = .ok (.putfield 25, 3) := by decide +kernel
theorem dX2_init_38 : decode cX2_init 38 = .ok (.return_, 1) := by decide +kernel
theorem dX2_addBlock_0 : decode cX2_addBlock 0 = .ok (.aload_n 0, 1) := by decide +kernel
theorem dX2_addBlock_1 : decode cX2_addBlock 1 = .ok (.getfield 29, 3) := by decide +kernel
theorem dX2_addBlock_4 : decode cX2_addBlock 4 = .ok (.bipush 40, 2) := by decide +kernel
theorem dX2_addBlock_6 : decode cX2_addBlock 6 = .ok (.if_icmp .ge 33, 3) := by decide +kernel
theorem dX2_addBlock_9 : decode cX2_addBlock 9 = .ok (.aload_n 0, 1) := by decide +kernel
theorem dX2_addBlock_10 : decode cX2_addBlock 10 = .ok (.getfield 9, 3) := by decide +kernel
theorem dX2_addBlock_13 : decode cX2_addBlock 13 = .ok (.aload_n 0, 1) := by decide +kernel
theorem dX2_addBlock_14 : decode cX2_addBlock 14 = .ok (.getfield 29, 3) := by decide +kernel
theorem dX2_addBlock_17 : decode cX2_addBlock 17 = .ok (.iload_n 1, 1) := by decide +kernel
theorem dX2_addBlock_18 : decode cX2_addBlock 18 = .ok (.iastore, 1) := by decide +kernel
theorem dX2_addBlock_19 : decode cX2_addBlock 19 = .ok (.aload_n 0, 1) := by decide +kernel
theorem dX2_addBlock_20 : decode cX2_addBlock 20 = .ok (.getfield 15, 3) := by decide +kernel
theorem dX2_addBlock_23 : decode cX2_addBlock 23 = .ok (.aload_n 0, 1) := by decide +kernel
theorem dX2_addBlock_24 : decode cX2_addBlock 24 = .ok (.getfield 29, 3) := by decide +kernel
theorem dX2_addBlock_27 : decode cX2_addBlock 27 = .ok (.iload_n 2, 1) := by decide +kernel
theorem dX2_addBlock_28 : decode cX2_addBlock 28 = .ok (.iastore, 1) := by decide +kernel
theorem dX2_addBlock_29 : decode cX2_addBlock 29 = .ok (.aload_n 0, 1) := by decide +kernel
theorem dX2_addBlock_30 : decode cX2_addBlock 30 = .ok (.dup, 1) := by decide +kernel
theorem dX2_addBlock_31 : decode cX2_addBlock 31 = .ok (.getfield 29, 3) := by decide +kernel
theorem dX2_addBlock_34 : decode cX2_addBlock 34 = .ok (.iconst 1, 1) := by decide +kernel
theorem dX2_addBlock_35 : decode cX2_addBlock 35 = .ok (.iadd, 1) := by decide +kernel
theorem dX2_addBlock_36 : decode cX2_addBlock 36 = .ok (.putfield 29, 3) := by decide +kernel
theorem dX2_addBlock_39 : decode cX2_addBlock 39 = .ok (.return_, 1) := by decide +kernel
theorem dX2_take_0 : decode cX2_take 0 = .ok (.aload_n 0, 1) := by decide +kernel
theorem dX2_take_1 : decode cX2_take 1 = .ok (.iconst 0, 1) := by decide +kernel
theorem dX2_take_2 : decode cX2_take 2 = .ok (.putfield 29, 3) := by decide +kernel
theorem dX2_take_5 : decode cX2_take 5 = .ok (.getstatic 33, 3) := by decide +kernel
theorem dX2_take_8 : decode cX2_take 8 = .ok (.astore_n 3, 1) := by decide +kernel
theorem dX2_take_9 : decode cX2_take 9 = .ok (.aload_n 3, 1) := by decide +kernel
theorem dX2_take_10 : decode cX2_take 10 = .ok (.arraylength, 1) := by decide +kernel
theorem dX2_take_11 : decode cX2_take 11 = .ok (.istore 4, 2) := by decide +kernel
theorem dX2_take_13 : decode cX2_take 13 = .ok (.iconst 0, 1) := by decide +kernel
theorem dX2_take_14 : decode cX2_take 14 = .ok (.istore 5, 2) := by decide +kernel
theorem dX2_take_16 : decode cX2_take 16 = .ok (.iload 5, 2) := by decide +kernel
theorem dX2_take_18 : decode cX2_take 18 = .ok (.iload 4, 2) := by decide +kernel
theorem dX2_take_20 : decode cX2_take 20 = .ok (.if_icmp .ge 74, 3) := by decide +kernel
theorem dX2_take_23 : decode cX2_take 23 = .ok (.aload_n 3, 1) := by decide +kernel
theorem dX2_take_24 : decode cX2_take 24 = .ok (.iload 5, 2) := by decide +kernel
theorem dX2_take_26 : decode cX2_take 26 = .ok (.iaload, 1) := by decide +kernel
theorem dX2_take_27 : decode cX2_take 27 = .ok (.istore 6, 2) := by decide +kernel
theorem dX2_take_29 : decode cX2_take 29 = .ok (.iload 6, 2) := by decide +kernel
theorem dX2_take_31 : decode cX2_take 31 = .ok (.invokestatic 36, 3) := by decide +kernel
theorem dX2_take_34 : decode cX2_take 34 = .ok (.istore 7, 2) := by decide +kernel
theorem dX2_take_36 : decode cX2_take 36 = .ok (.iconst 0, 1) := by decide +kernel
theorem dX2_take_37 : decode cX2_take 37 = .ok (.istore 8, 2) := by decide +kernel
theorem dX2_take_39 : decode cX2_take 39 = .ok (.iload 8, 2) := by decide +kernel
theorem dX2_take_41 : decode cX2_take 41 = .ok (.iload 7, 2) := by decide +kernel
theorem dX2_take_43 : decode cX2_take 43 = .ok (.if_icmp .ge 45, 3) := by decide +kernel
theorem dX2_take_46 : decode cX2_take 46 = .ok (.aload_n 0, 1) := by decide +kernel
theorem dX2_take_47 : decode cX2_take 47 = .ok (.getfield 29, 3) := by decide +kernel
theorem dX2_take_50 : decode cX2_take 50 = .ok (.iload_n 2, 1) := by decide +kernel
theorem dX2_take_51 : decode cX2_take 51 = .ok (.if_icmp .ge 37, 3) := by decide +kernel
theorem dX2_take_54 : decode cX2_take 54 = .ok (.aload_n 1, 1) := by decide +kernel
theorem dX2_take_55 : decode cX2_take 55 = .ok (.iload 6, 2) := by decide +kernel
theorem dX2_take_57 : decode cX2_take 57 = .ok (.iload 8, 2) := by decide +kernel
theorem dX2_take_59 : decode cX2_take 59 = .ok (.invokevirtual 42, 3) := by decide +kernel
theorem dX2_take_62 : decode cX2_take 62 = .ok (.ifCond .eq 20, 3) := by decide +kernel
theorem dX2_take_65 : decode cX2_take 65 = .ok (.aload_n 1, 1) := by decide +kernel
theorem dX2_take_66 : decode cX2_take 66 = .ok (.iload 6, 2) := by decide +kernel
theorem dX2_take_68 : decode cX2_take 68 = .ok (.iload 8, 2) := by decide +kernel
theorem dX2_take_70 : decode cX2_take 70 = .ok (.iconst 0, 1) := by decide +kernel
theorem dX2_take_71 : decode cX2_take 71 = .ok (.invokevirtual 48, 3) := by decide +kernel
theorem dX2_take_74 : decode cX2_take 74 = .ok (.aload_n 0, 1) := by decide +kernel
theorem dX2_take_75 : decode cX2_take 75 = .ok (.iload 6, 2) := by decide +kernel
theorem dX2_take_77 : decode cX2_take 77 = .ok (.iload 8, 2) := by decide +kernel
theorem dX2_take_79 : decode cX2_take 79 = .ok (.invokevirtual 52, 3) := by decide +kernel
theorem dX2_take_82 : decode cX2_take 82 = .ok (.iinc 8 1, 3) := by decide +kernel
theorem dX2_take_85 : decode cX2_take 85 = .ok (.goto (-46), 3) := by decide +kernel
theorem dX2_take_88 : decode cX2_take 88 = .ok (.iinc 5 1, 3) := by decide +kernel
theorem dX2_take_91 : decode cX2_take 91 = .ok (.goto (-75), 3) := by decide +kernel
theorem dX2_take_94 : decode cX2_take 94 = .ok (.aload_n 0, 1) := by decide +kernel
theorem dX2_take_95 : decode cX2_take 95 = .ok (.getfield 29, 3) := by decide +kernel
theorem dX2_take_98 : decode cX2_take 98 = .ok (.iload_n 2, 1) := by decide +kernel
theorem dX2_take_99 : decode cX2_take 99 = .ok (.if_icmp .ne 7, 3) := by decide +kernel
theorem dX2_take_102 : decode cX2_take 102 = .ok (.iconst 1, 1) := by decide +kernel
theorem dX2_take_103 : decode cX2_take 103 = .ok (.goto 4, 3) := by decide +kernel
theorem dX2_take_106 : decode cX2_take 106 = .ok (.iconst 0, 1) := by decide +kernel
theorem dX2_take_107 : decode cX2_take 107 = .ok (.ireturn, 1) := by decide +kernel
theorem dX2_release_0 : decode cX2_release 0 = .ok (.iconst 0, 1) := by decide +kernel
theorem dX2_release_1 : decode cX2_release 1 = .ok (.istore_n 2, 1) := by decide +kernel
theorem dX2_release_2 : decode cX2_release 2 = .ok (.iload_n 2, 1) := by decide +kernel
theorem dX2_release_3 : decode cX2_release 3 = .ok (.aload_n 0, 1) := by decide +kernel
theorem dX2_release_4 : decode cX2_release 4 = .ok (.getfield 29, 3) := by decide +kernel
theorem dX2_release_7 : decode cX2_release 7 = .ok (.if_icmp .ge 37, 3) := by decide +kernel
theorem dX2_release_10 : decode cX2_release 10 = .ok (.aload_n 0, 1) := by decide +kernel
theorem dX2_release_11 : decode cX2_release 11 = .ok (.getfield 9, 3) := by decide +kernel
theorem dX2_release_14 : decode cX2_release 14 = .ok (.iload_n 2, 1) := by decide +kernel
theorem dX2_release_15 : decode cX2_release 15 = .ok (.iaload, 1) := by decide +kernel
theorem dX2_release_16 : decode cX2_release 16 = .ok (.bipush 9, 2) := by decide +kernel
theorem dX2_release_18 : decode cX2_release 18 = .ok (.if_icmp .eq 20, 3) := by decide +kernel
theorem dX2_release_21 : decode cX2_release 21 = .ok (.aload_n 1, 1) := by decide +kernel
theorem dX2_release_22 : decode cX2_release 22 = .ok (.aload_n 0, 1) := by decide +kernel
theorem dX2_release_23 : decode cX2_release 23 = .ok (.getfield 9, 3) := by decide +kernel
theorem dX2_release_26 : decode cX2_release 26 = .ok (.iload_n 2, 1) := by decide +kernel
theorem dX2_release_27 : decode cX2_release 27 = .ok (.iaload, 1) := by decide +kernel
theorem dX2_release_28 : decode cX2_release 28 = .ok (.aload_n 0, 1) := by decide +kernel
theorem dX2_release_29 : decode cX2_release 29 = .ok (.getfield 15, 3) := by decide +kernel
theorem dX2_release_32 : decode cX2_release 32 = .ok (.iload_n 2, 1) := by decide +kernel
theorem dX2_release_33 : decode cX2_release 33 = .ok (.iaload, 1) := by decide +kernel
theorem dX2_release_34 : decode cX2_release 34 = .ok (.iconst 1, 1) := by decide +kernel
theorem dX2_release_35 : decode cX2_release 35 = .ok (.invokevirtual 48, 3) := by decide +kernel
theorem dX2_release_38 : decode cX2_release 38 = .ok (.iinc 2 1, 3) := by decide +kernel
theorem dX2_release_41 : decode cX2_release 41 = .ok (.goto (-39), 3) := by decide +kernel
theorem dX2_release_44 : decode cX2_release 44 = .ok (.return_, 1) := by decide +kernel
theorem dX2_store_0 : decode cX2_store 0 = .ok (.iconst 0, 1) := by decide +kernel
theorem dX2_store_1 : decode cX2_store 1 = .ok (.istore_n 2, 1) := by decide +kernel
theorem dX2_store_2 : decode cX2_store 2 = .ok (.iconst 0, 1) := by decide +kernel
theorem dX2_store_3 : decode cX2_store 3 = .ok (.istore_n 3, 1) := by decide +kernel
theorem dX2_store_4 : decode cX2_store 4 = .ok (.iload_n 3, 1) := by decide +kernel
theorem dX2_store_5 : decode cX2_store 5 = .ok (.aload_n 0, 1) := by decide +kernel
theorem dX2_store_6 : decode cX2_store 6 = .ok (.getfield 29, 3) := by decide +kernel
theorem dX2_store_9 : decode cX2_store 9 = .ok (.if_icmp .ge 43, 3) := by decide +kernel
theorem dX2_store_12 : decode cX2_store 12 = .ok (.iload_n 2, 1) := by decide +kernel
theorem dX2_store_13 : decode cX2_store 13 = .ok (.ifCond .ne 39, 3) := by decide +kernel
theorem dX2_store_16 : decode cX2_store 16 = .ok (.aload_n 0, 1) := by decide +kernel
theorem dX2_store_17 : decode cX2_store 17 = .ok (.aload_n 1, 1) := by decide +kernel
theorem dX2_store_18 : decode cX2_store 18 = .ok (.iload_n 3, 1) := by decide +kernel
theorem dX2_store_19 : decode cX2_store 19 = .ok (.invokevirtual 56, 3) := by decide +kernel
theorem dX2_store_22 : decode cX2_store 22 = .ok (.aload_n 0, 1) := by decide +kernel
theorem dX2_store_23 : decode cX2_store 23 = .ok (.getfield 21, 3) := by decide +kernel
theorem dX2_store_26 : decode cX2_store 26 = .ok (.aload_n 0, 1) := by decide +kernel
theorem dX2_store_27 : decode cX2_store 27 = .ok (.getfield 9, 3) := by decide +kernel
theorem dX2_store_30 : decode cX2_store 30 = .ok (.iload_n 3, 1) := by decide +kernel
theorem dX2_store_31 : decode cX2_store 31 = .ok (.iaload, 1) := by decide +kernel
theorem dX2_store_32 : decode cX2_store 32 = .ok (.aload_n 0, 1) := by decide +kernel
theorem dX2_store_33 : decode cX2_store 33 = .ok (.getfield 15, 3) := by decide +kernel
theorem dX2_store_36 : decode cX2_store 36 = .ok (.iload_n 3, 1) := by decide +kernel
theorem dX2_store_37 : decode cX2_store 37 = .ok (.iaload, 1) := by decide +kernel
theorem dX2_store_38 : decode cX2_store 38 = .ok (.aload_n 0, 1) := by decide +kernel
theorem dX2_store_39 : decode cX2_store 39 = .ok (.getfield 18, 3) := by decide +kernel
theorem dX2_store_42 : decode cX2_store 42 = .ok (.invokevirtual 60, 3) := by decide +kernel
theorem dX2_store_45 : decode cX2_store 45 = .ok (.istore_n 2, 1) := by decide +kernel
theorem dX2_store_46 : decode cX2_store 46 = .ok (.iinc 3 1, 3) := by decide +kernel
theorem dX2_store_49 : decode cX2_store 49 = .ok (.goto (-45), 3) := by decide +kernel
theorem dX2_store_52 : decode cX2_store 52 = .ok (.iload_n 2, 1) := by decide +kernel
theorem dX2_store_53 : decode cX2_store 53 = .ok (.ireturn, 1) := by decide +kernel
theorem dX2_fillBlock_0 : decode cX2_fillBlock 0 = .ok (.bipush 62, 2) := by decide +kernel
theorem dX2_fillBlock_2 : decode cX2_fillBlock 2 = .ok (.iload_n 2, 1) := by decide +kernel
theorem dX2_fillBlock_3 : decode cX2_fillBlock 3 = .ok (.imul, 1) := by decide +kernel
theorem dX2_fillBlock_4 : decode cX2_fillBlock 4 = .ok (.istore_n 3, 1) := by decide +kernel
theorem dX2_fillBlock_5 : decode cX2_fillBlock 5 = .ok (.iload_n 2, 1) := by decide +kernel
theorem dX2_fillBlock_6 : decode cX2_fillBlock 6 = .ok (.iconst 1, 1) := by decide +kernel
theorem dX2_fillBlock_7 : decode cX2_fillBlock 7 = .ok (.iadd, 1) := by decide +kernel
theorem dX2_fillBlock_8 : decode cX2_fillBlock 8 = .ok (.aload_n 0, 1) := by decide +kernel
theorem dX2_fillBlock_9 : decode cX2_fillBlock 9 = .ok (.getfield 29, 3) := by decide +kernel
theorem dX2_fillBlock_12 : decode cX2_fillBlock 12 = .ok (.if_icmp .lt 7, 3) := by decide +kernel
theorem dX2_fillBlock_15 : decode cX2_fillBlock 15 = .ok (.iconst 1, 1) := by decide +kernel
theorem dX2_fillBlock_16 : decode cX2_fillBlock 16 = .ok (.goto 4, 3) := by decide +kernel
theorem dX2_fillBlock_19 : decode cX2_fillBlock 19 = .ok (.iconst 0, 1) := by decide +kernel
theorem dX2_fillBlock_20 : decode cX2_fillBlock 20 = .ok (.istore 4, 2) := by decide +kernel
theorem dX2_fillBlock_22 : decode cX2_fillBlock 22 = .ok (.aload_n 0, 1) := by decide +kernel
theorem dX2_fillBlock_23 : decode cX2_fillBlock 23 = .ok (.getfield 18, 3) := by decide +kernel
theorem dX2_fillBlock_26 : decode cX2_fillBlock 26 = .ok (.iconst 0, 1) := by decide +kernel
theorem dX2_fillBlock_27 : decode cX2_fillBlock 27 = .ok (.iload 4, 2) := by decide +kernel
theorem dX2_fillBlock_29 : decode cX2_fillBlock 29 = .ok (.ifCond .eq 7, 3) := by decide +kernel
theorem dX2_fillBlock_32 : decode cX2_fillBlock 32 = .ok (.iconst 0, 1) := by decide +kernel
theorem dX2_fillBlock_33 : decode cX2_fillBlock 33 = .ok (.goto 11, 3) := by decide +kernel
theorem dX2_fillBlock_36 : decode cX2_fillBlock 36 = .ok (.aload_n 0, 1) := by decide +kernel
theorem dX2_fillBlock_37 : decode cX2_fillBlock 37 = .ok (.getfield 9, 3) := by decide +kernel
theorem dX2_fillBlock_40 : decode cX2_fillBlock 40 = .ok (.iload_n 2, 1) := by decide +kernel
theorem dX2_fillBlock_41 : decode cX2_fillBlock 41 = .ok (.iconst 1, 1) := by decide +kernel
theorem dX2_fillBlock_42 : decode cX2_fillBlock 42 = .ok (.iadd, 1) := by decide +kernel
theorem dX2_fillBlock_43 : decode cX2_fillBlock 43 = .ok (.iaload, 1) := by decide +kernel
theorem dX2_fillBlock_44 : decode cX2_fillBlock 44 = .ok (.iastore, 1) := by decide +kernel
theorem dX2_fillBlock_45 : decode cX2_fillBlock 45 = .ok (.aload_n 0, 1) := by decide +kernel
theorem dX2_fillBlock_46 : decode cX2_fillBlock 46 = .ok (.getfield 18, 3) := by decide +kernel
theorem dX2_fillBlock_49 : decode cX2_fillBlock 49 = .ok (.iconst 1, 1) := by decide +kernel
theorem dX2_fillBlock_50 : decode cX2_fillBlock 50 = .ok (.iload 4, 2) := by decide +kernel
theorem dX2_fillBlock_52 : decode cX2_fillBlock 52 = .ok (.ifCond .eq 12, 3) := by decide +kernel
theorem dX2_fillBlock_55 : decode cX2_fillBlock 55 = .ok (.aload_n 1, 1) := by decide +kernel
theorem dX2_fillBlock_56 : decode cX2_fillBlock 56 = .ok (.getfield 64, 3) := by decide +kernel
theorem dX2_fillBlock_59 : decode cX2_fillBlock 59 = .ok (.iload_n 3, 1) := by decide +kernel
theorem dX2_fillBlock_60 : decode cX2_fillBlock 60 = .ok (.isub, 1) := by decide +kernel
theorem dX2_fillBlock_61 : decode cX2_fillBlock 61 = .ok (.goto 11, 3) := by decide +kernel
theorem dX2_fillBlock_64 : decode cX2_fillBlock 64 = .ok (.aload_n 0, 1) := by decide +kernel
theorem dX2_fillBlock_65 : decode cX2_fillBlock 65 = .ok (.getfield 15, 3) := by decide +kernel
theorem dX2_fillBlock_68 : decode cX2_fillBlock 68 = .ok (.iload_n 2, 1) := by decide +kernel
theorem dX2_fillBlock_69 : decode cX2_fillBlock 69 = .ok (.iconst 1, 1) := by decide +kernel
theorem dX2_fillBlock_70 : decode cX2_fillBlock 70 = .ok (.iadd, 1) := by decide +kernel
theorem dX2_fillBlock_71 : decode cX2_fillBlock 71 = .ok (.iaload, 1) := by decide +kernel
theorem dX2_fillBlock_72 : decode cX2_fillBlock 72 = .ok (.iastore, 1) := by decide +kernel
theorem dX2_fillBlock_73 : decode cX2_fillBlock 73 = .ok (.iconst 0, 1) := by decide +kernel
theorem dX2_fillBlock_74 : decode cX2_fillBlock 74 = .ok (.istore 5, 2) := by decide +kernel
theorem dX2_fillBlock_76 : decode cX2_fillBlock 76 = .ok (.iload 5, 2) := by decide +kernel
theorem dX2_fillBlock_78 : decode cX2_fillBlock 78 = .ok (.bipush 62, 2) := by decide +kernel
theorem dX2_fillBlock_80 : decode cX2_fillBlock 80 = .ok (.if_icmp .ge 30, 3) := by decide +kernel
theorem dX2_fillBlock_83 : decode cX2_fillBlock 83 = .ok (.aload_n 0, 1) := by decide +kernel
theorem dX2_fillBlock_84 : decode cX2_fillBlock 84 = .ok (.getfield 18, 3) := by decide +kernel
theorem dX2_fillBlock_87 : decode cX2_fillBlock 87 = .ok (.iload 5, 2) := by decide +kernel
theorem dX2_fillBlock_89 : decode cX2_fillBlock 89 = .ok (.iconst 2, 1) := by decide +kernel
theorem dX2_fillBlock_90 : decode cX2_fillBlock 90 = .ok (.iadd, 1) := by decide +kernel
theorem dX2_fillBlock_91 : decode cX2_fillBlock 91 = .ok (.iconst 0, 1) := by decide +kernel
theorem dX2_fillBlock_92 : decode cX2_fillBlock 92 = .ok (.aload_n 1, 1) := by decide +kernel
theorem dX2_fillBlock_93 : decode cX2_fillBlock 93 = .ok (.iload_n 3, 1) := by decide +kernel
theorem dX2_fillBlock_94 : decode cX2_fillBlock 94 = .ok (.iload 5, 2) := by decide +kernel
theorem dX2_fillBlock_96 : decode cX2_fillBlock 96 = .ok (.iadd, 1) := by decide +kernel
theorem dX2_fillBlock_97 : decode cX2_fillBlock 97 = .ok (.invokevirtual 67, 3) := by decide +kernel
theorem dX2_fillBlock_100 : decode cX2_fillBlock 100 = .ok (.invokestatic 70, 3) := by decide +kernel
theorem dX2_fillBlock_103 : decode cX2_fillBlock 103 = .ok (.iastore, 1) := by decide +kernel
theorem dX2_fillBlock_104 : decode cX2_fillBlock 104 = .ok (.iinc 5 1, 3) := by decide +kernel
theorem dX2_fillBlock_107 : decode cX2_fillBlock 107 = .ok (.goto (-31), 3) := by decide +kernel
theorem dX2_fillBlock_110 : decode cX2_fillBlock 110 = .ok (.return_, 1) := by decide +kernel
theorem dX2_follow_0 : decode cX2_follow 0 = .ok (.aload_n 0, 1) := by decide +kernel
theorem dX2_follow_1 : decode cX2_follow 1 = .ok (.iconst 0, 1) := by decide +kernel
theorem dX2_follow_2 : decode cX2_follow 2 = .ok (.putfield 29, 3) := by decide +kernel
theorem dX2_follow_5 : decode cX2_follow 5 = .ok (.aload_n 1, 1) := by decide +kernel
theorem dX2_follow_6 : decode cX2_follow 6 = .ok (.getfield 76, 3) := by decide +kernel
theorem dX2_follow_9 : decode cX2_follow 9 = .ok (.iconst (-1), 1) := by decide +kernel
theorem dX2_follow_10 : decode cX2_follow 10 = .ok (.if_icmp .ne 15, 3) := by decide +kernel
theorem dX2_follow_13 : decode cX2_follow 13 = .ok (.aload_n 0, 1) := by decide +kernel
theorem dX2_follow_14 : decode cX2_follow 14 = .ok (.getfield 25, 3) := by decide +kernel
theorem dX2_follow_17 : decode cX2_follow 17 = .ok (.bipush 62, 2) := by decide +kernel
theorem dX2_follow_19 : decode cX2_follow 19 = .ok (.iconst 0, 1) := by decide +kernel
theorem dX2_follow_20 : decode cX2_follow 20 = .ok (.iconst 0, 1) := by decide +kernel
theorem dX2_follow_21 : decode cX2_follow 21 = .ok (.invokevirtual 81, 3) := by decide +kernel
theorem dX2_follow_24 : decode cX2_follow 24 = .ok (.ireturn, 1) := by decide +kernel
theorem dX2_follow_25 : decode cX2_follow 25 = .ok (.aload_n 1, 1) := by decide +kernel
theorem dX2_follow_26 : decode cX2_follow 26 = .ok (.getfield 87, 3) := by decide +kernel
theorem dX2_follow_29 : decode cX2_follow 29 = .ok (.aload_n 1, 1) := by decide +kernel
theorem dX2_follow_30 : decode cX2_follow 30 = .ok (.getfield 76, 3) := by decide +kernel
theorem dX2_follow_33 : decode cX2_follow 33 = .ok (.iconst 1, 1) := by decide +kernel
theorem dX2_follow_34 : decode cX2_follow 34 = .ok (.iadd, 1) := by decide +kernel
theorem dX2_follow_35 : decode cX2_follow 35 = .ok (.iaload, 1) := by decide +kernel
theorem dX2_follow_36 : decode cX2_follow 36 = .ok (.istore_n 3, 1) := by decide +kernel
theorem dX2_follow_37 : decode cX2_follow 37 = .ok (.aload_n 1, 1) := by decide +kernel
theorem dX2_follow_38 : decode cX2_follow 38 = .ok (.getfield 87, 3) := by decide +kernel
theorem dX2_follow_41 : decode cX2_follow 41 = .ok (.aload_n 1, 1) := by decide +kernel
theorem dX2_follow_42 : decode cX2_follow 42 = .ok (.getfield 76, 3) := by decide +kernel
theorem dX2_follow_45 : decode cX2_follow 45 = .ok (.iconst 2, 1) := by decide +kernel
theorem dX2_follow_46 : decode cX2_follow 46 = .ok (.iadd, 1) := by decide +kernel
theorem dX2_follow_47 : decode cX2_follow 47 = .ok (.iaload, 1) := by decide +kernel
theorem dX2_follow_48 : decode cX2_follow 48 = .ok (.istore 4, 2) := by decide +kernel
theorem dX2_follow_50 : decode cX2_follow 50 = .ok (.iload_n 3, 1) := by decide +kernel
theorem dX2_follow_51 : decode cX2_follow 51 = .ok (.iload 4, 2) := by decide +kernel
theorem dX2_follow_53 : decode cX2_follow 53 = .ok (.invokestatic 88, 3) := by decide +kernel
theorem dX2_follow_56 : decode cX2_follow 56 = .ok (.ifCond .ne 21, 3) := by decide +kernel
theorem dX2_follow_59 : decode cX2_follow 59 = .ok (.aload_n 0, 1) := by decide +kernel
theorem dX2_follow_60 : decode cX2_follow 60 = .ok (.getfield 25, 3) := by decide +kernel
theorem dX2_follow_63 : decode cX2_follow 63 = .ok (.bipush 66, 2) := by decide +kernel
theorem dX2_follow_65 : decode cX2_follow 65 = .ok (.aload_n 1, 1) := by decide +kernel
theorem dX2_follow_66 : decode cX2_follow 66 = .ok (.getfield 91, 3) := by decide +kernel
theorem dX2_follow_69 : decode cX2_follow 69 = .ok (.aload_n 1, 1) := by decide +kernel
theorem dX2_follow_70 : decode cX2_follow 70 = .ok (.getfield 94, 3) := by decide +kernel
theorem dX2_follow_73 : decode cX2_follow 73 = .ok (.invokevirtual 81, 3) := by decide +kernel
theorem dX2_follow_76 : decode cX2_follow 76 = .ok (.ireturn, 1) := by decide +kernel
theorem dX2_follow_77 : decode cX2_follow 77 = .ok (.iconst 0, 1) := by decide +kernel
theorem dX2_follow_78 : decode cX2_follow 78 = .ok (.istore 5, 2) := by decide +kernel
theorem dX2_follow_80 : decode cX2_follow 80 = .ok (.iload 5, 2) := by decide +kernel
theorem dX2_follow_82 : decode cX2_follow 82 = .ok (.bipush 40, 2) := by decide +kernel
theorem dX2_follow_84 : decode cX2_follow 84 = .ok (.if_icmp .ge 152, 3) := by decide +kernel
theorem dX2_follow_87 : decode cX2_follow 87 = .ok (.aload_n 0, 1) := by decide +kernel
theorem dX2_follow_88 : decode cX2_follow 88 = .ok (.getfield 21, 3) := by decide +kernel
theorem dX2_follow_91 : decode cX2_follow 91 = .ok (.iload_n 3, 1) := by decide +kernel
theorem dX2_follow_92 : decode cX2_follow 92 = .ok (.iload 4, 2) := by decide +kernel
theorem dX2_follow_94 : decode cX2_follow 94 = .ok (.aload_n 0, 1) := by decide +kernel
theorem dX2_follow_95 : decode cX2_follow 95 = .ok (.getfield 18, 3) := by decide +kernel
theorem dX2_follow_98 : decode cX2_follow 98 = .ok (.invokevirtual 97, 3) := by decide +kernel
theorem dX2_follow_101 : decode cX2_follow 101 = .ok (.istore 6, 2) := by decide +kernel
theorem dX2_follow_103 : decode cX2_follow 103 = .ok (.iload 6, 2) := by decide +kernel
theorem dX2_follow_105 : decode cX2_follow 105 = .ok (.ifCond .eq 6, 3) := by decide +kernel
theorem dX2_follow_108 : decode cX2_follow 108 = .ok (.iload 6, 2) := by decide +kernel
theorem dX2_follow_110 : decode cX2_follow 110 = .ok (.ireturn, 1) := by decide +kernel
theorem dX2_follow_111 : decode cX2_follow 111 = .ok (.aload_n 0, 1) := by decide +kernel
theorem dX2_follow_112 : decode cX2_follow 112 = .ok (.iload_n 3, 1) := by decide +kernel
theorem dX2_follow_113 : decode cX2_follow 113 = .ok (.iload 4, 2) := by decide +kernel
theorem dX2_follow_115 : decode cX2_follow 115 = .ok (.invokevirtual 52, 3) := by decide +kernel
theorem dX2_follow_118 : decode cX2_follow 118 = .ok (.aload_n 0, 1) := by decide +kernel
theorem dX2_follow_119 : decode cX2_follow 119 = .ok (.getfield 18, 3) := by decide +kernel
theorem dX2_follow_122 : decode cX2_follow 122 = .ok (.iconst 0, 1) := by decide +kernel
theorem dX2_follow_123 : decode cX2_follow 123 = .ok (.iaload, 1) := by decide +kernel
theorem dX2_follow_124 : decode cX2_follow 124 = .ok (.ifCond .ne 7, 3) := by decide +kernel
theorem dX2_follow_127 : decode cX2_follow 127 = .ok (.iconst 1, 1) := by decide +kernel
theorem dX2_follow_128 : decode cX2_follow 128 = .ok (.goto 4, 3) := by decide +kernel
theorem dX2_follow_131 : decode cX2_follow 131 = .ok (.iconst 0, 1) := by decide +kernel
theorem dX2_follow_132 : decode cX2_follow 132 = .ok (.istore 7, 2) := by decide +kernel
theorem dX2_follow_134 : decode cX2_follow 134 = .ok (.iload 7, 2) := by decide +kernel
theorem dX2_follow_136 : decode cX2_follow 136 = .ok (.ifCond .eq 17, 3) := by decide +kernel
theorem dX2_follow_139 : decode cX2_follow 139 = .ok (.aload_n 0, 1) := by decide +kernel
theorem dX2_follow_140 : decode cX2_follow 140 = .ok (.getfield 18, 3) := by decide +kernel
theorem dX2_follow_143 : decode cX2_follow 143 = .ok (.iconst 1, 1) := by decide +kernel
theorem dX2_follow_144 : decode cX2_follow 144 = .ok (.iaload, 1) := by decide +kernel
theorem dX2_follow_145 : decode cX2_follow 145 = .ok (.bipush 62, 2) := by decide +kernel
theorem dX2_follow_147 : decode cX2_follow 147 = .ok (.if_icmp .le 27, 3) := by decide +kernel
theorem dX2_follow_150 : decode cX2_follow 150 = .ok (.goto 86, 3) := by decide +kernel
theorem dX2_follow_153 : decode cX2_follow 153 = .ok (.aload_n 0, 1) := by decide +kernel
theorem dX2_follow_154 : decode cX2_follow 154 = .ok (.getfield 18, 3) := by decide +kernel
theorem dX2_follow_157 : decode cX2_follow 157 = .ok (.iconst 0, 1) := by decide +kernel
theorem dX2_follow_158 : decode cX2_follow 158 = .ok (.iaload, 1) := by decide +kernel
theorem dX2_follow_159 : decode cX2_follow 159 = .ok (.aload_n 0, 1) := by decide +kernel
theorem dX2_follow_160 : decode cX2_follow 160 = .ok (.getfield 18, 3) := by decide +kernel
theorem dX2_follow_163 : decode cX2_follow 163 = .ok (.iconst 1, 1) := by decide +kernel
theorem dX2_follow_164 : decode cX2_follow 164 = .ok (.iaload, 1) := by decide +kernel
theorem dX2_follow_165 : decode cX2_follow 165 = .ok (.invokestatic 88, 3) := by decide +kernel
theorem dX2_follow_168 : decode cX2_follow 168 = .ok (.ifCond .ne 6, 3) := by decide +kernel
theorem dX2_follow_171 : decode cX2_follow 171 = .ok (.goto 65, 3) := by decide +kernel
theorem dX2_follow_174 : decode cX2_follow 174 = .ok (.aload_n 2, 1) := by decide +kernel
theorem dX2_follow_175 : decode cX2_follow 175 = .ok (.aload_n 0, 1) := by decide +kernel
theorem dX2_follow_176 : decode cX2_follow 176 = .ok (.getfield 18, 3) := by decide +kernel
theorem dX2_follow_179 : decode cX2_follow 179 = .ok (.iconst 2, 1) := by decide +kernel
theorem dX2_follow_180 : decode cX2_follow 180 = .ok (.iload 7, 2) := by decide +kernel
theorem dX2_follow_182 : decode cX2_follow 182 = .ok (.ifCond .eq 12, 3) := by decide +kernel
theorem dX2_follow_185 : decode cX2_follow 185 = .ok (.aload_n 0, 1) := by decide +kernel
theorem dX2_follow_186 : decode cX2_follow 186 = .ok (.getfield 18, 3) := by decide +kernel
theorem dX2_follow_189 : decode cX2_follow 189 = .ok (.iconst 1, 1) := by decide +kernel
theorem dX2_follow_190 : decode cX2_follow 190 = .ok (.iaload, 1) := by decide +kernel
theorem dX2_follow_191 : decode cX2_follow 191 = .ok (.goto 5, 3) := by decide +kernel
theorem dX2_follow_194 : decode cX2_follow 194 = .ok (.bipush 62, 2) := by decide +kernel
theorem dX2_follow_196 : decode cX2_follow 196 = .ok (.invokevirtual 100, 3) := by decide +kernel
theorem dX2_follow_199 : decode cX2_follow 199 = .ok (.iload 7, 2) := by decide +kernel
theorem dX2_follow_201 : decode cX2_follow 201 = .ok (.ifCond .eq 5, 3) := by decide +kernel
theorem dX2_follow_204 : decode cX2_follow 204 = .ok (.iconst 0, 1) := by decide +kernel
theorem dX2_follow_205 : decode cX2_follow 205 = .ok (.ireturn, 1) := by decide +kernel
theorem dX2_follow_206 : decode cX2_follow 206 = .ok (.iload 5, 2) := by decide +kernel
theorem dX2_follow_208 : decode cX2_follow 208 = .ok (.iconst 1, 1) := by decide +kernel
theorem dX2_follow_209 : decode cX2_follow 209 = .ok (.iadd, 1) := by decide +kernel
theorem dX2_follow_210 : decode cX2_follow 210 = .ok (.bipush 40, 2) := by decide +kernel
theorem dX2_follow_212 : decode cX2_follow 212 = .ok (.if_icmp .ge 18, 3) := by decide +kernel
theorem dX2_follow_215 : decode cX2_follow 215 = .ok (.aload_n 0, 1) := by decide +kernel
theorem dX2_follow_216 : decode cX2_follow 216 = .ok (.getfield 18, 3) := by decide +kernel
theorem dX2_follow_219 : decode cX2_follow 219 = .ok (.iconst 0, 1) := by decide +kernel
theorem dX2_follow_220 : decode cX2_follow 220 = .ok (.iaload, 1) := by decide +kernel
theorem dX2_follow_221 : decode cX2_follow 221 = .ok (.istore_n 3, 1) := by decide +kernel
theorem dX2_follow_222 : decode cX2_follow 222 = .ok (.aload_n 0, 1) := by decide +kernel
theorem dX2_follow_223 : decode cX2_follow 223 = .ok (.getfield 18, 3) := by decide +kernel
theorem dX2_follow_226 : decode cX2_follow 226 = .ok (.iconst 1, 1) := by decide +kernel
theorem dX2_follow_227 : decode cX2_follow 227 = .ok (.iaload, 1) := by decide +kernel
theorem dX2_follow_228 : decode cX2_follow 228 = .ok (.istore 4, 2) := by decide +kernel
theorem dX2_follow_230 : decode cX2_follow 230 = .ok (.iinc 5 1, 3) := by decide +kernel
theorem dX2_follow_233 : decode cX2_follow 233 = .ok (.goto (-153), 3) := by decide +kernel
theorem dX2_follow_236 : decode cX2_follow 236 = .ok (.aload_n 0, 1) := by decide +kernel
theorem dX2_follow_237 : decode cX2_follow 237 = .ok (.getfield 25, 3) := by decide +kernel
theorem dX2_follow_240 : decode cX2_follow 240 = .ok (.bipush 66, 2) := by decide +kernel
theorem dX2_follow_242 : decode cX2_follow 242 = .ok (.iload_n 3, 1) := by decide +kernel
theorem dX2_follow_243 : decode cX2_follow 243 = .ok (.iload 4, 2) := by decide +kernel
theorem dX2_follow_245 : decode cX2_follow 245 = .ok (.invokevirtual 81, 3) := by decide +kernel
theorem dX2_follow_248 : decode cX2_follow 248 = .ok (.ireturn, 1) := by decide +kernel
theorem dX3_init_0 : decode cX3_init 0 = .ok (.aload_n 0, 1) := by decide +kernel
theorem dX3_init_1 : decode cX3_init 1 = .ok (.invokespecial 3, 3) := by decide +kernel
theorem dX3_init_4 : decode cX3_init 4 = .ok (.aload_n 0, 1) := by decide +kernel
theorem dX3_init_5 : decode cX3_init 5 = .ok (.bipush 64, 2) := by decide +kernel
theorem dX3_init_7 : decode cX3_init 7 = .ok (.newarray .int, 2) := by decide +kernel
theorem dX3_init_9 : decode cX3_init 9 = .ok (.putfield 9, 3) := by decide +kernel
theorem dX3_init_12 : decode cX3_init 12 = .ok (.aload_n 0, 1) := by decide +kernel
theorem dX3_init_13 : decode cX3_init 13 = .ok (.bipush 64, 2) := by decide +kernel
theorem dX3_init_15 : decode cX3_init 15 = .ok (.newarray .int, 2) := by decide +kernel
theorem dX3_init_17 : decode cX3_init 17 = .ok (.putfield 15, 3) := by decide +kernel
theorem dX3_init_20 : decode cX3_init 20 = .ok (.aload_n 0, 1) := by decide +kernel
theorem dX3_init_21 : decode cX3_init 21 = .ok (.aload_n 1, 1) := by decide +kernel
theorem dX3_init_22 : decode cX3_init 22 = .ok (.putfield 18, 3) := by decide +kernel
theorem dX3_init_25 : decode cX3_init 25 = .ok (.aload_n 0, 1) := by decide +kernel
theorem dX3_init_26 : decode cX3_init 26 = .ok (.aload_n 2, 1) := by decide +kernel
theorem dX3_init_27 : decode cX3_init 27 = .ok (.putfield 22, 3) := by decide +kernel
theorem dX3_init_30 : decode cX3_init 30 = .ok (.aload_n 0, 1) := by decide +kernel
theorem dX3_init_31 : decode cX3_init 31 = .ok (.iconst (-1), 1) := by decide +kernel
theorem dX3_init_32 : decode cX3_init 32 = .ok (.putfield 26, 3) := by decide +kernel
theorem dX3_init_35 : decode cX3_init 35 = .ok (.aload_n 0, 1) := by decide +kernel
theorem dX3_init_36 : decode cX3_init 36 = .ok (.iconst (-1), 1) := by decide +kernel
theorem dX3_init_37 : decode cX3_init 37 = .ok (.putfield 30, 3) := by decide +kernel
theorem dX3_init_40 : decode cX3_init 40 = .ok (.return_, 1) := by decide +kernel
theorem dX3_begin_0 : decode cX3_begin 0 = .ok (.aload_n 0, 1) := by decide +kernel
theorem dX3_begin_1 : decode cX3_begin 1 = .ok (.iconst (-1), 1) := by decide +kernel
theorem dX3_begin_2 : decode cX3_begin 2 = .ok (.putfield 26, 3) := by decide +kernel
theorem dX3_begin_5 : decode cX3_begin 5 = .ok (.aload_n 0, 1) := by decide +kernel
theorem dX3_begin_6 : decode cX3_begin 6 = .ok (.iconst (-1), 1) := by decide +kernel
theorem dX3_begin_7 : decode cX3_begin 7 = .ok (.putfield 30, 3) := by decide +kernel
theorem dX3_begin_10 : decode cX3_begin 10 = .ok (.aload_n 0, 1) := by decide +kernel
theorem dX3_begin_11 : decode cX3_begin 11 = .ok (.iconst 0, 1) := by decide +kernel
theorem dX3_begin_12 : decode cX3_begin 12 = .ok (.putfield 33, 3) := by decide +kernel
theorem dX3_begin_15 : decode cX3_begin 15 = .ok (.aload_n 0, 1) := by decide +kernel
theorem dX3_begin_16 : decode cX3_begin 16 = .ok (.iconst 1, 1) := by decide +kernel
theorem dX3_begin_17 : decode cX3_begin 17 = .ok (.putfield 37, 3) := by decide +kernel
theorem dX3_begin_20 : decode cX3_begin 20 = .ok (.aload_n 0, 1) := by decide +kernel
theorem dX3_begin_21 : decode cX3_begin 21 = .ok (.bipush 9, 2) := by decide +kernel
theorem dX3_begin_23 : decode cX3_begin 23 = .ok (.putfield 40, 3) := by decide +kernel
theorem dX3_begin_26 : decode cX3_begin 26 = .ok (.aload_n 0, 1) := by decide +kernel
theorem dX3_begin_27 : decode cX3_begin 27 = .ok (.iconst 1, 1) := by decide +kernel
theorem dX3_begin_28 : decode cX3_begin 28 = .ok (.putfield 43, 3) := by decide +kernel
theorem dX3_begin_31 : decode cX3_begin 31 = .ok (.aload_n 0, 1) := by decide +kernel
theorem dX3_begin_32 : decode cX3_begin 32 = .ok (.getfield 18, 3) := by decide +kernel
theorem dX3_begin_35 : decode cX3_begin 35 = .ok (.aload_n 0, 1) := by decide +kernel
theorem dX3_begin_36 : decode cX3_begin 36 = .ok (.getfield 40, 3) := by decide +kernel
theorem dX3_begin_39 : decode cX3_begin 39 = .ok (.aload_n 0, 1) := by decide +kernel
theorem dX3_begin_40 : decode cX3_begin 40 = .ok (.getfield 43, 3) := by decide +kernel
theorem dX3_begin_43 : decode cX3_begin 43 = .ok (.aload_n 0, 1) := by decide +kernel
theorem dX3_begin_44 : decode cX3_begin 44 = .ok (.getfield 9, 3) := by decide +kernel
theorem dX3_begin_47 : decode cX3_begin 47 = .ok (.invokevirtual 46, 3) := by decide +kernel
theorem dX3_begin_50 : decode cX3_begin 50 = .ok (.ireturn, 1) := by decide +kernel
theorem dX3_isLast_0 : decode cX3_isLast 0 = .ok (.aload_n 0, 1) := by decide +kernel
theorem dX3_isLast_1 : decode cX3_isLast 1 = .ok (.getfield 9, 3) := by decide +kernel
theorem dX3_isLast_4 : decode cX3_isLast 4 = .ok (.iconst 0, 1) := by decide +kernel
theorem dX3_isLast_5 : decode cX3_isLast 5 = .ok (.iaload, 1) := by decide +kernel
theorem dX3_isLast_6 : decode cX3_isLast 6 = .ok (.ifCond .ne 16, 3) := by decide +kernel
theorem dX3_isLast_9 : decode cX3_isLast 9 = .ok (.aload_n 0, 1) := by decide +kernel
theorem dX3_isLast_10 : decode cX3_isLast 10 = .ok (.getfield 9, 3) := by decide +kernel
theorem dX3_isLast_13 : decode cX3_isLast 13 = .ok (.iconst 1, 1) := by decide +kernel
theorem dX3_isLast_14 : decode cX3_isLast 14 = .ok (.iaload, 1) := by decide +kernel
theorem dX3_isLast_15 : decode cX3_isLast 15 = .ok (.ifCond .ne 7, 3) := by decide +kernel
theorem dX3_isLast_18 : decode cX3_isLast 18 = .ok (.iconst 1, 1) := by decide +kernel
theorem dX3_isLast_19 : decode cX3_isLast 19 = .ok (.goto 4, 3) := by decide +kernel
theorem dX3_isLast_22 : decode cX3_isLast 22 = .ok (.iconst 0, 1) := by decide +kernel
theorem dX3_isLast_23 : decode cX3_isLast 23 = .ok (.ireturn, 1) := by decide +kernel
theorem dX3_step_0 : decode cX3_step 0 = .ok (.aload_n 0, 1) := by decide +kernel
theorem dX3_step_1 : decode cX3_step 1 = .ok (.getfield 37, 3) := by decide +kernel
theorem dX3_step_4 : decode cX3_step 4 = .ok (.bipush 7, 2) := by decide +kernel
theorem dX3_step_6 : decode cX3_step 6 = .ok (.if_icmp .ge 21, 3) := by decide +kernel
theorem dX3_step_9 : decode cX3_step 9 = .ok (.aload_n 0, 1) := by decide +kernel
theorem dX3_step_10 : decode cX3_step 10 = .ok (.getfield 9, 3) := by decide +kernel
theorem dX3_step_13 : decode cX3_step 13 = .ok (.iconst 0, 1) := by decide +kernel
theorem dX3_step_14 : decode cX3_step 14 = .ok (.iaload, 1) := by decide +kernel
theorem dX3_step_15 : decode cX3_step 15 = .ok (.aload_n 0, 1) := by decide +kernel
theorem dX3_step_16 : decode cX3_step 16 = .ok (.getfield 9, 3) := by decide +kernel
theorem dX3_step_19 : decode cX3_step 19 = .ok (.iconst 1, 1) := by decide +kernel
theorem dX3_step_20 : decode cX3_step 20 = .ok (.iaload, 1) := by decide +kernel
theorem dX3_step_21 : decode cX3_step 21 = .ok (.invokestatic 52, 3) := by decide +kernel
theorem dX3_step_24 : decode cX3_step 24 = .ok (.ifCond .ne 21, 3) := by decide +kernel
theorem dX3_step_27 : decode cX3_step 27 = .ok (.aload_n 0, 1) := by decide +kernel
theorem dX3_step_28 : decode cX3_step 28 = .ok (.getfield 22, 3) := by decide +kernel
theorem dX3_step_31 : decode cX3_step 31 = .ok (.bipush 66, 2) := by decide +kernel
theorem dX3_step_33 : decode cX3_step 33 = .ok (.aload_n 0, 1) := by decide +kernel
theorem dX3_step_34 : decode cX3_step 34 = .ok (.getfield 40, 3) := by decide +kernel
theorem dX3_step_37 : decode cX3_step 37 = .ok (.aload_n 0, 1) := by decide +kernel
theorem dX3_step_38 : decode cX3_step 38 = .ok (.getfield 43, 3) := by decide +kernel
theorem dX3_step_41 : decode cX3_step 41 = .ok (.invokevirtual 56, 3) := by decide +kernel
theorem dX3_step_44 : decode cX3_step 44 = .ok (.ireturn, 1) := by decide +kernel
theorem dX3_step_45 : decode cX3_step 45 = .ok (.aload_n 0, 1) := by decide +kernel
theorem dX3_step_46 : decode cX3_step 46 = .ok (.dup, 1) := by decide +kernel
theorem dX3_step_47 : decode cX3_step 47 = .ok (.getfield 37, 3) := by decide +kernel
theorem dX3_step_50 : decode cX3_step 50 = .ok (.iconst 1, 1) := by decide +kernel
theorem dX3_step_51 : decode cX3_step 51 = .ok (.iadd, 1) := by decide +kernel
theorem dX3_step_52 : decode cX3_step 52 = .ok (.putfield 37, 3) := by decide +kernel
theorem dX3_step_55 : decode cX3_step 55 = .ok (.aload_n 0, 1) := by decide +kernel
theorem dX3_step_56 : decode cX3_step 56 = .ok (.aload_n 0, 1) := by decide +kernel
theorem dX3_step_57 : decode cX3_step 57 = .ok (.getfield 9, 3) := by decide +kernel
theorem dX3_step_60 : decode cX3_step 60 = .ok (.iconst 0, 1) := by decide +kernel
theorem dX3_step_61 : decode cX3_step 61 = .ok (.iaload, 1) := by decide +kernel
theorem dX3_step_62 : decode cX3_step 62 = .ok (.putfield 40, 3) := by decide +kernel
theorem dX3_step_65 : decode cX3_step 65 = .ok (.aload_n 0, 1) := by decide +kernel
theorem dX3_step_66 : decode cX3_step 66 = .ok (.aload_n 0, 1) := by decide +kernel
theorem dX3_step_67 : decode cX3_step 67 = .ok (.getfield 9, 3) := by decide +kernel
theorem dX3_step_70 : decode cX3_step 70 = .ok (.iconst 1, 1) := by decide +kernel
theorem dX3_step_71 : decode cX3_step 71 = .ok (.iaload, 1) := by decide +kernel
theorem dX3_step_72 : decode cX3_step 72 = .ok (.putfield 43, 3) := by decide +kernel
theorem dX3_step_75 : decode cX3_step 75 = .ok (.aload_n 0, 1) := by decide +kernel
theorem dX3_step_76 : decode cX3_step 76 = .ok (.getfield 18, 3) := by decide +kernel
theorem dX3_step_79 : decode cX3_step 79 = .ok (.aload_n 0, 1) := by decide +kernel
theorem dX3_step_80 : decode cX3_step 80 = .ok (.getfield 40, 3) := by decide +kernel
theorem dX3_step_83 : decode cX3_step 83 = .ok (.aload_n 0, 1) := by decide +kernel
theorem dX3_step_84 : decode cX3_step 84 = .ok (.getfield 43, 3) := by decide +kernel
theorem dX3_step_87 : decode cX3_step 87 = .ok (.aload_n 0, 1) := by decide +kernel
theorem dX3_step_88 : decode cX3_step 88 = .ok (.getfield 9, 3) := by decide +kernel
theorem dX3_step_91 : decode cX3_step 91 = .ok (.invokevirtual 46, 3) := by decide +kernel
theorem dX3_step_94 : decode cX3_step 94 = .ok (.ireturn, 1) := by decide +kernel
theorem dX3_findEntry_0 : decode cX3_findEntry 0 = .ok (.iconst 2, 1) := by decide +kernel
theorem dX3_findEntry_1 : decode cX3_findEntry 1 = .ok (.istore_n 3, 1) := by decide +kernel
theorem dX3_findEntry_2 : decode cX3_findEntry 2 = .ok (.iload_n 3, 1) := by decide +kernel
theorem dX3_findEntry_3 : decode cX3_findEntry 3 = .ok (.bipush 62, 2) := by decide +kernel
theorem dX3_findEntry_5 : decode cX3_findEntry 5 = .ok (.if_icmp .ge 48, 3) := by decide +kernel
theorem dX3_findEntry_8 : decode cX3_findEntry 8 = .ok (.aload_n 0, 1) := by decide +kernel
theorem dX3_findEntry_9 : decode cX3_findEntry 9 = .ok (.getfield 9, 3) := by decide +kernel
theorem dX3_findEntry_12 : decode cX3_findEntry 12 = .ok (.iload_n 3, 1) := by decide +kernel
theorem dX3_findEntry_13 : decode cX3_findEntry 13 = .ok (.iaload, 1) := by decide +kernel
theorem dX3_findEntry_14 : decode cX3_findEntry 14 = .ok (.ifCond .ne 11, 3) := by decide +kernel
theorem dX3_findEntry_17 : decode cX3_findEntry 17 = .ok (.aload_n 0, 1) := by decide +kernel
theorem dX3_findEntry_18 : decode cX3_findEntry 18 = .ok (.iload_n 3, 1) := by decide +kernel
theorem dX3_findEntry_19 : decode cX3_findEntry 19 = .ok (.invokevirtual 62, 3) := by decide +kernel
theorem dX3_findEntry_22 : decode cX3_findEntry 22 = .ok (.goto 25, 3) := by decide +kernel
theorem dX3_findEntry_25 : decode cX3_findEntry 25 = .ok (.aload_n 0, 1) := by decide +kernel
theorem dX3_findEntry_26 : decode cX3_findEntry 26 = .ok (.getfield 9, 3) := by decide +kernel
theorem dX3_findEntry_29 : decode cX3_findEntry 29 = .ok (.iload_n 3, 1) := by decide +kernel
theorem dX3_findEntry_30 : decode cX3_findEntry 30 = .ok (.iconst 4, 1) := by decide +kernel
theorem dX3_findEntry_31 : decode cX3_findEntry 31 = .ok (.iadd, 1) := by decide +kernel
theorem dX3_findEntry_32 : decode cX3_findEntry 32 = .ok (.iload_n 1, 1) := by decide +kernel
theorem dX3_findEntry_33 : decode cX3_findEntry 33 = .ok (.iload_n 2, 1) := by decide +kernel
theorem dX3_findEntry_34 : decode cX3_findEntry 34 = .ok (.invokestatic 66, 3) := by decide +kernel
theorem dX3_findEntry_37 : decode cX3_findEntry 37 = .ok (.ifCond .eq 10, 3) := by decide +kernel
theorem dX3_findEntry_40 : decode cX3_findEntry 40 = .ok (.aload_n 0, 1) := by decide +kernel
theorem dX3_findEntry_41 : decode cX3_findEntry 41 = .ok (.iload_n 3, 1) := by decide +kernel
theorem dX3_findEntry_42 : decode cX3_findEntry 42 = .ok (.putfield 26, 3) := by decide +kernel
theorem dX3_findEntry_45 : decode cX3_findEntry 45 = .ok (.iconst 1, 1) := by decide +kernel
theorem dX3_findEntry_46 : decode cX3_findEntry 46 = .ok (.ireturn, 1) := by decide +kernel
theorem dX3_findEntry_47 : decode cX3_findEntry 47 = .ok (.iinc 3 12, 3) := by decide +kernel
theorem dX3_findEntry_50 : decode cX3_findEntry 50 = .ok (.goto (-48), 3) := by decide +kernel
theorem dX3_findEntry_53 : decode cX3_findEntry 53 = .ok (.iconst 0, 1) := by decide +kernel
theorem dX3_findEntry_54 : decode cX3_findEntry 54 = .ok (.ireturn, 1) := by decide +kernel
theorem dX3_keepRoom_0 : decode cX3_keepRoom 0 = .ok (.aload_n 0, 1) := by decide +kernel
theorem dX3_keepRoom_1 : decode cX3_keepRoom 1 = .ok (.getfield 30, 3) := by decide +kernel
theorem dX3_keepRoom_4 : decode cX3_keepRoom 4 = .ok (.iconst (-1), 1) := by decide +kernel
theorem dX3_keepRoom_5 : decode cX3_keepRoom 5 = .ok (.if_icmp .ne 39, 3) := by decide +kernel
theorem dX3_keepRoom_8 : decode cX3_keepRoom 8 = .ok (.aload_n 0, 1) := by decide +kernel
theorem dX3_keepRoom_9 : decode cX3_keepRoom 9 = .ok (.iload_n 1, 1) := by decide +kernel
theorem dX3_keepRoom_10 : decode cX3_keepRoom 10 = .ok (.putfield 30, 3) := by decide +kernel
theorem dX3_keepRoom_13 : decode cX3_keepRoom 13 = .ok (.aload_n 0, 1) := by decide +kernel
theorem dX3_keepRoom_14 : decode cX3_keepRoom 14 = .ok (.aload_n 0, 1) := by decide +kernel
theorem dX3_keepRoom_15 : decode cX3_keepRoom 15 = .ok (.getfield 40, 3) := by decide +kernel
theorem dX3_keepRoom_18 : decode cX3_keepRoom 18 = .ok (.putfield 70, 3) := by decide +kernel
theorem dX3_keepRoom_21 : decode cX3_keepRoom 21 = .ok (.aload_n 0, 1) := by decide +kernel
theorem dX3_keepRoom_22 : decode cX3_keepRoom 22 = .ok (.aload_n 0, 1) := by decide +kernel
theorem dX3_keepRoom_23 : decode cX3_keepRoom 23 = .ok (.getfield 43, 3) := by decide +kernel
theorem dX3_keepRoom_26 : decode cX3_keepRoom 26 = .ok (.putfield 73, 3) := by decide +kernel
theorem dX3_keepRoom_29 : decode cX3_keepRoom 29 = .ok (.aload_n 0, 1) := by decide +kernel
theorem dX3_keepRoom_30 : decode cX3_keepRoom 30 = .ok (.getfield 9, 3) := by decide +kernel
theorem dX3_keepRoom_33 : decode cX3_keepRoom 33 = .ok (.iconst 0, 1) := by decide +kernel
theorem dX3_keepRoom_34 : decode cX3_keepRoom 34 = .ok (.aload_n 0, 1) := by decide +kernel
theorem dX3_keepRoom_35 : decode cX3_keepRoom 35 = .ok (.getfield 15, 3) := by decide +kernel
theorem dX3_keepRoom_38 : decode cX3_keepRoom 38 = .ok (.iconst 0, 1) := by decide +kernel
theorem dX3_keepRoom_39 : decode cX3_keepRoom 39 = .ok (.bipush 64, 2) := by decide +kernel
theorem dX3_keepRoom_41 : decode cX3_keepRoom 41 = .ok (.invokestatic 76, 3) := by decide +kernel
