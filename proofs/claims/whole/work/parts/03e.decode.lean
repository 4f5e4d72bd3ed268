theorem dX8_writeDirectory_25 : decode cX8_writeDirectory 25 = .ok (.iinc 2 1, 3) := by decide +kernel
theorem dX8_writeDirectory_28 : decode cX8_writeDirectory 28 = .ok (.goto (-26), 3) := by decide +kernel
theorem dX8_writeDirectory_31 : decode cX8_writeDirectory 31 = .ok (.aload_n 0, 1) := by decide +kernel
theorem dX8_writeDirectory_32 : decode cX8_writeDirectory 32 = .ok (.aload_n 0, 1) := by decide +kernel
theorem dX8_writeDirectory_33 : decode cX8_writeDirectory 33 = .ok (.getfield 46, 3) := by decide +kernel
theorem dX8_writeDirectory_36 : decode cX8_writeDirectory 36 = .ok (.iload_n 1, 1) := by decide +kernel
theorem dX8_writeDirectory_37 : decode cX8_writeDirectory 37 = .ok (.iaload, 1) := by decide +kernel
theorem dX8_writeDirectory_38 : decode cX8_writeDirectory 38 = .ok (.aload_n 0, 1) := by decide +kernel
theorem dX8_writeDirectory_39 : decode cX8_writeDirectory 39 = .ok (.getfield 49, 3) := by decide +kernel
theorem dX8_writeDirectory_42 : decode cX8_writeDirectory 42 = .ok (.iload_n 1, 1) := by decide +kernel
theorem dX8_writeDirectory_43 : decode cX8_writeDirectory 43 = .ok (.iaload, 1) := by decide +kernel
theorem dX8_writeDirectory_44 : decode cX8_writeDirectory 44 = .ok (.invokevirtual 150, 3) := by decide +kernel
theorem dX8_writeDirectory_47 : decode cX8_writeDirectory 47 = .ok (.istore_n 2, 1) := by decide +kernel
theorem dX8_writeDirectory_48 : decode cX8_writeDirectory 48 = .ok (.iload_n 2, 1) := by decide +kernel
theorem dX8_writeDirectory_49 : decode cX8_writeDirectory 49 = .ok (.ifCond .eq 23, 3) := by decide +kernel
theorem dX8_writeDirectory_52 : decode cX8_writeDirectory 52 = .ok (.aload_n 0, 1) := by decide +kernel
theorem dX8_writeDirectory_53 : decode cX8_writeDirectory 53 = .ok (.iload_n 2, 1) := by decide +kernel
theorem dX8_writeDirectory_54 : decode cX8_writeDirectory 54 = .ok (.aload_n 0, 1) := by decide +kernel
theorem dX8_writeDirectory_55 : decode cX8_writeDirectory 55 = .ok (.getfield 46, 3) := by decide +kernel
theorem dX8_writeDirectory_58 : decode cX8_writeDirectory 58 = .ok (.iload_n 1, 1) := by decide +kernel
theorem dX8_writeDirectory_59 : decode cX8_writeDirectory 59 = .ok (.iaload, 1) := by decide +kernel
theorem dX8_writeDirectory_60 : decode cX8_writeDirectory 60 = .ok (.aload_n 0, 1) := by decide +kernel
theorem dX8_writeDirectory_61 : decode cX8_writeDirectory 61 = .ok (.getfield 49, 3) := by decide +kernel
theorem dX8_writeDirectory_64 : decode cX8_writeDirectory 64 = .ok (.iload_n 1, 1) := by decide +kernel
theorem dX8_writeDirectory_65 : decode cX8_writeDirectory 65 = .ok (.iaload, 1) := by decide +kernel
theorem dX8_writeDirectory_66 : decode cX8_writeDirectory 66 = .ok (.invokevirtual 143, 3) := by decide +kernel
theorem dX8_writeDirectory_69 : decode cX8_writeDirectory 69 = .ok (.ifCond .ne 7, 3) := by decide +kernel
theorem dX8_writeDirectory_72 : decode cX8_writeDirectory 72 = .ok (.iconst 1, 1) := by decide +kernel
theorem dX8_writeDirectory_73 : decode cX8_writeDirectory 73 = .ok (.goto 4, 3) := by decide +kernel
theorem dX8_writeDirectory_76 : decode cX8_writeDirectory 76 = .ok (.iconst 0, 1) := by decide +kernel
theorem dX8_writeDirectory_77 : decode cX8_writeDirectory 77 = .ok (.ireturn, 1) := by decide +kernel
theorem dX8_feed_0 : decode cX8_feed 0 = .ok (.aload_n 0, 1) := by decide +kernel
theorem dX8_feed_1 : decode cX8_feed 1 = .ok (.getfield 172, 3) := by decide +kernel
theorem dX8_feed_4 : decode cX8_feed 4 = .ok (.bipush 20, 2) := by decide +kernel
theorem dX8_feed_6 : decode cX8_feed 6 = .ok (.iadd, 1) := by decide +kernel
theorem dX8_feed_7 : decode cX8_feed 7 = .ok (.sipush 2480, 3) := by decide +kernel
theorem dX8_feed_10 : decode cX8_feed 10 = .ok (.if_icmp .le 5, 3) := by decide +kernel
theorem dX8_feed_13 : decode cX8_feed 13 = .ok (.iconst (-1), 1) := by decide +kernel
theorem dX8_feed_14 : decode cX8_feed 14 = .ok (.ireturn, 1) := by decide +kernel
theorem dX8_feed_15 : decode cX8_feed 15 = .ok (.iconst 0, 1) := by decide +kernel
theorem dX8_feed_16 : decode cX8_feed 16 = .ok (.istore 6, 2) := by decide +kernel
theorem dX8_feed_18 : decode cX8_feed 18 = .ok (.iload 6, 2) := by decide +kernel
theorem dX8_feed_20 : decode cX8_feed 20 = .ok (.bipush 20, 2) := by decide +kernel
theorem dX8_feed_22 : decode cX8_feed 22 = .ok (.if_icmp .ge 93, 3) := by decide +kernel
theorem dX8_feed_25 : decode cX8_feed 25 = .ok (.iload 6, 2) := by decide +kernel
theorem dX8_feed_27 : decode cX8_feed 27 = .ok (.iconst 4, 1) := by decide +kernel
theorem dX8_feed_28 : decode cX8_feed 28 = .ok (.if_icmp .ge 7, 3) := by decide +kernel
theorem dX8_feed_31 : decode cX8_feed 31 = .ok (.iload_n 1, 1) := by decide +kernel
theorem dX8_feed_32 : decode cX8_feed 32 = .ok (.goto 39, 3) := by decide +kernel
theorem dX8_feed_35 : decode cX8_feed 35 = .ok (.iload 6, 2) := by decide +kernel
theorem dX8_feed_37 : decode cX8_feed 37 = .ok (.bipush 8, 2) := by decide +kernel
theorem dX8_feed_39 : decode cX8_feed 39 = .ok (.if_icmp .ge 7, 3) := by decide +kernel
theorem dX8_feed_42 : decode cX8_feed 42 = .ok (.iload_n 2, 1) := by decide +kernel
theorem dX8_feed_43 : decode cX8_feed 43 = .ok (.goto 28, 3) := by decide +kernel
theorem dX8_feed_46 : decode cX8_feed 46 = .ok (.iload 6, 2) := by decide +kernel
theorem dX8_feed_48 : decode cX8_feed 48 = .ok (.bipush 12, 2) := by decide +kernel
theorem dX8_feed_50 : decode cX8_feed 50 = .ok (.if_icmp .ge 7, 3) := by decide +kernel
theorem dX8_feed_53 : decode cX8_feed 53 = .ok (.iload_n 3, 1) := by decide +kernel
theorem dX8_feed_54 : decode cX8_feed 54 = .ok (.goto 17, 3) := by decide +kernel
theorem dX8_feed_57 : decode cX8_feed 57 = .ok (.iload 6, 2) := by decide +kernel
theorem dX8_feed_59 : decode cX8_feed 59 = .ok (.bipush 16, 2) := by decide +kernel
theorem dX8_feed_61 : decode cX8_feed 61 = .ok (.if_icmp .ge 8, 3) := by decide +kernel
theorem dX8_feed_64 : decode cX8_feed 64 = .ok (.iload 4, 2) := by decide +kernel
theorem dX8_feed_66 : decode cX8_feed 66 = .ok (.goto 5, 3) := by decide +kernel
theorem dX8_feed_69 : decode cX8_feed 69 = .ok (.iload 5, 2) := by decide +kernel
theorem dX8_feed_71 : decode cX8_feed 71 = .ok (.istore 7, 2) := by decide +kernel
theorem dX8_feed_73 : decode cX8_feed 73 = .ok (.aload_n 0, 1) := by decide +kernel
theorem dX8_feed_74 : decode cX8_feed 74 = .ok (.getfield 28, 3) := by decide +kernel
theorem dX8_feed_77 : decode cX8_feed 77 = .ok (.aload_n 0, 1) := by decide +kernel
theorem dX8_feed_78 : decode cX8_feed 78 = .ok (.getfield 172, 3) := by decide +kernel
theorem dX8_feed_81 : decode cX8_feed 81 = .ok (.iload 7, 2) := by decide +kernel
theorem dX8_feed_83 : decode cX8_feed 83 = .ok (.bipush 24, 2) := by decide +kernel
theorem dX8_feed_85 : decode cX8_feed 85 = .ok (.bipush 8, 2) := by decide +kernel
theorem dX8_feed_87 : decode cX8_feed 87 = .ok (.iload 6, 2) := by decide +kernel
theorem dX8_feed_89 : decode cX8_feed 89 = .ok (.iconst 4, 1) := by decide +kernel
theorem dX8_feed_90 : decode cX8_feed 90 = .ok (.irem, 1) := by decide +kernel
theorem dX8_feed_91 : decode cX8_feed 91 = .ok (.imul, 1) := by decide +kernel
theorem dX8_feed_92 : decode cX8_feed 92 = .ok (.isub, 1) := by decide +kernel
theorem dX8_feed_93 : decode cX8_feed 93 = .ok (.ishr, 1) := by decide +kernel
theorem dX8_feed_94 : decode cX8_feed 94 = .ok (.sipush 255, 3) := by decide +kernel
theorem dX8_feed_97 : decode cX8_feed 97 = .ok (.iand, 1) := by decide +kernel
theorem dX8_feed_98 : decode cX8_feed 98 = .ok (.iastore, 1) := by decide +kernel
theorem dX8_feed_99 : decode cX8_feed 99 = .ok (.aload_n 0, 1) := by decide +kernel
theorem dX8_feed_100 : decode cX8_feed 100 = .ok (.dup, 1) := by decide +kernel
theorem dX8_feed_101 : decode cX8_feed 101 = .ok (.getfield 172, 3) := by decide +kernel
theorem dX8_feed_104 : decode cX8_feed 104 = .ok (.iconst 1, 1) := by decide +kernel
theorem dX8_feed_105 : decode cX8_feed 105 = .ok (.iadd, 1) := by decide +kernel
theorem dX8_feed_106 : decode cX8_feed 106 = .ok (.putfield 172, 3) := by decide +kernel
theorem dX8_feed_109 : decode cX8_feed 109 = .ok (.iinc 6 1, 3) := by decide +kernel
theorem dX8_feed_112 : decode cX8_feed 112 = .ok (.goto (-94), 3) := by decide +kernel
theorem dX8_feed_115 : decode cX8_feed 115 = .ok (.aload_n 0, 1) := by decide +kernel
theorem dX8_feed_116 : decode cX8_feed 116 = .ok (.getfield 172, 3) := by decide +kernel
theorem dX8_feed_119 : decode cX8_feed 119 = .ok (.ireturn, 1) := by decide +kernel
theorem dX8_end_0 : decode cX8_end 0 = .ok (.iload_n 1, 1) := by decide +kernel
theorem dX8_end_1 : decode cX8_end 1 = .ok (.iconst 0, 1) := by decide +kernel
theorem dX8_end_2 : decode cX8_end 2 = .ok (.aload_n 0, 1) := by decide +kernel
theorem dX8_end_3 : decode cX8_end 3 = .ok (.getfield 172, 3) := by decide +kernel
theorem dX8_end_6 : decode cX8_end 6 = .ok (.invokestatic 69, 3) := by decide +kernel
theorem dX8_end_9 : decode cX8_end 9 = .ok (.ifCond .ne 5, 3) := by decide +kernel
theorem dX8_end_12 : decode cX8_end 12 = .ok (.iconst (-1), 1) := by decide +kernel
theorem dX8_end_13 : decode cX8_end 13 = .ok (.ireturn, 1) := by decide +kernel
theorem dX8_end_14 : decode cX8_end 14 = .ok (.aload_n 0, 1) := by decide +kernel
theorem dX8_end_15 : decode cX8_end 15 = .ok (.iload_n 1, 1) := by decide +kernel
theorem dX8_end_16 : decode cX8_end 16 = .ok (.putfield 172, 3) := by decide +kernel
theorem dX8_end_19 : decode cX8_end 19 = .ok (.iload_n 1, 1) := by decide +kernel
theorem dX8_end_20 : decode cX8_end 20 = .ok (.ireturn, 1) := by decide +kernel
theorem dX8_format_0 : decode cX8_format 0 = .ok (.aload_n 0, 1) := by decide +kernel
theorem dX8_format_1 : decode cX8_format 1 = .ok (.iload_n 1, 1) := by decide +kernel
theorem dX8_format_2 : decode cX8_format 2 = .ok (.ldc 175, 2) := by decide +kernel
theorem dX8_format_4 : decode cX8_format 4 = .ok (.iand, 1) := by decide +kernel
theorem dX8_format_5 : decode cX8_format 5 = .ok (.putfield 24, 3) := by decide +kernel
theorem dX8_format_8 : decode cX8_format 8 = .ok (.iconst 0, 1) := by decide +kernel
theorem dX8_format_9 : decode cX8_format 9 = .ok (.istore 4, 2) := by decide +kernel
theorem dX8_format_11 : decode cX8_format 11 = .ok (.iload 4, 2) := by decide +kernel
theorem dX8_format_13 : decode cX8_format 13 = .ok (.bipush 64, 2) := by decide +kernel
theorem dX8_format_15 : decode cX8_format 15 = .ok (.if_icmp .ge 17, 3) := by decide +kernel
theorem dX8_format_18 : decode cX8_format 18 = .ok (.aload_n 0, 1) := by decide +kernel
theorem dX8_format_19 : decode cX8_format 19 = .ok (.getfield 40, 3) := by decide +kernel
theorem dX8_format_22 : decode cX8_format 22 = .ok (.iload 4, 2) := by decide +kernel
theorem dX8_format_24 : decode cX8_format 24 = .ok (.iconst 0, 1) := by decide +kernel
theorem dX8_format_25 : decode cX8_format 25 = .ok (.iastore, 1) := by decide +kernel
theorem dX8_format_26 : decode cX8_format 26 = .ok (.iinc 4 1, 3) := by decide +kernel
theorem dX8_format_29 : decode cX8_format 29 = .ok (.goto (-18), 3) := by decide +kernel
theorem dX8_format_32 : decode cX8_format 32 = .ok (.aload_n 0, 1) := by decide +kernel
theorem dX8_format_33 : decode cX8_format 33 = .ok (.getfield 40, 3) := by decide +kernel
theorem dX8_format_36 : decode cX8_format 36 = .ok (.iconst 0, 1) := by decide +kernel
theorem dX8_format_37 : decode cX8_format 37 = .ok (.bipush 9, 2) := by decide +kernel
theorem dX8_format_39 : decode cX8_format 39 = .ok (.iastore, 1) := by decide +kernel
theorem dX8_format_40 : decode cX8_format 40 = .ok (.aload_n 0, 1) := by decide +kernel
theorem dX8_format_41 : decode cX8_format 41 = .ok (.getfield 40, 3) := by decide +kernel
theorem dX8_format_44 : decode cX8_format 44 = .ok (.iconst 1, 1) := by decide +kernel
theorem dX8_format_45 : decode cX8_format 45 = .ok (.iconst 1, 1) := by decide +kernel
theorem dX8_format_46 : decode cX8_format 46 = .ok (.iastore, 1) := by decide +kernel
theorem dX8_format_47 : decode cX8_format 47 = .ok (.iconst 1, 1) := by decide +kernel
theorem dX8_format_48 : decode cX8_format 48 = .ok (.istore 4, 2) := by decide +kernel
theorem dX8_format_50 : decode cX8_format 50 = .ok (.iload 4, 2) := by decide +kernel
theorem dX8_format_52 : decode cX8_format 52 = .ok (.bipush 16, 2) := by decide +kernel
theorem dX8_format_54 : decode cX8_format 54 = .ok (.if_icmp .gt 54, 3) := by decide +kernel
theorem dX8_format_57 : decode cX8_format 57 = .ok (.iconst 0, 1) := by decide +kernel
theorem dX8_format_58 : decode cX8_format 58 = .ok (.istore 5, 2) := by decide +kernel
theorem dX8_format_60 : decode cX8_format 60 = .ok (.iload 5, 2) := by decide +kernel
theorem dX8_format_62 : decode cX8_format 62 = .ok (.iload 4, 2) := by decide +kernel
theorem dX8_format_64 : decode cX8_format 64 = .ok (.invokestatic 77, 3) := by decide +kernel
theorem dX8_format_67 : decode cX8_format 67 = .ok (.if_icmp .ge 35, 3) := by decide +kernel
theorem dX8_format_70 : decode cX8_format 70 = .ok (.aload_n 0, 1) := by decide +kernel
theorem dX8_format_71 : decode cX8_format 71 = .ok (.iload 4, 2) := by decide +kernel
theorem dX8_format_73 : decode cX8_format 73 = .ok (.iload 5, 2) := by decide +kernel
theorem dX8_format_75 : decode cX8_format 75 = .ok (.iload 4, 2) := by decide +kernel
theorem dX8_format_77 : decode cX8_format 77 = .ok (.bipush 9, 2) := by decide +kernel
theorem dX8_format_79 : decode cX8_format 79 = .ok (.if_icmp .ne 9, 3) := by decide +kernel
theorem dX8_format_82 : decode cX8_format 82 = .ok (.iload 5, 2) := by decide +kernel
theorem dX8_format_84 : decode cX8_format 84 = .ok (.iconst 1, 1) := by decide +kernel
theorem dX8_format_85 : decode cX8_format 85 = .ok (.if_icmp .le 7, 3) := by decide +kernel
theorem dX8_format_88 : decode cX8_format 88 = .ok (.iconst 1, 1) := by decide +kernel
theorem dX8_format_89 : decode cX8_format 89 = .ok (.goto 4, 3) := by decide +kernel
theorem dX8_format_92 : decode cX8_format 92 = .ok (.iconst 0, 1) := by decide +kernel
theorem dX8_format_93 : decode cX8_format 93 = .ok (.invokevirtual 176, 3) := by decide +kernel
theorem dX8_format_96 : decode cX8_format 96 = .ok (.iinc 5 1, 3) := by decide +kernel
theorem dX8_format_99 : decode cX8_format 99 = .ok (.goto (-39), 3) := by decide +kernel
theorem dX8_format_102 : decode cX8_format 102 = .ok (.iinc 4 1, 3) := by decide +kernel
theorem dX8_format_105 : decode cX8_format 105 = .ok (.goto (-55), 3) := by decide +kernel
theorem dX8_format_108 : decode cX8_format 108 = .ok (.iconst 0, 1) := by decide +kernel
theorem dX8_format_109 : decode cX8_format 109 = .ok (.istore 4, 2) := by decide +kernel
theorem dX8_format_111 : decode cX8_format 111 = .ok (.iload 4, 2) := by decide +kernel
theorem dX8_format_113 : decode cX8_format 113 = .ok (.bipush 8, 2) := by decide +kernel
theorem dX8_format_115 : decode cX8_format 115 = .ok (.if_icmp .ge 26, 3) := by decide +kernel
theorem dX8_format_118 : decode cX8_format 118 = .ok (.aload_n 0, 1) := by decide +kernel
theorem dX8_format_119 : decode cX8_format 119 = .ok (.getfield 40, 3) := by decide +kernel
theorem dX8_format_122 : decode cX8_format 122 = .ok (.bipush 40, 2) := by decide +kernel
theorem dX8_format_124 : decode cX8_format 124 = .ok (.iload 4, 2) := by decide +kernel
theorem dX8_format_126 : decode cX8_format 126 = .ok (.iadd, 1) := by decide +kernel
theorem dX8_format_127 : decode cX8_format 127 = .ok (.iload_n 2, 1) := by decide +kernel
theorem dX8_format_128 : decode cX8_format 128 = .ok (.iload_n 3, 1) := by decide +kernel
theorem dX8_format_129 : decode cX8_format 129 = .ok (.iload 4, 2) := by decide +kernel
theorem dX8_format_131 : decode cX8_format 131 = .ok (.invokestatic 153, 3) := by decide +kernel
theorem dX8_format_134 : decode cX8_format 134 = .ok (.iastore, 1) := by decide +kernel
theorem dX8_format_135 : decode cX8_format 135 = .ok (.iinc 4 1, 3) := by decide +kernel
theorem dX8_format_138 : decode cX8_format 138 = .ok (.goto (-27), 3) := by decide +kernel
theorem dX8_format_141 : decode cX8_format 141 = .ok (.aload_n 0, 1) := by decide +kernel
theorem dX8_format_142 : decode cX8_format 142 = .ok (.getfield 40, 3) := by decide +kernel
theorem dX8_format_145 : decode cX8_format 145 = .ok (.bipush 48, 2) := by decide +kernel
theorem dX8_format_147 : decode cX8_format 147 = .ok (.aload_n 0, 1) := by decide +kernel
theorem dX8_format_148 : decode cX8_format 148 = .ok (.getfield 24, 3) := by decide +kernel
theorem dX8_format_151 : decode cX8_format 151 = .ok (.bipush 8, 2) := by decide +kernel
theorem dX8_format_153 : decode cX8_format 153 = .ok (.ishr, 1) := by decide +kernel
theorem dX8_format_154 : decode cX8_format 154 = .ok (.iastore, 1) := by decide +kernel
theorem dX8_format_155 : decode cX8_format 155 = .ok (.aload_n 0, 1) := by decide +kernel
theorem dX8_format_156 : decode cX8_format 156 = .ok (.getfield 40, 3) := by decide +kernel
theorem dX8_format_159 : decode cX8_format 159 = .ok (.bipush 49, 2) := by decide +kernel
theorem dX8_format_161 : decode cX8_format 161 = .ok (.aload_n 0, 1) := by decide +kernel
theorem dX8_format_162 : decode cX8_format 162 = .ok (.getfield 24, 3) := by decide +kernel
theorem dX8_format_165 : decode cX8_format 165 = .ok (.sipush 255, 3) := by decide +kernel
theorem dX8_format_168 : decode cX8_format 168 = .ok (.iand, 1) := by decide +kernel
theorem dX8_format_169 : decode cX8_format 169 = .ok (.iastore, 1) := by decide +kernel
theorem dX8_format_170 : decode cX8_format 170 = .ok (.iconst 1, 1) := by decide +kernel
theorem dX8_format_171 : decode cX8_format 171 = .ok (.istore 4, 2) := by decide +kernel
theorem dX8_format_173 : decode cX8_format 173 = .ok (.iload 4, 2) := by decide +kernel
theorem dX8_format_175 : decode cX8_format 175 = .ok (.bipush 16, 2) := by decide +kernel
theorem dX8_format_177 : decode cX8_format 177 = .ok (.if_icmp .gt 231, 3) := by decide +kernel
theorem dX8_format_180 : decode cX8_format 180 = .ok (.aload_n 0, 1) := by decide +kernel
theorem dX8_format_181 : decode cX8_format 181 = .ok (.iload 4, 2) := by decide +kernel
theorem dX8_format_183 : decode cX8_format 183 = .ok (.putfield 86, 3) := by decide +kernel
theorem dX8_format_186 : decode cX8_format 186 = .ok (.aload_n 0, 1) := by decide +kernel
theorem dX8_format_187 : decode cX8_format 187 = .ok (.iconst 0, 1) := by decide +kernel
theorem dX8_format_188 : decode cX8_format 188 = .ok (.putfield 89, 3) := by decide +kernel
theorem dX8_format_191 : decode cX8_format 191 = .ok (.iconst 0, 1) := by decide +kernel
theorem dX8_format_192 : decode cX8_format 192 = .ok (.istore 5, 2) := by decide +kernel
theorem dX8_format_194 : decode cX8_format 194 = .ok (.iload 5, 2) := by decide +kernel
theorem dX8_format_196 : decode cX8_format 196 = .ok (.iload 4, 2) := by decide +kernel
theorem dX8_format_198 : decode cX8_format 198 = .ok (.invokestatic 77, 3) := by decide +kernel
theorem dX8_format_201 : decode cX8_format 201 = .ok (.if_icmp .ge 178, 3) := by decide +kernel
theorem dX8_format_204 : decode cX8_format 204 = .ok (.aload_n 0, 1) := by decide +kernel
theorem dX8_format_205 : decode cX8_format 205 = .ok (.invokevirtual 96, 3) := by decide +kernel
theorem dX8_format_208 : decode cX8_format 208 = .ok (.aload_n 0, 1) := by decide +kernel
theorem dX8_format_209 : decode cX8_format 209 = .ok (.bipush 8, 2) := by decide +kernel
theorem dX8_format_211 : decode cX8_format 211 = .ok (.invokevirtual 99, 3) := by decide +kernel
theorem dX8_format_214 : decode cX8_format 214 = .ok (.aload_n 0, 1) := by decide +kernel
theorem dX8_format_215 : decode cX8_format 215 = .ok (.iload 5, 2) := by decide +kernel
theorem dX8_format_217 : decode cX8_format 217 = .ok (.iload 4, 2) := by decide +kernel
theorem dX8_format_219 : decode cX8_format 219 = .ok (.ixor, 1) := by decide +kernel
theorem dX8_format_220 : decode cX8_format 220 = .ok (.aload_n 0, 1) := by decide +kernel
theorem dX8_format_221 : decode cX8_format 221 = .ok (.getfield 24, 3) := by decide +kernel
theorem dX8_format_224 : decode cX8_format 224 = .ok (.bipush 8, 2) := by decide +kernel
theorem dX8_format_226 : decode cX8_format 226 = .ok (.ishr, 1) := by decide +kernel
theorem dX8_format_227 : decode cX8_format 227 = .ok (.ixor, 1) := by decide +kernel
theorem dX8_format_228 : decode cX8_format 228 = .ok (.aload_n 0, 1) := by decide +kernel
theorem dX8_format_229 : decode cX8_format 229 = .ok (.getfield 24, 3) := by decide +kernel
theorem dX8_format_232 : decode cX8_format 232 = .ok (.sipush 255, 3) := by decide +kernel
theorem dX8_format_235 : decode cX8_format 235 = .ok (.iand, 1) := by decide +kernel
theorem dX8_format_236 : decode cX8_format 236 = .ok (.ixor, 1) := by decide +kernel
theorem dX8_format_237 : decode cX8_format 237 = .ok (.invokevirtual 99, 3) := by decide +kernel
theorem dX8_format_240 : decode cX8_format 240 = .ok (.aload_n 0, 1) := by decide +kernel
theorem dX8_format_241 : decode cX8_format 241 = .ok (.iload 5, 2) := by decide +kernel
theorem dX8_format_243 : decode cX8_format 243 = .ok (.invokevirtual 99, 3) := by decide +kernel
theorem dX8_format_246 : decode cX8_format 246 = .ok (.aload_n 0, 1) := by decide +kernel
theorem dX8_format_247 : decode cX8_format 247 = .ok (.iload 4, 2) := by decide +kernel
theorem dX8_format_249 : decode cX8_format 249 = .ok (.invokevirtual 99, 3) := by decide +kernel
theorem dX8_format_252 : decode cX8_format 252 = .ok (.aload_n 0, 1) := by decide +kernel
theorem dX8_format_253 : decode cX8_format 253 = .ok (.aload_n 0, 1) := by decide +kernel
theorem dX8_format_254 : decode cX8_format 254 = .ok (.getfield 24, 3) := by decide +kernel
theorem dX8_format_257 : decode cX8_format 257 = .ok (.bipush 8, 2) := by decide +kernel
theorem dX8_format_259 : decode cX8_format 259 = .ok (.ishr, 1) := by decide +kernel
theorem dX8_format_260 : decode cX8_format 260 = .ok (.invokevirtual 99, 3) := by decide +kernel
theorem dX8_format_263 : decode cX8_format 263 = .ok (.aload_n 0, 1) := by decide +kernel
theorem dX8_format_264 : decode cX8_format 264 = .ok (.aload_n 0, 1) := by decide +kernel
theorem dX8_format_265 : decode cX8_format 265 = .ok (.getfield 24, 3) := by decide +kernel
theorem dX8_format_268 : decode cX8_format 268 = .ok (.sipush 255, 3) := by decide +kernel
theorem dX8_format_271 : decode cX8_format 271 = .ok (.iand, 1) := by decide +kernel
theorem dX8_format_272 : decode cX8_format 272 = .ok (.invokevirtual 99, 3) := by decide +kernel
theorem dX8_format_275 : decode cX8_format 275 = .ok (.iconst 0, 1) := by decide +kernel
theorem dX8_format_276 : decode cX8_format 276 = .ok (.istore 6, 2) := by decide +kernel
theorem dX8_format_278 : decode cX8_format 278 = .ok (.iload 6, 2) := by decide +kernel
theorem dX8_format_280 : decode cX8_format 280 = .ok (.bipush 6, 2) := by decide +kernel
theorem dX8_format_282 : decode cX8_format 282 = .ok (.if_icmp .ge 17, 3) := by decide +kernel
theorem dX8_format_285 : decode cX8_format 285 = .ok (.aload_n 0, 1) := by decide +kernel
theorem dX8_format_286 : decode cX8_format 286 = .ok (.bipush 85, 2) := by decide +kernel
theorem dX8_format_288 : decode cX8_format 288 = .ok (.bipush 8, 2) := by decide +kernel
theorem dX8_format_290 : decode cX8_format 290 = .ok (.invokevirtual 92, 3) := by decide +kernel
theorem dX8_format_293 : decode cX8_format 293 = .ok (.iinc 6 1, 3) := by decide +kernel
theorem dX8_format_296 : decode cX8_format 296 = .ok (.goto (-18), 3) := by decide +kernel
theorem dX8_format_299 : decode cX8_format 299 = .ok (.iconst 0, 1) := by decide +kernel
theorem dX8_format_300 : decode cX8_format 300 = .ok (.istore 6, 2) := by decide +kernel
theorem dX8_format_302 : decode cX8_format 302 = .ok (.iload 6, 2) := by decide +kernel
theorem dX8_format_304 : decode cX8_format 304 = .ok (.bipush 64, 2) := by decide +kernel
theorem dX8_format_306 : decode cX8_format 306 = .ok (.if_icmp .ge 39, 3) := by decide +kernel
theorem dX8_format_309 : decode cX8_format 309 = .ok (.aload_n 0, 1) := by decide +kernel
theorem dX8_format_310 : decode cX8_format 310 = .ok (.getfield 37, 3) := by decide +kernel
theorem dX8_format_313 : decode cX8_format 313 = .ok (.iload 6, 2) := by decide +kernel
theorem dX8_format_315 : decode cX8_format 315 = .ok (.iload 4, 2) := by decide +kernel
theorem dX8_format_317 : decode cX8_format 317 = .ok (.bipush 9, 2) := by decide +kernel
theorem dX8_format_319 : decode cX8_format 319 = .ok (.if_icmp .ne 18, 3) := by decide +kernel
theorem dX8_format_322 : decode cX8_format 322 = .ok (.iload 5, 2) := by decide +kernel
theorem dX8_format_324 : decode cX8_format 324 = .ok (.ifCond .ne 13, 3) := by decide +kernel
theorem dX8_format_327 : decode cX8_format 327 = .ok (.aload_n 0, 1) := by decide +kernel
theorem dX8_format_328 : decode cX8_format 328 = .ok (.getfield 40, 3) := by decide +kernel
theorem dX8_format_331 : decode cX8_format 331 = .ok (.iload 6, 2) := by decide +kernel
theorem dX8_format_333 : decode cX8_format 333 = .ok (.iaload, 1) := by decide +kernel
theorem dX8_format_334 : decode cX8_format 334 = .ok (.goto 4, 3) := by decide +kernel
theorem dX8_format_337 : decode cX8_format 337 = .ok (.iconst 0, 1) := by decide +kernel
theorem dX8_format_338 : decode cX8_format 338 = .ok (.iastore, 1) := by decide +kernel
theorem dX8_format_339 : decode cX8_format 339 = .ok (.iinc 6 1, 3) := by decide +kernel
theorem dX8_format_342 : decode cX8_format 342 = .ok (.goto (-40), 3) := by decide +kernel
theorem dX8_format_345 : decode cX8_format 345 = .ok (.aload_n 0, 1) := by decide +kernel
theorem dX8_format_346 : decode cX8_format 346 = .ok (.invokevirtual 128, 3) := by decide +kernel
theorem dX8_format_349 : decode cX8_format 349 = .ok (.iconst 0, 1) := by decide +kernel
theorem dX8_format_350 : decode cX8_format 350 = .ok (.istore 6, 2) := by decide +kernel
theorem dX8_format_352 : decode cX8_format 352 = .ok (.iload 6, 2) := by decide +kernel
theorem dX8_format_354 : decode cX8_format 354 = .ok (.bipush 8, 2) := by decide +kernel
theorem dX8_format_356 : decode cX8_format 356 = .ok (.if_icmp .ge 17, 3) := by decide +kernel
theorem dX8_format_359 : decode cX8_format 359 = .ok (.aload_n 0, 1) := by decide +kernel
theorem dX8_format_360 : decode cX8_format 360 = .ok (.bipush 85, 2) := by decide +kernel
theorem dX8_format_362 : decode cX8_format 362 = .ok (.bipush 8, 2) := by decide +kernel
theorem dX8_format_364 : decode cX8_format 364 = .ok (.invokevirtual 92, 3) := by decide +kernel
theorem dX8_format_367 : decode cX8_format 367 = .ok (.iinc 6 1, 3) := by decide +kernel
theorem dX8_format_370 : decode cX8_format 370 = .ok (.goto (-18), 3) := by decide +kernel
theorem dX8_format_373 : decode cX8_format 373 = .ok (.iinc 5 1, 3) := by decide +kernel
theorem dX8_format_376 : decode cX8_format 376 = .ok (.goto (-182), 3) := by decide +kernel
theorem dX8_format_379 : decode cX8_format 379 = .ok (.aload_n 0, 1) := by decide +kernel
theorem dX8_format_380 : decode cX8_format 380 = .ok (.getfield 89, 3) := by decide +kernel
theorem dX8_format_383 : decode cX8_format 383 = .ok (.iload 4, 2) := by decide +kernel
theorem dX8_format_385 : decode cX8_format 385 = .ok (.invokestatic 66, 3) := by decide +kernel
theorem dX8_format_388 : decode cX8_format 388 = .ok (.if_icmp .ge 14, 3) := by decide +kernel
theorem dX8_format_391 : decode cX8_format 391 = .ok (.aload_n 0, 1) := by decide +kernel
theorem dX8_format_392 : decode cX8_format 392 = .ok (.bipush 85, 2) := by decide +kernel
theorem dX8_format_394 : decode cX8_format 394 = .ok (.bipush 8, 2) := by decide +kernel
theorem dX8_format_396 : decode cX8_format 396 = .ok (.invokevirtual 92, 3) := by decide +kernel
theorem dX8_format_399 : decode cX8_format 399 = .ok (.goto (-20), 3) := by decide +kernel
theorem dX8_format_402 : decode cX8_format 402 = .ok (.iinc 4 1, 3) := by decide +kernel
theorem dX8_format_405 : decode cX8_format 405 = .ok (.goto (-232), 3) := by decide +kernel
theorem dX8_format_408 : decode cX8_format 408 = .ok (.aload_n 0, 1) := by decide +kernel
theorem dX8_format_409 : decode cX8_format 409 = .ok (.iconst 0, 1) := by decide +kernel
theorem dX8_format_410 : decode cX8_format 410 = .ok (.iconst 0, 1) := by decide +kernel
theorem dX8_format_411 : decode cX8_format 411 = .ok (.iconst 0, 1) := by decide +kernel
theorem dX8_format_412 : decode cX8_format 412 = .ok (.invokevirtual 143, 3) := by decide +kernel
theorem dX8_format_415 : decode cX8_format 415 = .ok (.ireturn, 1) := by decide +kernel
theorem dX8_mount_0 : decode cX8_mount 0 = .ok (.aload_n 0, 1) := by decide +kernel
theorem dX8_mount_1 : decode cX8_mount 1 = .ok (.iload_n 1, 1) := by decide +kernel
theorem dX8_mount_2 : decode cX8_mount 2 = .ok (.ldc 175, 2) := by decide +kernel
theorem dX8_mount_4 : decode cX8_mount 4 = .ok (.iand, 1) := by decide +kernel
theorem dX8_mount_5 : decode cX8_mount 5 = .ok (.putfield 24, 3) := by decide +kernel
theorem dX8_mount_8 : decode cX8_mount 8 = .ok (.aload_n 0, 1) := by decide +kernel
theorem dX8_mount_9 : decode cX8_mount 9 = .ok (.iconst 0, 1) := by decide +kernel
theorem dX8_mount_10 : decode cX8_mount 10 = .ok (.iconst 0, 1) := by decide +kernel
theorem dX8_mount_11 : decode cX8_mount 11 = .ok (.iconst 0, 1) := by decide +kernel
theorem dX8_mount_12 : decode cX8_mount 12 = .ok (.invokevirtual 143, 3) := by decide +kernel
theorem dX8_mount_15 : decode cX8_mount 15 = .ok (.ireturn, 1) := by decide +kernel
theorem dX8_takes_0 : decode cX8_takes 0 = .ok (.aload_n 0, 1) := by decide +kernel
theorem dX8_takes_1 : decode cX8_takes 1 = .ok (.iconst 0, 1) := by decide +kernel
theorem dX8_takes_2 : decode cX8_takes 2 = .ok (.putfield 180, 3) := by decide +kernel
theorem dX8_takes_5 : decode cX8_takes 5 = .ok (.iconst 0, 1) := by decide +kernel
theorem dX8_takes_6 : decode cX8_takes 6 = .ok (.istore_n 2, 1) := by decide +kernel
theorem dX8_takes_7 : decode cX8_takes 7 = .ok (.iload_n 2, 1) := by decide +kernel
theorem dX8_takes_8 : decode cX8_takes 8 = .ok (.bipush 16, 2) := by decide +kernel
theorem dX8_takes_10 : decode cX8_takes 10 = .ok (.if_icmp .ge 102, 3) := by decide +kernel
theorem dX8_takes_13 : decode cX8_takes 13 = .ok (.iload_n 2, 1) := by decide +kernel
theorem dX8_takes_14 : decode cX8_takes 14 = .ok (.bipush 8, 2) := by decide +kernel
theorem dX8_takes_16 : decode cX8_takes 16 = .ok (.if_icmp .ge 10, 3) := by decide +kernel
theorem dX8_takes_19 : decode cX8_takes 19 = .ok (.bipush 8, 2) := by decide +kernel
theorem dX8_takes_21 : decode cX8_takes 21 = .ok (.iload_n 2, 1) := by decide +kernel
theorem dX8_takes_22 : decode cX8_takes 22 = .ok (.isub, 1) := by decide +kernel
theorem dX8_takes_23 : decode cX8_takes 23 = .ok (.goto 6, 3) := by decide +kernel
theorem dX8_takes_26 : decode cX8_takes 26 = .ok (.iload_n 2, 1) := by decide +kernel
theorem dX8_takes_27 : decode cX8_takes 27 = .ok (.iconst 1, 1) := by decide +kernel
theorem dX8_takes_28 : decode cX8_takes 28 = .ok (.iadd, 1) := by decide +kernel
theorem dX8_takes_29 : decode cX8_takes 29 = .ok (.istore_n 3, 1) := by decide +kernel
theorem dX8_takes_30 : decode cX8_takes 30 = .ok (.iconst 0, 1) := by decide +kernel
theorem dX8_takes_31 : decode cX8_takes 31 = .ok (.istore 4, 2) := by decide +kernel
theorem dX8_takes_33 : decode cX8_takes 33 = .ok (.iload 4, 2) := by decide +kernel
theorem dX8_takes_35 : decode cX8_takes 35 = .ok (.iload_n 3, 1) := by decide +kernel
theorem dX8_takes_36 : decode cX8_takes 36 = .ok (.invokestatic 77, 3) := by decide +kernel
theorem dX8_takes_39 : decode cX8_takes 39 = .ok (.if_icmp .ge 67, 3) := by decide +kernel
theorem dX8_takes_42 : decode cX8_takes 42 = .ok (.iload_n 3, 1) := by decide +kernel
theorem dX8_takes_43 : decode cX8_takes 43 = .ok (.bipush 9, 2) := by decide +kernel
theorem dX8_takes_45 : decode cX8_takes 45 = .ok (.if_icmp .eq 61, 3) := by decide +kernel
theorem dX8_takes_48 : decode cX8_takes 48 = .ok (.aload_n 0, 1) := by decide +kernel
theorem dX8_takes_49 : decode cX8_takes 49 = .ok (.getfield 180, 3) := by decide +kernel
theorem dX8_takes_52 : decode cX8_takes 52 = .ok (.iload_n 1, 1) := by decide +kernel
theorem dX8_takes_53 : decode cX8_takes 53 = .ok (.if_icmp .ge 53, 3) := by decide +kernel
theorem dX8_takes_56 : decode cX8_takes 56 = .ok (.aload_n 0, 1) := by decide +kernel
theorem dX8_takes_57 : decode cX8_takes 57 = .ok (.iload_n 3, 1) := by decide +kernel
theorem dX8_takes_58 : decode cX8_takes 58 = .ok (.iload 4, 2) := by decide +kernel
theorem dX8_takes_60 : decode cX8_takes 60 = .ok (.invokevirtual 183, 3) := by decide +kernel
theorem dX8_takes_63 : decode cX8_takes 63 = .ok (.ifCond .ne 6, 3) := by decide +kernel
theorem dX8_takes_66 : decode cX8_takes 66 = .ok (.goto 34, 3) := by decide +kernel
theorem dX8_takes_69 : decode cX8_takes 69 = .ok (.aload_n 0, 1) := by decide +kernel
theorem dX8_takes_70 : decode cX8_takes 70 = .ok (.getfield 52, 3) := by decide +kernel
theorem dX8_takes_73 : decode cX8_takes 73 = .ok (.aload_n 0, 1) := by decide +kernel
theorem dX8_takes_74 : decode cX8_takes 74 = .ok (.getfield 180, 3) := by decide +kernel
theorem dX8_takes_77 : decode cX8_takes 77 = .ok (.iload_n 3, 1) := by decide +kernel
theorem dX8_takes_78 : decode cX8_takes 78 = .ok (.iastore, 1) := by decide +kernel
theorem dX8_takes_79 : decode cX8_takes 79 = .ok (.aload_n 0, 1) := by decide +kernel
theorem dX8_takes_80 : decode cX8_takes 80 = .ok (.getfield 55, 3) := by decide +kernel
theorem dX8_takes_83 : decode cX8_takes 83 = .ok (.aload_n 0, 1) := by decide +kernel
theorem dX8_takes_84 : decode cX8_takes 84 = .ok (.getfield 180, 3) := by decide +kernel
theorem dX8_takes_87 : decode cX8_takes 87 = .ok (.iload 4, 2) := by decide +kernel
theorem dX8_takes_89 : decode cX8_takes 89 = .ok (.iastore, 1) := by decide +kernel
theorem dX8_takes_90 : decode cX8_takes 90 = .ok (.aload_n 0, 1) := by decide +kernel
theorem dX8_takes_91 : decode cX8_takes 91 = .ok (.dup, 1) := by decide +kernel
theorem dX8_takes_92 : decode cX8_takes 92 = .ok (.getfield 180, 3) := by decide +kernel
theorem dX8_takes_95 : decode cX8_takes 95 = .ok (.iconst 1, 1) := by decide +kernel
theorem dX8_takes_96 : decode cX8_takes 96 = .ok (.iadd, 1) := by decide +kernel
theorem dX8_takes_97 : decode cX8_takes 97 = .ok (.putfield 180, 3) := by decide +kernel
theorem dX8_takes_100 : decode cX8_takes 100 = .ok (.iinc 4 1, 3) := by decide +kernel
theorem dX8_takes_103 : decode cX8_takes 103 = .ok (.goto (-70), 3) := by decide +kernel
theorem dX8_takes_106 : decode cX8_takes 106 = .ok (.iinc 2 1, 3) := by decide +kernel
theorem dX8_takes_109 : decode cX8_takes 109 = .ok (.goto (-102), 3) := by decide +kernel
theorem dX8_takes_112 : decode cX8_takes 112 = .ok (.aload_n 0, 1) := by decide +kernel
theorem dX8_takes_113 : decode cX8_takes 113 = .ok (.getfield 180, 3) := by decide +kernel
theorem dX8_takes_116 : decode cX8_takes 116 = .ok (.iload_n 1, 1) := by decide +kernel
theorem dX8_takes_117 : decode cX8_takes 117 = .ok (.if_icmp .ne 7, 3) := by decide +kernel
theorem dX8_takes_120 : decode cX8_takes 120 = .ok (.iconst 1, 1) := by decide +kernel
theorem dX8_takes_121 : decode cX8_takes 121 = .ok (.goto 4, 3) := by decide +kernel
theorem dX8_takes_124 : decode cX8_takes 124 = .ok (.iconst 0, 1) := by decide +kernel
theorem dX8_takes_125 : decode cX8_takes 125 = .ok (.ireturn, 1) := by decide +kernel
theorem dX8_writeFile_0 : decode cX8_writeFile 0 = .ok (.iconst 0, 1) := by decide +kernel
theorem dX8_writeFile_1 : decode cX8_writeFile 1 = .ok (.istore_n 2, 1) := by decide +kernel
theorem dX8_writeFile_2 : decode cX8_writeFile 2 = .ok (.iload_n 2, 1) := by decide +kernel
theorem dX8_writeFile_3 : decode cX8_writeFile 3 = .ok (.aload_n 0, 1) := by decide +kernel
theorem dX8_writeFile_4 : decode cX8_writeFile 4 = .ok (.getfield 180, 3) := by decide +kernel
theorem dX8_writeFile_7 : decode cX8_writeFile 7 = .ok (.if_icmp .ge 176, 3) := by decide +kernel
theorem dX8_writeFile_10 : decode cX8_writeFile 10 = .ok (.iload_n 2, 1) := by decide +kernel
theorem dX8_writeFile_11 : decode cX8_writeFile 11 = .ok (.iconst 1, 1) := by decide +kernel
theorem dX8_writeFile_12 : decode cX8_writeFile 12 = .ok (.iadd, 1) := by decide +kernel
theorem dX8_writeFile_13 : decode cX8_writeFile 13 = .ok (.aload_n 0, 1) := by decide +kernel
theorem dX8_writeFile_14 : decode cX8_writeFile 14 = .ok (.getfield 180, 3) := by decide +kernel
theorem dX8_writeFile_17 : decode cX8_writeFile 17 = .ok (.if_icmp .ne 7, 3) := by decide +kernel
theorem dX8_writeFile_20 : decode cX8_writeFile 20 = .ok (.iconst 1, 1) := by decide +kernel
theorem dX8_writeFile_21 : decode cX8_writeFile 21 = .ok (.goto 4, 3) := by decide +kernel
theorem dX8_writeFile_24 : decode cX8_writeFile 24 = .ok (.iconst 0, 1) := by decide +kernel
theorem dX8_writeFile_25 : decode cX8_writeFile 25 = .ok (.istore_n 3, 1) := by decide +kernel
theorem dX8_writeFile_26 : decode cX8_writeFile 26 = .ok (.iload_n 1, 1) := by decide +kernel
theorem dX8_writeFile_27 : decode cX8_writeFile 27 = .ok (.bipush 62, 2) := by decide +kernel
theorem dX8_writeFile_29 : decode cX8_writeFile 29 = .ok (.iload_n 2, 1) := by decide +kernel
theorem dX8_writeFile_30 : decode cX8_writeFile 30 = .ok (.imul, 1) := by decide +kernel
theorem dX8_writeFile_31 : decode cX8_writeFile 31 = .ok (.isub, 1) := by decide +kernel
theorem dX8_writeFile_32 : decode cX8_writeFile 32 = .ok (.istore 4, 2) := by decide +kernel
theorem dX8_writeFile_34 : decode cX8_writeFile 34 = .ok (.aload_n 0, 1) := by decide +kernel
theorem dX8_writeFile_35 : decode cX8_writeFile 35 = .ok (.getfield 37, 3) := by decide +kernel
theorem dX8_writeFile_38 : decode cX8_writeFile 38 = .ok (.iconst 0, 1) := by decide +kernel
theorem dX8_writeFile_39 : decode cX8_writeFile 39 = .ok (.iload_n 3, 1) := by decide +kernel
theorem dX8_writeFile_40 : decode cX8_writeFile 40 = .ok (.ifCond .eq 7, 3) := by decide +kernel
theorem dX8_writeFile_43 : decode cX8_writeFile 43 = .ok (.iconst 0, 1) := by decide +kernel
theorem dX8_writeFile_44 : decode cX8_writeFile 44 = .ok (.goto 11, 3) := by decide +kernel
theorem dX8_writeFile_47 : decode cX8_writeFile 47 = .ok (.aload_n 0, 1) := by decide +kernel
theorem dX8_writeFile_48 : decode cX8_writeFile 48 = .ok (.getfield 52, 3) := by decide +kernel
theorem dX8_writeFile_51 : decode cX8_writeFile 51 = .ok (.iload_n 2, 1) := by decide +kernel
theorem dX8_writeFile_52 : decode cX8_writeFile 52 = .ok (.iconst 1, 1) := by decide +kernel
theorem dX8_writeFile_53 : decode cX8_writeFile 53 = .ok (.iadd, 1) := by decide +kernel
theorem dX8_writeFile_54 : decode cX8_writeFile 54 = .ok (.iaload, 1) := by decide +kernel
theorem dX8_writeFile_55 : decode cX8_writeFile 55 = .ok (.iastore, 1) := by decide +kernel
theorem dX8_writeFile_56 : decode cX8_writeFile 56 = .ok (.aload_n 0, 1) := by decide +kernel
theorem dX8_writeFile_57 : decode cX8_writeFile 57 = .ok (.getfield 37, 3) := by decide +kernel
theorem dX8_writeFile_60 : decode cX8_writeFile 60 = .ok (.iconst 1, 1) := by decide +kernel
theorem dX8_writeFile_61 : decode cX8_writeFile 61 = .ok (.iload_n 3, 1) := by decide +kernel
theorem dX8_writeFile_62 : decode cX8_writeFile 62 = .ok (.ifCond .eq 8, 3) := by decide +kernel
theorem dX8_writeFile_65 : decode cX8_writeFile 65 = .ok (.iload 4, 2) := by decide +kernel
theorem dX8_writeFile_67 : decode cX8_writeFile 67 = .ok (.goto 11, 3) := by decide +kernel
theorem dX8_writeFile_70 : decode cX8_writeFile 70 = .ok (.aload_n 0, 1) := by decide +kernel
theorem dX8_writeFile_71 : decode cX8_writeFile 71 = .ok (.getfield 55, 3) := by decide +kernel
theorem dX8_writeFile_74 : decode cX8_writeFile 74 = .ok (.iload_n 2, 1) := by decide +kernel
theorem dX8_writeFile_75 : decode cX8_writeFile 75 = .ok (.iconst 1, 1) := by decide +kernel
theorem dX8_writeFile_76 : decode cX8_writeFile 76 = .ok (.iadd, 1) := by decide +kernel
theorem dX8_writeFile_77 : decode cX8_writeFile 77 = .ok (.iaload, 1) := by decide +kernel
theorem dX8_writeFile_78 : decode cX8_writeFile 78 = .ok (.iastore, 1) := by decide +kernel
theorem dX8_writeFile_79 : decode cX8_writeFile 79 = .ok (.iconst 0, 1) := by decide +kernel
theorem dX8_writeFile_80 : decode cX8_writeFile 80 = .ok (.istore 5, 2) := by decide +kernel
theorem dX8_writeFile_82 : decode cX8_writeFile 82 = .ok (.iload 5, 2) := by decide +kernel
theorem dX8_writeFile_84 : decode cX8_writeFile 84 = .ok (.bipush 62, 2) := by decide +kernel
theorem dX8_writeFile_86 : decode cX8_writeFile 86 = .ok (.if_icmp .ge 41, 3) := by decide +kernel
theorem dX8_writeFile_89 : decode cX8_writeFile 89 = .ok (.aload_n 0, 1) := by decide +kernel
theorem dX8_writeFile_90 : decode cX8_writeFile 90 = .ok (.getfield 37, 3) := by decide +kernel
theorem dX8_writeFile_93 : decode cX8_writeFile 93 = .ok (.iconst 2, 1) := by decide +kernel
theorem dX8_writeFile_94 : decode cX8_writeFile 94 = .ok (.iload 5, 2) := by decide +kernel
theorem dX8_writeFile_96 : decode cX8_writeFile 96 = .ok (.iadd, 1) := by decide +kernel
theorem dX8_writeFile_97 : decode cX8_writeFile 97 = .ok (.iload 5, 2) := by decide +kernel
theorem dX8_writeFile_99 : decode cX8_writeFile 99 = .ok (.iload 4, 2) := by decide +kernel
theorem dX8_writeFile_101 : decode cX8_writeFile 101 = .ok (.if_icmp .ge 18, 3) := by decide +kernel
theorem dX8_writeFile_104 : decode cX8_writeFile 104 = .ok (.aload_n 0, 1) := by decide +kernel
theorem dX8_writeFile_105 : decode cX8_writeFile 105 = .ok (.getfield 28, 3) := by decide +kernel
theorem dX8_writeFile_108 : decode cX8_writeFile 108 = .ok (.bipush 62, 2) := by decide +kernel
theorem dX8_writeFile_110 : decode cX8_writeFile 110 = .ok (.iload_n 2, 1) := by decide +kernel
theorem dX8_writeFile_111 : decode cX8_writeFile 111 = .ok (.imul, 1) := by decide +kernel
theorem dX8_writeFile_112 : decode cX8_writeFile 112 = .ok (.iload 5, 2) := by decide +kernel
theorem dX8_writeFile_114 : decode cX8_writeFile 114 = .ok (.iadd, 1) := by decide +kernel
theorem dX8_writeFile_115 : decode cX8_writeFile 115 = .ok (.iaload, 1) := by decide +kernel
theorem dX8_writeFile_116 : decode cX8_writeFile 116 = .ok (.goto 4, 3) := by decide +kernel
theorem dX8_writeFile_119 : decode cX8_writeFile 119 = .ok (.iconst 0, 1) := by decide +kernel
theorem dX8_writeFile_120 : decode cX8_writeFile 120 = .ok (.iastore, 1) := by decide +kernel
theorem dX8_writeFile_121 : decode cX8_writeFile 121 = .ok (.iinc 5 1, 3) := by decide +kernel
theorem dX8_writeFile_124 : decode cX8_writeFile 124 = .ok (.goto (-42), 3) := by decide +kernel
theorem dX8_writeFile_127 : decode cX8_writeFile 127 = .ok (.aload_n 0, 1) := by decide +kernel
theorem dX8_writeFile_128 : decode cX8_writeFile 128 = .ok (.aload_n 0, 1) := by decide +kernel
theorem dX8_writeFile_129 : decode cX8_writeFile 129 = .ok (.getfield 52, 3) := by decide +kernel
theorem dX8_writeFile_132 : decode cX8_writeFile 132 = .ok (.iload_n 2, 1) := by decide +kernel
theorem dX8_writeFile_133 : decode cX8_writeFile 133 = .ok (.iaload, 1) := by decide +kernel
theorem dX8_writeFile_134 : decode cX8_writeFile 134 = .ok (.aload_n 0, 1) := by decide +kernel
theorem dX8_writeFile_135 : decode cX8_writeFile 135 = .ok (.getfield 55, 3) := by decide +kernel
theorem dX8_writeFile_138 : decode cX8_writeFile 138 = .ok (.iload_n 2, 1) := by decide +kernel
theorem dX8_writeFile_139 : decode cX8_writeFile 139 = .ok (.iaload, 1) := by decide +kernel
theorem dX8_writeFile_140 : decode cX8_writeFile 140 = .ok (.invokevirtual 150, 3) := by decide +kernel
theorem dX8_writeFile_143 : decode cX8_writeFile 143 = .ok (.istore 5, 2) := by decide +kernel
theorem dX8_writeFile_145 : decode cX8_writeFile 145 = .ok (.iload 5, 2) := by decide +kernel
theorem dX8_writeFile_147 : decode cX8_writeFile 147 = .ok (.ifCond .le 30, 3) := by decide +kernel
theorem dX8_writeFile_150 : decode cX8_writeFile 150 = .ok (.aload_n 0, 1) := by decide +kernel
theorem dX8_writeFile_151 : decode cX8_writeFile 151 = .ok (.iload 5, 2) := by decide +kernel
theorem dX8_writeFile_153 : decode cX8_writeFile 153 = .ok (.aload_n 0, 1) := by decide +kernel
theorem dX8_writeFile_154 : decode cX8_writeFile 154 = .ok (.getfield 52, 3) := by decide +kernel
theorem dX8_writeFile_157 : decode cX8_writeFile 157 = .ok (.iload_n 2, 1) := by decide +kernel
theorem dX8_writeFile_158 : decode cX8_writeFile 158 = .ok (.iaload, 1) := by decide +kernel
theorem dX8_writeFile_159 : decode cX8_writeFile 159 = .ok (.aload_n 0, 1) := by decide +kernel
theorem dX8_writeFile_160 : decode cX8_writeFile 160 = .ok (.getfield 55, 3) := by decide +kernel
theorem dX8_writeFile_163 : decode cX8_writeFile 163 = .ok (.iload_n 2, 1) := by decide +kernel
theorem dX8_writeFile_164 : decode cX8_writeFile 164 = .ok (.iaload, 1) := by decide +kernel
theorem dX8_writeFile_165 : decode cX8_writeFile 165 = .ok (.invokevirtual 143, 3) := by decide +kernel
theorem dX8_writeFile_168 : decode cX8_writeFile 168 = .ok (.ifCond .ne 7, 3) := by decide +kernel
theorem dX8_writeFile_171 : decode cX8_writeFile 171 = .ok (.iconst 1, 1) := by decide +kernel
theorem dX8_writeFile_172 : decode cX8_writeFile 172 = .ok (.goto 4, 3) := by decide +kernel
theorem dX8_writeFile_175 : decode cX8_writeFile 175 = .ok (.iconst 0, 1) := by decide +kernel
theorem dX8_writeFile_176 : decode cX8_writeFile 176 = .ok (.ireturn, 1) := by decide +kernel
theorem dX8_writeFile_177 : decode cX8_writeFile 177 = .ok (.iinc 2 1, 3) := by decide +kernel
theorem dX8_writeFile_180 : decode cX8_writeFile 180 = .ok (.goto (-178), 3) := by decide +kernel
theorem dX8_writeFile_183 : decode cX8_writeFile 183 = .ok (.iconst 1, 1) := by decide +kernel
theorem dX8_writeFile_184 : decode cX8_writeFile 184 = .ok (.ireturn, 1) := by decide +kernel
theorem dX8_emptyEntry_0 : decode cX8_emptyEntry 0 = .ok (.iconst 0, 1) := by decide +kernel
theorem dX8_emptyEntry_1 : decode cX8_emptyEntry 1 = .ok (.istore_n 1, 1) := by decide +kernel
theorem dX8_emptyEntry_2 : decode cX8_emptyEntry 2 = .ok (.iload_n 1, 1) := by decide +kernel
theorem dX8_emptyEntry_3 : decode cX8_emptyEntry 3 = .ok (.aload_n 0, 1) := by decide +kernel
theorem dX8_emptyEntry_4 : decode cX8_emptyEntry 4 = .ok (.getfield 156, 3) := by decide +kernel
theorem dX8_emptyEntry_7 : decode cX8_emptyEntry 7 = .ok (.if_icmp .ge 44, 3) := by decide +kernel
theorem dX8_emptyEntry_10 : decode cX8_emptyEntry 10 = .ok (.iconst 2, 1) := by decide +kernel
theorem dX8_emptyEntry_11 : decode cX8_emptyEntry 11 = .ok (.istore_n 2, 1) := by decide +kernel
theorem dX8_emptyEntry_12 : decode cX8_emptyEntry 12 = .ok (.iload_n 2, 1) := by decide +kernel
theorem dX8_emptyEntry_13 : decode cX8_emptyEntry 13 = .ok (.bipush 62, 2) := by decide +kernel
theorem dX8_emptyEntry_15 : decode cX8_emptyEntry 15 = .ok (.if_icmp .ge 30, 3) := by decide +kernel
theorem dX8_emptyEntry_18 : decode cX8_emptyEntry 18 = .ok (.aload_n 0, 1) := by decide +kernel
theorem dX8_emptyEntry_19 : decode cX8_emptyEntry 19 = .ok (.getfield 43, 3) := by decide +kernel
theorem dX8_emptyEntry_22 : decode cX8_emptyEntry 22 = .ok (.bipush 64, 2) := by decide +kernel
theorem dX8_emptyEntry_24 : decode cX8_emptyEntry 24 = .ok (.iload_n 1, 1) := by decide +kernel
theorem dX8_emptyEntry_25 : decode cX8_emptyEntry 25 = .ok (.imul, 1) := by decide +kernel
theorem dX8_emptyEntry_26 : decode cX8_emptyEntry 26 = .ok (.iload_n 2, 1) := by decide +kernel
theorem dX8_emptyEntry_27 : decode cX8_emptyEntry 27 = .ok (.iadd, 1) := by decide +kernel
theorem dX8_emptyEntry_28 : decode cX8_emptyEntry 28 = .ok (.iaload, 1) := by decide +kernel
theorem dX8_emptyEntry_29 : decode cX8_emptyEntry 29 = .ok (.ifCond .ne 10, 3) := by decide +kernel
theorem dX8_emptyEntry_32 : decode cX8_emptyEntry 32 = .ok (.bipush 64, 2) := by decide +kernel
theorem dX8_emptyEntry_34 : decode cX8_emptyEntry 34 = .ok (.iload_n 1, 1) := by decide +kernel
theorem dX8_emptyEntry_35 : decode cX8_emptyEntry 35 = .ok (.imul, 1) := by decide +kernel
theorem dX8_emptyEntry_36 : decode cX8_emptyEntry 36 = .ok (.iload_n 2, 1) := by decide +kernel
theorem dX8_emptyEntry_37 : decode cX8_emptyEntry 37 = .ok (.iadd, 1) := by decide +kernel
theorem dX8_emptyEntry_38 : decode cX8_emptyEntry 38 = .ok (.ireturn, 1) := by decide +kernel
theorem dX8_emptyEntry_39 : decode cX8_emptyEntry 39 = .ok (.iinc 2 12, 3) := by decide +kernel
theorem dX8_emptyEntry_42 : decode cX8_emptyEntry 42 = .ok (.goto (-30), 3) := by decide +kernel
theorem dX8_emptyEntry_45 : decode cX8_emptyEntry 45 = .ok (.iinc 1 1, 3) := by decide +kernel
theorem dX8_emptyEntry_48 : decode cX8_emptyEntry 48 = .ok (.goto (-46), 3) := by decide +kernel
theorem dX8_emptyEntry_51 : decode cX8_emptyEntry 51 = .ok (.iconst (-1), 1) := by decide +kernel
theorem dX8_emptyEntry_52 : decode cX8_emptyEntry 52 = .ok (.ireturn, 1) := by decide +kernel
theorem dX8_freeOfDirectory_0 : decode cX8_freeOfDirectory 0 = .ok (.iconst (-1), 1) := by decide +kernel
theorem dX8_freeOfDirectory_1 : decode cX8_freeOfDirectory 1 = .ok (.istore_n 1, 1) := by decide +kernel
theorem dX8_freeOfDirectory_2 : decode cX8_freeOfDirectory 2 = .ok (.bipush 9, 2) := by decide +kernel
theorem dX8_freeOfDirectory_4 : decode cX8_freeOfDirectory 4 = .ok (.invokestatic 77, 3) := by decide +kernel
theorem dX8_freeOfDirectory_7 : decode cX8_freeOfDirectory 7 = .ok (.iconst 1, 1) := by decide +kernel
theorem dX8_freeOfDirectory_8 : decode cX8_freeOfDirectory 8 = .ok (.isub, 1) := by decide +kernel
theorem dX8_freeOfDirectory_9 : decode cX8_freeOfDirectory 9 = .ok (.istore_n 2, 1) := by decide +kernel
theorem dX8_freeOfDirectory_10 : decode cX8_freeOfDirectory 10 = .ok (.iload_n 2, 1) := by decide +kernel
theorem dX8_freeOfDirectory_11 : decode cX8_freeOfDirectory 11 = .ok (.ifCond .lt 25, 3) := by decide +kernel
theorem dX8_freeOfDirectory_14 : decode cX8_freeOfDirectory 14 = .ok (.aload_n 0, 1) := by decide +kernel
theorem dX8_freeOfDirectory_15 : decode cX8_freeOfDirectory 15 = .ok (.bipush 9, 2) := by decide +kernel
theorem dX8_freeOfDirectory_17 : decode cX8_freeOfDirectory 17 = .ok (.iload_n 2, 1) := by decide +kernel
theorem dX8_freeOfDirectory_18 : decode cX8_freeOfDirectory 18 = .ok (.invokevirtual 183, 3) := by decide +kernel
theorem dX8_freeOfDirectory_21 : decode cX8_freeOfDirectory 21 = .ok (.ifCond .eq 7, 3) := by decide +kernel
theorem dX8_freeOfDirectory_24 : decode cX8_freeOfDirectory 24 = .ok (.iload_n 2, 1) := by decide +kernel
theorem dX8_freeOfDirectory_25 : decode cX8_freeOfDirectory 25 = .ok (.goto 4, 3) := by decide +kernel
theorem dX8_freeOfDirectory_28 : decode cX8_freeOfDirectory 28 = .ok (.iload_n 1, 1) := by decide +kernel
theorem dX8_freeOfDirectory_29 : decode cX8_freeOfDirectory 29 = .ok (.istore_n 1, 1) := by decide +kernel
theorem dX8_freeOfDirectory_30 : decode cX8_freeOfDirectory 30 = .ok (.iinc 2 (-1), 3) := by decide +kernel
theorem dX8_freeOfDirectory_33 : decode cX8_freeOfDirectory 33 = .ok (.goto (-23), 3) := by decide +kernel
theorem dX8_freeOfDirectory_36 : decode cX8_freeOfDirectory 36 = .ok (.iload_n 1, 1) := by decide +kernel
theorem dX8_freeOfDirectory_37 : decode cX8_freeOfDirectory 37 = .ok (.ireturn, 1) := by decide +kernel
theorem dX8_saves_0 : decode cX8_saves 0 = .ok (.aload_n 0, 1) := by decide +kernel
theorem dX8_saves_1 : decode cX8_saves 1 = .ok (.invokevirtual 186, 3) := by decide +kernel
theorem dX8_saves_4 : decode cX8_saves 4 = .ok (.ifCond .eq 13, 3) := by decide +kernel
theorem dX8_saves_7 : decode cX8_saves 7 = .ok (.aload_n 0, 1) := by decide +kernel
theorem dX8_saves_8 : decode cX8_saves 8 = .ok (.iconst 1, 1) := by decide +kernel
theorem dX8_saves_9 : decode cX8_saves 9 = .ok (.iload_n 2, 1) := by decide +kernel
theorem dX8_saves_10 : decode cX8_saves 10 = .ok (.iload_n 3, 1) := by decide +kernel
theorem dX8_saves_11 : decode cX8_saves 11 = .ok (.invokevirtual 190, 3) := by decide +kernel
theorem dX8_saves_14 : decode cX8_saves 14 = .ok (.ifCond .ne 5, 3) := by decide +kernel
theorem dX8_saves_17 : decode cX8_saves 17 = .ok (.iconst 0, 1) := by decide +kernel
theorem dX8_saves_18 : decode cX8_saves 18 = .ok (.ireturn, 1) := by decide +kernel
theorem dX8_saves_19 : decode cX8_saves 19 = .ok (.aload_n 0, 1) := by decide +kernel
theorem dX8_saves_20 : decode cX8_saves 20 = .ok (.getfield 159, 3) := by decide +kernel
theorem dX8_saves_23 : decode cX8_saves 23 = .ok (.ifCond .lt 36, 3) := by decide +kernel
theorem dX8_saves_26 : decode cX8_saves 26 = .ok (.aload_n 0, 1) := by decide +kernel
theorem dX8_saves_27 : decode cX8_saves 27 = .ok (.bipush 63, 2) := by decide +kernel
theorem dX8_saves_29 : decode cX8_saves 29 = .ok (.aload_n 0, 1) := by decide +kernel
theorem dX8_saves_30 : decode cX8_saves 30 = .ok (.getfield 46, 3) := by decide +kernel
theorem dX8_saves_33 : decode cX8_saves 33 = .ok (.aload_n 0, 1) := by decide +kernel
theorem dX8_saves_34 : decode cX8_saves 34 = .ok (.getfield 159, 3) := by decide +kernel
theorem dX8_saves_37 : decode cX8_saves 37 = .ok (.iaload, 1) := by decide +kernel
theorem dX8_saves_38 : decode cX8_saves 38 = .ok (.aload_n 0, 1) := by decide +kernel
theorem dX8_saves_39 : decode cX8_saves 39 = .ok (.getfield 49, 3) := by decide +kernel
theorem dX8_saves_42 : decode cX8_saves 42 = .ok (.aload_n 0, 1) := by decide +kernel
theorem dX8_saves_43 : decode cX8_saves 43 = .ok (.getfield 159, 3) := by decide +kernel
theorem dX8_saves_46 : decode cX8_saves 46 = .ok (.iaload, 1) := by decide +kernel
theorem dX8_saves_47 : decode cX8_saves 47 = .ok (.invokevirtual 143, 3) := by decide +kernel
theorem dX8_saves_50 : decode cX8_saves 50 = .ok (.ifCond .ne 7, 3) := by decide +kernel
theorem dX8_saves_53 : decode cX8_saves 53 = .ok (.iconst 1, 1) := by decide +kernel
theorem dX8_saves_54 : decode cX8_saves 54 = .ok (.goto 4, 3) := by decide +kernel
theorem dX8_saves_57 : decode cX8_saves 57 = .ok (.iconst 0, 1) := by decide +kernel
theorem dX8_saves_58 : decode cX8_saves 58 = .ok (.ireturn, 1) := by decide +kernel
theorem dX8_saves_59 : decode cX8_saves 59 = .ok (.aload_n 0, 1) := by decide +kernel
theorem dX8_saves_60 : decode cX8_saves 60 = .ok (.invokevirtual 194, 3) := by decide +kernel
theorem dX8_saves_63 : decode cX8_saves 63 = .ok (.istore 5, 2) := by decide +kernel
theorem dX8_saves_65 : decode cX8_saves 65 = .ok (.iload 5, 2) := by decide +kernel
theorem dX8_saves_67 : decode cX8_saves 67 = .ok (.ifCond .ge 7, 3) := by decide +kernel
theorem dX8_saves_70 : decode cX8_saves 70 = .ok (.iconst 1, 1) := by decide +kernel
theorem dX8_saves_71 : decode cX8_saves 71 = .ok (.goto 4, 3) := by decide +kernel
theorem dX8_saves_74 : decode cX8_saves 74 = .ok (.iconst 0, 1) := by decide +kernel
theorem dX8_saves_75 : decode cX8_saves 75 = .ok (.istore 6, 2) := by decide +kernel
theorem dX8_saves_77 : decode cX8_saves 77 = .ok (.iload 6, 2) := by decide +kernel
theorem dX8_saves_79 : decode cX8_saves 79 = .ok (.ifCond .eq 10, 3) := by decide +kernel
theorem dX8_saves_82 : decode cX8_saves 82 = .ok (.aload_n 0, 1) := by decide +kernel
theorem dX8_saves_83 : decode cX8_saves 83 = .ok (.invokevirtual 198, 3) := by decide +kernel
theorem dX8_saves_86 : decode cX8_saves 86 = .ok (.goto 4, 3) := by decide +kernel
theorem dX8_saves_89 : decode cX8_saves 89 = .ok (.iconst 0, 1) := by decide +kernel
theorem dX8_saves_90 : decode cX8_saves 90 = .ok (.istore 7, 2) := by decide +kernel
theorem dX8_saves_92 : decode cX8_saves 92 = .ok (.iload 6, 2) := by decide +kernel
theorem dX8_saves_94 : decode cX8_saves 94 = .ok (.ifCond .eq 17, 3) := by decide +kernel
theorem dX8_saves_97 : decode cX8_saves 97 = .ok (.iload 7, 2) := by decide +kernel
theorem dX8_saves_99 : decode cX8_saves 99 = .ok (.ifCond .lt 38, 3) := by decide +kernel
theorem dX8_saves_102 : decode cX8_saves 102 = .ok (.aload_n 0, 1) := by decide +kernel
theorem dX8_saves_103 : decode cX8_saves 103 = .ok (.getfield 156, 3) := by decide +kernel
theorem dX8_saves_106 : decode cX8_saves 106 = .ok (.bipush 7, 2) := by decide +kernel
theorem dX8_saves_108 : decode cX8_saves 108 = .ok (.if_icmp .eq 29, 3) := by decide +kernel
theorem dX8_saves_111 : decode cX8_saves 111 = .ok (.aload_n 0, 1) := by decide +kernel
theorem dX8_saves_112 : decode cX8_saves 112 = .ok (.iload 4, 2) := by decide +kernel
theorem dX8_saves_114 : decode cX8_saves 114 = .ok (.ifCond .ne 7, 3) := by decide +kernel
theorem dX8_saves_117 : decode cX8_saves 117 = .ok (.iconst 1, 1) := by decide +kernel
theorem dX8_saves_118 : decode cX8_saves 118 = .ok (.goto 13, 3) := by decide +kernel
theorem dX8_saves_121 : decode cX8_saves 121 = .ok (.iload 4, 2) := by decide +kernel
theorem dX8_saves_123 : decode cX8_saves 123 = .ok (.bipush 62, 2) := by decide +kernel
theorem dX8_saves_125 : decode cX8_saves 125 = .ok (.iadd, 1) := by decide +kernel
theorem dX8_saves_126 : decode cX8_saves 126 = .ok (.iconst 1, 1) := by decide +kernel
theorem dX8_saves_127 : decode cX8_saves 127 = .ok (.isub, 1) := by decide +kernel
theorem dX8_saves_128 : decode cX8_saves 128 = .ok (.bipush 62, 2) := by decide +kernel
theorem dX8_saves_130 : decode cX8_saves 130 = .ok (.idiv, 1) := by decide +kernel
theorem dX8_saves_131 : decode cX8_saves 131 = .ok (.invokevirtual 201, 3) := by decide +kernel
theorem dX8_saves_134 : decode cX8_saves 134 = .ok (.ifCond .ne 20, 3) := by decide +kernel
theorem dX8_saves_137 : decode cX8_saves 137 = .ok (.aload_n 0, 1) := by decide +kernel
theorem dX8_saves_138 : decode cX8_saves 138 = .ok (.bipush 72, 2) := by decide +kernel
theorem dX8_saves_140 : decode cX8_saves 140 = .ok (.iconst 0, 1) := by decide +kernel
theorem dX8_saves_141 : decode cX8_saves 141 = .ok (.iconst 0, 1) := by decide +kernel
theorem dX8_saves_142 : decode cX8_saves 142 = .ok (.invokevirtual 143, 3) := by decide +kernel
theorem dX8_saves_145 : decode cX8_saves 145 = .ok (.ifCond .ne 7, 3) := by decide +kernel
theorem dX8_saves_148 : decode cX8_saves 148 = .ok (.iconst 1, 1) := by decide +kernel
theorem dX8_saves_149 : decode cX8_saves 149 = .ok (.goto 4, 3) := by decide +kernel
theorem dX8_saves_152 : decode cX8_saves 152 = .ok (.iconst 0, 1) := by decide +kernel
theorem dX8_saves_153 : decode cX8_saves 153 = .ok (.ireturn, 1) := by decide +kernel
theorem dX8_saves_154 : decode cX8_saves 154 = .ok (.aload_n 0, 1) := by decide +kernel
theorem dX8_saves_155 : decode cX8_saves 155 = .ok (.iload 4, 2) := by decide +kernel
theorem dX8_saves_157 : decode cX8_saves 157 = .ok (.invokevirtual 204, 3) := by decide +kernel
theorem dX8_saves_160 : decode cX8_saves 160 = .ok (.ifCond .ne 5, 3) := by decide +kernel
theorem dX8_saves_163 : decode cX8_saves 163 = .ok (.iconst 0, 1) := by decide +kernel
theorem dX8_saves_164 : decode cX8_saves 164 = .ok (.ireturn, 1) := by decide +kernel
theorem dX8_saves_165 : decode cX8_saves 165 = .ok (.iload 6, 2) := by decide +kernel
theorem dX8_saves_167 : decode cX8_saves 167 = .ok (.ifCond .eq 121, 3) := by decide +kernel
theorem dX8_saves_170 : decode cX8_saves 170 = .ok (.aload_n 0, 1) := by decide +kernel
theorem dX8_saves_171 : decode cX8_saves 171 = .ok (.getfield 156, 3) := by decide +kernel
theorem dX8_saves_174 : decode cX8_saves 174 = .ok (.iconst 1, 1) := by decide +kernel
theorem dX8_saves_175 : decode cX8_saves 175 = .ok (.isub, 1) := by decide +kernel
theorem dX8_saves_176 : decode cX8_saves 176 = .ok (.istore 8, 2) := by decide +kernel
theorem dX8_saves_178 : decode cX8_saves 178 = .ok (.aload_n 0, 1) := by decide +kernel
theorem dX8_saves_179 : decode cX8_saves 179 = .ok (.getfield 43, 3) := by decide +kernel
theorem dX8_saves_182 : decode cX8_saves 182 = .ok (.bipush 64, 2) := by decide +kernel
theorem dX8_saves_184 : decode cX8_saves 184 = .ok (.iload 8, 2) := by decide +kernel
theorem dX8_saves_186 : decode cX8_saves 186 = .ok (.imul, 1) := by decide +kernel
theorem dX8_saves_187 : decode cX8_saves 187 = .ok (.bipush 9, 2) := by decide +kernel
theorem dX8_saves_189 : decode cX8_saves 189 = .ok (.iastore, 1) := by decide +kernel
theorem dX8_saves_190 : decode cX8_saves 190 = .ok (.aload_n 0, 1) := by decide +kernel
theorem dX8_saves_191 : decode cX8_saves 191 = .ok (.getfield 43, 3) := by decide +kernel
theorem dX8_saves_194 : decode cX8_saves 194 = .ok (.bipush 64, 2) := by decide +kernel
theorem dX8_saves_196 : decode cX8_saves 196 = .ok (.iload 8, 2) := by decide +kernel
theorem dX8_saves_198 : decode cX8_saves 198 = .ok (.imul, 1) := by decide +kernel
theorem dX8_saves_199 : decode cX8_saves 199 = .ok (.iconst 1, 1) := by decide +kernel
theorem dX8_saves_200 : decode cX8_saves 200 = .ok (.iadd, 1) := by decide +kernel
theorem dX8_saves_201 : decode cX8_saves 201 = .ok (.iload 7, 2) := by decide +kernel
theorem dX8_saves_203 : decode cX8_saves 203 = .ok (.iastore, 1) := by decide +kernel
theorem dX8_saves_204 : decode cX8_saves 204 = .ok (.iconst 0, 1) := by decide +kernel
theorem dX8_saves_205 : decode cX8_saves 205 = .ok (.istore 9, 2) := by decide +kernel
theorem dX8_saves_207 : decode cX8_saves 207 = .ok (.iload 9, 2) := by decide +kernel
theorem dX8_saves_209 : decode cX8_saves 209 = .ok (.bipush 64, 2) := by decide +kernel
theorem dX8_saves_211 : decode cX8_saves 211 = .ok (.if_icmp .ge 25, 3) := by decide +kernel
theorem dX8_saves_214 : decode cX8_saves 214 = .ok (.aload_n 0, 1) := by decide +kernel
theorem dX8_saves_215 : decode cX8_saves 215 = .ok (.getfield 43, 3) := by decide +kernel
theorem dX8_saves_218 : decode cX8_saves 218 = .ok (.bipush 64, 2) := by decide +kernel
theorem dX8_saves_220 : decode cX8_saves 220 = .ok (.aload_n 0, 1) := by decide +kernel
theorem dX8_saves_221 : decode cX8_saves 221 = .ok (.getfield 156, 3) := by decide +kernel
theorem dX8_saves_224 : decode cX8_saves 224 = .ok (.imul, 1) := by decide +kernel
theorem dX8_saves_225 : decode cX8_saves 225 = .ok (.iload 9, 2) := by decide +kernel
theorem dX8_saves_227 : decode cX8_saves 227 = .ok (.iadd, 1) := by decide +kernel
theorem dX8_saves_228 : decode cX8_saves 228 = .ok (.iconst 0, 1) := by decide +kernel
theorem dX8_saves_229 : decode cX8_saves 229 = .ok (.iastore, 1) := by decide +kernel
theorem dX8_saves_230 : decode cX8_saves 230 = .ok (.iinc 9 1, 3) := by decide +kernel
theorem dX8_saves_233 : decode cX8_saves 233 = .ok (.goto (-26), 3) := by decide +kernel
theorem dX8_saves_236 : decode cX8_saves 236 = .ok (.aload_n 0, 1) := by decide +kernel
theorem dX8_saves_237 : decode cX8_saves 237 = .ok (.getfield 46, 3) := by decide +kernel
theorem dX8_saves_240 : decode cX8_saves 240 = .ok (.aload_n 0, 1) := by decide +kernel
theorem dX8_saves_241 : decode cX8_saves 241 = .ok (.getfield 156, 3) := by decide +kernel
theorem dX8_saves_244 : decode cX8_saves 244 = .ok (.bipush 9, 2) := by decide +kernel
theorem dX8_saves_246 : decode cX8_saves 246 = .ok (.iastore, 1) := by decide +kernel
theorem dX8_saves_247 : decode cX8_saves 247 = .ok (.aload_n 0, 1) := by decide +kernel
theorem dX8_saves_248 : decode cX8_saves 248 = .ok (.getfield 49, 3) := by decide +kernel
theorem dX8_saves_251 : decode cX8_saves 251 = .ok (.aload_n 0, 1) := by decide +kernel
theorem dX8_saves_252 : decode cX8_saves 252 = .ok (.getfield 156, 3) := by decide +kernel
theorem dX8_saves_255 : decode cX8_saves 255 = .ok (.iload 7, 2) := by decide +kernel
theorem dX8_saves_257 : decode cX8_saves 257 = .ok (.iastore, 1) := by decide +kernel
theorem dX8_saves_258 : decode cX8_saves 258 = .ok (.bipush 64, 2) := by decide +kernel
theorem dX8_saves_260 : decode cX8_saves 260 = .ok (.aload_n 0, 1) := by decide +kernel
theorem dX8_saves_261 : decode cX8_saves 261 = .ok (.getfield 156, 3) := by decide +kernel
theorem dX8_saves_264 : decode cX8_saves 264 = .ok (.imul, 1) := by decide +kernel
theorem dX8_saves_265 : decode cX8_saves 265 = .ok (.iconst 2, 1) := by decide +kernel
theorem dX8_saves_266 : decode cX8_saves 266 = .ok (.iadd, 1) := by decide +kernel
theorem dX8_saves_267 : decode cX8_saves 267 = .ok (.istore 5, 2) := by decide +kernel
theorem dX8_saves_269 : decode cX8_saves 269 = .ok (.aload_n 0, 1) := by decide +kernel
theorem dX8_saves_270 : decode cX8_saves 270 = .ok (.bipush 9, 2) := by decide +kernel
theorem dX8_saves_272 : decode cX8_saves 272 = .ok (.iload 7, 2) := by decide +kernel
theorem dX8_saves_274 : decode cX8_saves 274 = .ok (.iconst 0, 1) := by decide +kernel
theorem dX8_saves_275 : decode cX8_saves 275 = .ok (.invokevirtual 176, 3) := by decide +kernel
theorem dX8_saves_278 : decode cX8_saves 278 = .ok (.aload_n 0, 1) := by decide +kernel
theorem dX8_saves_279 : decode cX8_saves 279 = .ok (.dup, 1) := by decide +kernel
theorem dX8_saves_280 : decode cX8_saves 280 = .ok (.getfield 156, 3) := by decide +kernel
theorem dX8_saves_283 : decode cX8_saves 283 = .ok (.iconst 1, 1) := by decide +kernel
theorem dX8_saves_284 : decode cX8_saves 284 = .ok (.iadd, 1) := by decide +kernel
theorem dX8_saves_285 : decode cX8_saves 285 = .ok (.putfield 156, 3) := by decide +kernel
theorem dX8_saves_288 : decode cX8_saves 288 = .ok (.aload_n 0, 1) := by decide +kernel
theorem dX8_saves_289 : decode cX8_saves 289 = .ok (.getfield 43, 3) := by decide +kernel
theorem dX8_saves_292 : decode cX8_saves 292 = .ok (.iload 5, 2) := by decide +kernel
theorem dX8_saves_294 : decode cX8_saves 294 = .ok (.iload_n 1, 1) := by decide +kernel
theorem dX8_saves_295 : decode cX8_saves 295 = .ok (.iastore, 1) := by decide +kernel
theorem dX8_saves_296 : decode cX8_saves 296 = .ok (.aload_n 0, 1) := by decide +kernel
theorem dX8_saves_297 : decode cX8_saves 297 = .ok (.getfield 43, 3) := by decide +kernel
theorem dX8_saves_300 : decode cX8_saves 300 = .ok (.iload 5, 2) := by decide +kernel
theorem dX8_saves_302 : decode cX8_saves 302 = .ok (.iconst 1, 1) := by decide +kernel
theorem dX8_saves_303 : decode cX8_saves 303 = .ok (.iadd, 1) := by decide +kernel
theorem dX8_saves_304 : decode cX8_saves 304 = .ok (.aload_n 0, 1) := by decide +kernel
theorem dX8_saves_305 : decode cX8_saves 305 = .ok (.getfield 52, 3) := by decide +kernel
theorem dX8_saves_308 : decode cX8_saves 308 = .ok (.iconst 0, 1) := by decide +kernel
theorem dX8_saves_309 : decode cX8_saves 309 = .ok (.iaload, 1) := by decide +kernel
theorem dX8_saves_310 : decode cX8_saves 310 = .ok (.iastore, 1) := by decide +kernel
theorem dX8_saves_311 : decode cX8_saves 311 = .ok (.aload_n 0, 1) := by decide +kernel
theorem dX8_saves_312 : decode cX8_saves 312 = .ok (.getfield 43, 3) := by decide +kernel
theorem dX8_saves_315 : decode cX8_saves 315 = .ok (.iload 5, 2) := by decide +kernel
theorem dX8_saves_317 : decode cX8_saves 317 = .ok (.iconst 2, 1) := by decide +kernel
theorem dX8_saves_318 : decode cX8_saves 318 = .ok (.iadd, 1) := by decide +kernel
theorem dX8_saves_319 : decode cX8_saves 319 = .ok (.aload_n 0, 1) := by decide +kernel
theorem dX8_saves_320 : decode cX8_saves 320 = .ok (.getfield 55, 3) := by decide +kernel
theorem dX8_saves_323 : decode cX8_saves 323 = .ok (.iconst 0, 1) := by decide +kernel
theorem dX8_saves_324 : decode cX8_saves 324 = .ok (.iaload, 1) := by decide +kernel
theorem dX8_saves_325 : decode cX8_saves 325 = .ok (.iastore, 1) := by decide +kernel
theorem dX8_saves_326 : decode cX8_saves 326 = .ok (.aload_n 0, 1) := by decide +kernel
theorem dX8_saves_327 : decode cX8_saves 327 = .ok (.getfield 43, 3) := by decide +kernel
theorem dX8_saves_330 : decode cX8_saves 330 = .ok (.iload 5, 2) := by decide +kernel
theorem dX8_saves_332 : decode cX8_saves 332 = .ok (.iconst 3, 1) := by decide +kernel
theorem dX8_saves_333 : decode cX8_saves 333 = .ok (.iadd, 1) := by decide +kernel
theorem dX8_saves_334 : decode cX8_saves 334 = .ok (.aload_n 0, 1) := by decide +kernel
theorem dX8_saves_335 : decode cX8_saves 335 = .ok (.getfield 180, 3) := by decide +kernel
theorem dX8_saves_338 : decode cX8_saves 338 = .ok (.iastore, 1) := by decide +kernel
theorem dX8_saves_339 : decode cX8_saves 339 = .ok (.iconst 0, 1) := by decide +kernel
theorem dX8_saves_340 : decode cX8_saves 340 = .ok (.istore 8, 2) := by decide +kernel
theorem dX8_saves_342 : decode cX8_saves 342 = .ok (.iload 8, 2) := by decide +kernel
theorem dX8_saves_344 : decode cX8_saves 344 = .ok (.bipush 8, 2) := by decide +kernel
theorem dX8_saves_346 : decode cX8_saves 346 = .ok (.if_icmp .ge 28, 3) := by decide +kernel
theorem dX8_saves_349 : decode cX8_saves 349 = .ok (.aload_n 0, 1) := by decide +kernel
theorem dX8_saves_350 : decode cX8_saves 350 = .ok (.getfield 43, 3) := by decide +kernel
theorem dX8_saves_353 : decode cX8_saves 353 = .ok (.iload 5, 2) := by decide +kernel
theorem dX8_saves_355 : decode cX8_saves 355 = .ok (.iconst 4, 1) := by decide +kernel
theorem dX8_saves_356 : decode cX8_saves 356 = .ok (.iadd, 1) := by decide +kernel
theorem dX8_saves_357 : decode cX8_saves 357 = .ok (.iload 8, 2) := by decide +kernel
theorem dX8_saves_359 : decode cX8_saves 359 = .ok (.iadd, 1) := by decide +kernel
theorem dX8_saves_360 : decode cX8_saves 360 = .ok (.iload_n 2, 1) := by decide +kernel
theorem dX8_saves_361 : decode cX8_saves 361 = .ok (.iload_n 3, 1) := by decide +kernel
theorem dX8_saves_362 : decode cX8_saves 362 = .ok (.iload 8, 2) := by decide +kernel
theorem dX8_saves_364 : decode cX8_saves 364 = .ok (.invokestatic 153, 3) := by decide +kernel
theorem dX8_saves_367 : decode cX8_saves 367 = .ok (.iastore, 1) := by decide +kernel
theorem dX8_saves_368 : decode cX8_saves 368 = .ok (.iinc 8 1, 3) := by decide +kernel
theorem dX8_saves_371 : decode cX8_saves 371 = .ok (.goto (-29), 3) := by decide +kernel
theorem dX8_saves_374 : decode cX8_saves 374 = .ok (.aload_n 0, 1) := by decide +kernel
theorem dX8_saves_375 : decode cX8_saves 375 = .ok (.iload 5, 2) := by decide +kernel
theorem dX8_saves_377 : decode cX8_saves 377 = .ok (.bipush 64, 2) := by decide +kernel
theorem dX8_saves_379 : decode cX8_saves 379 = .ok (.idiv, 1) := by decide +kernel
theorem dX8_saves_380 : decode cX8_saves 380 = .ok (.invokevirtual 207, 3) := by decide +kernel
theorem dX8_saves_383 : decode cX8_saves 383 = .ok (.ifCond .eq 21, 3) := by decide +kernel
theorem dX8_saves_386 : decode cX8_saves 386 = .ok (.iload 6, 2) := by decide +kernel
theorem dX8_saves_388 : decode cX8_saves 388 = .ok (.ifCond .eq 18, 3) := by decide +kernel
theorem dX8_saves_391 : decode cX8_saves 391 = .ok (.aload_n 0, 1) := by decide +kernel
theorem dX8_saves_392 : decode cX8_saves 392 = .ok (.aload_n 0, 1) := by decide +kernel
theorem dX8_saves_393 : decode cX8_saves 393 = .ok (.getfield 156, 3) := by decide +kernel
theorem dX8_saves_396 : decode cX8_saves 396 = .ok (.iconst 2, 1) := by decide +kernel
theorem dX8_saves_397 : decode cX8_saves 397 = .ok (.isub, 1) := by decide +kernel
theorem dX8_saves_398 : decode cX8_saves 398 = .ok (.invokevirtual 207, 3) := by decide +kernel
theorem dX8_saves_401 : decode cX8_saves 401 = .ok (.ifCond .ne 5, 3) := by decide +kernel
theorem dX8_saves_404 : decode cX8_saves 404 = .ok (.iconst 0, 1) := by decide +kernel
theorem dX8_saves_405 : decode cX8_saves 405 = .ok (.ireturn, 1) := by decide +kernel
theorem dX8_saves_406 : decode cX8_saves 406 = .ok (.iconst 0, 1) := by decide +kernel
theorem dX8_saves_407 : decode cX8_saves 407 = .ok (.istore 8, 2) := by decide +kernel
theorem dX8_saves_409 : decode cX8_saves 409 = .ok (.iload 8, 2) := by decide +kernel
theorem dX8_saves_411 : decode cX8_saves 411 = .ok (.aload_n 0, 1) := by decide +kernel
theorem dX8_saves_412 : decode cX8_saves 412 = .ok (.getfield 180, 3) := by decide +kernel
theorem dX8_saves_415 : decode cX8_saves 415 = .ok (.if_icmp .ge 28, 3) := by decide +kernel
theorem dX8_saves_418 : decode cX8_saves 418 = .ok (.aload_n 0, 1) := by decide +kernel
theorem dX8_saves_419 : decode cX8_saves 419 = .ok (.aload_n 0, 1) := by decide +kernel
theorem dX8_saves_420 : decode cX8_saves 420 = .ok (.getfield 52, 3) := by decide +kernel
theorem dX8_saves_423 : decode cX8_saves 423 = .ok (.iload 8, 2) := by decide +kernel
theorem dX8_saves_425 : decode cX8_saves 425 = .ok (.iaload, 1) := by decide +kernel
theorem dX8_saves_426 : decode cX8_saves 426 = .ok (.aload_n 0, 1) := by decide +kernel
theorem dX8_saves_427 : decode cX8_saves 427 = .ok (.getfield 55, 3) := by decide +kernel
theorem dX8_saves_430 : decode cX8_saves 430 = .ok (.iload 8, 2) := by decide +kernel
theorem dX8_saves_432 : decode cX8_saves 432 = .ok (.iaload, 1) := by decide +kernel
theorem dX8_saves_433 : decode cX8_saves 433 = .ok (.iconst 0, 1) := by decide +kernel
theorem dX8_saves_434 : decode cX8_saves 434 = .ok (.invokevirtual 176, 3) := by decide +kernel
theorem dX8_saves_437 : decode cX8_saves 437 = .ok (.iinc 8 1, 3) := by decide +kernel
theorem dX8_saves_440 : decode cX8_saves 440 = .ok (.goto (-31), 3) := by decide +kernel
theorem dX8_saves_443 : decode cX8_saves 443 = .ok (.aload_n 0, 1) := by decide +kernel
theorem dX8_saves_444 : decode cX8_saves 444 = .ok (.invokevirtual 210, 3) := by decide +kernel
theorem dX8_saves_447 : decode cX8_saves 447 = .ok (.ireturn, 1) := by decide +kernel
theorem dX8_save_0 : decode cX8_save 0 = .ok (.aload_n 0, 1) := by decide +kernel
theorem dX8_save_1 : decode cX8_save 1 = .ok (.getfield 172, 3) := by decide +kernel
theorem dX8_save_4 : decode cX8_save 4 = .ok (.istore 4, 2) := by decide +kernel
theorem dX8_save_6 : decode cX8_save 6 = .ok (.aload_n 0, 1) := by decide +kernel
theorem dX8_save_7 : decode cX8_save 7 = .ok (.iconst 0, 1) := by decide +kernel
theorem dX8_save_8 : decode cX8_save 8 = .ok (.putfield 172, 3) := by decide +kernel
theorem dX8_save_11 : decode cX8_save 11 = .ok (.iload_n 1, 1) := by decide +kernel
theorem dX8_save_12 : decode cX8_save 12 = .ok (.iconst 1, 1) := by decide +kernel
theorem dX8_save_13 : decode cX8_save 13 = .ok (.bipush 9, 2) := by decide +kernel
theorem dX8_save_15 : decode cX8_save 15 = .ok (.invokestatic 69, 3) := by decide +kernel
theorem dX8_save_18 : decode cX8_save 18 = .ok (.ifCond .eq 11, 3) := by decide +kernel
theorem dX8_save_21 : decode cX8_save 21 = .ok (.iload_n 2, 1) := by decide +kernel
theorem dX8_save_22 : decode cX8_save 22 = .ok (.ifCond .ne 9, 3) := by decide +kernel
theorem dX8_save_25 : decode cX8_save 25 = .ok (.iload_n 3, 1) := by decide +kernel
theorem dX8_save_26 : decode cX8_save 26 = .ok (.ifCond .ne 5, 3) := by decide +kernel
theorem dX8_save_29 : decode cX8_save 29 = .ok (.iconst (-1), 1) := by decide +kernel
theorem dX8_save_30 : decode cX8_save 30 = .ok (.ireturn, 1) := by decide +kernel
theorem dX8_save_31 : decode cX8_save 31 = .ok (.aload_n 0, 1) := by decide +kernel
theorem dX8_save_32 : decode cX8_save 32 = .ok (.iload_n 1, 1) := by decide +kernel
theorem dX8_save_33 : decode cX8_save 33 = .ok (.iload_n 2, 1) := by decide +kernel
theorem dX8_save_34 : decode cX8_save 34 = .ok (.iload_n 3, 1) := by decide +kernel
theorem dX8_save_35 : decode cX8_save 35 = .ok (.iload 4, 2) := by decide +kernel
theorem dX8_save_37 : decode cX8_save 37 = .ok (.invokevirtual 213, 3) := by decide +kernel
theorem dX8_save_40 : decode cX8_save 40 = .ok (.istore 5, 2) := by decide +kernel
theorem dX8_save_42 : decode cX8_save 42 = .ok (.aload_n 0, 1) := by decide +kernel
theorem dX8_save_43 : decode cX8_save 43 = .ok (.getfield 134, 3) := by decide +kernel
theorem dX8_save_46 : decode cX8_save 46 = .ok (.ireturn, 1) := by decide +kernel
theorem dX8_readFile_0 : decode cX8_readFile 0 = .ok (.aload_n 0, 1) := by decide +kernel
theorem dX8_readFile_1 : decode cX8_readFile 1 = .ok (.invokevirtual 186, 3) := by decide +kernel
theorem dX8_readFile_4 : decode cX8_readFile 4 = .ok (.ifCond .eq 13, 3) := by decide +kernel
theorem dX8_readFile_7 : decode cX8_readFile 7 = .ok (.aload_n 0, 1) := by decide +kernel
theorem dX8_readFile_8 : decode cX8_readFile 8 = .ok (.iconst 1, 1) := by decide +kernel
theorem dX8_readFile_9 : decode cX8_readFile 9 = .ok (.iload_n 1, 1) := by decide +kernel
theorem dX8_readFile_10 : decode cX8_readFile 10 = .ok (.iload_n 2, 1) := by decide +kernel
theorem dX8_readFile_11 : decode cX8_readFile 11 = .ok (.invokevirtual 190, 3) := by decide +kernel
theorem dX8_readFile_14 : decode cX8_readFile 14 = .ok (.ifCond .ne 5, 3) := by decide +kernel
theorem dX8_readFile_17 : decode cX8_readFile 17 = .ok (.iconst 0, 1) := by decide +kernel
theorem dX8_readFile_18 : decode cX8_readFile 18 = .ok (.ireturn, 1) := by decide +kernel
theorem dX8_readFile_19 : decode cX8_readFile 19 = .ok (.aload_n 0, 1) := by decide +kernel
theorem dX8_readFile_20 : decode cX8_readFile 20 = .ok (.getfield 159, 3) := by decide +kernel
theorem dX8_readFile_23 : decode cX8_readFile 23 = .ok (.ifCond .ge 20, 3) := by decide +kernel
theorem dX8_readFile_26 : decode cX8_readFile 26 = .ok (.aload_n 0, 1) := by decide +kernel
theorem dX8_readFile_27 : decode cX8_readFile 27 = .ok (.bipush 62, 2) := by decide +kernel
theorem dX8_readFile_29 : decode cX8_readFile 29 = .ok (.iconst 0, 1) := by decide +kernel
theorem dX8_readFile_30 : decode cX8_readFile 30 = .ok (.iconst 0, 1) := by decide +kernel
theorem dX8_readFile_31 : decode cX8_readFile 31 = .ok (.invokevirtual 143, 3) := by decide +kernel
theorem dX8_readFile_34 : decode cX8_readFile 34 = .ok (.ifCond .ne 7, 3) := by decide +kernel
theorem dX8_readFile_37 : decode cX8_readFile 37 = .ok (.iconst 1, 1) := by decide +kernel
theorem dX8_readFile_38 : decode cX8_readFile 38 = .ok (.goto 4, 3) := by decide +kernel
theorem dX8_readFile_41 : decode cX8_readFile 41 = .ok (.iconst 0, 1) := by decide +kernel
theorem dX8_readFile_42 : decode cX8_readFile 42 = .ok (.ireturn, 1) := by decide +kernel
theorem dX8_readFile_43 : decode cX8_readFile 43 = .ok (.aload_n 0, 1) := by decide +kernel
theorem dX8_readFile_44 : decode cX8_readFile 44 = .ok (.getfield 46, 3) := by decide +kernel
theorem dX8_readFile_47 : decode cX8_readFile 47 = .ok (.aload_n 0, 1) := by decide +kernel
theorem dX8_readFile_48 : decode cX8_readFile 48 = .ok (.getfield 159, 3) := by decide +kernel
theorem dX8_readFile_51 : decode cX8_readFile 51 = .ok (.iaload, 1) := by decide +kernel
theorem dX8_readFile_52 : decode cX8_readFile 52 = .ok (.istore 4, 2) := by decide +kernel
theorem dX8_readFile_54 : decode cX8_readFile 54 = .ok (.aload_n 0, 1) := by decide +kernel
theorem dX8_readFile_55 : decode cX8_readFile 55 = .ok (.getfield 49, 3) := by decide +kernel
theorem dX8_readFile_58 : decode cX8_readFile 58 = .ok (.aload_n 0, 1) := by decide +kernel
theorem dX8_readFile_59 : decode cX8_readFile 59 = .ok (.getfield 159, 3) := by decide +kernel
theorem dX8_readFile_62 : decode cX8_readFile 62 = .ok (.iaload, 1) := by decide +kernel
theorem dX8_readFile_63 : decode cX8_readFile 63 = .ok (.istore 5, 2) := by decide +kernel
theorem dX8_readFile_65 : decode cX8_readFile 65 = .ok (.aload_n 0, 1) := by decide +kernel
theorem dX8_readFile_66 : decode cX8_readFile 66 = .ok (.getfield 43, 3) := by decide +kernel
theorem dX8_readFile_69 : decode cX8_readFile 69 = .ok (.aload_n 0, 1) := by decide +kernel
theorem dX8_readFile_70 : decode cX8_readFile 70 = .ok (.getfield 165, 3) := by decide +kernel
theorem dX8_readFile_73 : decode cX8_readFile 73 = .ok (.iconst 1, 1) := by decide +kernel
theorem dX8_readFile_74 : decode cX8_readFile 74 = .ok (.iadd, 1) := by decide +kernel
theorem dX8_readFile_75 : decode cX8_readFile 75 = .ok (.iaload, 1) := by decide +kernel
theorem dX8_readFile_76 : decode cX8_readFile 76 = .ok (.istore 6, 2) := by decide +kernel
theorem dX8_readFile_78 : decode cX8_readFile 78 = .ok (.aload_n 0, 1) := by decide +kernel
theorem dX8_readFile_79 : decode cX8_readFile 79 = .ok (.getfield 43, 3) := by decide +kernel
theorem dX8_readFile_82 : decode cX8_readFile 82 = .ok (.aload_n 0, 1) := by decide +kernel
theorem dX8_readFile_83 : decode cX8_readFile 83 = .ok (.getfield 165, 3) := by decide +kernel
theorem dX8_readFile_86 : decode cX8_readFile 86 = .ok (.iconst 2, 1) := by decide +kernel
theorem dX8_readFile_87 : decode cX8_readFile 87 = .ok (.iadd, 1) := by decide +kernel
theorem dX8_readFile_88 : decode cX8_readFile 88 = .ok (.iaload, 1) := by decide +kernel
theorem dX8_readFile_89 : decode cX8_readFile 89 = .ok (.istore 7, 2) := by decide +kernel
theorem dX8_readFile_91 : decode cX8_readFile 91 = .ok (.aload_n 0, 1) := by decide +kernel
theorem dX8_readFile_92 : decode cX8_readFile 92 = .ok (.iconst 0, 1) := by decide +kernel
theorem dX8_readFile_93 : decode cX8_readFile 93 = .ok (.putfield 180, 3) := by decide +kernel
theorem dX8_readFile_96 : decode cX8_readFile 96 = .ok (.iload 6, 2) := by decide +kernel
theorem dX8_readFile_98 : decode cX8_readFile 98 = .ok (.iload 7, 2) := by decide +kernel
theorem dX8_readFile_100 : decode cX8_readFile 100 = .ok (.invokestatic 168, 3) := by decide +kernel
theorem dX8_readFile_103 : decode cX8_readFile 103 = .ok (.ifCond .eq 12, 3) := by decide +kernel
theorem dX8_readFile_106 : decode cX8_readFile 106 = .ok (.aload_n 0, 1) := by decide +kernel
theorem dX8_readFile_107 : decode cX8_readFile 107 = .ok (.getfield 180, 3) := by decide +kernel
theorem dX8_readFile_110 : decode cX8_readFile 110 = .ok (.bipush 40, 2) := by decide +kernel
theorem dX8_readFile_112 : decode cX8_readFile 112 = .ok (.if_icmp .ne 22, 3) := by decide +kernel
theorem dX8_readFile_115 : decode cX8_readFile 115 = .ok (.aload_n 0, 1) := by decide +kernel
theorem dX8_readFile_116 : decode cX8_readFile 116 = .ok (.bipush 66, 2) := by decide +kernel
theorem dX8_readFile_118 : decode cX8_readFile 118 = .ok (.iload 4, 2) := by decide +kernel
theorem dX8_readFile_120 : decode cX8_readFile 120 = .ok (.iload 5, 2) := by decide +kernel
theorem dX8_readFile_122 : decode cX8_readFile 122 = .ok (.invokevirtual 143, 3) := by decide +kernel
theorem dX8_readFile_125 : decode cX8_readFile 125 = .ok (.ifCond .ne 7, 3) := by decide +kernel
theorem dX8_readFile_128 : decode cX8_readFile 128 = .ok (.iconst 1, 1) := by decide +kernel
theorem dX8_readFile_129 : decode cX8_readFile 129 = .ok (.goto 4, 3) := by decide +kernel
theorem dX8_readFile_132 : decode cX8_readFile 132 = .ok (.iconst 0, 1) := by decide +kernel
theorem dX8_readFile_133 : decode cX8_readFile 133 = .ok (.ireturn, 1) := by decide +kernel
theorem dX8_readFile_134 : decode cX8_readFile 134 = .ok (.aload_n 0, 1) := by decide +kernel
theorem dX8_readFile_135 : decode cX8_readFile 135 = .ok (.iload 6, 2) := by decide +kernel
theorem dX8_readFile_137 : decode cX8_readFile 137 = .ok (.iload 7, 2) := by decide +kernel
theorem dX8_readFile_139 : decode cX8_readFile 139 = .ok (.invokevirtual 147, 3) := by decide +kernel
theorem dX8_readFile_142 : decode cX8_readFile 142 = .ok (.istore 8, 2) := by decide +kernel
theorem dX8_readFile_144 : decode cX8_readFile 144 = .ok (.iload 8, 2) := by decide +kernel
theorem dX8_readFile_146 : decode cX8_readFile 146 = .ok (.ifCond .le 22, 3) := by decide +kernel
theorem dX8_readFile_149 : decode cX8_readFile 149 = .ok (.aload_n 0, 1) := by decide +kernel
theorem dX8_readFile_150 : decode cX8_readFile 150 = .ok (.iload 8, 2) := by decide +kernel
theorem dX8_readFile_152 : decode cX8_readFile 152 = .ok (.iload 6, 2) := by decide +kernel
theorem dX8_readFile_154 : decode cX8_readFile 154 = .ok (.iload 7, 2) := by decide +kernel
theorem dX8_readFile_156 : decode cX8_readFile 156 = .ok (.invokevirtual 143, 3) := by decide +kernel
theorem dX8_readFile_159 : decode cX8_readFile 159 = .ok (.ifCond .ne 7, 3) := by decide +kernel
theorem dX8_readFile_162 : decode cX8_readFile 162 = .ok (.iconst 1, 1) := by decide +kernel
theorem dX8_readFile_163 : decode cX8_readFile 163 = .ok (.goto 4, 3) := by decide +kernel
theorem dX8_readFile_166 : decode cX8_readFile 166 = .ok (.iconst 0, 1) := by decide +kernel
theorem dX8_readFile_167 : decode cX8_readFile 167 = .ok (.ireturn, 1) := by decide +kernel
theorem dX8_readFile_168 : decode cX8_readFile 168 = .ok (.aload_n 0, 1) := by decide +kernel
theorem dX8_readFile_169 : decode cX8_readFile 169 = .ok (.getfield 52, 3) := by decide +kernel
theorem dX8_readFile_172 : decode cX8_readFile 172 = .ok (.aload_n 0, 1) := by decide +kernel
theorem dX8_readFile_173 : decode cX8_readFile 173 = .ok (.getfield 180, 3) := by decide +kernel
theorem dX8_readFile_176 : decode cX8_readFile 176 = .ok (.iload 6, 2) := by decide +kernel
theorem dX8_readFile_178 : decode cX8_readFile 178 = .ok (.iastore, 1) := by decide +kernel
theorem dX8_readFile_179 : decode cX8_readFile 179 = .ok (.aload_n 0, 1) := by decide +kernel
theorem dX8_readFile_180 : decode cX8_readFile 180 = .ok (.getfield 55, 3) := by decide +kernel
theorem dX8_readFile_183 : decode cX8_readFile 183 = .ok (.aload_n 0, 1) := by decide +kernel
theorem dX8_readFile_184 : decode cX8_readFile 184 = .ok (.getfield 180, 3) := by decide +kernel
theorem dX8_readFile_187 : decode cX8_readFile 187 = .ok (.iload 7, 2) := by decide +kernel
theorem dX8_readFile_189 : decode cX8_readFile 189 = .ok (.iastore, 1) := by decide +kernel
theorem dX8_readFile_190 : decode cX8_readFile 190 = .ok (.aload_n 0, 1) := by decide +kernel
theorem dX8_readFile_191 : decode cX8_readFile 191 = .ok (.dup, 1) := by decide +kernel
theorem dX8_readFile_192 : decode cX8_readFile 192 = .ok (.getfield 180, 3) := by decide +kernel
theorem dX8_readFile_195 : decode cX8_readFile 195 = .ok (.iconst 1, 1) := by decide +kernel
theorem dX8_readFile_196 : decode cX8_readFile 196 = .ok (.iadd, 1) := by decide +kernel
theorem dX8_readFile_197 : decode cX8_readFile 197 = .ok (.putfield 180, 3) := by decide +kernel
theorem dX8_readFile_200 : decode cX8_readFile 200 = .ok (.aload_n 0, 1) := by decide +kernel
theorem dX8_readFile_201 : decode cX8_readFile 201 = .ok (.getfield 37, 3) := by decide +kernel
theorem dX8_readFile_204 : decode cX8_readFile 204 = .ok (.iconst 0, 1) := by decide +kernel
theorem dX8_readFile_205 : decode cX8_readFile 205 = .ok (.iaload, 1) := by decide +kernel
theorem dX8_readFile_206 : decode cX8_readFile 206 = .ok (.ifCond .ne 7, 3) := by decide +kernel
theorem dX8_readFile_209 : decode cX8_readFile 209 = .ok (.iconst 1, 1) := by decide +kernel
theorem dX8_readFile_210 : decode cX8_readFile 210 = .ok (.goto 4, 3) := by decide +kernel
theorem dX8_readFile_213 : decode cX8_readFile 213 = .ok (.iconst 0, 1) := by decide +kernel
theorem dX8_readFile_214 : decode cX8_readFile 214 = .ok (.istore 9, 2) := by decide +kernel
theorem dX8_readFile_216 : decode cX8_readFile 216 = .ok (.iload 9, 2) := by decide +kernel
theorem dX8_readFile_218 : decode cX8_readFile 218 = .ok (.ifCond .eq 33, 3) := by decide +kernel
theorem dX8_readFile_221 : decode cX8_readFile 221 = .ok (.aload_n 0, 1) := by decide +kernel
theorem dX8_readFile_222 : decode cX8_readFile 222 = .ok (.getfield 37, 3) := by decide +kernel
theorem dX8_readFile_225 : decode cX8_readFile 225 = .ok (.iconst 1, 1) := by decide +kernel
theorem dX8_readFile_226 : decode cX8_readFile 226 = .ok (.iaload, 1) := by decide +kernel
theorem dX8_readFile_227 : decode cX8_readFile 227 = .ok (.bipush 62, 2) := by decide +kernel
theorem dX8_readFile_229 : decode cX8_readFile 229 = .ok (.if_icmp .le 22, 3) := by decide +kernel
theorem dX8_readFile_232 : decode cX8_readFile 232 = .ok (.aload_n 0, 1) := by decide +kernel
theorem dX8_readFile_233 : decode cX8_readFile 233 = .ok (.bipush 66, 2) := by decide +kernel
theorem dX8_readFile_235 : decode cX8_readFile 235 = .ok (.iload 6, 2) := by decide +kernel
theorem dX8_readFile_237 : decode cX8_readFile 237 = .ok (.iload 7, 2) := by decide +kernel
theorem dX8_readFile_239 : decode cX8_readFile 239 = .ok (.invokevirtual 143, 3) := by decide +kernel
theorem dX8_readFile_242 : decode cX8_readFile 242 = .ok (.ifCond .ne 7, 3) := by decide +kernel
theorem dX8_readFile_245 : decode cX8_readFile 245 = .ok (.iconst 1, 1) := by decide +kernel
theorem dX8_readFile_246 : decode cX8_readFile 246 = .ok (.goto 4, 3) := by decide +kernel
theorem dX8_readFile_249 : decode cX8_readFile 249 = .ok (.iconst 0, 1) := by decide +kernel
theorem dX8_readFile_250 : decode cX8_readFile 250 = .ok (.ireturn, 1) := by decide +kernel
theorem dX8_readFile_251 : decode cX8_readFile 251 = .ok (.iconst 0, 1) := by decide +kernel
theorem dX8_readFile_252 : decode cX8_readFile 252 = .ok (.istore 10, 2) := by decide +kernel
theorem dX8_readFile_254 : decode cX8_readFile 254 = .ok (.iload 10, 2) := by decide +kernel
theorem dX8_readFile_256 : decode cX8_readFile 256 = .ok (.iload 9, 2) := by decide +kernel
theorem dX8_readFile_258 : decode cX8_readFile 258 = .ok (.ifCond .eq 12, 3) := by decide +kernel
theorem dX8_readFile_261 : decode cX8_readFile 261 = .ok (.aload_n 0, 1) := by decide +kernel
theorem dX8_readFile_262 : decode cX8_readFile 262 = .ok (.getfield 37, 3) := by decide +kernel
theorem dX8_readFile_265 : decode cX8_readFile 265 = .ok (.iconst 1, 1) := by decide +kernel
theorem dX8_readFile_266 : decode cX8_readFile 266 = .ok (.iaload, 1) := by decide +kernel
theorem dX8_readFile_267 : decode cX8_readFile 267 = .ok (.goto 5, 3) := by decide +kernel
theorem dX8_readFile_270 : decode cX8_readFile 270 = .ok (.bipush 62, 2) := by decide +kernel
theorem dX8_readFile_272 : decode cX8_readFile 272 = .ok (.if_icmp .ge 26, 3) := by decide +kernel
theorem dX8_readFile_275 : decode cX8_readFile 275 = .ok (.iload_n 3, 1) := by decide +kernel
theorem dX8_readFile_276 : decode cX8_readFile 276 = .ok (.ifCond .eq 22, 3) := by decide +kernel
theorem dX8_readFile_279 : decode cX8_readFile 279 = .ok (.aload_n 0, 1) := by decide +kernel
theorem dX8_readFile_280 : decode cX8_readFile 280 = .ok (.aload_n 0, 1) := by decide +kernel
theorem dX8_readFile_281 : decode cX8_readFile 281 = .ok (.getfield 37, 3) := by decide +kernel
theorem dX8_readFile_284 : decode cX8_readFile 284 = .ok (.iconst 2, 1) := by decide +kernel
theorem dX8_readFile_285 : decode cX8_readFile 285 = .ok (.iload 10, 2) := by decide +kernel
theorem dX8_readFile_287 : decode cX8_readFile 287 = .ok (.iadd, 1) := by decide +kernel
theorem dX8_readFile_288 : decode cX8_readFile 288 = .ok (.iaload, 1) := by decide +kernel
theorem dX8_readFile_289 : decode cX8_readFile 289 = .ok (.invokevirtual 217, 3) := by decide +kernel
theorem dX8_readFile_292 : decode cX8_readFile 292 = .ok (.iinc 10 1, 3) := by decide +kernel
theorem dX8_readFile_295 : decode cX8_readFile 295 = .ok (.goto (-41), 3) := by decide +kernel
theorem dX8_readFile_298 : decode cX8_readFile 298 = .ok (.iload 9, 2) := by decide +kernel
theorem dX8_readFile_300 : decode cX8_readFile 300 = .ok (.ifCond .eq 5, 3) := by decide +kernel
theorem dX8_readFile_303 : decode cX8_readFile 303 = .ok (.iconst 1, 1) := by decide +kernel
theorem dX8_readFile_304 : decode cX8_readFile 304 = .ok (.ireturn, 1) := by decide +kernel
theorem dX8_readFile_305 : decode cX8_readFile 305 = .ok (.iload 6, 2) := by decide +kernel
theorem dX8_readFile_307 : decode cX8_readFile 307 = .ok (.istore 4, 2) := by decide +kernel
theorem dX8_readFile_309 : decode cX8_readFile 309 = .ok (.iload 7, 2) := by decide +kernel
theorem dX8_readFile_311 : decode cX8_readFile 311 = .ok (.istore 5, 2) := by decide +kernel
theorem dX8_readFile_313 : decode cX8_readFile 313 = .ok (.aload_n 0, 1) := by decide +kernel
theorem dX8_readFile_314 : decode cX8_readFile 314 = .ok (.getfield 37, 3) := by decide +kernel
theorem dX8_readFile_317 : decode cX8_readFile 317 = .ok (.iconst 0, 1) := by decide +kernel
theorem dX8_readFile_318 : decode cX8_readFile 318 = .ok (.iaload, 1) := by decide +kernel
theorem dX8_readFile_319 : decode cX8_readFile 319 = .ok (.istore 6, 2) := by decide +kernel
theorem dX8_readFile_321 : decode cX8_readFile 321 = .ok (.aload_n 0, 1) := by decide +kernel
theorem dX8_readFile_322 : decode cX8_readFile 322 = .ok (.getfield 37, 3) := by decide +kernel
theorem dX8_readFile_325 : decode cX8_readFile 325 = .ok (.iconst 1, 1) := by decide +kernel
theorem dX8_readFile_326 : decode cX8_readFile 326 = .ok (.iaload, 1) := by decide +kernel
theorem dX8_readFile_327 : decode cX8_readFile 327 = .ok (.istore 7, 2) := by decide +kernel
theorem dX8_readFile_329 : decode cX8_readFile 329 = .ok (.goto (-233), 3) := by decide +kernel
theorem dX8_tell_0 : decode cX8_tell 0 = .ok (.aload_n 0, 1) := by decide +kernel
theorem dX8_tell_1 : decode cX8_tell 1 = .ok (.getfield 31, 3) := by decide +kernel
theorem dX8_tell_4 : decode cX8_tell 4 = .ok (.aload_n 0, 1) := by decide +kernel
theorem dX8_tell_5 : decode cX8_tell 5 = .ok (.getfield 220, 3) := by decide +kernel
theorem dX8_tell_8 : decode cX8_tell 8 = .ok (.iload_n 1, 1) := by decide +kernel
theorem dX8_tell_9 : decode cX8_tell 9 = .ok (.iastore, 1) := by decide +kernel
theorem dX8_tell_10 : decode cX8_tell 10 = .ok (.aload_n 0, 1) := by decide +kernel
theorem dX8_tell_11 : decode cX8_tell 11 = .ok (.dup, 1) := by decide +kernel
theorem dX8_tell_12 : decode cX8_tell 12 = .ok (.getfield 220, 3) := by decide +kernel
theorem dX8_tell_15 : decode cX8_tell 15 = .ok (.iconst 1, 1) := by decide +kernel
theorem dX8_tell_16 : decode cX8_tell 16 = .ok (.iadd, 1) := by decide +kernel
theorem dX8_tell_17 : decode cX8_tell 17 = .ok (.putfield 220, 3) := by decide +kernel
theorem dX8_tell_20 : decode cX8_tell 20 = .ok (.return_, 1) := by decide +kernel
theorem dX8_load_0 : decode cX8_load 0 = .ok (.aload_n 0, 1) := by decide +kernel
