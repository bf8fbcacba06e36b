theorem dX9_goes_98 : decode cX9_goes 98 = .ok (.iload 7, 2) := by decide +kernel
theorem dX9_goes_100 : decode cX9_goes 100 = .ok (.iload 10, 2) := by decide +kernel
theorem dX9_goes_102 : decode cX9_goes 102 = .ok (.iload 5, 2) := by decide +kernel
theorem dX9_goes_104 : decode cX9_goes 104 = .ok (.invokestatic 301, 3) := by decide +kernel
theorem dX9_goes_107 : decode cX9_goes 107 = .ok (.ifCond .ne 6, 3) := by decide +kernel
theorem dX9_goes_110 : decode cX9_goes 110 = .ok (.goto 21, 3) := by decide +kernel
theorem dX9_goes_113 : decode cX9_goes 113 = .ok (.aload_n 0, 1) := by decide +kernel
theorem dX9_goes_114 : decode cX9_goes 114 = .ok (.getfield 28, 3) := by decide +kernel
theorem dX9_goes_117 : decode cX9_goes 117 = .ok (.iload_n 1, 1) := by decide +kernel
theorem dX9_goes_118 : decode cX9_goes 118 = .ok (.sipush 128, 3) := by decide +kernel
theorem dX9_goes_121 : decode cX9_goes 121 = .ok (.iadd, 1) := by decide +kernel
theorem dX9_goes_122 : decode cX9_goes 122 = .ok (.iload 8, 2) := by decide +kernel
theorem dX9_goes_124 : decode cX9_goes 124 = .ok (.iadd, 1) := by decide +kernel
theorem dX9_goes_125 : decode cX9_goes 125 = .ok (.iload 10, 2) := by decide +kernel
theorem dX9_goes_127 : decode cX9_goes 127 = .ok (.iastore, 1) := by decide +kernel
theorem dX9_goes_128 : decode cX9_goes 128 = .ok (.iinc 8 1, 3) := by decide +kernel
theorem dX9_goes_131 : decode cX9_goes 131 = .ok (.iinc 9 1, 3) := by decide +kernel
theorem dX9_goes_134 : decode cX9_goes 134 = .ok (.goto (-53), 3) := by decide +kernel
theorem dX9_goes_137 : decode cX9_goes 137 = .ok (.iload 4, 2) := by decide +kernel
theorem dX9_goes_139 : decode cX9_goes 139 = .ok (.iconst 1, 1) := by decide +kernel
theorem dX9_goes_140 : decode cX9_goes 140 = .ok (.iadd, 1) := by decide +kernel
theorem dX9_goes_141 : decode cX9_goes 141 = .ok (.aload_n 0, 1) := by decide +kernel
theorem dX9_goes_142 : decode cX9_goes 142 = .ok (.getfield 292, 3) := by decide +kernel
theorem dX9_goes_145 : decode cX9_goes 145 = .ok (.if_icmp .le 41, 3) := by decide +kernel
theorem dX9_goes_148 : decode cX9_goes 148 = .ok (.aload_n 0, 1) := by decide +kernel
theorem dX9_goes_149 : decode cX9_goes 149 = .ok (.iload 4, 2) := by decide +kernel
theorem dX9_goes_151 : decode cX9_goes 151 = .ok (.iconst 1, 1) := by decide +kernel
theorem dX9_goes_152 : decode cX9_goes 152 = .ok (.iadd, 1) := by decide +kernel
theorem dX9_goes_153 : decode cX9_goes 153 = .ok (.putfield 292, 3) := by decide +kernel
theorem dX9_goes_156 : decode cX9_goes 156 = .ok (.iconst 0, 1) := by decide +kernel
theorem dX9_goes_157 : decode cX9_goes 157 = .ok (.istore 9, 2) := by decide +kernel
theorem dX9_goes_159 : decode cX9_goes 159 = .ok (.iload 9, 2) := by decide +kernel
theorem dX9_goes_161 : decode cX9_goes 161 = .ok (.iload 4, 2) := by decide +kernel
theorem dX9_goes_163 : decode cX9_goes 163 = .ok (.if_icmp .gt 23, 3) := by decide +kernel
theorem dX9_goes_166 : decode cX9_goes 166 = .ok (.aload_n 0, 1) := by decide +kernel
theorem dX9_goes_167 : decode cX9_goes 167 = .ok (.getfield 34, 3) := by decide +kernel
theorem dX9_goes_170 : decode cX9_goes 170 = .ok (.iload 9, 2) := by decide +kernel
theorem dX9_goes_172 : decode cX9_goes 172 = .ok (.aload_n 0, 1) := by decide +kernel
theorem dX9_goes_173 : decode cX9_goes 173 = .ok (.getfield 31, 3) := by decide +kernel
theorem dX9_goes_176 : decode cX9_goes 176 = .ok (.iload 9, 2) := by decide +kernel
theorem dX9_goes_178 : decode cX9_goes 178 = .ok (.iaload, 1) := by decide +kernel
theorem dX9_goes_179 : decode cX9_goes 179 = .ok (.iastore, 1) := by decide +kernel
theorem dX9_goes_180 : decode cX9_goes 180 = .ok (.iinc 9 1, 3) := by decide +kernel
theorem dX9_goes_183 : decode cX9_goes 183 = .ok (.goto (-24), 3) := by decide +kernel
theorem dX9_goes_186 : decode cX9_goes 186 = .ok (.aload_n 0, 1) := by decide +kernel
theorem dX9_goes_187 : decode cX9_goes 187 = .ok (.iload_n 1, 1) := by decide +kernel
theorem dX9_goes_188 : decode cX9_goes 188 = .ok (.sipush 128, 3) := by decide +kernel
theorem dX9_goes_191 : decode cX9_goes 191 = .ok (.iadd, 1) := by decide +kernel
theorem dX9_goes_192 : decode cX9_goes 192 = .ok (.iconst 0, 1) := by decide +kernel
theorem dX9_goes_193 : decode cX9_goes 193 = .ok (.iload 8, 2) := by decide +kernel
theorem dX9_goes_195 : decode cX9_goes 195 = .ok (.iload 4, 2) := by decide +kernel
theorem dX9_goes_197 : decode cX9_goes 197 = .ok (.iconst 1, 1) := by decide +kernel
theorem dX9_goes_198 : decode cX9_goes 198 = .ok (.iadd, 1) := by decide +kernel
theorem dX9_goes_199 : decode cX9_goes 199 = .ok (.iload 5, 2) := by decide +kernel
theorem dX9_goes_201 : decode cX9_goes 201 = .ok (.invokevirtual 304, 3) := by decide +kernel
theorem dX9_goes_204 : decode cX9_goes 204 = .ok (.ifCond .eq 5, 3) := by decide +kernel
theorem dX9_goes_207 : decode cX9_goes 207 = .ok (.iconst 1, 1) := by decide +kernel
theorem dX9_goes_208 : decode cX9_goes 208 = .ok (.ireturn, 1) := by decide +kernel
theorem dX9_goes_209 : decode cX9_goes 209 = .ok (.iinc 6 1, 3) := by decide +kernel
theorem dX9_goes_212 : decode cX9_goes 212 = .ok (.goto (-209), 3) := by decide +kernel
theorem dX9_goes_215 : decode cX9_goes 215 = .ok (.iconst 0, 1) := by decide +kernel
theorem dX9_goes_216 : decode cX9_goes 216 = .ok (.ireturn, 1) := by decide +kernel
theorem dX9_searches_0 : decode cX9_searches 0 = .ok (.iconst 0, 1) := by decide +kernel
theorem dX9_searches_1 : decode cX9_searches 1 = .ok (.istore 4, 2) := by decide +kernel
theorem dX9_searches_3 : decode cX9_searches 3 = .ok (.iload_n 2, 1) := by decide +kernel
theorem dX9_searches_4 : decode cX9_searches 4 = .ok (.ifCond .ne 7, 3) := by decide +kernel
theorem dX9_searches_7 : decode cX9_searches 7 = .ok (.iconst 1, 1) := by decide +kernel
theorem dX9_searches_8 : decode cX9_searches 8 = .ok (.goto 4, 3) := by decide +kernel
theorem dX9_searches_11 : decode cX9_searches 11 = .ok (.iconst 0, 1) := by decide +kernel
theorem dX9_searches_12 : decode cX9_searches 12 = .ok (.istore 5, 2) := by decide +kernel
theorem dX9_searches_14 : decode cX9_searches 14 = .ok (.iload 5, 2) := by decide +kernel
theorem dX9_searches_16 : decode cX9_searches 16 = .ok (.sipush 128, 3) := by decide +kernel
theorem dX9_searches_19 : decode cX9_searches 19 = .ok (.if_icmp .ge 34, 3) := by decide +kernel
theorem dX9_searches_22 : decode cX9_searches 22 = .ok (.aload_n 0, 1) := by decide +kernel
theorem dX9_searches_23 : decode cX9_searches 23 = .ok (.iload_n 1, 1) := by decide +kernel
theorem dX9_searches_24 : decode cX9_searches 24 = .ok (.iload 5, 2) := by decide +kernel
theorem dX9_searches_26 : decode cX9_searches 26 = .ok (.invokevirtual 81, 3) := by decide +kernel
theorem dX9_searches_29 : decode cX9_searches 29 = .ok (.ifCond .ne 6, 3) := by decide +kernel
theorem dX9_searches_32 : decode cX9_searches 32 = .ok (.goto 15, 3) := by decide +kernel
theorem dX9_searches_35 : decode cX9_searches 35 = .ok (.aload_n 0, 1) := by decide +kernel
theorem dX9_searches_36 : decode cX9_searches 36 = .ok (.getfield 28, 3) := by decide +kernel
theorem dX9_searches_39 : decode cX9_searches 39 = .ok (.iload 4, 2) := by decide +kernel
theorem dX9_searches_41 : decode cX9_searches 41 = .ok (.iload 5, 2) := by decide +kernel
theorem dX9_searches_43 : decode cX9_searches 43 = .ok (.iastore, 1) := by decide +kernel
theorem dX9_searches_44 : decode cX9_searches 44 = .ok (.iinc 4 1, 3) := by decide +kernel
theorem dX9_searches_47 : decode cX9_searches 47 = .ok (.iinc 5 1, 3) := by decide +kernel
theorem dX9_searches_50 : decode cX9_searches 50 = .ok (.goto (-36), 3) := by decide +kernel
theorem dX9_searches_53 : decode cX9_searches 53 = .ok (.aload_n 0, 1) := by decide +kernel
theorem dX9_searches_54 : decode cX9_searches 54 = .ok (.iconst 0, 1) := by decide +kernel
theorem dX9_searches_55 : decode cX9_searches 55 = .ok (.putfield 292, 3) := by decide +kernel
theorem dX9_searches_58 : decode cX9_searches 58 = .ok (.aload_n 0, 1) := by decide +kernel
theorem dX9_searches_59 : decode cX9_searches 59 = .ok (.iconst 0, 1) := by decide +kernel
theorem dX9_searches_60 : decode cX9_searches 60 = .ok (.putfield 298, 3) := by decide +kernel
theorem dX9_searches_63 : decode cX9_searches 63 = .ok (.aload_n 0, 1) := by decide +kernel
theorem dX9_searches_64 : decode cX9_searches 64 = .ok (.iload_n 3, 1) := by decide +kernel
theorem dX9_searches_65 : decode cX9_searches 65 = .ok (.putfield 295, 3) := by decide +kernel
theorem dX9_searches_68 : decode cX9_searches 68 = .ok (.aload_n 0, 1) := by decide +kernel
theorem dX9_searches_69 : decode cX9_searches 69 = .ok (.iconst 0, 1) := by decide +kernel
theorem dX9_searches_70 : decode cX9_searches 70 = .ok (.iconst 0, 1) := by decide +kernel
theorem dX9_searches_71 : decode cX9_searches 71 = .ok (.iload 4, 2) := by decide +kernel
theorem dX9_searches_73 : decode cX9_searches 73 = .ok (.iconst 0, 1) := by decide +kernel
theorem dX9_searches_74 : decode cX9_searches 74 = .ok (.iload_n 2, 1) := by decide +kernel
theorem dX9_searches_75 : decode cX9_searches 75 = .ok (.invokevirtual 304, 3) := by decide +kernel
theorem dX9_searches_78 : decode cX9_searches 78 = .ok (.ireturn, 1) := by decide +kernel
theorem dX9_most_0 : decode cX9_most 0 = .ok (.aload_n 0, 1) := by decide +kernel
theorem dX9_most_1 : decode cX9_most 1 = .ok (.iload_n 1, 1) := by decide +kernel
theorem dX9_most_2 : decode cX9_most 2 = .ok (.invokevirtual 75, 3) := by decide +kernel
theorem dX9_most_5 : decode cX9_most 5 = .ok (.ifCond .eq 27, 3) := by decide +kernel
theorem dX9_most_8 : decode cX9_most 8 = .ok (.iload_n 2, 1) := by decide +kernel
theorem dX9_most_9 : decode cX9_most 9 = .ok (.i2l, 1) := by decide +kernel
theorem dX9_most_10 : decode cX9_most 10 = .ok (.lconst 0, 1) := by decide +kernel
theorem dX9_most_11 : decode cX9_most 11 = .ok (.ldc2_w 308, 3) := by decide +kernel
theorem dX9_most_14 : decode cX9_most 14 = .ok (.invokestatic 63, 3) := by decide +kernel
theorem dX9_most_17 : decode cX9_most 17 = .ok (.ifCond .eq 15, 3) := by decide +kernel
theorem dX9_most_20 : decode cX9_most 20 = .ok (.iload_n 3, 1) := by decide +kernel
theorem dX9_most_21 : decode cX9_most 21 = .ok (.i2l, 1) := by decide +kernel
theorem dX9_most_22 : decode cX9_most 22 = .ok (.lconst 1, 1) := by decide +kernel
theorem dX9_most_23 : decode cX9_most 23 = .ok (.ldc2_w 310, 3) := by decide +kernel
theorem dX9_most_26 : decode cX9_most 26 = .ok (.invokestatic 63, 3) := by decide +kernel
theorem dX9_most_29 : decode cX9_most 29 = .ok (.ifCond .ne 6, 3) := by decide +kernel
theorem dX9_most_32 : decode cX9_most 32 = .ok (.bipush (-2), 2) := by decide +kernel
theorem dX9_most_34 : decode cX9_most 34 = .ok (.ireturn, 1) := by decide +kernel
theorem dX9_most_35 : decode cX9_most 35 = .ok (.aload_n 0, 1) := by decide +kernel
theorem dX9_most_36 : decode cX9_most 36 = .ok (.iload_n 1, 1) := by decide +kernel
theorem dX9_most_37 : decode cX9_most 37 = .ok (.iload_n 2, 1) := by decide +kernel
theorem dX9_most_38 : decode cX9_most 38 = .ok (.iload_n 3, 1) := by decide +kernel
theorem dX9_most_39 : decode cX9_most 39 = .ok (.invokevirtual 312, 3) := by decide +kernel
theorem dX9_most_42 : decode cX9_most 42 = .ok (.ifCond .eq 8, 3) := by decide +kernel
theorem dX9_most_45 : decode cX9_most 45 = .ok (.bipush (-3), 2) := by decide +kernel
theorem dX9_most_47 : decode cX9_most 47 = .ok (.goto 7, 3) := by decide +kernel
theorem dX9_most_50 : decode cX9_most 50 = .ok (.aload_n 0, 1) := by decide +kernel
theorem dX9_most_51 : decode cX9_most 51 = .ok (.getfield 292, 3) := by decide +kernel
theorem dX9_most_54 : decode cX9_most 54 = .ok (.ireturn, 1) := by decide +kernel
theorem dX9_takes_0 : decode cX9_takes 0 = .ok (.aload_n 0, 1) := by decide +kernel
theorem dX9_takes_1 : decode cX9_takes 1 = .ok (.iload_n 1, 1) := by decide +kernel
theorem dX9_takes_2 : decode cX9_takes 2 = .ok (.invokevirtual 75, 3) := by decide +kernel
theorem dX9_takes_5 : decode cX9_takes 5 = .ok (.ifCond .eq 35, 3) := by decide +kernel
theorem dX9_takes_8 : decode cX9_takes 8 = .ok (.iload_n 2, 1) := by decide +kernel
theorem dX9_takes_9 : decode cX9_takes 9 = .ok (.i2l, 1) := by decide +kernel
theorem dX9_takes_10 : decode cX9_takes 10 = .ok (.lconst 0, 1) := by decide +kernel
theorem dX9_takes_11 : decode cX9_takes 11 = .ok (.ldc2_w 308, 3) := by decide +kernel
theorem dX9_takes_14 : decode cX9_takes 14 = .ok (.invokestatic 63, 3) := by decide +kernel
theorem dX9_takes_17 : decode cX9_takes 17 = .ok (.ifCond .eq 23, 3) := by decide +kernel
theorem dX9_takes_20 : decode cX9_takes 20 = .ok (.iload_n 3, 1) := by decide +kernel
theorem dX9_takes_21 : decode cX9_takes 21 = .ok (.i2l, 1) := by decide +kernel
theorem dX9_takes_22 : decode cX9_takes 22 = .ok (.lconst 1, 1) := by decide +kernel
theorem dX9_takes_23 : decode cX9_takes 23 = .ok (.ldc2_w 310, 3) := by decide +kernel
theorem dX9_takes_26 : decode cX9_takes 26 = .ok (.invokestatic 63, 3) := by decide +kernel
theorem dX9_takes_29 : decode cX9_takes 29 = .ok (.ifCond .eq 11, 3) := by decide +kernel
theorem dX9_takes_32 : decode cX9_takes 32 = .ok (.iload 4, 2) := by decide +kernel
theorem dX9_takes_34 : decode cX9_takes 34 = .ok (.invokestatic 67, 3) := by decide +kernel
theorem dX9_takes_37 : decode cX9_takes 37 = .ok (.ifCond .ne 6, 3) := by decide +kernel
theorem dX9_takes_40 : decode cX9_takes 40 = .ok (.bipush (-2), 2) := by decide +kernel
theorem dX9_takes_42 : decode cX9_takes 42 = .ok (.ireturn, 1) := by decide +kernel
theorem dX9_takes_43 : decode cX9_takes 43 = .ok (.aload_n 0, 1) := by decide +kernel
theorem dX9_takes_44 : decode cX9_takes 44 = .ok (.iload_n 1, 1) := by decide +kernel
theorem dX9_takes_45 : decode cX9_takes 45 = .ok (.iload_n 2, 1) := by decide +kernel
theorem dX9_takes_46 : decode cX9_takes 46 = .ok (.iload_n 3, 1) := by decide +kernel
theorem dX9_takes_47 : decode cX9_takes 47 = .ok (.invokevirtual 312, 3) := by decide +kernel
theorem dX9_takes_50 : decode cX9_takes 50 = .ok (.ifCond .eq 6, 3) := by decide +kernel
theorem dX9_takes_53 : decode cX9_takes 53 = .ok (.bipush (-3), 2) := by decide +kernel
theorem dX9_takes_55 : decode cX9_takes 55 = .ok (.ireturn, 1) := by decide +kernel
theorem dX9_takes_56 : decode cX9_takes 56 = .ok (.aload_n 0, 1) := by decide +kernel
theorem dX9_takes_57 : decode cX9_takes 57 = .ok (.aload_n 0, 1) := by decide +kernel
theorem dX9_takes_58 : decode cX9_takes 58 = .ok (.iload_n 1, 1) := by decide +kernel
theorem dX9_takes_59 : decode cX9_takes 59 = .ok (.invokevirtual 78, 3) := by decide +kernel
theorem dX9_takes_62 : decode cX9_takes 62 = .ok (.invokevirtual 176, 3) := by decide +kernel
theorem dX9_takes_65 : decode cX9_takes 65 = .ok (.iconst 0, 1) := by decide +kernel
theorem dX9_takes_66 : decode cX9_takes 66 = .ok (.istore 5, 2) := by decide +kernel
theorem dX9_takes_68 : decode cX9_takes 68 = .ok (.iload 5, 2) := by decide +kernel
theorem dX9_takes_70 : decode cX9_takes 70 = .ok (.aload_n 0, 1) := by decide +kernel
theorem dX9_takes_71 : decode cX9_takes 71 = .ok (.getfield 292, 3) := by decide +kernel
theorem dX9_takes_74 : decode cX9_takes 74 = .ok (.if_icmp .ge 22, 3) := by decide +kernel
theorem dX9_takes_77 : decode cX9_takes 77 = .ok (.aload_n 0, 1) := by decide +kernel
theorem dX9_takes_78 : decode cX9_takes 78 = .ok (.getfield 13, 3) := by decide +kernel
theorem dX9_takes_81 : decode cX9_takes 81 = .ok (.aload_n 0, 1) := by decide +kernel
theorem dX9_takes_82 : decode cX9_takes 82 = .ok (.getfield 34, 3) := by decide +kernel
theorem dX9_takes_85 : decode cX9_takes 85 = .ok (.iload 5, 2) := by decide +kernel
theorem dX9_takes_87 : decode cX9_takes 87 = .ok (.iaload, 1) := by decide +kernel
theorem dX9_takes_88 : decode cX9_takes 88 = .ok (.iconst 1, 1) := by decide +kernel
theorem dX9_takes_89 : decode cX9_takes 89 = .ok (.bastore, 1) := by decide +kernel
theorem dX9_takes_90 : decode cX9_takes 90 = .ok (.iinc 5 1, 3) := by decide +kernel
theorem dX9_takes_93 : decode cX9_takes 93 = .ok (.goto (-25), 3) := by decide +kernel
theorem dX9_takes_96 : decode cX9_takes 96 = .ok (.aload_n 0, 1) := by decide +kernel
theorem dX9_takes_97 : decode cX9_takes 97 = .ok (.iload 4, 2) := by decide +kernel
theorem dX9_takes_99 : decode cX9_takes 99 = .ok (.invokevirtual 188, 3) := by decide +kernel
theorem dX9_takes_102 : decode cX9_takes 102 = .ok (.istore 5, 2) := by decide +kernel
theorem dX9_takes_104 : decode cX9_takes 104 = .ok (.aload_n 0, 1) := by decide +kernel
theorem dX9_takes_105 : decode cX9_takes 105 = .ok (.getfield 298, 3) := by decide +kernel
theorem dX9_takes_108 : decode cX9_takes 108 = .ok (.ireturn, 1) := by decide +kernel
theorem dX9_cover_0 : decode cX9_cover 0 = .ok (.aload_n 0, 1) := by decide +kernel
theorem dX9_cover_1 : decode cX9_cover 1 = .ok (.iload_n 1, 1) := by decide +kernel
theorem dX9_cover_2 : decode cX9_cover 2 = .ok (.invokevirtual 75, 3) := by decide +kernel
theorem dX9_cover_5 : decode cX9_cover 5 = .ok (.ifCond .ne 6, 3) := by decide +kernel
theorem dX9_cover_8 : decode cX9_cover 8 = .ok (.bipush (-2), 2) := by decide +kernel
theorem dX9_cover_10 : decode cX9_cover 10 = .ok (.ireturn, 1) := by decide +kernel
theorem dX9_cover_11 : decode cX9_cover 11 = .ok (.aload_n 0, 1) := by decide +kernel
theorem dX9_cover_12 : decode cX9_cover 12 = .ok (.iload_n 1, 1) := by decide +kernel
theorem dX9_cover_13 : decode cX9_cover 13 = .ok (.iconst 0, 1) := by decide +kernel
theorem dX9_cover_14 : decode cX9_cover 14 = .ok (.invokevirtual 81, 3) := by decide +kernel
theorem dX9_cover_17 : decode cX9_cover 17 = .ok (.ifCond .eq 5, 3) := by decide +kernel
theorem dX9_cover_20 : decode cX9_cover 20 = .ok (.iconst (-1), 1) := by decide +kernel
theorem dX9_cover_21 : decode cX9_cover 21 = .ok (.ireturn, 1) := by decide +kernel
theorem dX9_cover_22 : decode cX9_cover 22 = .ok (.iconst (-1), 1) := by decide +kernel
theorem dX9_cover_23 : decode cX9_cover 23 = .ok (.istore_n 2, 1) := by decide +kernel
theorem dX9_cover_24 : decode cX9_cover 24 = .ok (.iconst 0, 1) := by decide +kernel
theorem dX9_cover_25 : decode cX9_cover 25 = .ok (.istore_n 3, 1) := by decide +kernel
theorem dX9_cover_26 : decode cX9_cover 26 = .ok (.iload_n 3, 1) := by decide +kernel
theorem dX9_cover_27 : decode cX9_cover 27 = .ok (.iconst 1, 1) := by decide +kernel
theorem dX9_cover_28 : decode cX9_cover 28 = .ok (.aload_n 0, 1) := by decide +kernel
theorem dX9_cover_29 : decode cX9_cover 29 = .ok (.iload_n 1, 1) := by decide +kernel
theorem dX9_cover_30 : decode cX9_cover 30 = .ok (.invokevirtual 78, 3) := by decide +kernel
theorem dX9_cover_33 : decode cX9_cover 33 = .ok (.ishl, 1) := by decide +kernel
theorem dX9_cover_34 : decode cX9_cover 34 = .ok (.if_icmp .ge 84, 3) := by decide +kernel
theorem dX9_cover_37 : decode cX9_cover 37 = .ok (.iload_n 2, 1) := by decide +kernel
theorem dX9_cover_38 : decode cX9_cover 38 = .ok (.iconst (-1), 1) := by decide +kernel
theorem dX9_cover_39 : decode cX9_cover 39 = .ok (.if_icmp .eq 17, 3) := by decide +kernel
theorem dX9_cover_42 : decode cX9_cover 42 = .ok (.iload_n 3, 1) := by decide +kernel
theorem dX9_cover_43 : decode cX9_cover 43 = .ok (.invokestatic 198, 3) := by decide +kernel
theorem dX9_cover_46 : decode cX9_cover 46 = .ok (.iload_n 2, 1) := by decide +kernel
theorem dX9_cover_47 : decode cX9_cover 47 = .ok (.invokestatic 198, 3) := by decide +kernel
theorem dX9_cover_50 : decode cX9_cover 50 = .ok (.if_icmp .lt 6, 3) := by decide +kernel
theorem dX9_cover_53 : decode cX9_cover 53 = .ok (.goto 59, 3) := by decide +kernel
theorem dX9_cover_56 : decode cX9_cover 56 = .ok (.iconst 1, 1) := by decide +kernel
theorem dX9_cover_57 : decode cX9_cover 57 = .ok (.istore 4, 2) := by decide +kernel
theorem dX9_cover_59 : decode cX9_cover 59 = .ok (.iconst 0, 1) := by decide +kernel
theorem dX9_cover_60 : decode cX9_cover 60 = .ok (.istore 5, 2) := by decide +kernel
theorem dX9_cover_62 : decode cX9_cover 62 = .ok (.iload 5, 2) := by decide +kernel
theorem dX9_cover_64 : decode cX9_cover 64 = .ok (.sipush 128, 3) := by decide +kernel
theorem dX9_cover_67 : decode cX9_cover 67 = .ok (.if_icmp .ge 38, 3) := by decide +kernel
theorem dX9_cover_70 : decode cX9_cover 70 = .ok (.iload 4, 2) := by decide +kernel
theorem dX9_cover_72 : decode cX9_cover 72 = .ok (.ifCond .eq 33, 3) := by decide +kernel
theorem dX9_cover_75 : decode cX9_cover 75 = .ok (.aload_n 0, 1) := by decide +kernel
theorem dX9_cover_76 : decode cX9_cover 76 = .ok (.iload_n 1, 1) := by decide +kernel
theorem dX9_cover_77 : decode cX9_cover 77 = .ok (.iload 5, 2) := by decide +kernel
theorem dX9_cover_79 : decode cX9_cover 79 = .ok (.invokevirtual 81, 3) := by decide +kernel
theorem dX9_cover_82 : decode cX9_cover 82 = .ok (.ifCond .eq 10, 3) := by decide +kernel
theorem dX9_cover_85 : decode cX9_cover 85 = .ok (.iload 5, 2) := by decide +kernel
theorem dX9_cover_87 : decode cX9_cover 87 = .ok (.iload_n 3, 1) := by decide +kernel
theorem dX9_cover_88 : decode cX9_cover 88 = .ok (.iand, 1) := by decide +kernel
theorem dX9_cover_89 : decode cX9_cover 89 = .ok (.ifCond .eq 7, 3) := by decide +kernel
theorem dX9_cover_92 : decode cX9_cover 92 = .ok (.iconst 1, 1) := by decide +kernel
theorem dX9_cover_93 : decode cX9_cover 93 = .ok (.goto 4, 3) := by decide +kernel
theorem dX9_cover_96 : decode cX9_cover 96 = .ok (.iconst 0, 1) := by decide +kernel
theorem dX9_cover_97 : decode cX9_cover 97 = .ok (.istore 4, 2) := by decide +kernel
theorem dX9_cover_99 : decode cX9_cover 99 = .ok (.iinc 5 1, 3) := by decide +kernel
theorem dX9_cover_102 : decode cX9_cover 102 = .ok (.goto (-40), 3) := by decide +kernel
theorem dX9_cover_105 : decode cX9_cover 105 = .ok (.iload 4, 2) := by decide +kernel
theorem dX9_cover_107 : decode cX9_cover 107 = .ok (.ifCond .eq 5, 3) := by decide +kernel
theorem dX9_cover_110 : decode cX9_cover 110 = .ok (.iload_n 3, 1) := by decide +kernel
theorem dX9_cover_111 : decode cX9_cover 111 = .ok (.istore_n 2, 1) := by decide +kernel
theorem dX9_cover_112 : decode cX9_cover 112 = .ok (.iinc 3 1, 3) := by decide +kernel
theorem dX9_cover_115 : decode cX9_cover 115 = .ok (.goto (-89), 3) := by decide +kernel
theorem dX9_cover_118 : decode cX9_cover 118 = .ok (.iload_n 2, 1) := by decide +kernel
theorem dX9_cover_119 : decode cX9_cover 119 = .ok (.ireturn, 1) := by decide +kernel
theorem dX9_canBe_0 : decode cX9_canBe 0 = .ok (.iconst 0, 1) := by decide +kernel
theorem dX9_canBe_1 : decode cX9_canBe 1 = .ok (.istore_n 3, 1) := by decide +kernel
theorem dX9_canBe_2 : decode cX9_canBe 2 = .ok (.iload_n 3, 1) := by decide +kernel
theorem dX9_canBe_3 : decode cX9_canBe 3 = .ok (.iload_n 1, 1) := by decide +kernel
theorem dX9_canBe_4 : decode cX9_canBe 4 = .ok (.if_icmp .ge 37, 3) := by decide +kernel
theorem dX9_canBe_7 : decode cX9_canBe 7 = .ok (.aload_n 0, 1) := by decide +kernel
theorem dX9_canBe_8 : decode cX9_canBe 8 = .ok (.getfield 40, 3) := by decide +kernel
theorem dX9_canBe_11 : decode cX9_canBe 11 = .ok (.iload_n 3, 1) := by decide +kernel
theorem dX9_canBe_12 : decode cX9_canBe 12 = .ok (.iaload, 1) := by decide +kernel
theorem dX9_canBe_13 : decode cX9_canBe 13 = .ok (.iload_n 2, 1) := by decide +kernel
theorem dX9_canBe_14 : decode cX9_canBe 14 = .ok (.if_icmp .ne 21, 3) := by decide +kernel
theorem dX9_canBe_17 : decode cX9_canBe 17 = .ok (.aload_n 0, 1) := by decide +kernel
theorem dX9_canBe_18 : decode cX9_canBe 18 = .ok (.getfield 37, 3) := by decide +kernel
theorem dX9_canBe_21 : decode cX9_canBe 21 = .ok (.iload_n 3, 1) := by decide +kernel
theorem dX9_canBe_22 : decode cX9_canBe 22 = .ok (.iaload, 1) := by decide +kernel
theorem dX9_canBe_23 : decode cX9_canBe 23 = .ok (.aload_n 0, 1) := by decide +kernel
theorem dX9_canBe_24 : decode cX9_canBe 24 = .ok (.getfield 37, 3) := by decide +kernel
theorem dX9_canBe_27 : decode cX9_canBe 27 = .ok (.iload_n 1, 1) := by decide +kernel
theorem dX9_canBe_28 : decode cX9_canBe 28 = .ok (.iaload, 1) := by decide +kernel
theorem dX9_canBe_29 : decode cX9_canBe 29 = .ok (.iand, 1) := by decide +kernel
theorem dX9_canBe_30 : decode cX9_canBe 30 = .ok (.ifCond .ne 5, 3) := by decide +kernel
theorem dX9_canBe_33 : decode cX9_canBe 33 = .ok (.iconst 0, 1) := by decide +kernel
theorem dX9_canBe_34 : decode cX9_canBe 34 = .ok (.ireturn, 1) := by decide +kernel
theorem dX9_canBe_35 : decode cX9_canBe 35 = .ok (.iinc 3 1, 3) := by decide +kernel
theorem dX9_canBe_38 : decode cX9_canBe 38 = .ok (.goto (-36), 3) := by decide +kernel
theorem dX9_canBe_41 : decode cX9_canBe 41 = .ok (.iconst 1, 1) := by decide +kernel
theorem dX9_canBe_42 : decode cX9_canBe 42 = .ok (.ireturn, 1) := by decide +kernel
theorem dX9_colours0_0 : decode cX9_colours0 0 = .ok (.aload_n 0, 1) := by decide +kernel
theorem dX9_colours0_1 : decode cX9_colours0 1 = .ok (.iconst 0, 1) := by decide +kernel
theorem dX9_colours0_2 : decode cX9_colours0 2 = .ok (.putfield 315, 3) := by decide +kernel
theorem dX9_colours0_5 : decode cX9_colours0 5 = .ok (.iconst 0, 1) := by decide +kernel
theorem dX9_colours0_6 : decode cX9_colours0 6 = .ok (.istore 4, 2) := by decide +kernel
theorem dX9_colours0_8 : decode cX9_colours0 8 = .ok (.iload 4, 2) := by decide +kernel
theorem dX9_colours0_10 : decode cX9_colours0 10 = .ok (.sipush 128, 3) := by decide +kernel
theorem dX9_colours0_13 : decode cX9_colours0 13 = .ok (.if_icmp .ge 43, 3) := by decide +kernel
theorem dX9_colours0_16 : decode cX9_colours0 16 = .ok (.aload_n 0, 1) := by decide +kernel
theorem dX9_colours0_17 : decode cX9_colours0 17 = .ok (.iload_n 1, 1) := by decide +kernel
theorem dX9_colours0_18 : decode cX9_colours0 18 = .ok (.iload 4, 2) := by decide +kernel
theorem dX9_colours0_20 : decode cX9_colours0 20 = .ok (.invokevirtual 81, 3) := by decide +kernel
theorem dX9_colours0_23 : decode cX9_colours0 23 = .ok (.ifCond .ne 6, 3) := by decide +kernel
theorem dX9_colours0_26 : decode cX9_colours0 26 = .ok (.goto 24, 3) := by decide +kernel
theorem dX9_colours0_29 : decode cX9_colours0 29 = .ok (.aload_n 0, 1) := by decide +kernel
theorem dX9_colours0_30 : decode cX9_colours0 30 = .ok (.getfield 37, 3) := by decide +kernel
theorem dX9_colours0_33 : decode cX9_colours0 33 = .ok (.aload_n 0, 1) := by decide +kernel
theorem dX9_colours0_34 : decode cX9_colours0 34 = .ok (.getfield 315, 3) := by decide +kernel
theorem dX9_colours0_37 : decode cX9_colours0 37 = .ok (.iload 4, 2) := by decide +kernel
theorem dX9_colours0_39 : decode cX9_colours0 39 = .ok (.iastore, 1) := by decide +kernel
theorem dX9_colours0_40 : decode cX9_colours0 40 = .ok (.aload_n 0, 1) := by decide +kernel
theorem dX9_colours0_41 : decode cX9_colours0 41 = .ok (.dup, 1) := by decide +kernel
theorem dX9_colours0_42 : decode cX9_colours0 42 = .ok (.getfield 315, 3) := by decide +kernel
theorem dX9_colours0_45 : decode cX9_colours0 45 = .ok (.iconst 1, 1) := by decide +kernel
theorem dX9_colours0_46 : decode cX9_colours0 46 = .ok (.iadd, 1) := by decide +kernel
theorem dX9_colours0_47 : decode cX9_colours0 47 = .ok (.putfield 315, 3) := by decide +kernel
theorem dX9_colours0_50 : decode cX9_colours0 50 = .ok (.iinc 4 1, 3) := by decide +kernel
theorem dX9_colours0_53 : decode cX9_colours0 53 = .ok (.goto (-45), 3) := by decide +kernel
theorem dX9_colours0_56 : decode cX9_colours0 56 = .ok (.iload_n 3, 1) := by decide +kernel
theorem dX9_colours0_57 : decode cX9_colours0 57 = .ok (.istore 4, 2) := by decide +kernel
theorem dX9_colours0_59 : decode cX9_colours0 59 = .ok (.iconst 0, 1) := by decide +kernel
theorem dX9_colours0_60 : decode cX9_colours0 60 = .ok (.istore 5, 2) := by decide +kernel
theorem dX9_colours0_62 : decode cX9_colours0 62 = .ok (.aload_n 0, 1) := by decide +kernel
theorem dX9_colours0_63 : decode cX9_colours0 63 = .ok (.getfield 40, 3) := by decide +kernel
theorem dX9_colours0_66 : decode cX9_colours0 66 = .ok (.iconst 0, 1) := by decide +kernel
theorem dX9_colours0_67 : decode cX9_colours0 67 = .ok (.iconst (-1), 1) := by decide +kernel
theorem dX9_colours0_68 : decode cX9_colours0 68 = .ok (.iastore, 1) := by decide +kernel
theorem dX9_colours0_69 : decode cX9_colours0 69 = .ok (.iload 5, 2) := by decide +kernel
theorem dX9_colours0_71 : decode cX9_colours0 71 = .ok (.ifCond .lt 158, 3) := by decide +kernel
theorem dX9_colours0_74 : decode cX9_colours0 74 = .ok (.iload 5, 2) := by decide +kernel
theorem dX9_colours0_76 : decode cX9_colours0 76 = .ok (.aload_n 0, 1) := by decide +kernel
theorem dX9_colours0_77 : decode cX9_colours0 77 = .ok (.getfield 315, 3) := by decide +kernel
theorem dX9_colours0_80 : decode cX9_colours0 80 = .ok (.if_icmp .ge 149, 3) := by decide +kernel
theorem dX9_colours0_83 : decode cX9_colours0 83 = .ok (.iconst 0, 1) := by decide +kernel
theorem dX9_colours0_84 : decode cX9_colours0 84 = .ok (.istore 6, 2) := by decide +kernel
theorem dX9_colours0_86 : decode cX9_colours0 86 = .ok (.iconst 0, 1) := by decide +kernel
theorem dX9_colours0_87 : decode cX9_colours0 87 = .ok (.istore 7, 2) := by decide +kernel
theorem dX9_colours0_89 : decode cX9_colours0 89 = .ok (.iload 7, 2) := by decide +kernel
theorem dX9_colours0_91 : decode cX9_colours0 91 = .ok (.iload 5, 2) := by decide +kernel
theorem dX9_colours0_93 : decode cX9_colours0 93 = .ok (.if_icmp .ge 25, 3) := by decide +kernel
theorem dX9_colours0_96 : decode cX9_colours0 96 = .ok (.iload 6, 2) := by decide +kernel
theorem dX9_colours0_98 : decode cX9_colours0 98 = .ok (.aload_n 0, 1) := by decide +kernel
theorem dX9_colours0_99 : decode cX9_colours0 99 = .ok (.getfield 40, 3) := by decide +kernel
theorem dX9_colours0_102 : decode cX9_colours0 102 = .ok (.iload 7, 2) := by decide +kernel
theorem dX9_colours0_104 : decode cX9_colours0 104 = .ok (.iaload, 1) := by decide +kernel
theorem dX9_colours0_105 : decode cX9_colours0 105 = .ok (.iconst 1, 1) := by decide +kernel
theorem dX9_colours0_106 : decode cX9_colours0 106 = .ok (.iadd, 1) := by decide +kernel
theorem dX9_colours0_107 : decode cX9_colours0 107 = .ok (.invokestatic 201, 3) := by decide +kernel
theorem dX9_colours0_110 : decode cX9_colours0 110 = .ok (.istore 6, 2) := by decide +kernel
theorem dX9_colours0_112 : decode cX9_colours0 112 = .ok (.iinc 7 1, 3) := by decide +kernel
theorem dX9_colours0_115 : decode cX9_colours0 115 = .ok (.goto (-26), 3) := by decide +kernel
theorem dX9_colours0_118 : decode cX9_colours0 118 = .ok (.aload_n 0, 1) := by decide +kernel
theorem dX9_colours0_119 : decode cX9_colours0 119 = .ok (.getfield 40, 3) := by decide +kernel
theorem dX9_colours0_122 : decode cX9_colours0 122 = .ok (.iload 5, 2) := by decide +kernel
theorem dX9_colours0_124 : decode cX9_colours0 124 = .ok (.iaload, 1) := by decide +kernel
theorem dX9_colours0_125 : decode cX9_colours0 125 = .ok (.iconst 1, 1) := by decide +kernel
theorem dX9_colours0_126 : decode cX9_colours0 126 = .ok (.iadd, 1) := by decide +kernel
theorem dX9_colours0_127 : decode cX9_colours0 127 = .ok (.istore 7, 2) := by decide +kernel
theorem dX9_colours0_129 : decode cX9_colours0 129 = .ok (.aload_n 0, 1) := by decide +kernel
theorem dX9_colours0_130 : decode cX9_colours0 130 = .ok (.getfield 40, 3) := by decide +kernel
theorem dX9_colours0_133 : decode cX9_colours0 133 = .ok (.iload 5, 2) := by decide +kernel
theorem dX9_colours0_135 : decode cX9_colours0 135 = .ok (.iconst (-1), 1) := by decide +kernel
theorem dX9_colours0_136 : decode cX9_colours0 136 = .ok (.iastore, 1) := by decide +kernel
theorem dX9_colours0_137 : decode cX9_colours0 137 = .ok (.iload 7, 2) := by decide +kernel
theorem dX9_colours0_139 : decode cX9_colours0 139 = .ok (.iload_n 2, 1) := by decide +kernel
theorem dX9_colours0_140 : decode cX9_colours0 140 = .ok (.if_icmp .ge 27, 3) := by decide +kernel
theorem dX9_colours0_143 : decode cX9_colours0 143 = .ok (.iload 7, 2) := by decide +kernel
theorem dX9_colours0_145 : decode cX9_colours0 145 = .ok (.iload 6, 2) := by decide +kernel
theorem dX9_colours0_147 : decode cX9_colours0 147 = .ok (.if_icmp .gt 20, 3) := by decide +kernel
theorem dX9_colours0_150 : decode cX9_colours0 150 = .ok (.aload_n 0, 1) := by decide +kernel
theorem dX9_colours0_151 : decode cX9_colours0 151 = .ok (.iload 5, 2) := by decide +kernel
theorem dX9_colours0_153 : decode cX9_colours0 153 = .ok (.iload 7, 2) := by decide +kernel
theorem dX9_colours0_155 : decode cX9_colours0 155 = .ok (.invokevirtual 318, 3) := by decide +kernel
theorem dX9_colours0_158 : decode cX9_colours0 158 = .ok (.ifCond .ne 9, 3) := by decide +kernel
theorem dX9_colours0_161 : decode cX9_colours0 161 = .ok (.iinc 7 1, 3) := by decide +kernel
theorem dX9_colours0_164 : decode cX9_colours0 164 = .ok (.goto (-27), 3) := by decide +kernel
theorem dX9_colours0_167 : decode cX9_colours0 167 = .ok (.iload 7, 2) := by decide +kernel
theorem dX9_colours0_169 : decode cX9_colours0 169 = .ok (.iload_n 2, 1) := by decide +kernel
theorem dX9_colours0_170 : decode cX9_colours0 170 = .ok (.if_icmp .ge 10, 3) := by decide +kernel
theorem dX9_colours0_173 : decode cX9_colours0 173 = .ok (.iload 7, 2) := by decide +kernel
theorem dX9_colours0_175 : decode cX9_colours0 175 = .ok (.iload 6, 2) := by decide +kernel
theorem dX9_colours0_177 : decode cX9_colours0 177 = .ok (.if_icmp .le 9, 3) := by decide +kernel
theorem dX9_colours0_180 : decode cX9_colours0 180 = .ok (.iinc 5 (-1), 3) := by decide +kernel
theorem dX9_colours0_183 : decode cX9_colours0 183 = .ok (.goto (-114), 3) := by decide +kernel
theorem dX9_colours0_186 : decode cX9_colours0 186 = .ok (.iload 4, 2) := by decide +kernel
theorem dX9_colours0_188 : decode cX9_colours0 188 = .ok (.ifCond .ne 6, 3) := by decide +kernel
theorem dX9_colours0_191 : decode cX9_colours0 191 = .ok (.bipush (-3), 2) := by decide +kernel
theorem dX9_colours0_193 : decode cX9_colours0 193 = .ok (.ireturn, 1) := by decide +kernel
theorem dX9_colours0_194 : decode cX9_colours0 194 = .ok (.iinc 4 (-1), 3) := by decide +kernel
theorem dX9_colours0_197 : decode cX9_colours0 197 = .ok (.aload_n 0, 1) := by decide +kernel
theorem dX9_colours0_198 : decode cX9_colours0 198 = .ok (.getfield 40, 3) := by decide +kernel
theorem dX9_colours0_201 : decode cX9_colours0 201 = .ok (.iload 5, 2) := by decide +kernel
theorem dX9_colours0_203 : decode cX9_colours0 203 = .ok (.iload 7, 2) := by decide +kernel
theorem dX9_colours0_205 : decode cX9_colours0 205 = .ok (.iastore, 1) := by decide +kernel
theorem dX9_colours0_206 : decode cX9_colours0 206 = .ok (.iinc 5 1, 3) := by decide +kernel
theorem dX9_colours0_209 : decode cX9_colours0 209 = .ok (.iload 5, 2) := by decide +kernel
theorem dX9_colours0_211 : decode cX9_colours0 211 = .ok (.aload_n 0, 1) := by decide +kernel
theorem dX9_colours0_212 : decode cX9_colours0 212 = .ok (.getfield 315, 3) := by decide +kernel
theorem dX9_colours0_215 : decode cX9_colours0 215 = .ok (.if_icmp .ge 11, 3) := by decide +kernel
theorem dX9_colours0_218 : decode cX9_colours0 218 = .ok (.aload_n 0, 1) := by decide +kernel
theorem dX9_colours0_219 : decode cX9_colours0 219 = .ok (.getfield 40, 3) := by decide +kernel
theorem dX9_colours0_222 : decode cX9_colours0 222 = .ok (.iload 5, 2) := by decide +kernel
theorem dX9_colours0_224 : decode cX9_colours0 224 = .ok (.iconst (-1), 1) := by decide +kernel
theorem dX9_colours0_225 : decode cX9_colours0 225 = .ok (.iastore, 1) := by decide +kernel
theorem dX9_colours0_226 : decode cX9_colours0 226 = .ok (.goto (-157), 3) := by decide +kernel
theorem dX9_colours0_229 : decode cX9_colours0 229 = .ok (.iload 5, 2) := by decide +kernel
theorem dX9_colours0_231 : decode cX9_colours0 231 = .ok (.ifCond .ge 7, 3) := by decide +kernel
theorem dX9_colours0_234 : decode cX9_colours0 234 = .ok (.iconst 0, 1) := by decide +kernel
theorem dX9_colours0_235 : decode cX9_colours0 235 = .ok (.goto 4, 3) := by decide +kernel
theorem dX9_colours0_238 : decode cX9_colours0 238 = .ok (.iconst 1, 1) := by decide +kernel
theorem dX9_colours0_239 : decode cX9_colours0 239 = .ok (.ireturn, 1) := by decide +kernel
theorem dX9_colours_0 : decode cX9_colours 0 = .ok (.aload_n 0, 1) := by decide +kernel
theorem dX9_colours_1 : decode cX9_colours 1 = .ok (.iload_n 1, 1) := by decide +kernel
theorem dX9_colours_2 : decode cX9_colours 2 = .ok (.invokevirtual 75, 3) := by decide +kernel
theorem dX9_colours_5 : decode cX9_colours 5 = .ok (.ifCond .eq 15, 3) := by decide +kernel
theorem dX9_colours_8 : decode cX9_colours 8 = .ok (.iload_n 2, 1) := by decide +kernel
theorem dX9_colours_9 : decode cX9_colours 9 = .ok (.i2l, 1) := by decide +kernel
theorem dX9_colours_10 : decode cX9_colours 10 = .ok (.lconst 1, 1) := by decide +kernel
theorem dX9_colours_11 : decode cX9_colours 11 = .ok (.ldc2_w 310, 3) := by decide +kernel
theorem dX9_colours_14 : decode cX9_colours 14 = .ok (.invokestatic 63, 3) := by decide +kernel
theorem dX9_colours_17 : decode cX9_colours 17 = .ok (.ifCond .ne 6, 3) := by decide +kernel
theorem dX9_colours_20 : decode cX9_colours 20 = .ok (.bipush (-2), 2) := by decide +kernel
theorem dX9_colours_22 : decode cX9_colours 22 = .ok (.ireturn, 1) := by decide +kernel
theorem dX9_colours_23 : decode cX9_colours 23 = .ok (.aload_n 0, 1) := by decide +kernel
theorem dX9_colours_24 : decode cX9_colours 24 = .ok (.iload_n 1, 1) := by decide +kernel
theorem dX9_colours_25 : decode cX9_colours 25 = .ok (.iconst 0, 1) := by decide +kernel
theorem dX9_colours_26 : decode cX9_colours 26 = .ok (.invokevirtual 81, 3) := by decide +kernel
theorem dX9_colours_29 : decode cX9_colours 29 = .ok (.ifCond .eq 6, 3) := by decide +kernel
theorem dX9_colours_32 : decode cX9_colours 32 = .ok (.bipush (-6), 2) := by decide +kernel
theorem dX9_colours_34 : decode cX9_colours 34 = .ok (.ireturn, 1) := by decide +kernel
theorem dX9_colours_35 : decode cX9_colours 35 = .ok (.aload_n 0, 1) := by decide +kernel
theorem dX9_colours_36 : decode cX9_colours 36 = .ok (.iload_n 1, 1) := by decide +kernel
theorem dX9_colours_37 : decode cX9_colours 37 = .ok (.invokevirtual 97, 3) := by decide +kernel
theorem dX9_colours_40 : decode cX9_colours 40 = .ok (.ifCond .ne 5, 3) := by decide +kernel
theorem dX9_colours_43 : decode cX9_colours 43 = .ok (.iconst 0, 1) := by decide +kernel
theorem dX9_colours_44 : decode cX9_colours 44 = .ok (.ireturn, 1) := by decide +kernel
theorem dX9_colours_45 : decode cX9_colours 45 = .ok (.iconst 1, 1) := by decide +kernel
theorem dX9_colours_46 : decode cX9_colours 46 = .ok (.istore_n 3, 1) := by decide +kernel
theorem dX9_colours_47 : decode cX9_colours 47 = .ok (.aload_n 0, 1) := by decide +kernel
theorem dX9_colours_48 : decode cX9_colours 48 = .ok (.iload_n 1, 1) := by decide +kernel
theorem dX9_colours_49 : decode cX9_colours 49 = .ok (.iload_n 3, 1) := by decide +kernel
theorem dX9_colours_50 : decode cX9_colours 50 = .ok (.iload_n 2, 1) := by decide +kernel
theorem dX9_colours_51 : decode cX9_colours 51 = .ok (.invokevirtual 321, 3) := by decide +kernel
theorem dX9_colours_54 : decode cX9_colours 54 = .ok (.istore 4, 2) := by decide +kernel
theorem dX9_colours_56 : decode cX9_colours 56 = .ok (.iload 4, 2) := by decide +kernel
theorem dX9_colours_58 : decode cX9_colours 58 = .ok (.ifCond .ne 18, 3) := by decide +kernel
theorem dX9_colours_61 : decode cX9_colours 61 = .ok (.iinc 3 1, 3) := by decide +kernel
theorem dX9_colours_64 : decode cX9_colours 64 = .ok (.aload_n 0, 1) := by decide +kernel
theorem dX9_colours_65 : decode cX9_colours 65 = .ok (.iload_n 1, 1) := by decide +kernel
theorem dX9_colours_66 : decode cX9_colours 66 = .ok (.iload_n 3, 1) := by decide +kernel
theorem dX9_colours_67 : decode cX9_colours 67 = .ok (.iload_n 2, 1) := by decide +kernel
theorem dX9_colours_68 : decode cX9_colours 68 = .ok (.invokevirtual 321, 3) := by decide +kernel
theorem dX9_colours_71 : decode cX9_colours 71 = .ok (.istore 4, 2) := by decide +kernel
theorem dX9_colours_73 : decode cX9_colours 73 = .ok (.goto (-17), 3) := by decide +kernel
theorem dX9_colours_76 : decode cX9_colours 76 = .ok (.iload 4, 2) := by decide +kernel
theorem dX9_colours_78 : decode cX9_colours 78 = .ok (.bipush (-3), 2) := by decide +kernel
theorem dX9_colours_80 : decode cX9_colours 80 = .ok (.if_icmp .ne 8, 3) := by decide +kernel
theorem dX9_colours_83 : decode cX9_colours 83 = .ok (.bipush (-3), 2) := by decide +kernel
theorem dX9_colours_85 : decode cX9_colours 85 = .ok (.goto 4, 3) := by decide +kernel
theorem dX9_colours_88 : decode cX9_colours 88 = .ok (.iload_n 3, 1) := by decide +kernel
theorem dX9_colours_89 : decode cX9_colours 89 = .ok (.ireturn, 1) := by decide +kernel
theorem dX9_colour_0 : decode cX9_colour 0 = .ok (.aload_n 0, 1) := by decide +kernel
theorem dX9_colour_1 : decode cX9_colour 1 = .ok (.iload_n 1, 1) := by decide +kernel
theorem dX9_colour_2 : decode cX9_colour 2 = .ok (.invokevirtual 75, 3) := by decide +kernel
theorem dX9_colour_5 : decode cX9_colour 5 = .ok (.ifCond .eq 32, 3) := by decide +kernel
theorem dX9_colour_8 : decode cX9_colour 8 = .ok (.iload_n 2, 1) := by decide +kernel
theorem dX9_colour_9 : decode cX9_colour 9 = .ok (.i2l, 1) := by decide +kernel
theorem dX9_colour_10 : decode cX9_colour 10 = .ok (.lconst 1, 1) := by decide +kernel
theorem dX9_colour_11 : decode cX9_colour 11 = .ok (.ldc2_w 174, 3) := by decide +kernel
theorem dX9_colour_14 : decode cX9_colour 14 = .ok (.invokestatic 63, 3) := by decide +kernel
theorem dX9_colour_17 : decode cX9_colour 17 = .ok (.ifCond .eq 20, 3) := by decide +kernel
theorem dX9_colour_20 : decode cX9_colour 20 = .ok (.iload_n 3, 1) := by decide +kernel
theorem dX9_colour_21 : decode cX9_colour 21 = .ok (.i2l, 1) := by decide +kernel
theorem dX9_colour_22 : decode cX9_colour 22 = .ok (.lconst 1, 1) := by decide +kernel
theorem dX9_colour_23 : decode cX9_colour 23 = .ok (.ldc2_w 310, 3) := by decide +kernel
theorem dX9_colour_26 : decode cX9_colour 26 = .ok (.invokestatic 63, 3) := by decide +kernel
theorem dX9_colour_29 : decode cX9_colour 29 = .ok (.ifCond .eq 8, 3) := by decide +kernel
theorem dX9_colour_32 : decode cX9_colour 32 = .ok (.iload 4, 2) := by decide +kernel
theorem dX9_colour_34 : decode cX9_colour 34 = .ok (.ifCond .ge 6, 3) := by decide +kernel
theorem dX9_colour_37 : decode cX9_colour 37 = .ok (.bipush (-2), 2) := by decide +kernel
theorem dX9_colour_39 : decode cX9_colour 39 = .ok (.ireturn, 1) := by decide +kernel
theorem dX9_colour_40 : decode cX9_colour 40 = .ok (.aload_n 0, 1) := by decide +kernel
theorem dX9_colour_41 : decode cX9_colour 41 = .ok (.iload_n 1, 1) := by decide +kernel
theorem dX9_colour_42 : decode cX9_colour 42 = .ok (.iconst 0, 1) := by decide +kernel
theorem dX9_colour_43 : decode cX9_colour 43 = .ok (.invokevirtual 81, 3) := by decide +kernel
theorem dX9_colour_46 : decode cX9_colour 46 = .ok (.ifCond .eq 6, 3) := by decide +kernel
theorem dX9_colour_49 : decode cX9_colour 49 = .ok (.bipush (-6), 2) := by decide +kernel
theorem dX9_colour_51 : decode cX9_colour 51 = .ok (.ireturn, 1) := by decide +kernel
theorem dX9_colour_52 : decode cX9_colour 52 = .ok (.iload 4, 2) := by decide +kernel
theorem dX9_colour_54 : decode cX9_colour 54 = .ok (.aload_n 0, 1) := by decide +kernel
theorem dX9_colour_55 : decode cX9_colour 55 = .ok (.iload_n 1, 1) := by decide +kernel
theorem dX9_colour_56 : decode cX9_colour 56 = .ok (.invokevirtual 97, 3) := by decide +kernel
theorem dX9_colour_59 : decode cX9_colour 59 = .ok (.if_icmp .lt 5, 3) := by decide +kernel
theorem dX9_colour_62 : decode cX9_colour 62 = .ok (.iconst (-1), 1) := by decide +kernel
theorem dX9_colour_63 : decode cX9_colour 63 = .ok (.ireturn, 1) := by decide +kernel
theorem dX9_colour_64 : decode cX9_colour 64 = .ok (.aload_n 0, 1) := by decide +kernel
theorem dX9_colour_65 : decode cX9_colour 65 = .ok (.iload_n 1, 1) := by decide +kernel
theorem dX9_colour_66 : decode cX9_colour 66 = .ok (.iload_n 2, 1) := by decide +kernel
theorem dX9_colour_67 : decode cX9_colour 67 = .ok (.iload_n 3, 1) := by decide +kernel
theorem dX9_colour_68 : decode cX9_colour 68 = .ok (.invokevirtual 321, 3) := by decide +kernel
theorem dX9_colour_71 : decode cX9_colour 71 = .ok (.istore 5, 2) := by decide +kernel
theorem dX9_colour_73 : decode cX9_colour 73 = .ok (.iload 5, 2) := by decide +kernel
theorem dX9_colour_75 : decode cX9_colour 75 = .ok (.bipush (-3), 2) := by decide +kernel
theorem dX9_colour_77 : decode cX9_colour 77 = .ok (.if_icmp .ne 8, 3) := by decide +kernel
theorem dX9_colour_80 : decode cX9_colour 80 = .ok (.bipush (-3), 2) := by decide +kernel
theorem dX9_colour_82 : decode cX9_colour 82 = .ok (.goto 19, 3) := by decide +kernel
theorem dX9_colour_85 : decode cX9_colour 85 = .ok (.iload 5, 2) := by decide +kernel
theorem dX9_colour_87 : decode cX9_colour 87 = .ok (.ifCond .ne 7, 3) := by decide +kernel
theorem dX9_colour_90 : decode cX9_colour 90 = .ok (.iconst (-1), 1) := by decide +kernel
theorem dX9_colour_91 : decode cX9_colour 91 = .ok (.goto 10, 3) := by decide +kernel
theorem dX9_colour_94 : decode cX9_colour 94 = .ok (.aload_n 0, 1) := by decide +kernel
theorem dX9_colour_95 : decode cX9_colour 95 = .ok (.getfield 40, 3) := by decide +kernel
theorem dX9_colour_98 : decode cX9_colour 98 = .ok (.iload 4, 2) := by decide +kernel
theorem dX9_colour_100 : decode cX9_colour 100 = .ok (.iaload, 1) := by decide +kernel
theorem dX9_colour_101 : decode cX9_colour 101 = .ok (.ireturn, 1) := by decide +kernel
theorem dX9_steps_0 : decode cX9_steps 0 = .ok (.aload_n 0, 1) := by decide +kernel
theorem dX9_steps_1 : decode cX9_steps 1 = .ok (.iload_n 1, 1) := by decide +kernel
theorem dX9_steps_2 : decode cX9_steps 2 = .ok (.iload_n 2, 1) := by decide +kernel
theorem dX9_steps_3 : decode cX9_steps 3 = .ok (.invokevirtual 210, 3) := by decide +kernel
theorem dX9_steps_6 : decode cX9_steps 6 = .ok (.ifCond .eq 12, 3) := by decide +kernel
theorem dX9_steps_9 : decode cX9_steps 9 = .ok (.aload_n 0, 1) := by decide +kernel
theorem dX9_steps_10 : decode cX9_steps 10 = .ok (.iload_n 1, 1) := by decide +kernel
theorem dX9_steps_11 : decode cX9_steps 11 = .ok (.iload_n 3, 1) := by decide +kernel
theorem dX9_steps_12 : decode cX9_steps 12 = .ok (.invokevirtual 210, 3) := by decide +kernel
theorem dX9_steps_15 : decode cX9_steps 15 = .ok (.ifCond .ne 6, 3) := by decide +kernel
theorem dX9_steps_18 : decode cX9_steps 18 = .ok (.bipush (-2), 2) := by decide +kernel
theorem dX9_steps_20 : decode cX9_steps 20 = .ok (.ireturn, 1) := by decide +kernel
theorem dX9_steps_21 : decode cX9_steps 21 = .ok (.aload_n 0, 1) := by decide +kernel
theorem dX9_steps_22 : decode cX9_steps 22 = .ok (.iload_n 1, 1) := by decide +kernel
theorem dX9_steps_23 : decode cX9_steps 23 = .ok (.iload_n 2, 1) := by decide +kernel
theorem dX9_steps_24 : decode cX9_steps 24 = .ok (.invokevirtual 81, 3) := by decide +kernel
theorem dX9_steps_27 : decode cX9_steps 27 = .ok (.ifCond .eq 12, 3) := by decide +kernel
theorem dX9_steps_30 : decode cX9_steps 30 = .ok (.aload_n 0, 1) := by decide +kernel
theorem dX9_steps_31 : decode cX9_steps 31 = .ok (.iload_n 1, 1) := by decide +kernel
theorem dX9_steps_32 : decode cX9_steps 32 = .ok (.iload_n 3, 1) := by decide +kernel
theorem dX9_steps_33 : decode cX9_steps 33 = .ok (.invokevirtual 81, 3) := by decide +kernel
theorem dX9_steps_36 : decode cX9_steps 36 = .ok (.ifCond .ne 6, 3) := by decide +kernel
theorem dX9_steps_39 : decode cX9_steps 39 = .ok (.bipush (-6), 2) := by decide +kernel
theorem dX9_steps_41 : decode cX9_steps 41 = .ok (.ireturn, 1) := by decide +kernel
theorem dX9_steps_42 : decode cX9_steps 42 = .ok (.iconst 0, 1) := by decide +kernel
theorem dX9_steps_43 : decode cX9_steps 43 = .ok (.istore 4, 2) := by decide +kernel
theorem dX9_steps_45 : decode cX9_steps 45 = .ok (.iload 4, 2) := by decide +kernel
theorem dX9_steps_47 : decode cX9_steps 47 = .ok (.sipush 128, 3) := by decide +kernel
theorem dX9_steps_50 : decode cX9_steps 50 = .ok (.if_icmp .ge 17, 3) := by decide +kernel
theorem dX9_steps_53 : decode cX9_steps 53 = .ok (.aload_n 0, 1) := by decide +kernel
theorem dX9_steps_54 : decode cX9_steps 54 = .ok (.getfield 40, 3) := by decide +kernel
theorem dX9_steps_57 : decode cX9_steps 57 = .ok (.iload 4, 2) := by decide +kernel
theorem dX9_steps_59 : decode cX9_steps 59 = .ok (.iconst (-1), 1) := by decide +kernel
theorem dX9_steps_60 : decode cX9_steps 60 = .ok (.iastore, 1) := by decide +kernel
theorem dX9_steps_61 : decode cX9_steps 61 = .ok (.iinc 4 1, 3) := by decide +kernel
theorem dX9_steps_64 : decode cX9_steps 64 = .ok (.goto (-19), 3) := by decide +kernel
theorem dX9_steps_67 : decode cX9_steps 67 = .ok (.aload_n 0, 1) := by decide +kernel
theorem dX9_steps_68 : decode cX9_steps 68 = .ok (.getfield 40, 3) := by decide +kernel
theorem dX9_steps_71 : decode cX9_steps 71 = .ok (.iload_n 2, 1) := by decide +kernel
theorem dX9_steps_72 : decode cX9_steps 72 = .ok (.iconst 0, 1) := by decide +kernel
theorem dX9_steps_73 : decode cX9_steps 73 = .ok (.iastore, 1) := by decide +kernel
theorem dX9_steps_74 : decode cX9_steps 74 = .ok (.iconst 0, 1) := by decide +kernel
theorem dX9_steps_75 : decode cX9_steps 75 = .ok (.istore 4, 2) := by decide +kernel
theorem dX9_steps_77 : decode cX9_steps 77 = .ok (.iload 4, 2) := by decide +kernel
theorem dX9_steps_79 : decode cX9_steps 79 = .ok (.sipush 128, 3) := by decide +kernel
theorem dX9_steps_82 : decode cX9_steps 82 = .ok (.if_icmp .ge 108, 3) := by decide +kernel
theorem dX9_steps_85 : decode cX9_steps 85 = .ok (.aload_n 0, 1) := by decide +kernel
theorem dX9_steps_86 : decode cX9_steps 86 = .ok (.getfield 40, 3) := by decide +kernel
theorem dX9_steps_89 : decode cX9_steps 89 = .ok (.iload_n 3, 1) := by decide +kernel
theorem dX9_steps_90 : decode cX9_steps 90 = .ok (.iaload, 1) := by decide +kernel
theorem dX9_steps_91 : decode cX9_steps 91 = .ok (.iconst (-1), 1) := by decide +kernel
theorem dX9_steps_92 : decode cX9_steps 92 = .ok (.if_icmp .ne 98, 3) := by decide +kernel
theorem dX9_steps_95 : decode cX9_steps 95 = .ok (.iconst 0, 1) := by decide +kernel
theorem dX9_steps_96 : decode cX9_steps 96 = .ok (.istore 5, 2) := by decide +kernel
theorem dX9_steps_98 : decode cX9_steps 98 = .ok (.iload 5, 2) := by decide +kernel
theorem dX9_steps_100 : decode cX9_steps 100 = .ok (.sipush 128, 3) := by decide +kernel
theorem dX9_steps_103 : decode cX9_steps 103 = .ok (.if_icmp .ge 81, 3) := by decide +kernel
theorem dX9_steps_106 : decode cX9_steps 106 = .ok (.aload_n 0, 1) := by decide +kernel
theorem dX9_steps_107 : decode cX9_steps 107 = .ok (.getfield 40, 3) := by decide +kernel
theorem dX9_steps_110 : decode cX9_steps 110 = .ok (.iload 5, 2) := by decide +kernel
theorem dX9_steps_112 : decode cX9_steps 112 = .ok (.iaload, 1) := by decide +kernel
theorem dX9_steps_113 : decode cX9_steps 113 = .ok (.iload 4, 2) := by decide +kernel
theorem dX9_steps_115 : decode cX9_steps 115 = .ok (.if_icmp .eq 6, 3) := by decide +kernel
theorem dX9_steps_118 : decode cX9_steps 118 = .ok (.goto 60, 3) := by decide +kernel
theorem dX9_steps_121 : decode cX9_steps 121 = .ok (.iconst 0, 1) := by decide +kernel
theorem dX9_steps_122 : decode cX9_steps 122 = .ok (.istore 6, 2) := by decide +kernel
theorem dX9_steps_124 : decode cX9_steps 124 = .ok (.iload 6, 2) := by decide +kernel
theorem dX9_steps_126 : decode cX9_steps 126 = .ok (.sipush 128, 3) := by decide +kernel
theorem dX9_steps_129 : decode cX9_steps 129 = .ok (.if_icmp .ge 49, 3) := by decide +kernel
theorem dX9_steps_132 : decode cX9_steps 132 = .ok (.aload_n 0, 1) := by decide +kernel
theorem dX9_steps_133 : decode cX9_steps 133 = .ok (.iload_n 1, 1) := by decide +kernel
theorem dX9_steps_134 : decode cX9_steps 134 = .ok (.iload 6, 2) := by decide +kernel
theorem dX9_steps_136 : decode cX9_steps 136 = .ok (.invokevirtual 81, 3) := by decide +kernel
theorem dX9_steps_139 : decode cX9_steps 139 = .ok (.ifCond .eq 33, 3) := by decide +kernel
theorem dX9_steps_142 : decode cX9_steps 142 = .ok (.aload_n 0, 1) := by decide +kernel
theorem dX9_steps_143 : decode cX9_steps 143 = .ok (.getfield 40, 3) := by decide +kernel
theorem dX9_steps_146 : decode cX9_steps 146 = .ok (.iload 6, 2) := by decide +kernel
theorem dX9_steps_148 : decode cX9_steps 148 = .ok (.iaload, 1) := by decide +kernel
theorem dX9_steps_149 : decode cX9_steps 149 = .ok (.iconst (-1), 1) := by decide +kernel
theorem dX9_steps_150 : decode cX9_steps 150 = .ok (.if_icmp .ne 22, 3) := by decide +kernel
theorem dX9_steps_153 : decode cX9_steps 153 = .ok (.iload 5, 2) := by decide +kernel
theorem dX9_steps_155 : decode cX9_steps 155 = .ok (.iload 6, 2) := by decide +kernel
theorem dX9_steps_157 : decode cX9_steps 157 = .ok (.iand, 1) := by decide +kernel
theorem dX9_steps_158 : decode cX9_steps 158 = .ok (.ifCond .ne 14, 3) := by decide +kernel
theorem dX9_steps_161 : decode cX9_steps 161 = .ok (.aload_n 0, 1) := by decide +kernel
theorem dX9_steps_162 : decode cX9_steps 162 = .ok (.getfield 40, 3) := by decide +kernel
theorem dX9_steps_165 : decode cX9_steps 165 = .ok (.iload 6, 2) := by decide +kernel
theorem dX9_steps_167 : decode cX9_steps 167 = .ok (.iload 4, 2) := by decide +kernel
theorem dX9_steps_169 : decode cX9_steps 169 = .ok (.iconst 1, 1) := by decide +kernel
theorem dX9_steps_170 : decode cX9_steps 170 = .ok (.iadd, 1) := by decide +kernel
theorem dX9_steps_171 : decode cX9_steps 171 = .ok (.iastore, 1) := by decide +kernel
theorem dX9_steps_172 : decode cX9_steps 172 = .ok (.iinc 6 1, 3) := by decide +kernel
theorem dX9_steps_175 : decode cX9_steps 175 = .ok (.goto (-51), 3) := by decide +kernel
theorem dX9_steps_178 : decode cX9_steps 178 = .ok (.iinc 5 1, 3) := by decide +kernel
theorem dX9_steps_181 : decode cX9_steps 181 = .ok (.goto (-83), 3) := by decide +kernel
theorem dX9_steps_184 : decode cX9_steps 184 = .ok (.iinc 4 1, 3) := by decide +kernel
theorem dX9_steps_187 : decode cX9_steps 187 = .ok (.goto (-110), 3) := by decide +kernel
theorem dX9_steps_190 : decode cX9_steps 190 = .ok (.aload_n 0, 1) := by decide +kernel
theorem dX9_steps_191 : decode cX9_steps 191 = .ok (.getfield 40, 3) := by decide +kernel
theorem dX9_steps_194 : decode cX9_steps 194 = .ok (.iload_n 3, 1) := by decide +kernel
theorem dX9_steps_195 : decode cX9_steps 195 = .ok (.iaload, 1) := by decide +kernel
theorem dX9_steps_196 : decode cX9_steps 196 = .ok (.ireturn, 1) := by decide +kernel
theorem dX9_rounds0_0 : decode cX9_rounds0 0 = .ok (.iconst 1, 1) := by decide +kernel
theorem dX9_rounds0_1 : decode cX9_rounds0 1 = .ok (.istore_n 1, 1) := by decide +kernel
theorem dX9_rounds0_2 : decode cX9_rounds0 2 = .ok (.iconst 2, 1) := by decide +kernel
theorem dX9_rounds0_3 : decode cX9_rounds0 3 = .ok (.istore_n 2, 1) := by decide +kernel
theorem dX9_rounds0_4 : decode cX9_rounds0 4 = .ok (.iload_n 2, 1) := by decide +kernel
theorem dX9_rounds0_5 : decode cX9_rounds0 5 = .ok (.iload_n 0, 1) := by decide +kernel
theorem dX9_rounds0_6 : decode cX9_rounds0 6 = .ok (.if_icmp .ge 13, 3) := by decide +kernel
theorem dX9_rounds0_9 : decode cX9_rounds0 9 = .ok (.iload_n 1, 1) := by decide +kernel
theorem dX9_rounds0_10 : decode cX9_rounds0 10 = .ok (.iload_n 2, 1) := by decide +kernel
theorem dX9_rounds0_11 : decode cX9_rounds0 11 = .ok (.imul, 1) := by decide +kernel
theorem dX9_rounds0_12 : decode cX9_rounds0 12 = .ok (.istore_n 1, 1) := by decide +kernel
theorem dX9_rounds0_13 : decode cX9_rounds0 13 = .ok (.iinc 2 1, 3) := by decide +kernel
theorem dX9_rounds0_16 : decode cX9_rounds0 16 = .ok (.goto (-12), 3) := by decide +kernel
theorem dX9_rounds0_19 : decode cX9_rounds0 19 = .ok (.iload_n 1, 1) := by decide +kernel
theorem dX9_rounds0_20 : decode cX9_rounds0 20 = .ok (.ireturn, 1) := by decide +kernel
theorem dX9_laysRound_0 : decode cX9_laysRound 0 = .ok (.aload_n 0, 1) := by decide +kernel
theorem dX9_laysRound_1 : decode cX9_laysRound 1 = .ok (.getfield 43, 3) := by decide +kernel
theorem dX9_laysRound_4 : decode cX9_laysRound 4 = .ok (.iconst 0, 1) := by decide +kernel
theorem dX9_laysRound_5 : decode cX9_laysRound 5 = .ok (.iload_n 1, 1) := by decide +kernel
theorem dX9_laysRound_6 : decode cX9_laysRound 6 = .ok (.iconst 1, 1) := by decide +kernel
theorem dX9_laysRound_7 : decode cX9_laysRound 7 = .ok (.isub, 1) := by decide +kernel
theorem dX9_laysRound_8 : decode cX9_laysRound 8 = .ok (.iastore, 1) := by decide +kernel
theorem dX9_laysRound_9 : decode cX9_laysRound 9 = .ok (.iconst 0, 1) := by decide +kernel
theorem dX9_laysRound_10 : decode cX9_laysRound 10 = .ok (.istore_n 3, 1) := by decide +kernel
theorem dX9_laysRound_11 : decode cX9_laysRound 11 = .ok (.iload_n 2, 1) := by decide +kernel
theorem dX9_laysRound_12 : decode cX9_laysRound 12 = .ok (.istore 4, 2) := by decide +kernel
theorem dX9_laysRound_14 : decode cX9_laysRound 14 = .ok (.iload_n 1, 1) := by decide +kernel
theorem dX9_laysRound_15 : decode cX9_laysRound 15 = .ok (.invokestatic 324, 3) := by decide +kernel
theorem dX9_laysRound_18 : decode cX9_laysRound 18 = .ok (.istore 5, 2) := by decide +kernel
theorem dX9_laysRound_20 : decode cX9_laysRound 20 = .ok (.iconst 1, 1) := by decide +kernel
theorem dX9_laysRound_21 : decode cX9_laysRound 21 = .ok (.istore 6, 2) := by decide +kernel
theorem dX9_laysRound_23 : decode cX9_laysRound 23 = .ok (.iload 6, 2) := by decide +kernel
theorem dX9_laysRound_25 : decode cX9_laysRound 25 = .ok (.iload_n 1, 1) := by decide +kernel
theorem dX9_laysRound_26 : decode cX9_laysRound 26 = .ok (.if_icmp .ge 90, 3) := by decide +kernel
theorem dX9_laysRound_29 : decode cX9_laysRound 29 = .ok (.iload 5, 2) := by decide +kernel
theorem dX9_laysRound_31 : decode cX9_laysRound 31 = .ok (.iload_n 1, 1) := by decide +kernel
theorem dX9_laysRound_32 : decode cX9_laysRound 32 = .ok (.iload 6, 2) := by decide +kernel
theorem dX9_laysRound_34 : decode cX9_laysRound 34 = .ok (.isub, 1) := by decide +kernel
theorem dX9_laysRound_35 : decode cX9_laysRound 35 = .ok (.idiv, 1) := by decide +kernel
theorem dX9_laysRound_36 : decode cX9_laysRound 36 = .ok (.istore 5, 2) := by decide +kernel
theorem dX9_laysRound_38 : decode cX9_laysRound 38 = .ok (.iload 4, 2) := by decide +kernel
theorem dX9_laysRound_40 : decode cX9_laysRound 40 = .ok (.iload 5, 2) := by decide +kernel
theorem dX9_laysRound_42 : decode cX9_laysRound 42 = .ok (.idiv, 1) := by decide +kernel
theorem dX9_laysRound_43 : decode cX9_laysRound 43 = .ok (.istore 7, 2) := by decide +kernel
theorem dX9_laysRound_45 : decode cX9_laysRound 45 = .ok (.iload 4, 2) := by decide +kernel
theorem dX9_laysRound_47 : decode cX9_laysRound 47 = .ok (.iload 5, 2) := by decide +kernel
theorem dX9_laysRound_49 : decode cX9_laysRound 49 = .ok (.irem, 1) := by decide +kernel
theorem dX9_laysRound_50 : decode cX9_laysRound 50 = .ok (.istore 4, 2) := by decide +kernel
theorem dX9_laysRound_52 : decode cX9_laysRound 52 = .ok (.iconst 0, 1) := by decide +kernel
theorem dX9_laysRound_53 : decode cX9_laysRound 53 = .ok (.istore 8, 2) := by decide +kernel
theorem dX9_laysRound_55 : decode cX9_laysRound 55 = .ok (.iload_n 3, 1) := by decide +kernel
theorem dX9_laysRound_56 : decode cX9_laysRound 56 = .ok (.iload 8, 2) := by decide +kernel
theorem dX9_laysRound_58 : decode cX9_laysRound 58 = .ok (.invokestatic 169, 3) := by decide +kernel
theorem dX9_laysRound_61 : decode cX9_laysRound 61 = .ok (.ifCond .ne 8, 3) := by decide +kernel
theorem dX9_laysRound_64 : decode cX9_laysRound 64 = .ok (.iload 7, 2) := by decide +kernel
theorem dX9_laysRound_66 : decode cX9_laysRound 66 = .ok (.ifCond .le 28, 3) := by decide +kernel
theorem dX9_laysRound_69 : decode cX9_laysRound 69 = .ok (.iload 7, 2) := by decide +kernel
theorem dX9_laysRound_71 : decode cX9_laysRound 71 = .ok (.iload_n 3, 1) := by decide +kernel
theorem dX9_laysRound_72 : decode cX9_laysRound 72 = .ok (.iload 8, 2) := by decide +kernel
theorem dX9_laysRound_74 : decode cX9_laysRound 74 = .ok (.invokestatic 169, 3) := by decide +kernel
theorem dX9_laysRound_77 : decode cX9_laysRound 77 = .ok (.ifCond .eq 7, 3) := by decide +kernel
theorem dX9_laysRound_80 : decode cX9_laysRound 80 = .ok (.iconst 0, 1) := by decide +kernel
theorem dX9_laysRound_81 : decode cX9_laysRound 81 = .ok (.goto 4, 3) := by decide +kernel
theorem dX9_laysRound_84 : decode cX9_laysRound 84 = .ok (.iconst 1, 1) := by decide +kernel
theorem dX9_laysRound_85 : decode cX9_laysRound 85 = .ok (.isub, 1) := by decide +kernel
theorem dX9_laysRound_86 : decode cX9_laysRound 86 = .ok (.istore 7, 2) := by decide +kernel
theorem dX9_laysRound_88 : decode cX9_laysRound 88 = .ok (.iinc 8 1, 3) := by decide +kernel
theorem dX9_laysRound_91 : decode cX9_laysRound 91 = .ok (.goto (-36), 3) := by decide +kernel
theorem dX9_laysRound_94 : decode cX9_laysRound 94 = .ok (.aload_n 0, 1) := by decide +kernel
theorem dX9_laysRound_95 : decode cX9_laysRound 95 = .ok (.getfield 43, 3) := by decide +kernel
theorem dX9_laysRound_98 : decode cX9_laysRound 98 = .ok (.iload 6, 2) := by decide +kernel
theorem dX9_laysRound_100 : decode cX9_laysRound 100 = .ok (.iload 8, 2) := by decide +kernel
theorem dX9_laysRound_102 : decode cX9_laysRound 102 = .ok (.iastore, 1) := by decide +kernel
theorem dX9_laysRound_103 : decode cX9_laysRound 103 = .ok (.iload_n 3, 1) := by decide +kernel
theorem dX9_laysRound_104 : decode cX9_laysRound 104 = .ok (.iconst 1, 1) := by decide +kernel
theorem dX9_laysRound_105 : decode cX9_laysRound 105 = .ok (.iload 8, 2) := by decide +kernel
theorem dX9_laysRound_107 : decode cX9_laysRound 107 = .ok (.ishl, 1) := by decide +kernel
theorem dX9_laysRound_108 : decode cX9_laysRound 108 = .ok (.ior, 1) := by decide +kernel
theorem dX9_laysRound_109 : decode cX9_laysRound 109 = .ok (.istore_n 3, 1) := by decide +kernel
theorem dX9_laysRound_110 : decode cX9_laysRound 110 = .ok (.iinc 6 1, 3) := by decide +kernel
theorem dX9_laysRound_113 : decode cX9_laysRound 113 = .ok (.goto (-90), 3) := by decide +kernel
theorem dX9_laysRound_116 : decode cX9_laysRound 116 = .ok (.iconst 0, 1) := by decide +kernel
theorem dX9_laysRound_117 : decode cX9_laysRound 117 = .ok (.istore 6, 2) := by decide +kernel
theorem dX9_laysRound_119 : decode cX9_laysRound 119 = .ok (.iload 6, 2) := by decide +kernel
theorem dX9_laysRound_121 : decode cX9_laysRound 121 = .ok (.iload_n 1, 1) := by decide +kernel
theorem dX9_laysRound_122 : decode cX9_laysRound 122 = .ok (.if_icmp .ge 23, 3) := by decide +kernel
theorem dX9_laysRound_125 : decode cX9_laysRound 125 = .ok (.aload_n 0, 1) := by decide +kernel
theorem dX9_laysRound_126 : decode cX9_laysRound 126 = .ok (.getfield 46, 3) := by decide +kernel
theorem dX9_laysRound_129 : decode cX9_laysRound 129 = .ok (.aload_n 0, 1) := by decide +kernel
theorem dX9_laysRound_130 : decode cX9_laysRound 130 = .ok (.getfield 43, 3) := by decide +kernel
theorem dX9_laysRound_133 : decode cX9_laysRound 133 = .ok (.iload 6, 2) := by decide +kernel
theorem dX9_laysRound_135 : decode cX9_laysRound 135 = .ok (.iaload, 1) := by decide +kernel
theorem dX9_laysRound_136 : decode cX9_laysRound 136 = .ok (.iload 6, 2) := by decide +kernel
theorem dX9_laysRound_138 : decode cX9_laysRound 138 = .ok (.iastore, 1) := by decide +kernel
theorem dX9_laysRound_139 : decode cX9_laysRound 139 = .ok (.iinc 6 1, 3) := by decide +kernel
theorem dX9_laysRound_142 : decode cX9_laysRound 142 = .ok (.goto (-23), 3) := by decide +kernel
theorem dX9_laysRound_145 : decode cX9_laysRound 145 = .ok (.return_, 1) := by decide +kernel
theorem dX9_isArc_0 : decode cX9_isArc 0 = .ok (.iconst 0, 1) := by decide +kernel
theorem dX9_isArc_1 : decode cX9_isArc 1 = .ok (.istore_n 3, 1) := by decide +kernel
theorem dX9_isArc_2 : decode cX9_isArc 2 = .ok (.iconst 0, 1) := by decide +kernel
theorem dX9_isArc_3 : decode cX9_isArc 3 = .ok (.istore 4, 2) := by decide +kernel
theorem dX9_isArc_5 : decode cX9_isArc 5 = .ok (.iload 4, 2) := by decide +kernel
theorem dX9_isArc_7 : decode cX9_isArc 7 = .ok (.iload_n 1, 1) := by decide +kernel
theorem dX9_isArc_8 : decode cX9_isArc 8 = .ok (.if_icmp .ge 51, 3) := by decide +kernel
theorem dX9_isArc_11 : decode cX9_isArc 11 = .ok (.iload_n 3, 1) := by decide +kernel
theorem dX9_isArc_12 : decode cX9_isArc 12 = .ok (.iload_n 2, 1) := by decide +kernel
theorem dX9_isArc_13 : decode cX9_isArc 13 = .ok (.aload_n 0, 1) := by decide +kernel
theorem dX9_isArc_14 : decode cX9_isArc 14 = .ok (.getfield 43, 3) := by decide +kernel
theorem dX9_isArc_17 : decode cX9_isArc 17 = .ok (.iload 4, 2) := by decide +kernel
theorem dX9_isArc_19 : decode cX9_isArc 19 = .ok (.iaload, 1) := by decide +kernel
theorem dX9_isArc_20 : decode cX9_isArc 20 = .ok (.invokestatic 169, 3) := by decide +kernel
theorem dX9_isArc_23 : decode cX9_isArc 23 = .ok (.ifCond .eq 27, 3) := by decide +kernel
theorem dX9_isArc_26 : decode cX9_isArc 26 = .ok (.iload_n 2, 1) := by decide +kernel
theorem dX9_isArc_27 : decode cX9_isArc 27 = .ok (.aload_n 0, 1) := by decide +kernel
theorem dX9_isArc_28 : decode cX9_isArc 28 = .ok (.getfield 43, 3) := by decide +kernel
theorem dX9_isArc_31 : decode cX9_isArc 31 = .ok (.iload 4, 2) := by decide +kernel
theorem dX9_isArc_33 : decode cX9_isArc 33 = .ok (.iload_n 1, 1) := by decide +kernel
theorem dX9_isArc_34 : decode cX9_isArc 34 = .ok (.iadd, 1) := by decide +kernel
theorem dX9_isArc_35 : decode cX9_isArc 35 = .ok (.iconst 1, 1) := by decide +kernel
theorem dX9_isArc_36 : decode cX9_isArc 36 = .ok (.isub, 1) := by decide +kernel
theorem dX9_isArc_37 : decode cX9_isArc 37 = .ok (.iload_n 1, 1) := by decide +kernel
theorem dX9_isArc_38 : decode cX9_isArc 38 = .ok (.irem, 1) := by decide +kernel
theorem dX9_isArc_39 : decode cX9_isArc 39 = .ok (.iaload, 1) := by decide +kernel
theorem dX9_isArc_40 : decode cX9_isArc 40 = .ok (.invokestatic 169, 3) := by decide +kernel
theorem dX9_isArc_43 : decode cX9_isArc 43 = .ok (.ifCond .ne 7, 3) := by decide +kernel
theorem dX9_isArc_46 : decode cX9_isArc 46 = .ok (.iconst 1, 1) := by decide +kernel
theorem dX9_isArc_47 : decode cX9_isArc 47 = .ok (.goto 4, 3) := by decide +kernel
theorem dX9_isArc_50 : decode cX9_isArc 50 = .ok (.iconst 0, 1) := by decide +kernel
theorem dX9_isArc_51 : decode cX9_isArc 51 = .ok (.iadd, 1) := by decide +kernel
theorem dX9_isArc_52 : decode cX9_isArc 52 = .ok (.istore_n 3, 1) := by decide +kernel
theorem dX9_isArc_53 : decode cX9_isArc 53 = .ok (.iinc 4 1, 3) := by decide +kernel
theorem dX9_isArc_56 : decode cX9_isArc 56 = .ok (.goto (-51), 3) := by decide +kernel
theorem dX9_isArc_59 : decode cX9_isArc 59 = .ok (.iload_n 3, 1) := by decide +kernel
theorem dX9_isArc_60 : decode cX9_isArc 60 = .ok (.iconst 1, 1) := by decide +kernel
theorem dX9_isArc_61 : decode cX9_isArc 61 = .ok (.if_icmp .gt 7, 3) := by decide +kernel
theorem dX9_isArc_64 : decode cX9_isArc 64 = .ok (.iconst 1, 1) := by decide +kernel
theorem dX9_isArc_65 : decode cX9_isArc 65 = .ok (.goto 4, 3) := by decide +kernel
theorem dX9_isArc_68 : decode cX9_isArc 68 = .ok (.iconst 0, 1) := by decide +kernel
theorem dX9_isArc_69 : decode cX9_isArc 69 = .ok (.ireturn, 1) := by decide +kernel
theorem dX9_arcs_0 : decode cX9_arcs 0 = .ok (.aload_n 0, 1) := by decide +kernel
theorem dX9_arcs_1 : decode cX9_arcs 1 = .ok (.iload_n 1, 1) := by decide +kernel
theorem dX9_arcs_2 : decode cX9_arcs 2 = .ok (.invokevirtual 75, 3) := by decide +kernel
theorem dX9_arcs_5 : decode cX9_arcs 5 = .ok (.ifCond .eq 23, 3) := by decide +kernel
theorem dX9_arcs_8 : decode cX9_arcs 8 = .ok (.iload_n 2, 1) := by decide +kernel
theorem dX9_arcs_9 : decode cX9_arcs 9 = .ok (.i2l, 1) := by decide +kernel
theorem dX9_arcs_10 : decode cX9_arcs 10 = .ok (.lconst 0, 1) := by decide +kernel
theorem dX9_arcs_11 : decode cX9_arcs 11 = .ok (.aload_n 0, 1) := by decide +kernel
theorem dX9_arcs_12 : decode cX9_arcs 12 = .ok (.iload_n 1, 1) := by decide +kernel
theorem dX9_arcs_13 : decode cX9_arcs 13 = .ok (.invokevirtual 78, 3) := by decide +kernel
theorem dX9_arcs_16 : decode cX9_arcs 16 = .ok (.invokestatic 324, 3) := by decide +kernel
theorem dX9_arcs_19 : decode cX9_arcs 19 = .ok (.iconst 1, 1) := by decide +kernel
theorem dX9_arcs_20 : decode cX9_arcs 20 = .ok (.isub, 1) := by decide +kernel
theorem dX9_arcs_21 : decode cX9_arcs 21 = .ok (.i2l, 1) := by decide +kernel
theorem dX9_arcs_22 : decode cX9_arcs 22 = .ok (.invokestatic 63, 3) := by decide +kernel
theorem dX9_arcs_25 : decode cX9_arcs 25 = .ok (.ifCond .ne 6, 3) := by decide +kernel
theorem dX9_arcs_28 : decode cX9_arcs 28 = .ok (.bipush (-2), 2) := by decide +kernel
theorem dX9_arcs_30 : decode cX9_arcs 30 = .ok (.ireturn, 1) := by decide +kernel
theorem dX9_arcs_31 : decode cX9_arcs 31 = .ok (.aload_n 0, 1) := by decide +kernel
theorem dX9_arcs_32 : decode cX9_arcs 32 = .ok (.aload_n 0, 1) := by decide +kernel
theorem dX9_arcs_33 : decode cX9_arcs 33 = .ok (.iload_n 1, 1) := by decide +kernel
theorem dX9_arcs_34 : decode cX9_arcs 34 = .ok (.invokevirtual 78, 3) := by decide +kernel
theorem dX9_arcs_37 : decode cX9_arcs 37 = .ok (.iload_n 2, 1) := by decide +kernel
theorem dX9_arcs_38 : decode cX9_arcs 38 = .ok (.invokevirtual 327, 3) := by decide +kernel
theorem dX9_arcs_41 : decode cX9_arcs 41 = .ok (.iconst 0, 1) := by decide +kernel
theorem dX9_arcs_42 : decode cX9_arcs 42 = .ok (.istore_n 3, 1) := by decide +kernel
theorem dX9_arcs_43 : decode cX9_arcs 43 = .ok (.iconst 0, 1) := by decide +kernel
theorem dX9_arcs_44 : decode cX9_arcs 44 = .ok (.istore 4, 2) := by decide +kernel
theorem dX9_arcs_46 : decode cX9_arcs 46 = .ok (.iload 4, 2) := by decide +kernel
theorem dX9_arcs_48 : decode cX9_arcs 48 = .ok (.sipush 128, 3) := by decide +kernel
theorem dX9_arcs_51 : decode cX9_arcs 51 = .ok (.if_icmp .ge 41, 3) := by decide +kernel
theorem dX9_arcs_54 : decode cX9_arcs 54 = .ok (.iload_n 3, 1) := by decide +kernel
theorem dX9_arcs_55 : decode cX9_arcs 55 = .ok (.aload_n 0, 1) := by decide +kernel
theorem dX9_arcs_56 : decode cX9_arcs 56 = .ok (.iload_n 1, 1) := by decide +kernel
theorem dX9_arcs_57 : decode cX9_arcs 57 = .ok (.iload 4, 2) := by decide +kernel
theorem dX9_arcs_59 : decode cX9_arcs 59 = .ok (.invokevirtual 81, 3) := by decide +kernel
theorem dX9_arcs_62 : decode cX9_arcs 62 = .ok (.ifCond .eq 21, 3) := by decide +kernel
theorem dX9_arcs_65 : decode cX9_arcs 65 = .ok (.aload_n 0, 1) := by decide +kernel
theorem dX9_arcs_66 : decode cX9_arcs 66 = .ok (.aload_n 0, 1) := by decide +kernel
theorem dX9_arcs_67 : decode cX9_arcs 67 = .ok (.iload_n 1, 1) := by decide +kernel
theorem dX9_arcs_68 : decode cX9_arcs 68 = .ok (.invokevirtual 78, 3) := by decide +kernel
theorem dX9_arcs_71 : decode cX9_arcs 71 = .ok (.iload 4, 2) := by decide +kernel
theorem dX9_arcs_73 : decode cX9_arcs 73 = .ok (.invokevirtual 330, 3) := by decide +kernel
theorem dX9_arcs_76 : decode cX9_arcs 76 = .ok (.ifCond .eq 7, 3) := by decide +kernel
theorem dX9_arcs_79 : decode cX9_arcs 79 = .ok (.iconst 1, 1) := by decide +kernel
theorem dX9_arcs_80 : decode cX9_arcs 80 = .ok (.goto 4, 3) := by decide +kernel
theorem dX9_arcs_83 : decode cX9_arcs 83 = .ok (.iconst 0, 1) := by decide +kernel
theorem dX9_arcs_84 : decode cX9_arcs 84 = .ok (.iadd, 1) := by decide +kernel
theorem dX9_arcs_85 : decode cX9_arcs 85 = .ok (.istore_n 3, 1) := by decide +kernel
theorem dX9_arcs_86 : decode cX9_arcs 86 = .ok (.iinc 4 1, 3) := by decide +kernel
theorem dX9_arcs_89 : decode cX9_arcs 89 = .ok (.goto (-43), 3) := by decide +kernel
theorem dX9_arcs_92 : decode cX9_arcs 92 = .ok (.iload_n 3, 1) := by decide +kernel
theorem dX9_arcs_93 : decode cX9_arcs 93 = .ok (.ireturn, 1) := by decide +kernel
theorem dX9_around_0 : decode cX9_around 0 = .ok (.iload_n 1, 1) := by decide +kernel
theorem dX9_around_1 : decode cX9_around 1 = .ok (.i2l, 1) := by decide +kernel
theorem dX9_around_2 : decode cX9_around 2 = .ok (.lconst 1, 1) := by decide +kernel
theorem dX9_around_3 : decode cX9_around 3 = .ok (.ldc2_w 174, 3) := by decide +kernel
theorem dX9_around_6 : decode cX9_around 6 = .ok (.invokestatic 63, 3) := by decide +kernel
theorem dX9_around_9 : decode cX9_around 9 = .ok (.ifCond .eq 32, 3) := by decide +kernel
theorem dX9_around_12 : decode cX9_around 12 = .ok (.iload_n 2, 1) := by decide +kernel
theorem dX9_around_13 : decode cX9_around 13 = .ok (.i2l, 1) := by decide +kernel
theorem dX9_around_14 : decode cX9_around 14 = .ok (.lconst 0, 1) := by decide +kernel
theorem dX9_around_15 : decode cX9_around 15 = .ok (.iload_n 1, 1) := by decide +kernel
theorem dX9_around_16 : decode cX9_around 16 = .ok (.invokestatic 324, 3) := by decide +kernel
theorem dX9_around_19 : decode cX9_around 19 = .ok (.iconst 1, 1) := by decide +kernel
theorem dX9_around_20 : decode cX9_around 20 = .ok (.isub, 1) := by decide +kernel
theorem dX9_around_21 : decode cX9_around 21 = .ok (.i2l, 1) := by decide +kernel
theorem dX9_around_22 : decode cX9_around 22 = .ok (.invokestatic 63, 3) := by decide +kernel
theorem dX9_around_25 : decode cX9_around 25 = .ok (.ifCond .eq 16, 3) := by decide +kernel
theorem dX9_around_28 : decode cX9_around 28 = .ok (.iload_n 3, 1) := by decide +kernel
theorem dX9_around_29 : decode cX9_around 29 = .ok (.i2l, 1) := by decide +kernel
theorem dX9_around_30 : decode cX9_around 30 = .ok (.lconst 0, 1) := by decide +kernel
theorem dX9_around_31 : decode cX9_around 31 = .ok (.iload_n 1, 1) := by decide +kernel
theorem dX9_around_32 : decode cX9_around 32 = .ok (.iconst 1, 1) := by decide +kernel
theorem dX9_around_33 : decode cX9_around 33 = .ok (.isub, 1) := by decide +kernel
theorem dX9_around_34 : decode cX9_around 34 = .ok (.i2l, 1) := by decide +kernel
theorem dX9_around_35 : decode cX9_around 35 = .ok (.invokestatic 63, 3) := by decide +kernel
theorem dX9_around_38 : decode cX9_around 38 = .ok (.ifCond .ne 6, 3) := by decide +kernel
theorem dX9_around_41 : decode cX9_around 41 = .ok (.bipush (-2), 2) := by decide +kernel
theorem dX9_around_43 : decode cX9_around 43 = .ok (.ireturn, 1) := by decide +kernel
theorem dX9_around_44 : decode cX9_around 44 = .ok (.aload_n 0, 1) := by decide +kernel
theorem dX9_around_45 : decode cX9_around 45 = .ok (.iload_n 1, 1) := by decide +kernel
theorem dX9_around_46 : decode cX9_around 46 = .ok (.iload_n 2, 1) := by decide +kernel
theorem dX9_around_47 : decode cX9_around 47 = .ok (.invokevirtual 327, 3) := by decide +kernel
theorem dX9_around_50 : decode cX9_around 50 = .ok (.aload_n 0, 1) := by decide +kernel
theorem dX9_around_51 : decode cX9_around 51 = .ok (.getfield 43, 3) := by decide +kernel
theorem dX9_around_54 : decode cX9_around 54 = .ok (.iload_n 3, 1) := by decide +kernel
theorem dX9_around_55 : decode cX9_around 55 = .ok (.iaload, 1) := by decide +kernel
theorem dX9_around_56 : decode cX9_around 56 = .ok (.ireturn, 1) := by decide +kernel
theorem dX9_rounds_0 : decode cX9_rounds 0 = .ok (.iload_n 1, 1) := by decide +kernel
theorem dX9_rounds_1 : decode cX9_rounds 1 = .ok (.i2l, 1) := by decide +kernel
theorem dX9_rounds_2 : decode cX9_rounds 2 = .ok (.lconst 1, 1) := by decide +kernel
theorem dX9_rounds_3 : decode cX9_rounds 3 = .ok (.ldc2_w 174, 3) := by decide +kernel
theorem dX9_rounds_6 : decode cX9_rounds 6 = .ok (.invokestatic 63, 3) := by decide +kernel
theorem dX9_rounds_9 : decode cX9_rounds 9 = .ok (.ifCond .eq 18, 3) := by decide +kernel
theorem dX9_rounds_12 : decode cX9_rounds 12 = .ok (.iload_n 2, 1) := by decide +kernel
theorem dX9_rounds_13 : decode cX9_rounds 13 = .ok (.i2l, 1) := by decide +kernel
theorem dX9_rounds_14 : decode cX9_rounds 14 = .ok (.lconst 0, 1) := by decide +kernel
theorem dX9_rounds_15 : decode cX9_rounds 15 = .ok (.iconst 1, 1) := by decide +kernel
theorem dX9_rounds_16 : decode cX9_rounds 16 = .ok (.iload_n 1, 1) := by decide +kernel
theorem dX9_rounds_17 : decode cX9_rounds 17 = .ok (.ishl, 1) := by decide +kernel
theorem dX9_rounds_18 : decode cX9_rounds 18 = .ok (.iconst 1, 1) := by decide +kernel
theorem dX9_rounds_19 : decode cX9_rounds 19 = .ok (.isub, 1) := by decide +kernel
theorem dX9_rounds_20 : decode cX9_rounds 20 = .ok (.i2l, 1) := by decide +kernel
theorem dX9_rounds_21 : decode cX9_rounds 21 = .ok (.invokestatic 63, 3) := by decide +kernel
theorem dX9_rounds_24 : decode cX9_rounds 24 = .ok (.ifCond .ne 6, 3) := by decide +kernel
theorem dX9_rounds_27 : decode cX9_rounds 27 = .ok (.bipush (-2), 2) := by decide +kernel
theorem dX9_rounds_29 : decode cX9_rounds 29 = .ok (.ireturn, 1) := by decide +kernel
theorem dX9_rounds_30 : decode cX9_rounds 30 = .ok (.iconst 0, 1) := by decide +kernel
theorem dX9_rounds_31 : decode cX9_rounds 31 = .ok (.istore_n 3, 1) := by decide +kernel
theorem dX9_rounds_32 : decode cX9_rounds 32 = .ok (.iconst 0, 1) := by decide +kernel
theorem dX9_rounds_33 : decode cX9_rounds 33 = .ok (.istore 4, 2) := by decide +kernel
theorem dX9_rounds_35 : decode cX9_rounds 35 = .ok (.iload 4, 2) := by decide +kernel
theorem dX9_rounds_37 : decode cX9_rounds 37 = .ok (.iload_n 1, 1) := by decide +kernel
theorem dX9_rounds_38 : decode cX9_rounds 38 = .ok (.invokestatic 324, 3) := by decide +kernel
theorem dX9_rounds_41 : decode cX9_rounds 41 = .ok (.if_icmp .ge 33, 3) := by decide +kernel
theorem dX9_rounds_44 : decode cX9_rounds 44 = .ok (.aload_n 0, 1) := by decide +kernel
theorem dX9_rounds_45 : decode cX9_rounds 45 = .ok (.iload_n 1, 1) := by decide +kernel
theorem dX9_rounds_46 : decode cX9_rounds 46 = .ok (.iload 4, 2) := by decide +kernel
theorem dX9_rounds_48 : decode cX9_rounds 48 = .ok (.invokevirtual 327, 3) := by decide +kernel
theorem dX9_rounds_51 : decode cX9_rounds 51 = .ok (.iload_n 3, 1) := by decide +kernel
theorem dX9_rounds_52 : decode cX9_rounds 52 = .ok (.aload_n 0, 1) := by decide +kernel
theorem dX9_rounds_53 : decode cX9_rounds 53 = .ok (.iload_n 1, 1) := by decide +kernel
theorem dX9_rounds_54 : decode cX9_rounds 54 = .ok (.iload_n 2, 1) := by decide +kernel
theorem dX9_rounds_55 : decode cX9_rounds 55 = .ok (.invokevirtual 330, 3) := by decide +kernel
theorem dX9_rounds_58 : decode cX9_rounds 58 = .ok (.ifCond .eq 7, 3) := by decide +kernel
theorem dX9_rounds_61 : decode cX9_rounds 61 = .ok (.iconst 1, 1) := by decide +kernel
theorem dX9_rounds_62 : decode cX9_rounds 62 = .ok (.goto 4, 3) := by decide +kernel
theorem dX9_rounds_65 : decode cX9_rounds 65 = .ok (.iconst 0, 1) := by decide +kernel
theorem dX9_rounds_66 : decode cX9_rounds 66 = .ok (.iadd, 1) := by decide +kernel
theorem dX9_rounds_67 : decode cX9_rounds 67 = .ok (.istore_n 3, 1) := by decide +kernel
theorem dX9_rounds_68 : decode cX9_rounds 68 = .ok (.iinc 4 1, 3) := by decide +kernel
theorem dX9_rounds_71 : decode cX9_rounds 71 = .ok (.goto (-36), 3) := by decide +kernel
theorem dX9_rounds_74 : decode cX9_rounds 74 = .ok (.iload_n 3, 1) := by decide +kernel
theorem dX9_rounds_75 : decode cX9_rounds 75 = .ok (.ireturn, 1) := by decide +kernel
theorem dX9_divisor_0 : decode cX9_divisor 0 = .ok (.lload_n 0, 1) := by decide +kernel
theorem dX9_divisor_1 : decode cX9_divisor 1 = .ok (.lstore 4, 2) := by decide +kernel
theorem dX9_divisor_3 : decode cX9_divisor 3 = .ok (.lload_n 2, 1) := by decide +kernel
theorem dX9_divisor_4 : decode cX9_divisor 4 = .ok (.lstore 6, 2) := by decide +kernel
theorem dX9_divisor_6 : decode cX9_divisor 6 = .ok (.lload 6, 2) := by decide +kernel
theorem dX9_divisor_8 : decode cX9_divisor 8 = .ok (.lconst 0, 1) := by decide +kernel
theorem dX9_divisor_9 : decode cX9_divisor 9 = .ok (.lcmp, 1) := by decide +kernel
theorem dX9_divisor_10 : decode cX9_divisor 10 = .ok (.ifCond .eq 21, 3) := by decide +kernel
theorem dX9_divisor_13 : decode cX9_divisor 13 = .ok (.lload 4, 2) := by decide +kernel
theorem dX9_divisor_15 : decode cX9_divisor 15 = .ok (.lload 6, 2) := by decide +kernel
theorem dX9_divisor_17 : decode cX9_divisor 17 = .ok (.lrem, 1) := by decide +kernel
theorem dX9_divisor_18 : decode cX9_divisor 18 = .ok (.lstore 8, 2) := by decide +kernel
theorem dX9_divisor_20 : decode cX9_divisor 20 = .ok (.lload 6, 2) := by decide +kernel
theorem dX9_divisor_22 : decode cX9_divisor 22 = .ok (.lstore 4, 2) := by decide +kernel
theorem dX9_divisor_24 : decode cX9_divisor 24 = .ok (.lload 8, 2) := by decide +kernel
theorem dX9_divisor_26 : decode cX9_divisor 26 = .ok (.lstore 6, 2) := by decide +kernel
theorem dX9_divisor_28 : decode cX9_divisor 28 = .ok (.goto (-22), 3) := by decide +kernel
theorem dX9_divisor_31 : decode cX9_divisor 31 = .ok (.lload 4, 2) := by decide +kernel
theorem dX9_divisor_33 : decode cX9_divisor 33 = .ok (.lreturn, 1) := by decide +kernel
theorem dX9_sum_0 : decode cX9_sum 0 = .ok (.aload_n 0, 1) := by decide +kernel
theorem dX9_sum_1 : decode cX9_sum 1 = .ok (.iload_n 1, 1) := by decide +kernel
theorem dX9_sum_2 : decode cX9_sum 2 = .ok (.invokevirtual 75, 3) := by decide +kernel
theorem dX9_sum_5 : decode cX9_sum 5 = .ok (.ifCond .eq 13, 3) := by decide +kernel
theorem dX9_sum_8 : decode cX9_sum 8 = .ok (.iload_n 2, 1) := by decide +kernel
theorem dX9_sum_9 : decode cX9_sum 9 = .ok (.i2l, 1) := by decide +kernel
theorem dX9_sum_10 : decode cX9_sum 10 = .ok (.lconst 0, 1) := by decide +kernel
theorem dX9_sum_11 : decode cX9_sum 11 = .ok (.lconst 1, 1) := by decide +kernel
theorem dX9_sum_12 : decode cX9_sum 12 = .ok (.invokestatic 63, 3) := by decide +kernel
theorem dX9_sum_15 : decode cX9_sum 15 = .ok (.ifCond .ne 6, 3) := by decide +kernel
theorem dX9_sum_18 : decode cX9_sum 18 = .ok (.bipush (-2), 2) := by decide +kernel
theorem dX9_sum_20 : decode cX9_sum 20 = .ok (.ireturn, 1) := by decide +kernel
theorem dX9_sum_21 : decode cX9_sum 21 = .ok (.ldc2_w 333, 3) := by decide +kernel
theorem dX9_sum_24 : decode cX9_sum 24 = .ok (.lstore_n 3, 1) := by decide +kernel
theorem dX9_sum_25 : decode cX9_sum 25 = .ok (.lconst 0, 1) := by decide +kernel
theorem dX9_sum_26 : decode cX9_sum 26 = .ok (.lstore 5, 2) := by decide +kernel
theorem dX9_sum_28 : decode cX9_sum 28 = .ok (.iconst 0, 1) := by decide +kernel
theorem dX9_sum_29 : decode cX9_sum 29 = .ok (.istore 7, 2) := by decide +kernel
theorem dX9_sum_31 : decode cX9_sum 31 = .ok (.iload 7, 2) := by decide +kernel
theorem dX9_sum_33 : decode cX9_sum 33 = .ok (.sipush 128, 3) := by decide +kernel
theorem dX9_sum_36 : decode cX9_sum 36 = .ok (.if_icmp .ge 43, 3) := by decide +kernel
theorem dX9_sum_39 : decode cX9_sum 39 = .ok (.lload 5, 2) := by decide +kernel
theorem dX9_sum_41 : decode cX9_sum 41 = .ok (.aload_n 0, 1) := by decide +kernel
theorem dX9_sum_42 : decode cX9_sum 42 = .ok (.iload_n 1, 1) := by decide +kernel
theorem dX9_sum_43 : decode cX9_sum 43 = .ok (.iload 7, 2) := by decide +kernel
theorem dX9_sum_45 : decode cX9_sum 45 = .ok (.invokevirtual 81, 3) := by decide +kernel
theorem dX9_sum_48 : decode cX9_sum 48 = .ok (.ifCond .eq 21, 3) := by decide +kernel
theorem dX9_sum_51 : decode cX9_sum 51 = .ok (.lload_n 3, 1) := by decide +kernel
theorem dX9_sum_52 : decode cX9_sum 52 = .ok (.aload_n 0, 1) := by decide +kernel
theorem dX9_sum_53 : decode cX9_sum 53 = .ok (.iload_n 1, 1) := by decide +kernel
theorem dX9_sum_54 : decode cX9_sum 54 = .ok (.invokevirtual 78, 3) := by decide +kernel
theorem dX9_sum_57 : decode cX9_sum 57 = .ok (.iload 7, 2) := by decide +kernel
theorem dX9_sum_59 : decode cX9_sum 59 = .ok (.invokestatic 198, 3) := by decide +kernel
theorem dX9_sum_62 : decode cX9_sum 62 = .ok (.invokestatic 281, 3) := by decide +kernel
theorem dX9_sum_65 : decode cX9_sum 65 = .ok (.ldiv, 1) := by decide +kernel
theorem dX9_sum_66 : decode cX9_sum 66 = .ok (.goto 4, 3) := by decide +kernel
theorem dX9_sum_69 : decode cX9_sum 69 = .ok (.lconst 0, 1) := by decide +kernel
theorem dX9_sum_70 : decode cX9_sum 70 = .ok (.ladd, 1) := by decide +kernel
theorem dX9_sum_71 : decode cX9_sum 71 = .ok (.lstore 5, 2) := by decide +kernel
theorem dX9_sum_73 : decode cX9_sum 73 = .ok (.iinc 7 1, 3) := by decide +kernel
theorem dX9_sum_76 : decode cX9_sum 76 = .ok (.goto (-45), 3) := by decide +kernel
theorem dX9_sum_79 : decode cX9_sum 79 = .ok (.lload_n 3, 1) := by decide +kernel
theorem dX9_sum_80 : decode cX9_sum 80 = .ok (.lload 5, 2) := by decide +kernel
theorem dX9_sum_82 : decode cX9_sum 82 = .ok (.invokestatic 335, 3) := by decide +kernel
theorem dX9_sum_85 : decode cX9_sum 85 = .ok (.lstore 7, 2) := by decide +kernel
theorem dX9_sum_87 : decode cX9_sum 87 = .ok (.iload_n 2, 1) := by decide +kernel
theorem dX9_sum_88 : decode cX9_sum 88 = .ok (.ifCond .ne 11, 3) := by decide +kernel
theorem dX9_sum_91 : decode cX9_sum 91 = .ok (.lload 5, 2) := by decide +kernel
theorem dX9_sum_93 : decode cX9_sum 93 = .ok (.lload 7, 2) := by decide +kernel
theorem dX9_sum_95 : decode cX9_sum 95 = .ok (.ldiv, 1) := by decide +kernel
theorem dX9_sum_96 : decode cX9_sum 96 = .ok (.goto 7, 3) := by decide +kernel
theorem dX9_sum_99 : decode cX9_sum 99 = .ok (.lload_n 3, 1) := by decide +kernel
theorem dX9_sum_100 : decode cX9_sum 100 = .ok (.lload 7, 2) := by decide +kernel
theorem dX9_sum_102 : decode cX9_sum 102 = .ok (.ldiv, 1) := by decide +kernel
theorem dX9_sum_103 : decode cX9_sum 103 = .ok (.l2i, 1) := by decide +kernel
theorem dX9_sum_104 : decode cX9_sum 104 = .ok (.ireturn, 1) := by decide +kernel
theorem dX9_isShattered_0 : decode cX9_isShattered 0 = .ok (.iconst 0, 1) := by decide +kernel
theorem dX9_isShattered_1 : decode cX9_isShattered 1 = .ok (.istore_n 3, 1) := by decide +kernel
theorem dX9_isShattered_2 : decode cX9_isShattered 2 = .ok (.iload_n 3, 1) := by decide +kernel
theorem dX9_isShattered_3 : decode cX9_isShattered 3 = .ok (.iload_n 2, 1) := by decide +kernel
theorem dX9_isShattered_4 : decode cX9_isShattered 4 = .ok (.if_icmp .gt 77, 3) := by decide +kernel
theorem dX9_isShattered_7 : decode cX9_isShattered 7 = .ok (.iload_n 3, 1) := by decide +kernel
theorem dX9_isShattered_8 : decode cX9_isShattered 8 = .ok (.iload_n 2, 1) := by decide +kernel
theorem dX9_isShattered_9 : decode cX9_isShattered 9 = .ok (.iconst (-1), 1) := by decide +kernel
theorem dX9_isShattered_10 : decode cX9_isShattered 10 = .ok (.ixor, 1) := by decide +kernel
theorem dX9_isShattered_11 : decode cX9_isShattered 11 = .ok (.iand, 1) := by decide +kernel
theorem dX9_isShattered_12 : decode cX9_isShattered 12 = .ok (.ifCond .eq 6, 3) := by decide +kernel
theorem dX9_isShattered_15 : decode cX9_isShattered 15 = .ok (.goto 60, 3) := by decide +kernel
theorem dX9_isShattered_18 : decode cX9_isShattered 18 = .ok (.iconst 0, 1) := by decide +kernel
theorem dX9_isShattered_19 : decode cX9_isShattered 19 = .ok (.istore 4, 2) := by decide +kernel
theorem dX9_isShattered_21 : decode cX9_isShattered 21 = .ok (.iconst 0, 1) := by decide +kernel
theorem dX9_isShattered_22 : decode cX9_isShattered 22 = .ok (.istore 5, 2) := by decide +kernel
theorem dX9_isShattered_24 : decode cX9_isShattered 24 = .ok (.iload 5, 2) := by decide +kernel
theorem dX9_isShattered_26 : decode cX9_isShattered 26 = .ok (.sipush 128, 3) := by decide +kernel
theorem dX9_isShattered_29 : decode cX9_isShattered 29 = .ok (.if_icmp .ge 39, 3) := by decide +kernel
theorem dX9_isShattered_32 : decode cX9_isShattered 32 = .ok (.iload 4, 2) := by decide +kernel
theorem dX9_isShattered_34 : decode cX9_isShattered 34 = .ok (.ifCond .ne 34, 3) := by decide +kernel
theorem dX9_isShattered_37 : decode cX9_isShattered 37 = .ok (.aload_n 0, 1) := by decide +kernel
theorem dX9_isShattered_38 : decode cX9_isShattered 38 = .ok (.iload_n 1, 1) := by decide +kernel
theorem dX9_isShattered_39 : decode cX9_isShattered 39 = .ok (.iload 5, 2) := by decide +kernel
theorem dX9_isShattered_41 : decode cX9_isShattered 41 = .ok (.invokevirtual 81, 3) := by decide +kernel
theorem dX9_isShattered_44 : decode cX9_isShattered 44 = .ok (.ifCond .eq 15, 3) := by decide +kernel
theorem dX9_isShattered_47 : decode cX9_isShattered 47 = .ok (.iload 5, 2) := by decide +kernel
theorem dX9_isShattered_49 : decode cX9_isShattered 49 = .ok (.iload_n 2, 1) := by decide +kernel
theorem dX9_isShattered_50 : decode cX9_isShattered 50 = .ok (.iand, 1) := by decide +kernel
theorem dX9_isShattered_51 : decode cX9_isShattered 51 = .ok (.iload_n 3, 1) := by decide +kernel
theorem dX9_isShattered_52 : decode cX9_isShattered 52 = .ok (.if_icmp .ne 7, 3) := by decide +kernel
theorem dX9_isShattered_55 : decode cX9_isShattered 55 = .ok (.iconst 1, 1) := by decide +kernel
theorem dX9_isShattered_56 : decode cX9_isShattered 56 = .ok (.goto 4, 3) := by decide +kernel
theorem dX9_isShattered_59 : decode cX9_isShattered 59 = .ok (.iconst 0, 1) := by decide +kernel
theorem dX9_isShattered_60 : decode cX9_isShattered 60 = .ok (.istore 4, 2) := by decide +kernel
theorem dX9_isShattered_62 : decode cX9_isShattered 62 = .ok (.iinc 5 1, 3) := by decide +kernel
theorem dX9_isShattered_65 : decode cX9_isShattered 65 = .ok (.goto (-41), 3) := by decide +kernel
theorem dX9_isShattered_68 : decode cX9_isShattered 68 = .ok (.iload 4, 2) := by decide +kernel
theorem dX9_isShattered_70 : decode cX9_isShattered 70 = .ok (.ifCond .ne 5, 3) := by decide +kernel
theorem dX9_isShattered_73 : decode cX9_isShattered 73 = .ok (.iconst 0, 1) := by decide +kernel
theorem dX9_isShattered_74 : decode cX9_isShattered 74 = .ok (.ireturn, 1) := by decide +kernel
theorem dX9_isShattered_75 : decode cX9_isShattered 75 = .ok (.iinc 3 1, 3) := by decide +kernel
theorem dX9_isShattered_78 : decode cX9_isShattered 78 = .ok (.goto (-76), 3) := by decide +kernel
theorem dX9_isShattered_81 : decode cX9_isShattered 81 = .ok (.iconst 1, 1) := by decide +kernel
theorem dX9_isShattered_82 : decode cX9_isShattered 82 = .ok (.ireturn, 1) := by decide +kernel
theorem dX9_shattered_0 : decode cX9_shattered 0 = .ok (.aload_n 0, 1) := by decide +kernel
theorem dX9_shattered_1 : decode cX9_shattered 1 = .ok (.iload_n 1, 1) := by decide +kernel
theorem dX9_shattered_2 : decode cX9_shattered 2 = .ok (.iload_n 2, 1) := by decide +kernel
theorem dX9_shattered_3 : decode cX9_shattered 3 = .ok (.invokevirtual 210, 3) := by decide +kernel
theorem dX9_shattered_6 : decode cX9_shattered 6 = .ok (.ifCond .ne 6, 3) := by decide +kernel
theorem dX9_shattered_9 : decode cX9_shattered 9 = .ok (.bipush (-2), 2) := by decide +kernel
theorem dX9_shattered_11 : decode cX9_shattered 11 = .ok (.ireturn, 1) := by decide +kernel
theorem dX9_shattered_12 : decode cX9_shattered 12 = .ok (.aload_n 0, 1) := by decide +kernel
theorem dX9_shattered_13 : decode cX9_shattered 13 = .ok (.iload_n 1, 1) := by decide +kernel
theorem dX9_shattered_14 : decode cX9_shattered 14 = .ok (.iload_n 2, 1) := by decide +kernel
theorem dX9_shattered_15 : decode cX9_shattered 15 = .ok (.invokevirtual 339, 3) := by decide +kernel
theorem dX9_shattered_18 : decode cX9_shattered 18 = .ok (.ifCond .eq 7, 3) := by decide +kernel
theorem dX9_shattered_21 : decode cX9_shattered 21 = .ok (.iconst 1, 1) := by decide +kernel
theorem dX9_shattered_22 : decode cX9_shattered 22 = .ok (.goto 4, 3) := by decide +kernel
theorem dX9_shattered_25 : decode cX9_shattered 25 = .ok (.iconst 0, 1) := by decide +kernel
theorem dX9_shattered_26 : decode cX9_shattered 26 = .ok (.ireturn, 1) := by decide +kernel
theorem dX9_shatters_0 : decode cX9_shatters 0 = .ok (.aload_n 0, 1) := by decide +kernel
theorem dX9_shatters_1 : decode cX9_shatters 1 = .ok (.iload_n 1, 1) := by decide +kernel
theorem dX9_shatters_2 : decode cX9_shatters 2 = .ok (.invokevirtual 75, 3) := by decide +kernel
theorem dX9_shatters_5 : decode cX9_shatters 5 = .ok (.ifCond .eq 13, 3) := by decide +kernel
theorem dX9_shatters_8 : decode cX9_shatters 8 = .ok (.iload_n 2, 1) := by decide +kernel
theorem dX9_shatters_9 : decode cX9_shatters 9 = .ok (.i2l, 1) := by decide +kernel
theorem dX9_shatters_10 : decode cX9_shatters 10 = .ok (.lconst 0, 1) := by decide +kernel
theorem dX9_shatters_11 : decode cX9_shatters 11 = .ok (.lconst 1, 1) := by decide +kernel
theorem dX9_shatters_12 : decode cX9_shatters 12 = .ok (.invokestatic 63, 3) := by decide +kernel
theorem dX9_shatters_15 : decode cX9_shatters 15 = .ok (.ifCond .ne 6, 3) := by decide +kernel
theorem dX9_shatters_18 : decode cX9_shatters 18 = .ok (.bipush (-2), 2) := by decide +kernel
theorem dX9_shatters_20 : decode cX9_shatters 20 = .ok (.ireturn, 1) := by decide +kernel
theorem dX9_shatters_21 : decode cX9_shatters 21 = .ok (.iconst 0, 1) := by decide +kernel
theorem dX9_shatters_22 : decode cX9_shatters 22 = .ok (.istore_n 3, 1) := by decide +kernel
theorem dX9_shatters_23 : decode cX9_shatters 23 = .ok (.iconst (-1), 1) := by decide +kernel
theorem dX9_shatters_24 : decode cX9_shatters 24 = .ok (.istore 4, 2) := by decide +kernel
theorem dX9_shatters_26 : decode cX9_shatters 26 = .ok (.iconst 0, 1) := by decide +kernel
theorem dX9_shatters_27 : decode cX9_shatters 27 = .ok (.istore 5, 2) := by decide +kernel
theorem dX9_shatters_29 : decode cX9_shatters 29 = .ok (.iload 5, 2) := by decide +kernel
theorem dX9_shatters_31 : decode cX9_shatters 31 = .ok (.iconst 1, 1) := by decide +kernel
theorem dX9_shatters_32 : decode cX9_shatters 32 = .ok (.aload_n 0, 1) := by decide +kernel
theorem dX9_shatters_33 : decode cX9_shatters 33 = .ok (.iload_n 1, 1) := by decide +kernel
theorem dX9_shatters_34 : decode cX9_shatters 34 = .ok (.invokevirtual 78, 3) := by decide +kernel
theorem dX9_shatters_37 : decode cX9_shatters 37 = .ok (.ishl, 1) := by decide +kernel
theorem dX9_shatters_38 : decode cX9_shatters 38 = .ok (.if_icmp .ge 37, 3) := by decide +kernel
theorem dX9_shatters_41 : decode cX9_shatters 41 = .ok (.aload_n 0, 1) := by decide +kernel
theorem dX9_shatters_42 : decode cX9_shatters 42 = .ok (.iload_n 1, 1) := by decide +kernel
theorem dX9_shatters_43 : decode cX9_shatters 43 = .ok (.iload 5, 2) := by decide +kernel
theorem dX9_shatters_45 : decode cX9_shatters 45 = .ok (.invokevirtual 339, 3) := by decide +kernel
theorem dX9_shatters_48 : decode cX9_shatters 48 = .ok (.ifCond .ne 6, 3) := by decide +kernel
theorem dX9_shatters_51 : decode cX9_shatters 51 = .ok (.goto 18, 3) := by decide +kernel
theorem dX9_shatters_54 : decode cX9_shatters 54 = .ok (.iinc 3 1, 3) := by decide +kernel
theorem dX9_shatters_57 : decode cX9_shatters 57 = .ok (.iload 4, 2) := by decide +kernel
theorem dX9_shatters_59 : decode cX9_shatters 59 = .ok (.iload 5, 2) := by decide +kernel
theorem dX9_shatters_61 : decode cX9_shatters 61 = .ok (.invokestatic 198, 3) := by decide +kernel
theorem dX9_shatters_64 : decode cX9_shatters 64 = .ok (.invokestatic 201, 3) := by decide +kernel
theorem dX9_shatters_67 : decode cX9_shatters 67 = .ok (.istore 4, 2) := by decide +kernel
theorem dX9_shatters_69 : decode cX9_shatters 69 = .ok (.iinc 5 1, 3) := by decide +kernel
theorem dX9_shatters_72 : decode cX9_shatters 72 = .ok (.goto (-43), 3) := by decide +kernel
theorem dX9_shatters_75 : decode cX9_shatters 75 = .ok (.iload_n 2, 1) := by decide +kernel
theorem dX9_shatters_76 : decode cX9_shatters 76 = .ok (.ifCond .ne 7, 3) := by decide +kernel
theorem dX9_shatters_79 : decode cX9_shatters 79 = .ok (.iload_n 3, 1) := by decide +kernel
theorem dX9_shatters_80 : decode cX9_shatters 80 = .ok (.goto 5, 3) := by decide +kernel
theorem dX9_shatters_83 : decode cX9_shatters 83 = .ok (.iload 4, 2) := by decide +kernel
theorem dX9_shatters_85 : decode cX9_shatters 85 = .ok (.ireturn, 1) := by decide +kernel
theorem dX9_flower_0 : decode cX9_flower 0 = .ok (.aload_n 0, 1) := by decide +kernel
theorem dX9_flower_1 : decode cX9_flower 1 = .ok (.iload_n 1, 1) := by decide +kernel
theorem dX9_flower_2 : decode cX9_flower 2 = .ok (.invokevirtual 75, 3) := by decide +kernel
theorem dX9_flower_5 : decode cX9_flower 5 = .ok (.ifCond .eq 8, 3) := by decide +kernel
theorem dX9_flower_8 : decode cX9_flower 8 = .ok (.iload_n 2, 1) := by decide +kernel
theorem dX9_flower_9 : decode cX9_flower 9 = .ok (.iconst (-1), 1) := by decide +kernel
theorem dX9_flower_10 : decode cX9_flower 10 = .ok (.if_icmp .ge 6, 3) := by decide +kernel
theorem dX9_flower_13 : decode cX9_flower 13 = .ok (.bipush (-2), 2) := by decide +kernel
theorem dX9_flower_15 : decode cX9_flower 15 = .ok (.ireturn, 1) := by decide +kernel
theorem dX9_flower_16 : decode cX9_flower 16 = .ok (.iconst 0, 1) := by decide +kernel
theorem dX9_flower_17 : decode cX9_flower 17 = .ok (.istore_n 3, 1) := by decide +kernel
theorem dX9_flower_18 : decode cX9_flower 18 = .ok (.iconst 0, 1) := by decide +kernel
theorem dX9_flower_19 : decode cX9_flower 19 = .ok (.istore 4, 2) := by decide +kernel
theorem dX9_flower_21 : decode cX9_flower 21 = .ok (.iload 4, 2) := by decide +kernel
theorem dX9_flower_23 : decode cX9_flower 23 = .ok (.sipush 128, 3) := by decide +kernel
theorem dX9_flower_26 : decode cX9_flower 26 = .ok (.if_icmp .ge 133, 3) := by decide +kernel
theorem dX9_flower_29 : decode cX9_flower 29 = .ok (.iload 4, 2) := by decide +kernel
theorem dX9_flower_31 : decode cX9_flower 31 = .ok (.iconst 1, 1) := by decide +kernel
theorem dX9_flower_32 : decode cX9_flower 32 = .ok (.iadd, 1) := by decide +kernel
theorem dX9_flower_33 : decode cX9_flower 33 = .ok (.istore 5, 2) := by decide +kernel
theorem dX9_flower_35 : decode cX9_flower 35 = .ok (.iload 5, 2) := by decide +kernel
theorem dX9_flower_37 : decode cX9_flower 37 = .ok (.sipush 128, 3) := by decide +kernel
theorem dX9_flower_40 : decode cX9_flower 40 = .ok (.if_icmp .ge 113, 3) := by decide +kernel
theorem dX9_flower_43 : decode cX9_flower 43 = .ok (.aload_n 0, 1) := by decide +kernel
theorem dX9_flower_44 : decode cX9_flower 44 = .ok (.iload_n 1, 1) := by decide +kernel
theorem dX9_flower_45 : decode cX9_flower 45 = .ok (.iload 4, 2) := by decide +kernel
theorem dX9_flower_47 : decode cX9_flower 47 = .ok (.invokevirtual 81, 3) := by decide +kernel
theorem dX9_flower_50 : decode cX9_flower 50 = .ok (.ifCond .eq 103, 3) := by decide +kernel
theorem dX9_flower_53 : decode cX9_flower 53 = .ok (.iload 5, 2) := by decide +kernel
theorem dX9_flower_55 : decode cX9_flower 55 = .ok (.iconst 1, 1) := by decide +kernel
theorem dX9_flower_56 : decode cX9_flower 56 = .ok (.iadd, 1) := by decide +kernel
theorem dX9_flower_57 : decode cX9_flower 57 = .ok (.istore 6, 2) := by decide +kernel
theorem dX9_flower_59 : decode cX9_flower 59 = .ok (.iload 6, 2) := by decide +kernel
theorem dX9_flower_61 : decode cX9_flower 61 = .ok (.sipush 128, 3) := by decide +kernel
theorem dX9_flower_64 : decode cX9_flower 64 = .ok (.if_icmp .ge 83, 3) := by decide +kernel
theorem dX9_flower_67 : decode cX9_flower 67 = .ok (.aload_n 0, 1) := by decide +kernel
theorem dX9_flower_68 : decode cX9_flower 68 = .ok (.iload_n 1, 1) := by decide +kernel
theorem dX9_flower_69 : decode cX9_flower 69 = .ok (.iload 5, 2) := by decide +kernel
theorem dX9_flower_71 : decode cX9_flower 71 = .ok (.invokevirtual 81, 3) := by decide +kernel
theorem dX9_flower_74 : decode cX9_flower 74 = .ok (.ifCond .eq 73, 3) := by decide +kernel
theorem dX9_flower_77 : decode cX9_flower 77 = .ok (.aload_n 0, 1) := by decide +kernel
theorem dX9_flower_78 : decode cX9_flower 78 = .ok (.iload_n 1, 1) := by decide +kernel
theorem dX9_flower_79 : decode cX9_flower 79 = .ok (.iload 6, 2) := by decide +kernel
theorem dX9_flower_81 : decode cX9_flower 81 = .ok (.invokevirtual 81, 3) := by decide +kernel
theorem dX9_flower_84 : decode cX9_flower 84 = .ok (.ifCond .eq 57, 3) := by decide +kernel
theorem dX9_flower_87 : decode cX9_flower 87 = .ok (.iload 4, 2) := by decide +kernel
theorem dX9_flower_89 : decode cX9_flower 89 = .ok (.iload 5, 2) := by decide +kernel
theorem dX9_flower_91 : decode cX9_flower 91 = .ok (.iand, 1) := by decide +kernel
theorem dX9_flower_92 : decode cX9_flower 92 = .ok (.iload 4, 2) := by decide +kernel
theorem dX9_flower_94 : decode cX9_flower 94 = .ok (.iload 6, 2) := by decide +kernel
theorem dX9_flower_96 : decode cX9_flower 96 = .ok (.iand, 1) := by decide +kernel
theorem dX9_flower_97 : decode cX9_flower 97 = .ok (.if_icmp .ne 44, 3) := by decide +kernel
theorem dX9_flower_100 : decode cX9_flower 100 = .ok (.iload 4, 2) := by decide +kernel
theorem dX9_flower_102 : decode cX9_flower 102 = .ok (.iload 5, 2) := by decide +kernel
theorem dX9_flower_104 : decode cX9_flower 104 = .ok (.iand, 1) := by decide +kernel
theorem dX9_flower_105 : decode cX9_flower 105 = .ok (.iload 5, 2) := by decide +kernel
theorem dX9_flower_107 : decode cX9_flower 107 = .ok (.iload 6, 2) := by decide +kernel
theorem dX9_flower_109 : decode cX9_flower 109 = .ok (.iand, 1) := by decide +kernel
theorem dX9_flower_110 : decode cX9_flower 110 = .ok (.if_icmp .eq 6, 3) := by decide +kernel
theorem dX9_flower_113 : decode cX9_flower 113 = .ok (.goto 28, 3) := by decide +kernel
theorem dX9_flower_116 : decode cX9_flower 116 = .ok (.iload_n 3, 1) := by decide +kernel
theorem dX9_flower_117 : decode cX9_flower 117 = .ok (.iload_n 2, 1) := by decide +kernel
theorem dX9_flower_118 : decode cX9_flower 118 = .ok (.if_icmp .ne 20, 3) := by decide +kernel
theorem dX9_flower_121 : decode cX9_flower 121 = .ok (.ldc_w 342, 3) := by decide +kernel
theorem dX9_flower_124 : decode cX9_flower 124 = .ok (.iload 4, 2) := by decide +kernel
theorem dX9_flower_126 : decode cX9_flower 126 = .ok (.imul, 1) := by decide +kernel
theorem dX9_flower_127 : decode cX9_flower 127 = .ok (.sipush 1000, 3) := by decide +kernel
theorem dX9_flower_130 : decode cX9_flower 130 = .ok (.iload 5, 2) := by decide +kernel
theorem dX9_flower_132 : decode cX9_flower 132 = .ok (.imul, 1) := by decide +kernel
theorem dX9_flower_133 : decode cX9_flower 133 = .ok (.iadd, 1) := by decide +kernel
theorem dX9_flower_134 : decode cX9_flower 134 = .ok (.iload 6, 2) := by decide +kernel
theorem dX9_flower_136 : decode cX9_flower 136 = .ok (.iadd, 1) := by decide +kernel
theorem dX9_flower_137 : decode cX9_flower 137 = .ok (.ireturn, 1) := by decide +kernel
theorem dX9_flower_138 : decode cX9_flower 138 = .ok (.iinc 3 1, 3) := by decide +kernel
theorem dX9_flower_141 : decode cX9_flower 141 = .ok (.iinc 6 1, 3) := by decide +kernel
theorem dX9_flower_144 : decode cX9_flower 144 = .ok (.goto (-85), 3) := by decide +kernel
theorem dX9_flower_147 : decode cX9_flower 147 = .ok (.iinc 5 1, 3) := by decide +kernel
theorem dX9_flower_150 : decode cX9_flower 150 = .ok (.goto (-115), 3) := by decide +kernel
theorem dX9_flower_153 : decode cX9_flower 153 = .ok (.iinc 4 1, 3) := by decide +kernel
theorem dX9_flower_156 : decode cX9_flower 156 = .ok (.goto (-135), 3) := by decide +kernel
theorem dX9_flower_159 : decode cX9_flower 159 = .ok (.iload_n 2, 1) := by decide +kernel
theorem dX9_flower_160 : decode cX9_flower 160 = .ok (.iconst (-1), 1) := by decide +kernel
theorem dX9_flower_161 : decode cX9_flower 161 = .ok (.if_icmp .ne 7, 3) := by decide +kernel
theorem dX9_flower_164 : decode cX9_flower 164 = .ok (.iload_n 3, 1) := by decide +kernel
theorem dX9_flower_165 : decode cX9_flower 165 = .ok (.goto 4, 3) := by decide +kernel
theorem dX9_flower_168 : decode cX9_flower 168 = .ok (.iconst (-1), 1) := by decide +kernel
theorem dX9_flower_169 : decode cX9_flower 169 = .ok (.ireturn, 1) := by decide +kernel
theorem dX9_across_0 : decode cX9_across 0 = .ok (.aload_n 0, 1) := by decide +kernel
theorem dX9_across_1 : decode cX9_across 1 = .ok (.iload_n 1, 1) := by decide +kernel
theorem dX9_across_2 : decode cX9_across 2 = .ok (.invokevirtual 75, 3) := by decide +kernel
theorem dX9_across_5 : decode cX9_across 5 = .ok (.ifCond .eq 23, 3) := by decide +kernel
theorem dX9_across_8 : decode cX9_across 8 = .ok (.aload_n 0, 1) := by decide +kernel
theorem dX9_across_9 : decode cX9_across 9 = .ok (.iload_n 2, 1) := by decide +kernel
theorem dX9_across_10 : decode cX9_across 10 = .ok (.invokevirtual 75, 3) := by decide +kernel
theorem dX9_across_13 : decode cX9_across 13 = .ok (.ifCond .eq 15, 3) := by decide +kernel
theorem dX9_across_16 : decode cX9_across 16 = .ok (.iload_n 3, 1) := by decide +kernel
theorem dX9_across_17 : decode cX9_across 17 = .ok (.i2l, 1) := by decide +kernel
theorem dX9_across_18 : decode cX9_across 18 = .ok (.lconst 0, 1) := by decide +kernel
theorem dX9_across_19 : decode cX9_across 19 = .ok (.ldc2_w 308, 3) := by decide +kernel
theorem dX9_across_22 : decode cX9_across 22 = .ok (.invokestatic 63, 3) := by decide +kernel
theorem dX9_across_25 : decode cX9_across 25 = .ok (.ifCond .ne 6, 3) := by decide +kernel
theorem dX9_across_28 : decode cX9_across 28 = .ok (.bipush (-2), 2) := by decide +kernel
theorem dX9_across_30 : decode cX9_across 30 = .ok (.ireturn, 1) := by decide +kernel
theorem dX9_across_31 : decode cX9_across 31 = .ok (.iconst 0, 1) := by decide +kernel
theorem dX9_across_32 : decode cX9_across 32 = .ok (.istore 4, 2) := by decide +kernel
theorem dX9_across_34 : decode cX9_across 34 = .ok (.iconst 0, 1) := by decide +kernel
theorem dX9_across_35 : decode cX9_across 35 = .ok (.istore 5, 2) := by decide +kernel
theorem dX9_across_37 : decode cX9_across 37 = .ok (.iconst 0, 1) := by decide +kernel
theorem dX9_across_38 : decode cX9_across 38 = .ok (.istore 6, 2) := by decide +kernel
theorem dX9_across_40 : decode cX9_across 40 = .ok (.iload 6, 2) := by decide +kernel
theorem dX9_across_42 : decode cX9_across 42 = .ok (.sipush 128, 3) := by decide +kernel
theorem dX9_across_45 : decode cX9_across 45 = .ok (.if_icmp .ge 87, 3) := by decide +kernel
theorem dX9_across_48 : decode cX9_across 48 = .ok (.aload_n 0, 1) := by decide +kernel
theorem dX9_across_49 : decode cX9_across 49 = .ok (.iload_n 1, 1) := by decide +kernel
theorem dX9_across_50 : decode cX9_across 50 = .ok (.iload 6, 2) := by decide +kernel
theorem dX9_across_52 : decode cX9_across 52 = .ok (.invokevirtual 81, 3) := by decide +kernel
theorem dX9_across_55 : decode cX9_across 55 = .ok (.ifCond .ne 6, 3) := by decide +kernel
theorem dX9_across_58 : decode cX9_across 58 = .ok (.goto 68, 3) := by decide +kernel
theorem dX9_across_61 : decode cX9_across 61 = .ok (.iload 5, 2) := by decide +kernel
theorem dX9_across_63 : decode cX9_across 63 = .ok (.aload_n 0, 1) := by decide +kernel
theorem dX9_across_64 : decode cX9_across 64 = .ok (.iload_n 2, 1) := by decide +kernel
theorem dX9_across_65 : decode cX9_across 65 = .ok (.iload 6, 2) := by decide +kernel
theorem dX9_across_67 : decode cX9_across 67 = .ok (.invokevirtual 81, 3) := by decide +kernel
theorem dX9_across_70 : decode cX9_across 70 = .ok (.ifCond .eq 7, 3) := by decide +kernel
theorem dX9_across_73 : decode cX9_across 73 = .ok (.iconst 1, 1) := by decide +kernel
theorem dX9_across_74 : decode cX9_across 74 = .ok (.goto 4, 3) := by decide +kernel
theorem dX9_across_77 : decode cX9_across 77 = .ok (.iconst 0, 1) := by decide +kernel
theorem dX9_across_78 : decode cX9_across 78 = .ok (.iadd, 1) := by decide +kernel
theorem dX9_across_79 : decode cX9_across 79 = .ok (.istore 5, 2) := by decide +kernel
theorem dX9_across_81 : decode cX9_across 81 = .ok (.iconst 0, 1) := by decide +kernel
theorem dX9_across_82 : decode cX9_across 82 = .ok (.istore 7, 2) := by decide +kernel
theorem dX9_across_84 : decode cX9_across 84 = .ok (.iload 7, 2) := by decide +kernel
theorem dX9_across_86 : decode cX9_across 86 = .ok (.sipush 128, 3) := by decide +kernel
theorem dX9_across_89 : decode cX9_across 89 = .ok (.if_icmp .ge 37, 3) := by decide +kernel
theorem dX9_across_92 : decode cX9_across 92 = .ok (.iload 4, 2) := by decide +kernel
theorem dX9_across_94 : decode cX9_across 94 = .ok (.aload_n 0, 1) := by decide +kernel
theorem dX9_across_95 : decode cX9_across 95 = .ok (.iload_n 2, 1) := by decide +kernel
theorem dX9_across_96 : decode cX9_across 96 = .ok (.iload 7, 2) := by decide +kernel
theorem dX9_across_98 : decode cX9_across 98 = .ok (.invokevirtual 81, 3) := by decide +kernel
theorem dX9_across_101 : decode cX9_across 101 = .ok (.ifCond .eq 15, 3) := by decide +kernel
theorem dX9_across_104 : decode cX9_across 104 = .ok (.iload 6, 2) := by decide +kernel
theorem dX9_across_106 : decode cX9_across 106 = .ok (.iload 7, 2) := by decide +kernel
theorem dX9_across_108 : decode cX9_across 108 = .ok (.iand, 1) := by decide +kernel
theorem dX9_across_109 : decode cX9_across 109 = .ok (.ifCond .eq 7, 3) := by decide +kernel
theorem dX9_across_112 : decode cX9_across 112 = .ok (.iconst 1, 1) := by decide +kernel
theorem dX9_across_113 : decode cX9_across 113 = .ok (.goto 4, 3) := by decide +kernel
theorem dX9_across_116 : decode cX9_across 116 = .ok (.iconst 0, 1) := by decide +kernel
theorem dX9_across_117 : decode cX9_across 117 = .ok (.iadd, 1) := by decide +kernel
theorem dX9_across_118 : decode cX9_across 118 = .ok (.istore 4, 2) := by decide +kernel
theorem dX9_across_120 : decode cX9_across 120 = .ok (.iinc 7 1, 3) := by decide +kernel
theorem dX9_across_123 : decode cX9_across 123 = .ok (.goto (-39), 3) := by decide +kernel
theorem dX9_across_126 : decode cX9_across 126 = .ok (.iinc 6 1, 3) := by decide +kernel
theorem dX9_across_129 : decode cX9_across 129 = .ok (.goto (-89), 3) := by decide +kernel
theorem dX9_across_132 : decode cX9_across 132 = .ok (.iload_n 3, 1) := by decide +kernel
theorem dX9_across_133 : decode cX9_across 133 = .ok (.ifCond .ne 8, 3) := by decide +kernel
theorem dX9_across_136 : decode cX9_across 136 = .ok (.iload 4, 2) := by decide +kernel
theorem dX9_across_138 : decode cX9_across 138 = .ok (.goto 49, 3) := by decide +kernel
theorem dX9_across_141 : decode cX9_across 141 = .ok (.iload_n 3, 1) := by decide +kernel
theorem dX9_across_142 : decode cX9_across 142 = .ok (.iconst 1, 1) := by decide +kernel
theorem dX9_across_143 : decode cX9_across 143 = .ok (.if_icmp .ne 20, 3) := by decide +kernel
theorem dX9_across_146 : decode cX9_across 146 = .ok (.aload_n 0, 1) := by decide +kernel
theorem dX9_across_147 : decode cX9_across 147 = .ok (.iload_n 1, 1) := by decide +kernel
theorem dX9_across_148 : decode cX9_across 148 = .ok (.invokevirtual 97, 3) := by decide +kernel
theorem dX9_across_151 : decode cX9_across 151 = .ok (.aload_n 0, 1) := by decide +kernel
theorem dX9_across_152 : decode cX9_across 152 = .ok (.iload_n 2, 1) := by decide +kernel
theorem dX9_across_153 : decode cX9_across 153 = .ok (.invokevirtual 97, 3) := by decide +kernel
theorem dX9_across_156 : decode cX9_across 156 = .ok (.imul, 1) := by decide +kernel
theorem dX9_across_157 : decode cX9_across 157 = .ok (.iload 4, 2) := by decide +kernel
theorem dX9_across_159 : decode cX9_across 159 = .ok (.isub, 1) := by decide +kernel
theorem dX9_across_160 : decode cX9_across 160 = .ok (.goto 27, 3) := by decide +kernel
theorem dX9_across_163 : decode cX9_across 163 = .ok (.iload_n 3, 1) := by decide +kernel
theorem dX9_across_164 : decode cX9_across 164 = .ok (.iconst 2, 1) := by decide +kernel
theorem dX9_across_165 : decode cX9_across 165 = .ok (.if_icmp .ne 8, 3) := by decide +kernel
theorem dX9_across_168 : decode cX9_across 168 = .ok (.iload 5, 2) := by decide +kernel
theorem dX9_across_170 : decode cX9_across 170 = .ok (.goto 17, 3) := by decide +kernel
theorem dX9_across_173 : decode cX9_across 173 = .ok (.aload_n 0, 1) := by decide +kernel
theorem dX9_across_174 : decode cX9_across 174 = .ok (.iload_n 1, 1) := by decide +kernel
theorem dX9_across_175 : decode cX9_across 175 = .ok (.invokevirtual 97, 3) := by decide +kernel
theorem dX9_across_178 : decode cX9_across 178 = .ok (.aload_n 0, 1) := by decide +kernel
theorem dX9_across_179 : decode cX9_across 179 = .ok (.iload_n 2, 1) := by decide +kernel
theorem dX9_across_180 : decode cX9_across 180 = .ok (.invokevirtual 97, 3) := by decide +kernel
theorem dX9_across_183 : decode cX9_across 183 = .ok (.iadd, 1) := by decide +kernel
theorem dX9_across_184 : decode cX9_across 184 = .ok (.iload 5, 2) := by decide +kernel
theorem dX9_across_186 : decode cX9_across 186 = .ok (.isub, 1) := by decide +kernel
theorem dX9_across_187 : decode cX9_across 187 = .ok (.ireturn, 1) := by decide +kernel
theorem dX9_answers_0 : decode cX9_answers 0 = .ok (.aload_n 0, 1) := by decide +kernel
theorem dX9_answers_1 : decode cX9_answers 1 = .ok (.iload_n 1, 1) := by decide +kernel
theorem dX9_answers_2 : decode cX9_answers 2 = .ok (.invokevirtual 75, 3) := by decide +kernel
theorem dX9_answers_5 : decode cX9_answers 5 = .ok (.ifCond .eq 18, 3) := by decide +kernel
theorem dX9_answers_8 : decode cX9_answers 8 = .ok (.iload_n 2, 1) := by decide +kernel
theorem dX9_answers_9 : decode cX9_answers 9 = .ok (.i2l, 1) := by decide +kernel
theorem dX9_answers_10 : decode cX9_answers 10 = .ok (.lconst 0, 1) := by decide +kernel
theorem dX9_answers_11 : decode cX9_answers 11 = .ok (.aload_n 0, 1) := by decide +kernel
theorem dX9_answers_12 : decode cX9_answers 12 = .ok (.iload_n 1, 1) := by decide +kernel
theorem dX9_answers_13 : decode cX9_answers 13 = .ok (.invokevirtual 78, 3) := by decide +kernel
theorem dX9_answers_16 : decode cX9_answers 16 = .ok (.i2l, 1) := by decide +kernel
theorem dX9_answers_17 : decode cX9_answers 17 = .ok (.invokestatic 63, 3) := by decide +kernel
theorem dX9_answers_20 : decode cX9_answers 20 = .ok (.ifCond .ne 6, 3) := by decide +kernel
theorem dX9_answers_23 : decode cX9_answers 23 = .ok (.bipush (-2), 2) := by decide +kernel
theorem dX9_answers_25 : decode cX9_answers 25 = .ok (.ireturn, 1) := by decide +kernel
theorem dX9_answers_26 : decode cX9_answers 26 = .ok (.iconst 0, 1) := by decide +kernel
theorem dX9_answers_27 : decode cX9_answers 27 = .ok (.istore_n 3, 1) := by decide +kernel
theorem dX9_answers_28 : decode cX9_answers 28 = .ok (.iconst 0, 1) := by decide +kernel
theorem dX9_answers_29 : decode cX9_answers 29 = .ok (.istore 4, 2) := by decide +kernel
theorem dX9_answers_31 : decode cX9_answers 31 = .ok (.iload 4, 2) := by decide +kernel
theorem dX9_answers_33 : decode cX9_answers 33 = .ok (.iconst 1, 1) := by decide +kernel
theorem dX9_answers_34 : decode cX9_answers 34 = .ok (.aload_n 0, 1) := by decide +kernel
theorem dX9_answers_35 : decode cX9_answers 35 = .ok (.iload_n 1, 1) := by decide +kernel
theorem dX9_answers_36 : decode cX9_answers 36 = .ok (.invokevirtual 78, 3) := by decide +kernel
theorem dX9_answers_39 : decode cX9_answers 39 = .ok (.ishl, 1) := by decide +kernel
theorem dX9_answers_40 : decode cX9_answers 40 = .ok (.if_icmp .ge 85, 3) := by decide +kernel
theorem dX9_answers_43 : decode cX9_answers 43 = .ok (.iload 4, 2) := by decide +kernel
theorem dX9_answers_45 : decode cX9_answers 45 = .ok (.invokestatic 198, 3) := by decide +kernel
theorem dX9_answers_48 : decode cX9_answers 48 = .ok (.iload_n 2, 1) := by decide +kernel
theorem dX9_answers_49 : decode cX9_answers 49 = .ok (.if_icmp .ne 7, 3) := by decide +kernel
theorem dX9_answers_52 : decode cX9_answers 52 = .ok (.iconst 1, 1) := by decide +kernel
theorem dX9_answers_53 : decode cX9_answers 53 = .ok (.goto 4, 3) := by decide +kernel
theorem dX9_answers_56 : decode cX9_answers 56 = .ok (.iconst 0, 1) := by decide +kernel
theorem dX9_answers_57 : decode cX9_answers 57 = .ok (.istore 5, 2) := by decide +kernel
theorem dX9_answers_59 : decode cX9_answers 59 = .ok (.iconst 0, 1) := by decide +kernel
theorem dX9_answers_60 : decode cX9_answers 60 = .ok (.istore 6, 2) := by decide +kernel
theorem dX9_answers_62 : decode cX9_answers 62 = .ok (.iload 6, 2) := by decide +kernel
theorem dX9_answers_64 : decode cX9_answers 64 = .ok (.sipush 128, 3) := by decide +kernel
theorem dX9_answers_67 : decode cX9_answers 67 = .ok (.if_icmp .ge 39, 3) := by decide +kernel
theorem dX9_answers_70 : decode cX9_answers 70 = .ok (.iload 5, 2) := by decide +kernel
theorem dX9_answers_72 : decode cX9_answers 72 = .ok (.ifCond .eq 34, 3) := by decide +kernel
theorem dX9_answers_75 : decode cX9_answers 75 = .ok (.aload_n 0, 1) := by decide +kernel
theorem dX9_answers_76 : decode cX9_answers 76 = .ok (.iload_n 1, 1) := by decide +kernel
theorem dX9_answers_77 : decode cX9_answers 77 = .ok (.iload 6, 2) := by decide +kernel
theorem dX9_answers_79 : decode cX9_answers 79 = .ok (.invokevirtual 81, 3) := by decide +kernel
theorem dX9_answers_82 : decode cX9_answers 82 = .ok (.ifCond .eq 11, 3) := by decide +kernel
theorem dX9_answers_85 : decode cX9_answers 85 = .ok (.iload 6, 2) := by decide +kernel
theorem dX9_answers_87 : decode cX9_answers 87 = .ok (.iload 4, 2) := by decide +kernel
theorem dX9_answers_89 : decode cX9_answers 89 = .ok (.iand, 1) := by decide +kernel
theorem dX9_answers_90 : decode cX9_answers 90 = .ok (.ifCond .eq 7, 3) := by decide +kernel
theorem dX9_answers_93 : decode cX9_answers 93 = .ok (.iconst 1, 1) := by decide +kernel
theorem dX9_answers_94 : decode cX9_answers 94 = .ok (.goto 4, 3) := by decide +kernel
theorem dX9_answers_97 : decode cX9_answers 97 = .ok (.iconst 0, 1) := by decide +kernel
theorem dX9_answers_98 : decode cX9_answers 98 = .ok (.istore 5, 2) := by decide +kernel
theorem dX9_answers_100 : decode cX9_answers 100 = .ok (.iinc 6 1, 3) := by decide +kernel
theorem dX9_answers_103 : decode cX9_answers 103 = .ok (.goto (-41), 3) := by decide +kernel
theorem dX9_answers_106 : decode cX9_answers 106 = .ok (.iload_n 3, 1) := by decide +kernel
theorem dX9_answers_107 : decode cX9_answers 107 = .ok (.iload 5, 2) := by decide +kernel
theorem dX9_answers_109 : decode cX9_answers 109 = .ok (.ifCond .eq 7, 3) := by decide +kernel
theorem dX9_answers_112 : decode cX9_answers 112 = .ok (.iconst 1, 1) := by decide +kernel
theorem dX9_answers_113 : decode cX9_answers 113 = .ok (.goto 4, 3) := by decide +kernel
theorem dX9_answers_116 : decode cX9_answers 116 = .ok (.iconst 0, 1) := by decide +kernel
theorem dX9_answers_117 : decode cX9_answers 117 = .ok (.iadd, 1) := by decide +kernel
theorem dX9_answers_118 : decode cX9_answers 118 = .ok (.istore_n 3, 1) := by decide +kernel
theorem dX9_answers_119 : decode cX9_answers 119 = .ok (.iinc 4 1, 3) := by decide +kernel
theorem dX9_answers_122 : decode cX9_answers 122 = .ok (.goto (-91), 3) := by decide +kernel
theorem dX9_answers_125 : decode cX9_answers 125 = .ok (.iload_n 3, 1) := by decide +kernel
theorem dX9_answers_126 : decode cX9_answers 126 = .ok (.ireturn, 1) := by decide +kernel
theorem dX9_common_0 : decode cX9_common 0 = .ok (.aload_n 0, 1) := by decide +kernel
theorem dX9_common_1 : decode cX9_common 1 = .ok (.iload_n 1, 1) := by decide +kernel
theorem dX9_common_2 : decode cX9_common 2 = .ok (.iload_n 2, 1) := by decide +kernel
theorem dX9_common_3 : decode cX9_common 3 = .ok (.invokevirtual 210, 3) := by decide +kernel
theorem dX9_common_6 : decode cX9_common 6 = .ok (.ifCond .eq 18, 3) := by decide +kernel
theorem dX9_common_9 : decode cX9_common 9 = .ok (.iload_n 3, 1) := by decide +kernel
theorem dX9_common_10 : decode cX9_common 10 = .ok (.i2l, 1) := by decide +kernel
theorem dX9_common_11 : decode cX9_common 11 = .ok (.lconst 0, 1) := by decide +kernel
theorem dX9_common_12 : decode cX9_common 12 = .ok (.aload_n 0, 1) := by decide +kernel
theorem dX9_common_13 : decode cX9_common 13 = .ok (.iload_n 1, 1) := by decide +kernel
theorem dX9_common_14 : decode cX9_common 14 = .ok (.invokevirtual 78, 3) := by decide +kernel
theorem dX9_common_17 : decode cX9_common 17 = .ok (.i2l, 1) := by decide +kernel
theorem dX9_common_18 : decode cX9_common 18 = .ok (.invokestatic 63, 3) := by decide +kernel
theorem dX9_common_21 : decode cX9_common 21 = .ok (.ifCond .ne 6, 3) := by decide +kernel
theorem dX9_common_24 : decode cX9_common 24 = .ok (.bipush (-2), 2) := by decide +kernel
theorem dX9_common_26 : decode cX9_common 26 = .ok (.ireturn, 1) := by decide +kernel
theorem dX9_common_27 : decode cX9_common 27 = .ok (.iconst 0, 1) := by decide +kernel
theorem dX9_common_28 : decode cX9_common 28 = .ok (.istore 4, 2) := by decide +kernel
theorem dX9_common_30 : decode cX9_common 30 = .ok (.iconst 0, 1) := by decide +kernel
theorem dX9_common_31 : decode cX9_common 31 = .ok (.istore 5, 2) := by decide +kernel
theorem dX9_common_33 : decode cX9_common 33 = .ok (.iload 5, 2) := by decide +kernel
theorem dX9_common_35 : decode cX9_common 35 = .ok (.sipush 128, 3) := by decide +kernel
theorem dX9_common_38 : decode cX9_common 38 = .ok (.if_icmp .ge 40, 3) := by decide +kernel
theorem dX9_common_41 : decode cX9_common 41 = .ok (.iload 4, 2) := by decide +kernel
theorem dX9_common_43 : decode cX9_common 43 = .ok (.aload_n 0, 1) := by decide +kernel
theorem dX9_common_44 : decode cX9_common 44 = .ok (.iload_n 1, 1) := by decide +kernel
theorem dX9_common_45 : decode cX9_common 45 = .ok (.iload 5, 2) := by decide +kernel
theorem dX9_common_47 : decode cX9_common 47 = .ok (.invokevirtual 81, 3) := by decide +kernel
theorem dX9_common_50 : decode cX9_common 50 = .ok (.ifCond .eq 18, 3) := by decide +kernel
theorem dX9_common_53 : decode cX9_common 53 = .ok (.iload 5, 2) := by decide +kernel
theorem dX9_common_55 : decode cX9_common 55 = .ok (.iload_n 2, 1) := by decide +kernel
theorem dX9_common_56 : decode cX9_common 56 = .ok (.iand, 1) := by decide +kernel
theorem dX9_common_57 : decode cX9_common 57 = .ok (.invokestatic 198, 3) := by decide +kernel
theorem dX9_common_60 : decode cX9_common 60 = .ok (.iload_n 3, 1) := by decide +kernel
theorem dX9_common_61 : decode cX9_common 61 = .ok (.if_icmp .ne 7, 3) := by decide +kernel
theorem dX9_common_64 : decode cX9_common 64 = .ok (.iconst 1, 1) := by decide +kernel
theorem dX9_common_65 : decode cX9_common 65 = .ok (.goto 4, 3) := by decide +kernel
theorem dX9_common_68 : decode cX9_common 68 = .ok (.iconst 0, 1) := by decide +kernel
theorem dX9_common_69 : decode cX9_common 69 = .ok (.iadd, 1) := by decide +kernel
theorem dX9_common_70 : decode cX9_common 70 = .ok (.istore 4, 2) := by decide +kernel
theorem dX9_common_72 : decode cX9_common 72 = .ok (.iinc 5 1, 3) := by decide +kernel
theorem dX9_common_75 : decode cX9_common 75 = .ok (.goto (-42), 3) := by decide +kernel
theorem dX9_common_78 : decode cX9_common 78 = .ok (.iload 4, 2) := by decide +kernel
theorem dX9_common_80 : decode cX9_common 80 = .ok (.ireturn, 1) := by decide +kernel
theorem dX9_lacks_0 : decode cX9_lacks 0 = .ok (.aload_n 0, 1) := by decide +kernel
theorem dX9_lacks_1 : decode cX9_lacks 1 = .ok (.iload_n 1, 1) := by decide +kernel
theorem dX9_lacks_2 : decode cX9_lacks 2 = .ok (.invokevirtual 75, 3) := by decide +kernel
theorem dX9_lacks_5 : decode cX9_lacks 5 = .ok (.ifCond .eq 7, 3) := by decide +kernel
theorem dX9_lacks_8 : decode cX9_lacks 8 = .ok (.iload_n 2, 1) := by decide +kernel
theorem dX9_lacks_9 : decode cX9_lacks 9 = .ok (.ifCond .ge 6, 3) := by decide +kernel
theorem dX9_lacks_12 : decode cX9_lacks 12 = .ok (.bipush (-2), 2) := by decide +kernel
theorem dX9_lacks_14 : decode cX9_lacks 14 = .ok (.ireturn, 1) := by decide +kernel
theorem dX9_lacks_15 : decode cX9_lacks 15 = .ok (.iconst 0, 1) := by decide +kernel
theorem dX9_lacks_16 : decode cX9_lacks 16 = .ok (.istore_n 3, 1) := by decide +kernel
theorem dX9_lacks_17 : decode cX9_lacks 17 = .ok (.iconst 0, 1) := by decide +kernel
theorem dX9_lacks_18 : decode cX9_lacks 18 = .ok (.istore 4, 2) := by decide +kernel
theorem dX9_lacks_20 : decode cX9_lacks 20 = .ok (.iload 4, 2) := by decide +kernel
theorem dX9_lacks_22 : decode cX9_lacks 22 = .ok (.iconst 1, 1) := by decide +kernel
theorem dX9_lacks_23 : decode cX9_lacks 23 = .ok (.aload_n 0, 1) := by decide +kernel
theorem dX9_lacks_24 : decode cX9_lacks 24 = .ok (.iload_n 1, 1) := by decide +kernel
theorem dX9_lacks_25 : decode cX9_lacks 25 = .ok (.invokevirtual 78, 3) := by decide +kernel
theorem dX9_lacks_28 : decode cX9_lacks 28 = .ok (.ishl, 1) := by decide +kernel
theorem dX9_lacks_29 : decode cX9_lacks 29 = .ok (.if_icmp .ge 33, 3) := by decide +kernel
theorem dX9_lacks_32 : decode cX9_lacks 32 = .ok (.aload_n 0, 1) := by decide +kernel
theorem dX9_lacks_33 : decode cX9_lacks 33 = .ok (.iload_n 1, 1) := by decide +kernel
theorem dX9_lacks_34 : decode cX9_lacks 34 = .ok (.iload 4, 2) := by decide +kernel
theorem dX9_lacks_36 : decode cX9_lacks 36 = .ok (.invokevirtual 81, 3) := by decide +kernel
theorem dX9_lacks_39 : decode cX9_lacks 39 = .ok (.ifCond .eq 6, 3) := by decide +kernel
theorem dX9_lacks_42 : decode cX9_lacks 42 = .ok (.goto 14, 3) := by decide +kernel
theorem dX9_lacks_45 : decode cX9_lacks 45 = .ok (.iload_n 3, 1) := by decide +kernel
theorem dX9_lacks_46 : decode cX9_lacks 46 = .ok (.iload_n 2, 1) := by decide +kernel
theorem dX9_lacks_47 : decode cX9_lacks 47 = .ok (.if_icmp .ne 6, 3) := by decide +kernel
theorem dX9_lacks_50 : decode cX9_lacks 50 = .ok (.iload 4, 2) := by decide +kernel
theorem dX9_lacks_52 : decode cX9_lacks 52 = .ok (.ireturn, 1) := by decide +kernel
theorem dX9_lacks_53 : decode cX9_lacks 53 = .ok (.iinc 3 1, 3) := by decide +kernel
theorem dX9_lacks_56 : decode cX9_lacks 56 = .ok (.iinc 4 1, 3) := by decide +kernel
theorem dX9_lacks_59 : decode cX9_lacks 59 = .ok (.goto (-39), 3) := by decide +kernel
theorem dX9_lacks_62 : decode cX9_lacks 62 = .ok (.iconst (-1), 1) := by decide +kernel
theorem dX9_lacks_63 : decode cX9_lacks 63 = .ok (.ireturn, 1) := by decide +kernel
theorem dX9_moved_0 : decode cX9_moved 0 = .ok (.aload_n 0, 1) := by decide +kernel
theorem dX9_moved_1 : decode cX9_moved 1 = .ok (.iload_n 1, 1) := by decide +kernel
theorem dX9_moved_2 : decode cX9_moved 2 = .ok (.invokevirtual 75, 3) := by decide +kernel
theorem dX9_moved_5 : decode cX9_moved 5 = .ok (.ifCond .ne 6, 3) := by decide +kernel
theorem dX9_moved_8 : decode cX9_moved 8 = .ok (.bipush (-2), 2) := by decide +kernel
theorem dX9_moved_10 : decode cX9_moved 10 = .ok (.ireturn, 1) := by decide +kernel
theorem dX9_moved_11 : decode cX9_moved 11 = .ok (.iconst 0, 1) := by decide +kernel
theorem dX9_moved_12 : decode cX9_moved 12 = .ok (.istore_n 2, 1) := by decide +kernel
theorem dX9_moved_13 : decode cX9_moved 13 = .ok (.iconst 0, 1) := by decide +kernel
theorem dX9_moved_14 : decode cX9_moved 14 = .ok (.istore_n 3, 1) := by decide +kernel
theorem dX9_moved_15 : decode cX9_moved 15 = .ok (.iload_n 3, 1) := by decide +kernel
theorem dX9_moved_16 : decode cX9_moved 16 = .ok (.aload_n 0, 1) := by decide +kernel
theorem dX9_moved_17 : decode cX9_moved 17 = .ok (.iload_n 1, 1) := by decide +kernel
theorem dX9_moved_18 : decode cX9_moved 18 = .ok (.invokevirtual 78, 3) := by decide +kernel
theorem dX9_moved_21 : decode cX9_moved 21 = .ok (.if_icmp .ge 49, 3) := by decide +kernel
theorem dX9_moved_24 : decode cX9_moved 24 = .ok (.iload_n 3, 1) := by decide +kernel
theorem dX9_moved_25 : decode cX9_moved 25 = .ok (.iconst 1, 1) := by decide +kernel
theorem dX9_moved_26 : decode cX9_moved 26 = .ok (.iadd, 1) := by decide +kernel
theorem dX9_moved_27 : decode cX9_moved 27 = .ok (.istore 4, 2) := by decide +kernel
theorem dX9_moved_29 : decode cX9_moved 29 = .ok (.iload 4, 2) := by decide +kernel
theorem dX9_moved_31 : decode cX9_moved 31 = .ok (.aload_n 0, 1) := by decide +kernel
theorem dX9_moved_32 : decode cX9_moved 32 = .ok (.iload_n 1, 1) := by decide +kernel
theorem dX9_moved_33 : decode cX9_moved 33 = .ok (.invokevirtual 78, 3) := by decide +kernel
theorem dX9_moved_36 : decode cX9_moved 36 = .ok (.if_icmp .ge 28, 3) := by decide +kernel
theorem dX9_moved_39 : decode cX9_moved 39 = .ok (.iload_n 2, 1) := by decide +kernel
theorem dX9_moved_40 : decode cX9_moved 40 = .ok (.aload_n 0, 1) := by decide +kernel
theorem dX9_moved_41 : decode cX9_moved 41 = .ok (.iload_n 1, 1) := by decide +kernel
theorem dX9_moved_42 : decode cX9_moved 42 = .ok (.iload_n 3, 1) := by decide +kernel
theorem dX9_moved_43 : decode cX9_moved 43 = .ok (.iload 4, 2) := by decide +kernel
theorem dX9_moved_45 : decode cX9_moved 45 = .ok (.invokevirtual 219, 3) := by decide +kernel
theorem dX9_moved_48 : decode cX9_moved 48 = .ok (.ifCond .le 7, 3) := by decide +kernel
theorem dX9_moved_51 : decode cX9_moved 51 = .ok (.iconst 1, 1) := by decide +kernel
theorem dX9_moved_52 : decode cX9_moved 52 = .ok (.goto 4, 3) := by decide +kernel
theorem dX9_moved_55 : decode cX9_moved 55 = .ok (.iconst 0, 1) := by decide +kernel
theorem dX9_moved_56 : decode cX9_moved 56 = .ok (.iadd, 1) := by decide +kernel
theorem dX9_moved_57 : decode cX9_moved 57 = .ok (.istore_n 2, 1) := by decide +kernel
theorem dX9_moved_58 : decode cX9_moved 58 = .ok (.iinc 4 1, 3) := by decide +kernel
theorem dX9_moved_61 : decode cX9_moved 61 = .ok (.goto (-32), 3) := by decide +kernel
theorem dX9_moved_64 : decode cX9_moved 64 = .ok (.iinc 3 1, 3) := by decide +kernel
theorem dX9_moved_67 : decode cX9_moved 67 = .ok (.goto (-52), 3) := by decide +kernel
theorem dX9_moved_70 : decode cX9_moved 70 = .ok (.iload_n 2, 1) := by decide +kernel
theorem dX9_moved_71 : decode cX9_moved 71 = .ok (.ireturn, 1) := by decide +kernel
theorem dX9_together_0 : decode cX9_together 0 = .ok (.aload_n 0, 1) := by decide +kernel
theorem dX9_together_1 : decode cX9_together 1 = .ok (.iload_n 1, 1) := by decide +kernel
theorem dX9_together_2 : decode cX9_together 2 = .ok (.iload_n 2, 1) := by decide +kernel
theorem dX9_together_3 : decode cX9_together 3 = .ok (.invokevirtual 243, 3) := by decide +kernel
theorem dX9_together_6 : decode cX9_together 6 = .ok (.ifCond .eq 23, 3) := by decide +kernel
theorem dX9_together_9 : decode cX9_together 9 = .ok (.aload_n 0, 1) := by decide +kernel
theorem dX9_together_10 : decode cX9_together 10 = .ok (.iload_n 1, 1) := by decide +kernel
theorem dX9_together_11 : decode cX9_together 11 = .ok (.iload_n 3, 1) := by decide +kernel
theorem dX9_together_12 : decode cX9_together 12 = .ok (.invokevirtual 243, 3) := by decide +kernel
theorem dX9_together_15 : decode cX9_together 15 = .ok (.ifCond .eq 14, 3) := by decide +kernel
theorem dX9_together_18 : decode cX9_together 18 = .ok (.iload 4, 2) := by decide +kernel
theorem dX9_together_20 : decode cX9_together 20 = .ok (.i2l, 1) := by decide +kernel
theorem dX9_together_21 : decode cX9_together 21 = .ok (.lconst 0, 1) := by decide +kernel
theorem dX9_together_22 : decode cX9_together 22 = .ok (.lconst 1, 1) := by decide +kernel
theorem dX9_together_23 : decode cX9_together 23 = .ok (.invokestatic 63, 3) := by decide +kernel
theorem dX9_together_26 : decode cX9_together 26 = .ok (.ifCond .ne 6, 3) := by decide +kernel
theorem dX9_together_29 : decode cX9_together 29 = .ok (.bipush (-2), 2) := by decide +kernel
theorem dX9_together_31 : decode cX9_together 31 = .ok (.ireturn, 1) := by decide +kernel
theorem dX9_together_32 : decode cX9_together 32 = .ok (.iconst 0, 1) := by decide +kernel
theorem dX9_together_33 : decode cX9_together 33 = .ok (.istore 5, 2) := by decide +kernel
theorem dX9_together_35 : decode cX9_together 35 = .ok (.iconst 0, 1) := by decide +kernel
theorem dX9_together_36 : decode cX9_together 36 = .ok (.istore 6, 2) := by decide +kernel
theorem dX9_together_38 : decode cX9_together 38 = .ok (.iload 6, 2) := by decide +kernel
theorem dX9_together_40 : decode cX9_together 40 = .ok (.sipush 128, 3) := by decide +kernel
theorem dX9_together_43 : decode cX9_together 43 = .ok (.if_icmp .ge 73, 3) := by decide +kernel
theorem dX9_together_46 : decode cX9_together 46 = .ok (.aload_n 0, 1) := by decide +kernel
theorem dX9_together_47 : decode cX9_together 47 = .ok (.iload_n 1, 1) := by decide +kernel
theorem dX9_together_48 : decode cX9_together 48 = .ok (.iload 6, 2) := by decide +kernel
theorem dX9_together_50 : decode cX9_together 50 = .ok (.invokevirtual 81, 3) := by decide +kernel
theorem dX9_together_53 : decode cX9_together 53 = .ok (.ifCond .ne 6, 3) := by decide +kernel
theorem dX9_together_56 : decode cX9_together 56 = .ok (.goto 54, 3) := by decide +kernel
theorem dX9_together_59 : decode cX9_together 59 = .ok (.iload 5, 2) := by decide +kernel
theorem dX9_together_61 : decode cX9_together 61 = .ok (.iload 4, 2) := by decide +kernel
theorem dX9_together_63 : decode cX9_together 63 = .ok (.ifCond .ne 24, 3) := by decide +kernel
theorem dX9_together_66 : decode cX9_together 66 = .ok (.iload 6, 2) := by decide +kernel
theorem dX9_together_68 : decode cX9_together 68 = .ok (.iload_n 2, 1) := by decide +kernel
theorem dX9_together_69 : decode cX9_together 69 = .ok (.invokestatic 169, 3) := by decide +kernel
theorem dX9_together_72 : decode cX9_together 72 = .ok (.ifCond .eq 34, 3) := by decide +kernel
theorem dX9_together_75 : decode cX9_together 75 = .ok (.iload 6, 2) := by decide +kernel
theorem dX9_together_77 : decode cX9_together 77 = .ok (.iload_n 3, 1) := by decide +kernel
theorem dX9_together_78 : decode cX9_together 78 = .ok (.invokestatic 169, 3) := by decide +kernel
theorem dX9_together_81 : decode cX9_together 81 = .ok (.ifCond .eq 25, 3) := by decide +kernel
theorem dX9_together_84 : decode cX9_together 84 = .ok (.goto 18, 3) := by decide +kernel
theorem dX9_together_87 : decode cX9_together 87 = .ok (.iload 6, 2) := by decide +kernel
theorem dX9_together_89 : decode cX9_together 89 = .ok (.iload_n 2, 1) := by decide +kernel
theorem dX9_together_90 : decode cX9_together 90 = .ok (.invokestatic 169, 3) := by decide +kernel
theorem dX9_together_93 : decode cX9_together 93 = .ok (.iload 6, 2) := by decide +kernel
theorem dX9_together_95 : decode cX9_together 95 = .ok (.iload_n 3, 1) := by decide +kernel
theorem dX9_together_96 : decode cX9_together 96 = .ok (.invokestatic 169, 3) := by decide +kernel
theorem dX9_together_99 : decode cX9_together 99 = .ok (.if_icmp .eq 7, 3) := by decide +kernel
theorem dX9_together_102 : decode cX9_together 102 = .ok (.iconst 1, 1) := by decide +kernel
theorem dX9_together_103 : decode cX9_together 103 = .ok (.goto 4, 3) := by decide +kernel
theorem dX9_together_106 : decode cX9_together 106 = .ok (.iconst 0, 1) := by decide +kernel
theorem dX9_together_107 : decode cX9_together 107 = .ok (.iadd, 1) := by decide +kernel
theorem dX9_together_108 : decode cX9_together 108 = .ok (.istore 5, 2) := by decide +kernel
theorem dX9_together_110 : decode cX9_together 110 = .ok (.iinc 6 1, 3) := by decide +kernel
theorem dX9_together_113 : decode cX9_together 113 = .ok (.goto (-75), 3) := by decide +kernel
theorem dX9_together_116 : decode cX9_together 116 = .ok (.iload 5, 2) := by decide +kernel
theorem dX9_together_118 : decode cX9_together 118 = .ok (.ireturn, 1) := by decide +kernel
theorem dX9_half_0 : decode cX9_half 0 = .ok (.aload_n 0, 1) := by decide +kernel
theorem dX9_half_1 : decode cX9_half 1 = .ok (.iload_n 1, 1) := by decide +kernel
theorem dX9_half_2 : decode cX9_half 2 = .ok (.invokevirtual 75, 3) := by decide +kernel
theorem dX9_half_5 : decode cX9_half 5 = .ok (.ifCond .ne 6, 3) := by decide +kernel
theorem dX9_half_8 : decode cX9_half 8 = .ok (.bipush (-2), 2) := by decide +kernel
theorem dX9_half_10 : decode cX9_half 10 = .ok (.ireturn, 1) := by decide +kernel
theorem dX9_half_11 : decode cX9_half 11 = .ok (.iconst 0, 1) := by decide +kernel
theorem dX9_half_12 : decode cX9_half 12 = .ok (.istore_n 2, 1) := by decide +kernel
theorem dX9_half_13 : decode cX9_half 13 = .ok (.iconst 0, 1) := by decide +kernel
theorem dX9_half_14 : decode cX9_half 14 = .ok (.istore_n 3, 1) := by decide +kernel
theorem dX9_half_15 : decode cX9_half 15 = .ok (.iload_n 3, 1) := by decide +kernel
theorem dX9_half_16 : decode cX9_half 16 = .ok (.aload_n 0, 1) := by decide +kernel
theorem dX9_half_17 : decode cX9_half 17 = .ok (.iload_n 1, 1) := by decide +kernel
theorem dX9_half_18 : decode cX9_half 18 = .ok (.invokevirtual 78, 3) := by decide +kernel
theorem dX9_half_21 : decode cX9_half 21 = .ok (.if_icmp .ge 35, 3) := by decide +kernel
theorem dX9_half_24 : decode cX9_half 24 = .ok (.iload_n 2, 1) := by decide +kernel
theorem dX9_half_25 : decode cX9_half 25 = .ok (.iconst 2, 1) := by decide +kernel
theorem dX9_half_26 : decode cX9_half 26 = .ok (.aload_n 0, 1) := by decide +kernel
theorem dX9_half_27 : decode cX9_half 27 = .ok (.iload_n 1, 1) := by decide +kernel
theorem dX9_half_28 : decode cX9_half 28 = .ok (.iload_n 3, 1) := by decide +kernel
theorem dX9_half_29 : decode cX9_half 29 = .ok (.invokevirtual 246, 3) := by decide +kernel
theorem dX9_half_32 : decode cX9_half 32 = .ok (.imul, 1) := by decide +kernel
theorem dX9_half_33 : decode cX9_half 33 = .ok (.aload_n 0, 1) := by decide +kernel
theorem dX9_half_34 : decode cX9_half 34 = .ok (.iload_n 1, 1) := by decide +kernel
theorem dX9_half_35 : decode cX9_half 35 = .ok (.invokevirtual 97, 3) := by decide +kernel
theorem dX9_half_38 : decode cX9_half 38 = .ok (.if_icmp .lt 9, 3) := by decide +kernel
theorem dX9_half_41 : decode cX9_half 41 = .ok (.iconst 1, 1) := by decide +kernel
theorem dX9_half_42 : decode cX9_half 42 = .ok (.iload_n 3, 1) := by decide +kernel
theorem dX9_half_43 : decode cX9_half 43 = .ok (.ishl, 1) := by decide +kernel
theorem dX9_half_44 : decode cX9_half 44 = .ok (.goto 4, 3) := by decide +kernel
theorem dX9_half_47 : decode cX9_half 47 = .ok (.iconst 0, 1) := by decide +kernel
theorem dX9_half_48 : decode cX9_half 48 = .ok (.ior, 1) := by decide +kernel
theorem dX9_half_49 : decode cX9_half 49 = .ok (.istore_n 2, 1) := by decide +kernel
theorem dX9_half_50 : decode cX9_half 50 = .ok (.iinc 3 1, 3) := by decide +kernel
theorem dX9_half_53 : decode cX9_half 53 = .ok (.goto (-38), 3) := by decide +kernel
theorem dX9_half_56 : decode cX9_half 56 = .ok (.iload_n 2, 1) := by decide +kernel
theorem dX9_half_57 : decode cX9_half 57 = .ok (.ireturn, 1) := by decide +kernel
theorem dX9_next_0 : decode cX9_next 0 = .ok (.aload_n 0, 1) := by decide +kernel
theorem dX9_next_1 : decode cX9_next 1 = .ok (.iload_n 1, 1) := by decide +kernel
theorem dX9_next_2 : decode cX9_next 2 = .ok (.iload_n 2, 1) := by decide +kernel
theorem dX9_next_3 : decode cX9_next 3 = .ok (.invokevirtual 210, 3) := by decide +kernel
theorem dX9_next_6 : decode cX9_next 6 = .ok (.ifCond .ne 6, 3) := by decide +kernel
theorem dX9_next_9 : decode cX9_next 9 = .ok (.bipush (-2), 2) := by decide +kernel
theorem dX9_next_11 : decode cX9_next 11 = .ok (.ireturn, 1) := by decide +kernel
theorem dX9_next_12 : decode cX9_next 12 = .ok (.iload_n 2, 1) := by decide +kernel
theorem dX9_next_13 : decode cX9_next 13 = .ok (.iconst 1, 1) := by decide +kernel
theorem dX9_next_14 : decode cX9_next 14 = .ok (.iadd, 1) := by decide +kernel
theorem dX9_next_15 : decode cX9_next 15 = .ok (.istore_n 3, 1) := by decide +kernel
theorem dX9_next_16 : decode cX9_next 16 = .ok (.iload_n 3, 1) := by decide +kernel
theorem dX9_next_17 : decode cX9_next 17 = .ok (.iconst 1, 1) := by decide +kernel
theorem dX9_next_18 : decode cX9_next 18 = .ok (.aload_n 0, 1) := by decide +kernel
theorem dX9_next_19 : decode cX9_next 19 = .ok (.iload_n 1, 1) := by decide +kernel
theorem dX9_next_20 : decode cX9_next 20 = .ok (.invokevirtual 78, 3) := by decide +kernel
theorem dX9_next_23 : decode cX9_next 23 = .ok (.ishl, 1) := by decide +kernel
theorem dX9_next_24 : decode cX9_next 24 = .ok (.if_icmp .ge 22, 3) := by decide +kernel
theorem dX9_next_27 : decode cX9_next 27 = .ok (.iload_n 3, 1) := by decide +kernel
theorem dX9_next_28 : decode cX9_next 28 = .ok (.invokestatic 198, 3) := by decide +kernel
theorem dX9_next_31 : decode cX9_next 31 = .ok (.iload_n 2, 1) := by decide +kernel
theorem dX9_next_32 : decode cX9_next 32 = .ok (.invokestatic 198, 3) := by decide +kernel
theorem dX9_next_35 : decode cX9_next 35 = .ok (.if_icmp .ne 5, 3) := by decide +kernel
theorem dX9_next_38 : decode cX9_next 38 = .ok (.iload_n 3, 1) := by decide +kernel
theorem dX9_next_39 : decode cX9_next 39 = .ok (.ireturn, 1) := by decide +kernel
theorem dX9_next_40 : decode cX9_next 40 = .ok (.iinc 3 1, 3) := by decide +kernel
theorem dX9_next_43 : decode cX9_next 43 = .ok (.goto (-27), 3) := by decide +kernel
theorem dX9_next_46 : decode cX9_next 46 = .ok (.iconst (-1), 1) := by decide +kernel
theorem dX9_next_47 : decode cX9_next 47 = .ok (.ireturn, 1) := by decide +kernel
theorem dX9_apart_0 : decode cX9_apart 0 = .ok (.aload_n 0, 1) := by decide +kernel
theorem dX9_apart_1 : decode cX9_apart 1 = .ok (.iload_n 1, 1) := by decide +kernel
theorem dX9_apart_2 : decode cX9_apart 2 = .ok (.invokevirtual 75, 3) := by decide +kernel
theorem dX9_apart_5 : decode cX9_apart 5 = .ok (.ifCond .eq 8, 3) := by decide +kernel
theorem dX9_apart_8 : decode cX9_apart 8 = .ok (.iload_n 2, 1) := by decide +kernel
theorem dX9_apart_9 : decode cX9_apart 9 = .ok (.iconst (-1), 1) := by decide +kernel
theorem dX9_apart_10 : decode cX9_apart 10 = .ok (.if_icmp .ge 6, 3) := by decide +kernel
theorem dX9_apart_13 : decode cX9_apart 13 = .ok (.bipush (-2), 2) := by decide +kernel
theorem dX9_apart_15 : decode cX9_apart 15 = .ok (.ireturn, 1) := by decide +kernel
theorem dX9_apart_16 : decode cX9_apart 16 = .ok (.iconst 0, 1) := by decide +kernel
theorem dX9_apart_17 : decode cX9_apart 17 = .ok (.istore_n 3, 1) := by decide +kernel
theorem dX9_apart_18 : decode cX9_apart 18 = .ok (.iconst 0, 1) := by decide +kernel
theorem dX9_apart_19 : decode cX9_apart 19 = .ok (.istore 4, 2) := by decide +kernel
theorem dX9_apart_21 : decode cX9_apart 21 = .ok (.iload 4, 2) := by decide +kernel
theorem dX9_apart_23 : decode cX9_apart 23 = .ok (.sipush 128, 3) := by decide +kernel
theorem dX9_apart_26 : decode cX9_apart 26 = .ok (.if_icmp .ge 78, 3) := by decide +kernel
theorem dX9_apart_29 : decode cX9_apart 29 = .ok (.iload 4, 2) := by decide +kernel
theorem dX9_apart_31 : decode cX9_apart 31 = .ok (.iconst 1, 1) := by decide +kernel
theorem dX9_apart_32 : decode cX9_apart 32 = .ok (.iadd, 1) := by decide +kernel
theorem dX9_apart_33 : decode cX9_apart 33 = .ok (.istore 5, 2) := by decide +kernel
theorem dX9_apart_35 : decode cX9_apart 35 = .ok (.iload 5, 2) := by decide +kernel
theorem dX9_apart_37 : decode cX9_apart 37 = .ok (.sipush 128, 3) := by decide +kernel
theorem dX9_apart_40 : decode cX9_apart 40 = .ok (.if_icmp .ge 58, 3) := by decide +kernel
theorem dX9_apart_43 : decode cX9_apart 43 = .ok (.aload_n 0, 1) := by decide +kernel
theorem dX9_apart_44 : decode cX9_apart 44 = .ok (.iload_n 1, 1) := by decide +kernel
theorem dX9_apart_45 : decode cX9_apart 45 = .ok (.iload 4, 2) := by decide +kernel
theorem dX9_apart_47 : decode cX9_apart 47 = .ok (.invokevirtual 81, 3) := by decide +kernel
theorem dX9_apart_50 : decode cX9_apart 50 = .ok (.ifCond .eq 48, 3) := by decide +kernel
theorem dX9_apart_53 : decode cX9_apart 53 = .ok (.aload_n 0, 1) := by decide +kernel
theorem dX9_apart_54 : decode cX9_apart 54 = .ok (.iload_n 1, 1) := by decide +kernel
theorem dX9_apart_55 : decode cX9_apart 55 = .ok (.iload 5, 2) := by decide +kernel
theorem dX9_apart_57 : decode cX9_apart 57 = .ok (.invokevirtual 81, 3) := by decide +kernel
theorem dX9_apart_60 : decode cX9_apart 60 = .ok (.ifCond .eq 32, 3) := by decide +kernel
theorem dX9_apart_63 : decode cX9_apart 63 = .ok (.iload 4, 2) := by decide +kernel
theorem dX9_apart_65 : decode cX9_apart 65 = .ok (.iload 5, 2) := by decide +kernel
theorem dX9_apart_67 : decode cX9_apart 67 = .ok (.iand, 1) := by decide +kernel
theorem dX9_apart_68 : decode cX9_apart 68 = .ok (.ifCond .eq 6, 3) := by decide +kernel
theorem dX9_apart_71 : decode cX9_apart 71 = .ok (.goto 21, 3) := by decide +kernel
theorem dX9_apart_74 : decode cX9_apart 74 = .ok (.iload_n 3, 1) := by decide +kernel
theorem dX9_apart_75 : decode cX9_apart 75 = .ok (.iload_n 2, 1) := by decide +kernel
theorem dX9_apart_76 : decode cX9_apart 76 = .ok (.if_icmp .ne 13, 3) := by decide +kernel
theorem dX9_apart_79 : decode cX9_apart 79 = .ok (.sipush 1000, 3) := by decide +kernel
theorem dX9_apart_82 : decode cX9_apart 82 = .ok (.iload 4, 2) := by decide +kernel
theorem dX9_apart_84 : decode cX9_apart 84 = .ok (.imul, 1) := by decide +kernel
theorem dX9_apart_85 : decode cX9_apart 85 = .ok (.iload 5, 2) := by decide +kernel
theorem dX9_apart_87 : decode cX9_apart 87 = .ok (.iadd, 1) := by decide +kernel
theorem dX9_apart_88 : decode cX9_apart 88 = .ok (.ireturn, 1) := by decide +kernel
theorem dX9_apart_89 : decode cX9_apart 89 = .ok (.iinc 3 1, 3) := by decide +kernel
theorem dX9_apart_92 : decode cX9_apart 92 = .ok (.iinc 5 1, 3) := by decide +kernel
theorem dX9_apart_95 : decode cX9_apart 95 = .ok (.goto (-60), 3) := by decide +kernel
theorem dX9_apart_98 : decode cX9_apart 98 = .ok (.iinc 4 1, 3) := by decide +kernel
theorem dX9_apart_101 : decode cX9_apart 101 = .ok (.goto (-80), 3) := by decide +kernel
theorem dX9_apart_104 : decode cX9_apart 104 = .ok (.iload_n 2, 1) := by decide +kernel
theorem dX9_apart_105 : decode cX9_apart 105 = .ok (.iconst (-1), 1) := by decide +kernel
theorem dX9_apart_106 : decode cX9_apart 106 = .ok (.if_icmp .ne 7, 3) := by decide +kernel
theorem dX9_apart_109 : decode cX9_apart 109 = .ok (.iload_n 3, 1) := by decide +kernel
theorem dX9_apart_110 : decode cX9_apart 110 = .ok (.goto 4, 3) := by decide +kernel
theorem dX9_apart_113 : decode cX9_apart 113 = .ok (.iconst (-1), 1) := by decide +kernel
theorem dX9_apart_114 : decode cX9_apart 114 = .ok (.ireturn, 1) := by decide +kernel
theorem dX9_covers_0 : decode cX9_covers 0 = .ok (.aload_n 0, 1) := by decide +kernel
theorem dX9_covers_1 : decode cX9_covers 1 = .ok (.iload_n 1, 1) := by decide +kernel
theorem dX9_covers_2 : decode cX9_covers 2 = .ok (.invokevirtual 75, 3) := by decide +kernel
theorem dX9_covers_5 : decode cX9_covers 5 = .ok (.ifCond .eq 8, 3) := by decide +kernel
theorem dX9_covers_8 : decode cX9_covers 8 = .ok (.iload_n 2, 1) := by decide +kernel
theorem dX9_covers_9 : decode cX9_covers 9 = .ok (.iconst (-1), 1) := by decide +kernel
theorem dX9_covers_10 : decode cX9_covers 10 = .ok (.if_icmp .ge 6, 3) := by decide +kernel
theorem dX9_covers_13 : decode cX9_covers 13 = .ok (.bipush (-2), 2) := by decide +kernel
theorem dX9_covers_15 : decode cX9_covers 15 = .ok (.ireturn, 1) := by decide +kernel
theorem dX9_covers_16 : decode cX9_covers 16 = .ok (.iconst 0, 1) := by decide +kernel
theorem dX9_covers_17 : decode cX9_covers 17 = .ok (.istore_n 3, 1) := by decide +kernel
theorem dX9_covers_18 : decode cX9_covers 18 = .ok (.iconst 0, 1) := by decide +kernel
theorem dX9_covers_19 : decode cX9_covers 19 = .ok (.istore 4, 2) := by decide +kernel
theorem dX9_covers_21 : decode cX9_covers 21 = .ok (.iload 4, 2) := by decide +kernel
theorem dX9_covers_23 : decode cX9_covers 23 = .ok (.iconst 1, 1) := by decide +kernel
theorem dX9_covers_24 : decode cX9_covers 24 = .ok (.aload_n 0, 1) := by decide +kernel
theorem dX9_covers_25 : decode cX9_covers 25 = .ok (.iload_n 1, 1) := by decide +kernel
theorem dX9_covers_26 : decode cX9_covers 26 = .ok (.invokevirtual 78, 3) := by decide +kernel
theorem dX9_covers_29 : decode cX9_covers 29 = .ok (.ishl, 1) := by decide +kernel
theorem dX9_covers_30 : decode cX9_covers 30 = .ok (.if_icmp .ge 33, 3) := by decide +kernel
theorem dX9_covers_33 : decode cX9_covers 33 = .ok (.aload_n 0, 1) := by decide +kernel
theorem dX9_covers_34 : decode cX9_covers 34 = .ok (.iload_n 1, 1) := by decide +kernel
theorem dX9_covers_35 : decode cX9_covers 35 = .ok (.iload 4, 2) := by decide +kernel
theorem dX9_covers_37 : decode cX9_covers 37 = .ok (.invokevirtual 252, 3) := by decide +kernel
theorem dX9_covers_40 : decode cX9_covers 40 = .ok (.ifCond .ne 6, 3) := by decide +kernel
theorem dX9_covers_43 : decode cX9_covers 43 = .ok (.goto 14, 3) := by decide +kernel
theorem dX9_covers_46 : decode cX9_covers 46 = .ok (.iload_n 3, 1) := by decide +kernel
theorem dX9_covers_47 : decode cX9_covers 47 = .ok (.iload_n 2, 1) := by decide +kernel
theorem dX9_covers_48 : decode cX9_covers 48 = .ok (.if_icmp .ne 6, 3) := by decide +kernel
theorem dX9_covers_51 : decode cX9_covers 51 = .ok (.iload 4, 2) := by decide +kernel
theorem dX9_covers_53 : decode cX9_covers 53 = .ok (.ireturn, 1) := by decide +kernel
theorem dX9_covers_54 : decode cX9_covers 54 = .ok (.iinc 3 1, 3) := by decide +kernel
theorem dX9_covers_57 : decode cX9_covers 57 = .ok (.iinc 4 1, 3) := by decide +kernel
theorem dX9_covers_60 : decode cX9_covers 60 = .ok (.goto (-39), 3) := by decide +kernel
theorem dX9_covers_63 : decode cX9_covers 63 = .ok (.iload_n 2, 1) := by decide +kernel
theorem dX9_covers_64 : decode cX9_covers 64 = .ok (.iconst (-1), 1) := by decide +kernel
theorem dX9_covers_65 : decode cX9_covers 65 = .ok (.if_icmp .ne 7, 3) := by decide +kernel
theorem dX9_covers_68 : decode cX9_covers 68 = .ok (.iload_n 3, 1) := by decide +kernel
theorem dX9_covers_69 : decode cX9_covers 69 = .ok (.goto 4, 3) := by decide +kernel
theorem dX9_covers_72 : decode cX9_covers 72 = .ok (.iconst (-1), 1) := by decide +kernel
theorem dX9_covers_73 : decode cX9_covers 73 = .ok (.ireturn, 1) := by decide +kernel
theorem dX9_height_0 : decode cX9_height 0 = .ok (.aload_n 0, 1) := by decide +kernel
theorem dX9_height_1 : decode cX9_height 1 = .ok (.iload_n 1, 1) := by decide +kernel
theorem dX9_height_2 : decode cX9_height 2 = .ok (.iload_n 2, 1) := by decide +kernel
theorem dX9_height_3 : decode cX9_height 3 = .ok (.invokevirtual 210, 3) := by decide +kernel
theorem dX9_height_6 : decode cX9_height 6 = .ok (.ifCond .ne 6, 3) := by decide +kernel
theorem dX9_height_9 : decode cX9_height 9 = .ok (.bipush (-2), 2) := by decide +kernel
theorem dX9_height_11 : decode cX9_height 11 = .ok (.ireturn, 1) := by decide +kernel
theorem dX9_height_12 : decode cX9_height 12 = .ok (.aload_n 0, 1) := by decide +kernel
theorem dX9_height_13 : decode cX9_height 13 = .ok (.iload_n 1, 1) := by decide +kernel
theorem dX9_height_14 : decode cX9_height 14 = .ok (.iload_n 2, 1) := by decide +kernel
theorem dX9_height_15 : decode cX9_height 15 = .ok (.invokevirtual 81, 3) := by decide +kernel
theorem dX9_height_18 : decode cX9_height 18 = .ok (.ifCond .ne 6, 3) := by decide +kernel
theorem dX9_height_21 : decode cX9_height 21 = .ok (.bipush (-6), 2) := by decide +kernel
theorem dX9_height_23 : decode cX9_height 23 = .ok (.ireturn, 1) := by decide +kernel
theorem dX9_height_24 : decode cX9_height 24 = .ok (.iconst 0, 1) := by decide +kernel
theorem dX9_height_25 : decode cX9_height 25 = .ok (.istore_n 3, 1) := by decide +kernel
theorem dX9_height_26 : decode cX9_height 26 = .ok (.iload_n 3, 1) := by decide +kernel
theorem dX9_height_27 : decode cX9_height 27 = .ok (.iload_n 2, 1) := by decide +kernel
theorem dX9_height_28 : decode cX9_height 28 = .ok (.if_icmp .gt 96, 3) := by decide +kernel
theorem dX9_height_31 : decode cX9_height 31 = .ok (.aload_n 0, 1) := by decide +kernel
theorem dX9_height_32 : decode cX9_height 32 = .ok (.getfield 49, 3) := by decide +kernel
theorem dX9_height_35 : decode cX9_height 35 = .ok (.iload_n 3, 1) := by decide +kernel
theorem dX9_height_36 : decode cX9_height 36 = .ok (.aload_n 0, 1) := by decide +kernel
theorem dX9_height_37 : decode cX9_height 37 = .ok (.iload_n 1, 1) := by decide +kernel
theorem dX9_height_38 : decode cX9_height 38 = .ok (.iload_n 3, 1) := by decide +kernel
theorem dX9_height_39 : decode cX9_height 39 = .ok (.invokevirtual 81, 3) := by decide +kernel
theorem dX9_height_42 : decode cX9_height 42 = .ok (.ifCond .eq 7, 3) := by decide +kernel
theorem dX9_height_45 : decode cX9_height 45 = .ok (.iconst 1, 1) := by decide +kernel
theorem dX9_height_46 : decode cX9_height 46 = .ok (.goto 4, 3) := by decide +kernel
theorem dX9_height_49 : decode cX9_height 49 = .ok (.iconst 0, 1) := by decide +kernel
theorem dX9_height_50 : decode cX9_height 50 = .ok (.iastore, 1) := by decide +kernel
theorem dX9_height_51 : decode cX9_height 51 = .ok (.iconst 0, 1) := by decide +kernel
theorem dX9_height_52 : decode cX9_height 52 = .ok (.istore 4, 2) := by decide +kernel
theorem dX9_height_54 : decode cX9_height 54 = .ok (.iload 4, 2) := by decide +kernel
theorem dX9_height_56 : decode cX9_height 56 = .ok (.iload_n 3, 1) := by decide +kernel
theorem dX9_height_57 : decode cX9_height 57 = .ok (.if_icmp .ge 61, 3) := by decide +kernel
theorem dX9_height_60 : decode cX9_height 60 = .ok (.aload_n 0, 1) := by decide +kernel
theorem dX9_height_61 : decode cX9_height 61 = .ok (.iload_n 1, 1) := by decide +kernel
theorem dX9_height_62 : decode cX9_height 62 = .ok (.iload_n 3, 1) := by decide +kernel
theorem dX9_height_63 : decode cX9_height 63 = .ok (.invokevirtual 81, 3) := by decide +kernel
theorem dX9_height_66 : decode cX9_height 66 = .ok (.ifCond .eq 52, 3) := by decide +kernel
theorem dX9_height_69 : decode cX9_height 69 = .ok (.iload_n 3, 1) := by decide +kernel
theorem dX9_height_70 : decode cX9_height 70 = .ok (.iload 4, 2) := by decide +kernel
theorem dX9_height_72 : decode cX9_height 72 = .ok (.iand, 1) := by decide +kernel
theorem dX9_height_73 : decode cX9_height 73 = .ok (.iload 4, 2) := by decide +kernel
theorem dX9_height_75 : decode cX9_height 75 = .ok (.if_icmp .ne 37, 3) := by decide +kernel
theorem dX9_height_78 : decode cX9_height 78 = .ok (.aload_n 0, 1) := by decide +kernel
theorem dX9_height_79 : decode cX9_height 79 = .ok (.getfield 49, 3) := by decide +kernel
theorem dX9_height_82 : decode cX9_height 82 = .ok (.iload 4, 2) := by decide +kernel
theorem dX9_height_84 : decode cX9_height 84 = .ok (.iaload, 1) := by decide +kernel
theorem dX9_height_85 : decode cX9_height 85 = .ok (.ifCond .le 27, 3) := by decide +kernel
theorem dX9_height_88 : decode cX9_height 88 = .ok (.aload_n 0, 1) := by decide +kernel
theorem dX9_height_89 : decode cX9_height 89 = .ok (.getfield 49, 3) := by decide +kernel
theorem dX9_height_92 : decode cX9_height 92 = .ok (.iload_n 3, 1) := by decide +kernel
theorem dX9_height_93 : decode cX9_height 93 = .ok (.aload_n 0, 1) := by decide +kernel
theorem dX9_height_94 : decode cX9_height 94 = .ok (.getfield 49, 3) := by decide +kernel
theorem dX9_height_97 : decode cX9_height 97 = .ok (.iload_n 3, 1) := by decide +kernel
theorem dX9_height_98 : decode cX9_height 98 = .ok (.iaload, 1) := by decide +kernel
theorem dX9_height_99 : decode cX9_height 99 = .ok (.aload_n 0, 1) := by decide +kernel
theorem dX9_height_100 : decode cX9_height 100 = .ok (.getfield 49, 3) := by decide +kernel
theorem dX9_height_103 : decode cX9_height 103 = .ok (.iload 4, 2) := by decide +kernel
theorem dX9_height_105 : decode cX9_height 105 = .ok (.iaload, 1) := by decide +kernel
theorem dX9_height_106 : decode cX9_height 106 = .ok (.iconst 1, 1) := by decide +kernel
theorem dX9_height_107 : decode cX9_height 107 = .ok (.iadd, 1) := by decide +kernel
theorem dX9_height_108 : decode cX9_height 108 = .ok (.invokestatic 201, 3) := by decide +kernel
theorem dX9_height_111 : decode cX9_height 111 = .ok (.iastore, 1) := by decide +kernel
theorem dX9_height_112 : decode cX9_height 112 = .ok (.iinc 4 1, 3) := by decide +kernel
theorem dX9_height_115 : decode cX9_height 115 = .ok (.goto (-61), 3) := by decide +kernel
theorem dX9_height_118 : decode cX9_height 118 = .ok (.iinc 3 1, 3) := by decide +kernel
theorem dX9_height_121 : decode cX9_height 121 = .ok (.goto (-95), 3) := by decide +kernel
theorem dX9_height_124 : decode cX9_height 124 = .ok (.aload_n 0, 1) := by decide +kernel
theorem dX9_height_125 : decode cX9_height 125 = .ok (.getfield 49, 3) := by decide +kernel
theorem dX9_height_128 : decode cX9_height 128 = .ok (.iload_n 2, 1) := by decide +kernel
theorem dX9_height_129 : decode cX9_height 129 = .ok (.iaload, 1) := by decide +kernel
theorem dX9_height_130 : decode cX9_height 130 = .ok (.ireturn, 1) := by decide +kernel
theorem dX9_trace_0 : decode cX9_trace 0 = .ok (.aload_n 0, 1) := by decide +kernel
theorem dX9_trace_1 : decode cX9_trace 1 = .ok (.iload_n 1, 1) := by decide +kernel
theorem dX9_trace_2 : decode cX9_trace 2 = .ok (.iload_n 2, 1) := by decide +kernel
theorem dX9_trace_3 : decode cX9_trace 3 = .ok (.invokevirtual 210, 3) := by decide +kernel
theorem dX9_trace_6 : decode cX9_trace 6 = .ok (.ifCond .eq 10, 3) := by decide +kernel
theorem dX9_trace_9 : decode cX9_trace 9 = .ok (.iload_n 3, 1) := by decide +kernel
theorem dX9_trace_10 : decode cX9_trace 10 = .ok (.invokestatic 67, 3) := by decide +kernel
theorem dX9_trace_13 : decode cX9_trace 13 = .ok (.ifCond .ne 6, 3) := by decide +kernel
theorem dX9_trace_16 : decode cX9_trace 16 = .ok (.bipush (-2), 2) := by decide +kernel
theorem dX9_trace_18 : decode cX9_trace 18 = .ok (.ireturn, 1) := by decide +kernel
theorem dX9_trace_19 : decode cX9_trace 19 = .ok (.aload_n 0, 1) := by decide +kernel
theorem dX9_trace_20 : decode cX9_trace 20 = .ok (.aload_n 0, 1) := by decide +kernel
theorem dX9_trace_21 : decode cX9_trace 21 = .ok (.iload_n 1, 1) := by decide +kernel
theorem dX9_trace_22 : decode cX9_trace 22 = .ok (.invokevirtual 78, 3) := by decide +kernel
theorem dX9_trace_25 : decode cX9_trace 25 = .ok (.invokevirtual 176, 3) := by decide +kernel
theorem dX9_trace_28 : decode cX9_trace 28 = .ok (.iconst 0, 1) := by decide +kernel
theorem dX9_trace_29 : decode cX9_trace 29 = .ok (.istore 4, 2) := by decide +kernel
theorem dX9_trace_31 : decode cX9_trace 31 = .ok (.iload 4, 2) := by decide +kernel
theorem dX9_trace_33 : decode cX9_trace 33 = .ok (.sipush 128, 3) := by decide +kernel
theorem dX9_trace_36 : decode cX9_trace 36 = .ok (.if_icmp .ge 29, 3) := by decide +kernel
theorem dX9_trace_39 : decode cX9_trace 39 = .ok (.aload_n 0, 1) := by decide +kernel
theorem dX9_trace_40 : decode cX9_trace 40 = .ok (.iload_n 1, 1) := by decide +kernel
theorem dX9_trace_41 : decode cX9_trace 41 = .ok (.iload 4, 2) := by decide +kernel
theorem dX9_trace_43 : decode cX9_trace 43 = .ok (.invokevirtual 81, 3) := by decide +kernel
theorem dX9_trace_46 : decode cX9_trace 46 = .ok (.ifCond .eq 13, 3) := by decide +kernel
theorem dX9_trace_49 : decode cX9_trace 49 = .ok (.aload_n 0, 1) := by decide +kernel
theorem dX9_trace_50 : decode cX9_trace 50 = .ok (.getfield 13, 3) := by decide +kernel
theorem dX9_trace_53 : decode cX9_trace 53 = .ok (.iload 4, 2) := by decide +kernel
theorem dX9_trace_55 : decode cX9_trace 55 = .ok (.iload_n 2, 1) := by decide +kernel
theorem dX9_trace_56 : decode cX9_trace 56 = .ok (.iand, 1) := by decide +kernel
theorem dX9_trace_57 : decode cX9_trace 57 = .ok (.iconst 1, 1) := by decide +kernel
theorem dX9_trace_58 : decode cX9_trace 58 = .ok (.bastore, 1) := by decide +kernel
theorem dX9_trace_59 : decode cX9_trace 59 = .ok (.iinc 4 1, 3) := by decide +kernel
theorem dX9_trace_62 : decode cX9_trace 62 = .ok (.goto (-31), 3) := by decide +kernel
theorem dX9_trace_65 : decode cX9_trace 65 = .ok (.aload_n 0, 1) := by decide +kernel
theorem dX9_trace_66 : decode cX9_trace 66 = .ok (.iload_n 3, 1) := by decide +kernel
theorem dX9_trace_67 : decode cX9_trace 67 = .ok (.invokevirtual 188, 3) := by decide +kernel
theorem dX9_trace_70 : decode cX9_trace 70 = .ok (.ireturn, 1) := by decide +kernel
theorem dX9_joint_0 : decode cX9_joint 0 = .ok (.aload_n 0, 1) := by decide +kernel
theorem dX9_joint_1 : decode cX9_joint 1 = .ok (.iload_n 1, 1) := by decide +kernel
theorem dX9_joint_2 : decode cX9_joint 2 = .ok (.invokevirtual 75, 3) := by decide +kernel
theorem dX9_joint_5 : decode cX9_joint 5 = .ok (.ifCond .eq 31, 3) := by decide +kernel
theorem dX9_joint_8 : decode cX9_joint 8 = .ok (.aload_n 0, 1) := by decide +kernel
theorem dX9_joint_9 : decode cX9_joint 9 = .ok (.iload_n 2, 1) := by decide +kernel
theorem dX9_joint_10 : decode cX9_joint 10 = .ok (.invokevirtual 75, 3) := by decide +kernel
theorem dX9_joint_13 : decode cX9_joint 13 = .ok (.ifCond .eq 23, 3) := by decide +kernel
theorem dX9_joint_16 : decode cX9_joint 16 = .ok (.iload_n 3, 1) := by decide +kernel
theorem dX9_joint_17 : decode cX9_joint 17 = .ok (.i2l, 1) := by decide +kernel
theorem dX9_joint_18 : decode cX9_joint 18 = .ok (.lconst 0, 1) := by decide +kernel
theorem dX9_joint_19 : decode cX9_joint 19 = .ok (.ldc2_w 308, 3) := by decide +kernel
theorem dX9_joint_22 : decode cX9_joint 22 = .ok (.invokestatic 63, 3) := by decide +kernel
theorem dX9_joint_25 : decode cX9_joint 25 = .ok (.ifCond .eq 11, 3) := by decide +kernel
theorem dX9_joint_28 : decode cX9_joint 28 = .ok (.iload 4, 2) := by decide +kernel
theorem dX9_joint_30 : decode cX9_joint 30 = .ok (.invokestatic 67, 3) := by decide +kernel
theorem dX9_joint_33 : decode cX9_joint 33 = .ok (.ifCond .ne 6, 3) := by decide +kernel
theorem dX9_joint_36 : decode cX9_joint 36 = .ok (.bipush (-2), 2) := by decide +kernel
theorem dX9_joint_38 : decode cX9_joint 38 = .ok (.ireturn, 1) := by decide +kernel
theorem dX9_joint_39 : decode cX9_joint 39 = .ok (.aload_n 0, 1) := by decide +kernel
theorem dX9_joint_40 : decode cX9_joint 40 = .ok (.iload_n 1, 1) := by decide +kernel
theorem dX9_joint_41 : decode cX9_joint 41 = .ok (.invokevirtual 78, 3) := by decide +kernel
theorem dX9_joint_44 : decode cX9_joint 44 = .ok (.aload_n 0, 1) := by decide +kernel
theorem dX9_joint_45 : decode cX9_joint 45 = .ok (.iload_n 2, 1) := by decide +kernel
theorem dX9_joint_46 : decode cX9_joint 46 = .ok (.invokevirtual 78, 3) := by decide +kernel
theorem dX9_joint_49 : decode cX9_joint 49 = .ok (.if_icmp .eq 6, 3) := by decide +kernel
theorem dX9_joint_52 : decode cX9_joint 52 = .ok (.bipush (-6), 2) := by decide +kernel
theorem dX9_joint_54 : decode cX9_joint 54 = .ok (.ireturn, 1) := by decide +kernel
theorem dX9_joint_55 : decode cX9_joint 55 = .ok (.aload_n 0, 1) := by decide +kernel
theorem dX9_joint_56 : decode cX9_joint 56 = .ok (.aload_n 0, 1) := by decide +kernel
theorem dX9_joint_57 : decode cX9_joint 57 = .ok (.iload_n 1, 1) := by decide +kernel
theorem dX9_joint_58 : decode cX9_joint 58 = .ok (.invokevirtual 78, 3) := by decide +kernel
theorem dX9_joint_61 : decode cX9_joint 61 = .ok (.invokevirtual 176, 3) := by decide +kernel
theorem dX9_joint_64 : decode cX9_joint 64 = .ok (.iconst 0, 1) := by decide +kernel
theorem dX9_joint_65 : decode cX9_joint 65 = .ok (.istore 5, 2) := by decide +kernel
theorem dX9_joint_67 : decode cX9_joint 67 = .ok (.iload 5, 2) := by decide +kernel
theorem dX9_joint_69 : decode cX9_joint 69 = .ok (.sipush 128, 3) := by decide +kernel
theorem dX9_joint_72 : decode cX9_joint 72 = .ok (.if_icmp .ge 99, 3) := by decide +kernel
theorem dX9_joint_75 : decode cX9_joint 75 = .ok (.aload_n 0, 1) := by decide +kernel
theorem dX9_joint_76 : decode cX9_joint 76 = .ok (.iload_n 1, 1) := by decide +kernel
theorem dX9_joint_77 : decode cX9_joint 77 = .ok (.iload 5, 2) := by decide +kernel
theorem dX9_joint_79 : decode cX9_joint 79 = .ok (.invokevirtual 81, 3) := by decide +kernel
theorem dX9_joint_82 : decode cX9_joint 82 = .ok (.istore 6, 2) := by decide +kernel
theorem dX9_joint_84 : decode cX9_joint 84 = .ok (.aload_n 0, 1) := by decide +kernel
theorem dX9_joint_85 : decode cX9_joint 85 = .ok (.iload_n 2, 1) := by decide +kernel
theorem dX9_joint_86 : decode cX9_joint 86 = .ok (.iload 5, 2) := by decide +kernel
theorem dX9_joint_88 : decode cX9_joint 88 = .ok (.invokevirtual 81, 3) := by decide +kernel
theorem dX9_joint_91 : decode cX9_joint 91 = .ok (.istore 7, 2) := by decide +kernel
theorem dX9_joint_93 : decode cX9_joint 93 = .ok (.iload_n 3, 1) := by decide +kernel
theorem dX9_joint_94 : decode cX9_joint 94 = .ok (.iconst 3, 1) := by decide +kernel
theorem dX9_joint_95 : decode cX9_joint 95 = .ok (.if_icmp .ge 70, 3) := by decide +kernel
theorem dX9_joint_98 : decode cX9_joint 98 = .ok (.aload_n 0, 1) := by decide +kernel
theorem dX9_joint_99 : decode cX9_joint 99 = .ok (.getfield 13, 3) := by decide +kernel
theorem dX9_joint_102 : decode cX9_joint 102 = .ok (.iload 5, 2) := by decide +kernel
theorem dX9_joint_104 : decode cX9_joint 104 = .ok (.iload_n 3, 1) := by decide +kernel
theorem dX9_joint_105 : decode cX9_joint 105 = .ok (.ifCond .ne 21, 3) := by decide +kernel
theorem dX9_joint_108 : decode cX9_joint 108 = .ok (.iload 6, 2) := by decide +kernel
theorem dX9_joint_110 : decode cX9_joint 110 = .ok (.ifCond .ne 8, 3) := by decide +kernel
theorem dX9_joint_113 : decode cX9_joint 113 = .ok (.iload 7, 2) := by decide +kernel
theorem dX9_joint_115 : decode cX9_joint 115 = .ok (.ifCond .eq 7, 3) := by decide +kernel
theorem dX9_joint_118 : decode cX9_joint 118 = .ok (.iconst 1, 1) := by decide +kernel
theorem dX9_joint_119 : decode cX9_joint 119 = .ok (.goto 45, 3) := by decide +kernel
theorem dX9_joint_122 : decode cX9_joint 122 = .ok (.iconst 0, 1) := by decide +kernel
theorem dX9_joint_123 : decode cX9_joint 123 = .ok (.goto 41, 3) := by decide +kernel
theorem dX9_joint_126 : decode cX9_joint 126 = .ok (.iload_n 3, 1) := by decide +kernel
theorem dX9_joint_127 : decode cX9_joint 127 = .ok (.iconst 1, 1) := by decide +kernel
theorem dX9_joint_128 : decode cX9_joint 128 = .ok (.if_icmp .ne 21, 3) := by decide +kernel
theorem dX9_joint_131 : decode cX9_joint 131 = .ok (.iload 6, 2) := by decide +kernel
theorem dX9_joint_133 : decode cX9_joint 133 = .ok (.ifCond .eq 12, 3) := by decide +kernel
theorem dX9_joint_136 : decode cX9_joint 136 = .ok (.iload 7, 2) := by decide +kernel
theorem dX9_joint_138 : decode cX9_joint 138 = .ok (.ifCond .eq 7, 3) := by decide +kernel
theorem dX9_joint_141 : decode cX9_joint 141 = .ok (.iconst 1, 1) := by decide +kernel
theorem dX9_joint_142 : decode cX9_joint 142 = .ok (.goto 22, 3) := by decide +kernel
theorem dX9_joint_145 : decode cX9_joint 145 = .ok (.iconst 0, 1) := by decide +kernel
theorem dX9_joint_146 : decode cX9_joint 146 = .ok (.goto 18, 3) := by decide +kernel
theorem dX9_joint_149 : decode cX9_joint 149 = .ok (.iload 6, 2) := by decide +kernel
theorem dX9_joint_151 : decode cX9_joint 151 = .ok (.ifCond .eq 12, 3) := by decide +kernel
theorem dX9_joint_154 : decode cX9_joint 154 = .ok (.iload 7, 2) := by decide +kernel
theorem dX9_joint_156 : decode cX9_joint 156 = .ok (.ifCond .ne 7, 3) := by decide +kernel
theorem dX9_joint_159 : decode cX9_joint 159 = .ok (.iconst 1, 1) := by decide +kernel
theorem dX9_joint_160 : decode cX9_joint 160 = .ok (.goto 4, 3) := by decide +kernel
theorem dX9_joint_163 : decode cX9_joint 163 = .ok (.iconst 0, 1) := by decide +kernel
theorem dX9_joint_164 : decode cX9_joint 164 = .ok (.bastore, 1) := by decide +kernel
theorem dX9_joint_165 : decode cX9_joint 165 = .ok (.iinc 5 1, 3) := by decide +kernel
theorem dX9_joint_168 : decode cX9_joint 168 = .ok (.goto (-101), 3) := by decide +kernel
theorem dX9_joint_171 : decode cX9_joint 171 = .ok (.iconst 0, 1) := by decide +kernel
theorem dX9_joint_172 : decode cX9_joint 172 = .ok (.istore 5, 2) := by decide +kernel
theorem dX9_joint_174 : decode cX9_joint 174 = .ok (.iload 5, 2) := by decide +kernel
theorem dX9_joint_176 : decode cX9_joint 176 = .ok (.sipush 128, 3) := by decide +kernel
theorem dX9_joint_179 : decode cX9_joint 179 = .ok (.if_icmp .ge 62, 3) := by decide +kernel
theorem dX9_joint_182 : decode cX9_joint 182 = .ok (.iload_n 3, 1) := by decide +kernel
theorem dX9_joint_183 : decode cX9_joint 183 = .ok (.iconst 3, 1) := by decide +kernel
theorem dX9_joint_184 : decode cX9_joint 184 = .ok (.if_icmp .ne 57, 3) := by decide +kernel
theorem dX9_joint_187 : decode cX9_joint 187 = .ok (.iconst 0, 1) := by decide +kernel
theorem dX9_joint_188 : decode cX9_joint 188 = .ok (.istore 6, 2) := by decide +kernel
theorem dX9_joint_190 : decode cX9_joint 190 = .ok (.iload 6, 2) := by decide +kernel
theorem dX9_joint_192 : decode cX9_joint 192 = .ok (.sipush 128, 3) := by decide +kernel
theorem dX9_joint_195 : decode cX9_joint 195 = .ok (.if_icmp .ge 40, 3) := by decide +kernel
theorem dX9_joint_198 : decode cX9_joint 198 = .ok (.aload_n 0, 1) := by decide +kernel
theorem dX9_joint_199 : decode cX9_joint 199 = .ok (.iload_n 1, 1) := by decide +kernel
theorem dX9_joint_200 : decode cX9_joint 200 = .ok (.iload 5, 2) := by decide +kernel
theorem dX9_joint_202 : decode cX9_joint 202 = .ok (.invokevirtual 81, 3) := by decide +kernel
theorem dX9_joint_205 : decode cX9_joint 205 = .ok (.ifCond .eq 24, 3) := by decide +kernel
theorem dX9_joint_208 : decode cX9_joint 208 = .ok (.aload_n 0, 1) := by decide +kernel
theorem dX9_joint_209 : decode cX9_joint 209 = .ok (.iload_n 2, 1) := by decide +kernel
theorem dX9_joint_210 : decode cX9_joint 210 = .ok (.iload 6, 2) := by decide +kernel
theorem dX9_joint_212 : decode cX9_joint 212 = .ok (.invokevirtual 81, 3) := by decide +kernel
theorem dX9_joint_215 : decode cX9_joint 215 = .ok (.ifCond .eq 14, 3) := by decide +kernel
theorem dX9_joint_218 : decode cX9_joint 218 = .ok (.aload_n 0, 1) := by decide +kernel
theorem dX9_joint_219 : decode cX9_joint 219 = .ok (.getfield 13, 3) := by decide +kernel
theorem dX9_joint_222 : decode cX9_joint 222 = .ok (.iload 5, 2) := by decide +kernel
theorem dX9_joint_224 : decode cX9_joint 224 = .ok (.iload 6, 2) := by decide +kernel
theorem dX9_joint_226 : decode cX9_joint 226 = .ok (.ior, 1) := by decide +kernel
theorem dX9_joint_227 : decode cX9_joint 227 = .ok (.iconst 1, 1) := by decide +kernel
theorem dX9_joint_228 : decode cX9_joint 228 = .ok (.bastore, 1) := by decide +kernel
theorem dX9_joint_229 : decode cX9_joint 229 = .ok (.iinc 6 1, 3) := by decide +kernel
theorem dX9_joint_232 : decode cX9_joint 232 = .ok (.goto (-42), 3) := by decide +kernel
theorem dX9_joint_235 : decode cX9_joint 235 = .ok (.iinc 5 1, 3) := by decide +kernel
theorem dX9_joint_238 : decode cX9_joint 238 = .ok (.goto (-64), 3) := by decide +kernel
theorem dX9_joint_241 : decode cX9_joint 241 = .ok (.aload_n 0, 1) := by decide +kernel
theorem dX9_joint_242 : decode cX9_joint 242 = .ok (.iload 4, 2) := by decide +kernel
theorem dX9_joint_244 : decode cX9_joint 244 = .ok (.invokevirtual 188, 3) := by decide +kernel
theorem dX9_joint_247 : decode cX9_joint 247 = .ok (.ireturn, 1) := by decide +kernel
theorem dX9_rank_0 : decode cX9_rank 0 = .ok (.iload_n 1, 1) := by decide +kernel
theorem dX9_rank_1 : decode cX9_rank 1 = .ok (.i2l, 1) := by decide +kernel
theorem dX9_rank_2 : decode cX9_rank 2 = .ok (.lconst 0, 1) := by decide +kernel
theorem dX9_rank_3 : decode cX9_rank 3 = .ok (.ldc2_w 343, 3) := by decide +kernel
theorem dX9_rank_6 : decode cX9_rank 6 = .ok (.invokestatic 63, 3) := by decide +kernel
theorem dX9_rank_9 : decode cX9_rank 9 = .ok (.ifCond .ne 6, 3) := by decide +kernel
theorem dX9_rank_12 : decode cX9_rank 12 = .ok (.bipush (-2), 2) := by decide +kernel
theorem dX9_rank_14 : decode cX9_rank 14 = .ok (.ireturn, 1) := by decide +kernel
theorem dX9_rank_15 : decode cX9_rank 15 = .ok (.iconst 0, 1) := by decide +kernel
theorem dX9_rank_16 : decode cX9_rank 16 = .ok (.istore_n 2, 1) := by decide +kernel
theorem dX9_rank_17 : decode cX9_rank 17 = .ok (.iconst 0, 1) := by decide +kernel
theorem dX9_rank_18 : decode cX9_rank 18 = .ok (.istore_n 3, 1) := by decide +kernel
theorem dX9_rank_19 : decode cX9_rank 19 = .ok (.iload_n 3, 1) := by decide +kernel
theorem dX9_rank_20 : decode cX9_rank 20 = .ok (.iload_n 1, 1) := by decide +kernel
theorem dX9_rank_21 : decode cX9_rank 21 = .ok (.if_icmp .ge 28, 3) := by decide +kernel
theorem dX9_rank_24 : decode cX9_rank 24 = .ok (.iload_n 2, 1) := by decide +kernel
theorem dX9_rank_25 : decode cX9_rank 25 = .ok (.iload_n 3, 1) := by decide +kernel
theorem dX9_rank_26 : decode cX9_rank 26 = .ok (.invokestatic 198, 3) := by decide +kernel
theorem dX9_rank_29 : decode cX9_rank 29 = .ok (.iload_n 1, 1) := by decide +kernel
theorem dX9_rank_30 : decode cX9_rank 30 = .ok (.invokestatic 198, 3) := by decide +kernel
theorem dX9_rank_33 : decode cX9_rank 33 = .ok (.if_icmp .ne 7, 3) := by decide +kernel
theorem dX9_rank_36 : decode cX9_rank 36 = .ok (.iconst 1, 1) := by decide +kernel
theorem dX9_rank_37 : decode cX9_rank 37 = .ok (.goto 4, 3) := by decide +kernel
theorem dX9_rank_40 : decode cX9_rank 40 = .ok (.iconst 0, 1) := by decide +kernel
theorem dX9_rank_41 : decode cX9_rank 41 = .ok (.iadd, 1) := by decide +kernel
theorem dX9_rank_42 : decode cX9_rank 42 = .ok (.istore_n 2, 1) := by decide +kernel
theorem dX9_rank_43 : decode cX9_rank 43 = .ok (.iinc 3 1, 3) := by decide +kernel
theorem dX9_rank_46 : decode cX9_rank 46 = .ok (.goto (-27), 3) := by decide +kernel
theorem dX9_rank_49 : decode cX9_rank 49 = .ok (.iload_n 2, 1) := by decide +kernel
theorem dX9_rank_50 : decode cX9_rank 50 = .ok (.ireturn, 1) := by decide +kernel
theorem dX9_ranked_0 : decode cX9_ranked 0 = .ok (.iload_n 1, 1) := by decide +kernel
theorem dX9_ranked_1 : decode cX9_ranked 1 = .ok (.i2l, 1) := by decide +kernel
theorem dX9_ranked_2 : decode cX9_ranked 2 = .ok (.lconst 0, 1) := by decide +kernel
theorem dX9_ranked_3 : decode cX9_ranked 3 = .ok (.ldc2_w 174, 3) := by decide +kernel
theorem dX9_ranked_6 : decode cX9_ranked 6 = .ok (.invokestatic 63, 3) := by decide +kernel
theorem dX9_ranked_9 : decode cX9_ranked 9 = .ok (.ifCond .eq 7, 3) := by decide +kernel
theorem dX9_ranked_12 : decode cX9_ranked 12 = .ok (.iload_n 2, 1) := by decide +kernel
theorem dX9_ranked_13 : decode cX9_ranked 13 = .ok (.ifCond .ge 6, 3) := by decide +kernel
theorem dX9_ranked_16 : decode cX9_ranked 16 = .ok (.bipush (-2), 2) := by decide +kernel
theorem dX9_ranked_18 : decode cX9_ranked 18 = .ok (.ireturn, 1) := by decide +kernel
theorem dX9_ranked_19 : decode cX9_ranked 19 = .ok (.iconst 0, 1) := by decide +kernel
theorem dX9_ranked_20 : decode cX9_ranked 20 = .ok (.istore_n 3, 1) := by decide +kernel
theorem dX9_ranked_21 : decode cX9_ranked 21 = .ok (.iconst 0, 1) := by decide +kernel
theorem dX9_ranked_22 : decode cX9_ranked 22 = .ok (.istore 4, 2) := by decide +kernel
theorem dX9_ranked_24 : decode cX9_ranked 24 = .ok (.iload 4, 2) := by decide +kernel
theorem dX9_ranked_26 : decode cX9_ranked 26 = .ok (.sipush 128, 3) := by decide +kernel
theorem dX9_ranked_29 : decode cX9_ranked 29 = .ok (.if_icmp .ge 32, 3) := by decide +kernel
theorem dX9_ranked_32 : decode cX9_ranked 32 = .ok (.iload 4, 2) := by decide +kernel
theorem dX9_ranked_34 : decode cX9_ranked 34 = .ok (.invokestatic 198, 3) := by decide +kernel
theorem dX9_ranked_37 : decode cX9_ranked 37 = .ok (.iload_n 1, 1) := by decide +kernel
theorem dX9_ranked_38 : decode cX9_ranked 38 = .ok (.if_icmp .eq 6, 3) := by decide +kernel
theorem dX9_ranked_41 : decode cX9_ranked 41 = .ok (.goto 14, 3) := by decide +kernel
theorem dX9_ranked_44 : decode cX9_ranked 44 = .ok (.iload_n 3, 1) := by decide +kernel
theorem dX9_ranked_45 : decode cX9_ranked 45 = .ok (.iload_n 2, 1) := by decide +kernel
theorem dX9_ranked_46 : decode cX9_ranked 46 = .ok (.if_icmp .ne 6, 3) := by decide +kernel
theorem dX9_ranked_49 : decode cX9_ranked 49 = .ok (.iload 4, 2) := by decide +kernel
theorem dX9_ranked_51 : decode cX9_ranked 51 = .ok (.ireturn, 1) := by decide +kernel
theorem dX9_ranked_52 : decode cX9_ranked 52 = .ok (.iinc 3 1, 3) := by decide +kernel
theorem dX9_ranked_55 : decode cX9_ranked 55 = .ok (.iinc 4 1, 3) := by decide +kernel
theorem dX9_ranked_58 : decode cX9_ranked 58 = .ok (.goto (-34), 3) := by decide +kernel
theorem dX9_ranked_61 : decode cX9_ranked 61 = .ok (.iconst (-1), 1) := by decide +kernel
theorem dX9_ranked_62 : decode cX9_ranked 62 = .ok (.ireturn, 1) := by decide +kernel
theorem dX9_named_0 : decode cX9_named 0 = .ok (.iconst 0, 1) := by decide +kernel
theorem dX9_named_1 : decode cX9_named 1 = .ok (.istore_n 3, 1) := by decide +kernel
theorem dX9_named_2 : decode cX9_named 2 = .ok (.iconst 0, 1) := by decide +kernel
theorem dX9_named_3 : decode cX9_named 3 = .ok (.istore 4, 2) := by decide +kernel
theorem dX9_named_5 : decode cX9_named 5 = .ok (.iload 4, 2) := by decide +kernel
theorem dX9_named_7 : decode cX9_named 7 = .ok (.iload_n 2, 1) := by decide +kernel
theorem dX9_named_8 : decode cX9_named 8 = .ok (.if_icmp .ge 34, 3) := by decide +kernel
theorem dX9_named_11 : decode cX9_named 11 = .ok (.iload_n 3, 1) := by decide +kernel
theorem dX9_named_12 : decode cX9_named 12 = .ok (.iload_n 1, 1) := by decide +kernel
theorem dX9_named_13 : decode cX9_named 13 = .ok (.iload 4, 2) := by decide +kernel
theorem dX9_named_15 : decode cX9_named 15 = .ok (.invokestatic 169, 3) := by decide +kernel
theorem dX9_named_18 : decode cX9_named 18 = .ok (.ifCond .eq 15, 3) := by decide +kernel
theorem dX9_named_21 : decode cX9_named 21 = .ok (.iconst 1, 1) := by decide +kernel
theorem dX9_named_22 : decode cX9_named 22 = .ok (.aload_n 0, 1) := by decide +kernel
theorem dX9_named_23 : decode cX9_named 23 = .ok (.getfield 52, 3) := by decide +kernel
theorem dX9_named_26 : decode cX9_named 26 = .ok (.iload 4, 2) := by decide +kernel
theorem dX9_named_28 : decode cX9_named 28 = .ok (.iaload, 1) := by decide +kernel
theorem dX9_named_29 : decode cX9_named 29 = .ok (.ishl, 1) := by decide +kernel
theorem dX9_named_30 : decode cX9_named 30 = .ok (.goto 4, 3) := by decide +kernel
theorem dX9_named_33 : decode cX9_named 33 = .ok (.iconst 0, 1) := by decide +kernel
theorem dX9_named_34 : decode cX9_named 34 = .ok (.ior, 1) := by decide +kernel
theorem dX9_named_35 : decode cX9_named 35 = .ok (.istore_n 3, 1) := by decide +kernel
theorem dX9_named_36 : decode cX9_named 36 = .ok (.iinc 4 1, 3) := by decide +kernel
theorem dX9_named_39 : decode cX9_named 39 = .ok (.goto (-34), 3) := by decide +kernel
theorem dX9_named_42 : decode cX9_named 42 = .ok (.iload_n 3, 1) := by decide +kernel
theorem dX9_named_43 : decode cX9_named 43 = .ok (.ireturn, 1) := by decide +kernel
theorem dX9_names_0 : decode cX9_names 0 = .ok (.aload_n 0, 1) := by decide +kernel
theorem dX9_names_1 : decode cX9_names 1 = .ok (.iload_n 1, 1) := by decide +kernel
theorem dX9_names_2 : decode cX9_names 2 = .ok (.invokevirtual 78, 3) := by decide +kernel
theorem dX9_names_5 : decode cX9_names 5 = .ok (.istore_n 3, 1) := by decide +kernel
theorem dX9_names_6 : decode cX9_names 6 = .ok (.iload_n 3, 1) := by decide +kernel
theorem dX9_names_7 : decode cX9_names 7 = .ok (.aload_n 0, 1) := by decide +kernel
theorem dX9_names_8 : decode cX9_names 8 = .ok (.iload_n 2, 1) := by decide +kernel
theorem dX9_names_9 : decode cX9_names 9 = .ok (.invokevirtual 78, 3) := by decide +kernel
theorem dX9_names_12 : decode cX9_names 12 = .ok (.if_icmp .ne 16, 3) := by decide +kernel
theorem dX9_names_15 : decode cX9_names 15 = .ok (.aload_n 0, 1) := by decide +kernel
theorem dX9_names_16 : decode cX9_names 16 = .ok (.iload_n 1, 1) := by decide +kernel
theorem dX9_names_17 : decode cX9_names 17 = .ok (.invokevirtual 97, 3) := by decide +kernel
theorem dX9_names_20 : decode cX9_names 20 = .ok (.aload_n 0, 1) := by decide +kernel
theorem dX9_names_21 : decode cX9_names 21 = .ok (.iload_n 2, 1) := by decide +kernel
theorem dX9_names_22 : decode cX9_names 22 = .ok (.invokevirtual 97, 3) := by decide +kernel
theorem dX9_names_25 : decode cX9_names 25 = .ok (.if_icmp .eq 5, 3) := by decide +kernel
theorem dX9_names_28 : decode cX9_names 28 = .ok (.iconst 0, 1) := by decide +kernel
theorem dX9_names_29 : decode cX9_names 29 = .ok (.ireturn, 1) := by decide +kernel
theorem dX9_names_30 : decode cX9_names 30 = .ok (.iconst 0, 1) := by decide +kernel
theorem dX9_names_31 : decode cX9_names 31 = .ok (.istore 4, 2) := by decide +kernel
theorem dX9_names_33 : decode cX9_names 33 = .ok (.iload_n 3, 1) := by decide +kernel
theorem dX9_names_34 : decode cX9_names 34 = .ok (.iconst 1, 1) := by decide +kernel
theorem dX9_names_35 : decode cX9_names 35 = .ok (.iadd, 1) := by decide +kernel
theorem dX9_names_36 : decode cX9_names 36 = .ok (.invokestatic 324, 3) := by decide +kernel
theorem dX9_names_39 : decode cX9_names 39 = .ok (.istore 5, 2) := by decide +kernel
theorem dX9_names_41 : decode cX9_names 41 = .ok (.iconst 0, 1) := by decide +kernel
theorem dX9_names_42 : decode cX9_names 42 = .ok (.istore 6, 2) := by decide +kernel
theorem dX9_names_44 : decode cX9_names 44 = .ok (.iload 6, 2) := by decide +kernel
theorem dX9_names_46 : decode cX9_names 46 = .ok (.iload 5, 2) := by decide +kernel
theorem dX9_names_48 : decode cX9_names 48 = .ok (.if_icmp .ge 192, 3) := by decide +kernel
theorem dX9_names_51 : decode cX9_names 51 = .ok (.iconst 0, 1) := by decide +kernel
theorem dX9_names_52 : decode cX9_names 52 = .ok (.istore 7, 2) := by decide +kernel
theorem dX9_names_54 : decode cX9_names 54 = .ok (.iload 6, 2) := by decide +kernel
theorem dX9_names_56 : decode cX9_names 56 = .ok (.istore 8, 2) := by decide +kernel
theorem dX9_names_58 : decode cX9_names 58 = .ok (.iload 5, 2) := by decide +kernel
theorem dX9_names_60 : decode cX9_names 60 = .ok (.istore 9, 2) := by decide +kernel
theorem dX9_names_62 : decode cX9_names 62 = .ok (.iconst 0, 1) := by decide +kernel
theorem dX9_names_63 : decode cX9_names 63 = .ok (.istore 10, 2) := by decide +kernel
theorem dX9_names_65 : decode cX9_names 65 = .ok (.iload 10, 2) := by decide +kernel
theorem dX9_names_67 : decode cX9_names 67 = .ok (.iload_n 3, 1) := by decide +kernel
theorem dX9_names_68 : decode cX9_names 68 = .ok (.if_icmp .ge 94, 3) := by decide +kernel
theorem dX9_names_71 : decode cX9_names 71 = .ok (.iload 9, 2) := by decide +kernel
theorem dX9_names_73 : decode cX9_names 73 = .ok (.iload_n 3, 1) := by decide +kernel
theorem dX9_names_74 : decode cX9_names 74 = .ok (.iload 10, 2) := by decide +kernel
theorem dX9_names_76 : decode cX9_names 76 = .ok (.isub, 1) := by decide +kernel
theorem dX9_names_77 : decode cX9_names 77 = .ok (.idiv, 1) := by decide +kernel
theorem dX9_names_78 : decode cX9_names 78 = .ok (.istore 9, 2) := by decide +kernel
theorem dX9_names_80 : decode cX9_names 80 = .ok (.iload 8, 2) := by decide +kernel
theorem dX9_names_82 : decode cX9_names 82 = .ok (.iload 9, 2) := by decide +kernel
theorem dX9_names_84 : decode cX9_names 84 = .ok (.idiv, 1) := by decide +kernel
theorem dX9_names_85 : decode cX9_names 85 = .ok (.istore 11, 2) := by decide +kernel
theorem dX9_names_87 : decode cX9_names 87 = .ok (.iload 8, 2) := by decide +kernel
theorem dX9_names_89 : decode cX9_names 89 = .ok (.iload 9, 2) := by decide +kernel
theorem dX9_names_91 : decode cX9_names 91 = .ok (.irem, 1) := by decide +kernel
theorem dX9_names_92 : decode cX9_names 92 = .ok (.istore 8, 2) := by decide +kernel
theorem dX9_names_94 : decode cX9_names 94 = .ok (.iconst 0, 1) := by decide +kernel
theorem dX9_names_95 : decode cX9_names 95 = .ok (.istore 12, 2) := by decide +kernel
theorem dX9_names_97 : decode cX9_names 97 = .ok (.iload 7, 2) := by decide +kernel
theorem dX9_names_99 : decode cX9_names 99 = .ok (.iload 12, 2) := by decide +kernel
theorem dX9_names_101 : decode cX9_names 101 = .ok (.invokestatic 169, 3) := by decide +kernel
theorem dX9_names_104 : decode cX9_names 104 = .ok (.ifCond .ne 8, 3) := by decide +kernel
theorem dX9_names_107 : decode cX9_names 107 = .ok (.iload 11, 2) := by decide +kernel
theorem dX9_names_109 : decode cX9_names 109 = .ok (.ifCond .le 29, 3) := by decide +kernel
theorem dX9_names_112 : decode cX9_names 112 = .ok (.iload 11, 2) := by decide +kernel
theorem dX9_names_114 : decode cX9_names 114 = .ok (.iload 7, 2) := by decide +kernel
theorem dX9_names_116 : decode cX9_names 116 = .ok (.iload 12, 2) := by decide +kernel
theorem dX9_names_118 : decode cX9_names 118 = .ok (.invokestatic 169, 3) := by decide +kernel
theorem dX9_names_121 : decode cX9_names 121 = .ok (.ifCond .eq 7, 3) := by decide +kernel
theorem dX9_names_124 : decode cX9_names 124 = .ok (.iconst 0, 1) := by decide +kernel
theorem dX9_names_125 : decode cX9_names 125 = .ok (.goto 4, 3) := by decide +kernel
theorem dX9_names_128 : decode cX9_names 128 = .ok (.iconst 1, 1) := by decide +kernel
theorem dX9_names_129 : decode cX9_names 129 = .ok (.isub, 1) := by decide +kernel
theorem dX9_names_130 : decode cX9_names 130 = .ok (.istore 11, 2) := by decide +kernel
theorem dX9_names_132 : decode cX9_names 132 = .ok (.iinc 12 1, 3) := by decide +kernel
theorem dX9_names_135 : decode cX9_names 135 = .ok (.goto (-38), 3) := by decide +kernel
theorem dX9_names_138 : decode cX9_names 138 = .ok (.aload_n 0, 1) := by decide +kernel
theorem dX9_names_139 : decode cX9_names 139 = .ok (.getfield 52, 3) := by decide +kernel
theorem dX9_names_142 : decode cX9_names 142 = .ok (.iload 10, 2) := by decide +kernel
theorem dX9_names_144 : decode cX9_names 144 = .ok (.iload 12, 2) := by decide +kernel
theorem dX9_names_146 : decode cX9_names 146 = .ok (.iastore, 1) := by decide +kernel
theorem dX9_names_147 : decode cX9_names 147 = .ok (.iload 7, 2) := by decide +kernel
theorem dX9_names_149 : decode cX9_names 149 = .ok (.iconst 1, 1) := by decide +kernel
theorem dX9_names_150 : decode cX9_names 150 = .ok (.iload 12, 2) := by decide +kernel
theorem dX9_names_152 : decode cX9_names 152 = .ok (.ishl, 1) := by decide +kernel
theorem dX9_names_153 : decode cX9_names 153 = .ok (.ior, 1) := by decide +kernel
theorem dX9_names_154 : decode cX9_names 154 = .ok (.istore 7, 2) := by decide +kernel
theorem dX9_names_156 : decode cX9_names 156 = .ok (.iinc 10 1, 3) := by decide +kernel
theorem dX9_names_159 : decode cX9_names 159 = .ok (.goto (-94), 3) := by decide +kernel
theorem dX9_names_162 : decode cX9_names 162 = .ok (.iconst 1, 1) := by decide +kernel
theorem dX9_names_163 : decode cX9_names 163 = .ok (.istore 10, 2) := by decide +kernel
theorem dX9_names_165 : decode cX9_names 165 = .ok (.iconst 0, 1) := by decide +kernel
theorem dX9_names_166 : decode cX9_names 166 = .ok (.istore 11, 2) := by decide +kernel
theorem dX9_names_168 : decode cX9_names 168 = .ok (.iload 11, 2) := by decide +kernel
theorem dX9_names_170 : decode cX9_names 170 = .ok (.iconst 1, 1) := by decide +kernel
theorem dX9_names_171 : decode cX9_names 171 = .ok (.iload_n 3, 1) := by decide +kernel
theorem dX9_names_172 : decode cX9_names 172 = .ok (.ishl, 1) := by decide +kernel
theorem dX9_names_173 : decode cX9_names 173 = .ok (.if_icmp .ge 46, 3) := by decide +kernel
theorem dX9_names_176 : decode cX9_names 176 = .ok (.iload 10, 2) := by decide +kernel
theorem dX9_names_178 : decode cX9_names 178 = .ok (.ifCond .eq 41, 3) := by decide +kernel
theorem dX9_names_181 : decode cX9_names 181 = .ok (.aload_n 0, 1) := by decide +kernel
theorem dX9_names_182 : decode cX9_names 182 = .ok (.iload_n 1, 1) := by decide +kernel
theorem dX9_names_183 : decode cX9_names 183 = .ok (.iload 11, 2) := by decide +kernel
theorem dX9_names_185 : decode cX9_names 185 = .ok (.invokevirtual 81, 3) := by decide +kernel
theorem dX9_names_188 : decode cX9_names 188 = .ok (.ifCond .eq 18, 3) := by decide +kernel
theorem dX9_names_191 : decode cX9_names 191 = .ok (.aload_n 0, 1) := by decide +kernel
theorem dX9_names_192 : decode cX9_names 192 = .ok (.iload_n 2, 1) := by decide +kernel
theorem dX9_names_193 : decode cX9_names 193 = .ok (.aload_n 0, 1) := by decide +kernel
theorem dX9_names_194 : decode cX9_names 194 = .ok (.iload 11, 2) := by decide +kernel
theorem dX9_names_196 : decode cX9_names 196 = .ok (.iload_n 3, 1) := by decide +kernel
theorem dX9_names_197 : decode cX9_names 197 = .ok (.invokevirtual 345, 3) := by decide +kernel
theorem dX9_names_200 : decode cX9_names 200 = .ok (.invokevirtual 81, 3) := by decide +kernel
theorem dX9_names_203 : decode cX9_names 203 = .ok (.ifCond .eq 7, 3) := by decide +kernel
theorem dX9_names_206 : decode cX9_names 206 = .ok (.iconst 1, 1) := by decide +kernel
theorem dX9_names_207 : decode cX9_names 207 = .ok (.goto 4, 3) := by decide +kernel
theorem dX9_names_210 : decode cX9_names 210 = .ok (.iconst 0, 1) := by decide +kernel
theorem dX9_names_211 : decode cX9_names 211 = .ok (.istore 10, 2) := by decide +kernel
theorem dX9_names_213 : decode cX9_names 213 = .ok (.iinc 11 1, 3) := by decide +kernel
theorem dX9_names_216 : decode cX9_names 216 = .ok (.goto (-48), 3) := by decide +kernel
theorem dX9_names_219 : decode cX9_names 219 = .ok (.iload 4, 2) := by decide +kernel
theorem dX9_names_221 : decode cX9_names 221 = .ok (.iload 10, 2) := by decide +kernel
theorem dX9_names_223 : decode cX9_names 223 = .ok (.ifCond .eq 7, 3) := by decide +kernel
theorem dX9_names_226 : decode cX9_names 226 = .ok (.iconst 1, 1) := by decide +kernel
theorem dX9_names_227 : decode cX9_names 227 = .ok (.goto 4, 3) := by decide +kernel
theorem dX9_names_230 : decode cX9_names 230 = .ok (.iconst 0, 1) := by decide +kernel
theorem dX9_names_231 : decode cX9_names 231 = .ok (.iadd, 1) := by decide +kernel
theorem dX9_names_232 : decode cX9_names 232 = .ok (.istore 4, 2) := by decide +kernel
theorem dX9_names_234 : decode cX9_names 234 = .ok (.iinc 6 1, 3) := by decide +kernel
theorem dX9_names_237 : decode cX9_names 237 = .ok (.goto (-193), 3) := by decide +kernel
theorem dX9_names_240 : decode cX9_names 240 = .ok (.iload 4, 2) := by decide +kernel
theorem dX9_names_242 : decode cX9_names 242 = .ok (.ireturn, 1) := by decide +kernel
theorem dX9_alike_0 : decode cX9_alike 0 = .ok (.aload_n 0, 1) := by decide +kernel
theorem dX9_alike_1 : decode cX9_alike 1 = .ok (.iload_n 1, 1) := by decide +kernel
theorem dX9_alike_2 : decode cX9_alike 2 = .ok (.invokevirtual 75, 3) := by decide +kernel
theorem dX9_alike_5 : decode cX9_alike 5 = .ok (.ifCond .eq 11, 3) := by decide +kernel
theorem dX9_alike_8 : decode cX9_alike 8 = .ok (.aload_n 0, 1) := by decide +kernel
theorem dX9_alike_9 : decode cX9_alike 9 = .ok (.iload_n 2, 1) := by decide +kernel
theorem dX9_alike_10 : decode cX9_alike 10 = .ok (.invokevirtual 75, 3) := by decide +kernel
theorem dX9_alike_13 : decode cX9_alike 13 = .ok (.ifCond .ne 6, 3) := by decide +kernel
theorem dX9_alike_16 : decode cX9_alike 16 = .ok (.bipush (-2), 2) := by decide +kernel
theorem dX9_alike_18 : decode cX9_alike 18 = .ok (.ireturn, 1) := by decide +kernel
theorem dX9_alike_19 : decode cX9_alike 19 = .ok (.aload_n 0, 1) := by decide +kernel
theorem dX9_alike_20 : decode cX9_alike 20 = .ok (.iload_n 1, 1) := by decide +kernel
theorem dX9_alike_21 : decode cX9_alike 21 = .ok (.iload_n 2, 1) := by decide +kernel
theorem dX9_alike_22 : decode cX9_alike 22 = .ok (.invokevirtual 348, 3) := by decide +kernel
theorem dX9_alike_25 : decode cX9_alike 25 = .ok (.ifCond .le 7, 3) := by decide +kernel
theorem dX9_alike_28 : decode cX9_alike 28 = .ok (.iconst 1, 1) := by decide +kernel
theorem dX9_alike_29 : decode cX9_alike 29 = .ok (.goto 4, 3) := by decide +kernel
theorem dX9_alike_32 : decode cX9_alike 32 = .ok (.iconst 0, 1) := by decide +kernel
theorem dX9_alike_33 : decode cX9_alike 33 = .ok (.ireturn, 1) := by decide +kernel
theorem dX9_selves_0 : decode cX9_selves 0 = .ok (.aload_n 0, 1) := by decide +kernel
theorem dX9_selves_1 : decode cX9_selves 1 = .ok (.iload_n 1, 1) := by decide +kernel
theorem dX9_selves_2 : decode cX9_selves 2 = .ok (.invokevirtual 75, 3) := by decide +kernel
theorem dX9_selves_5 : decode cX9_selves 5 = .ok (.ifCond .eq 12, 3) := by decide +kernel
theorem dX9_selves_8 : decode cX9_selves 8 = .ok (.aload_n 0, 1) := by decide +kernel
theorem dX9_selves_9 : decode cX9_selves 9 = .ok (.iload_n 1, 1) := by decide +kernel
theorem dX9_selves_10 : decode cX9_selves 10 = .ok (.iload_n 1, 1) := by decide +kernel
theorem dX9_selves_11 : decode cX9_selves 11 = .ok (.invokevirtual 348, 3) := by decide +kernel
theorem dX9_selves_14 : decode cX9_selves 14 = .ok (.goto 5, 3) := by decide +kernel
theorem dX9_selves_17 : decode cX9_selves 17 = .ok (.bipush (-2), 2) := by decide +kernel
theorem dX9_selves_19 : decode cX9_selves 19 = .ok (.ireturn, 1) := by decide +kernel
theorem dX9_adds_0 : decode cX9_adds 0 = .ok (.aload_n 0, 1) := by decide +kernel
theorem dX9_adds_1 : decode cX9_adds 1 = .ok (.iload_n 1, 1) := by decide +kernel
theorem dX9_adds_2 : decode cX9_adds 2 = .ok (.iload_n 2, 1) := by decide +kernel
theorem dX9_adds_3 : decode cX9_adds 3 = .ok (.invokevirtual 210, 3) := by decide +kernel
theorem dX9_adds_6 : decode cX9_adds 6 = .ok (.ifCond .ne 6, 3) := by decide +kernel
theorem dX9_adds_9 : decode cX9_adds 9 = .ok (.bipush (-2), 2) := by decide +kernel
theorem dX9_adds_11 : decode cX9_adds 11 = .ok (.ireturn, 1) := by decide +kernel
theorem dX9_adds_12 : decode cX9_adds 12 = .ok (.aload_n 0, 1) := by decide +kernel
theorem dX9_adds_13 : decode cX9_adds 13 = .ok (.iload_n 1, 1) := by decide +kernel
theorem dX9_adds_14 : decode cX9_adds 14 = .ok (.iload_n 2, 1) := by decide +kernel
theorem dX9_adds_15 : decode cX9_adds 15 = .ok (.invokevirtual 81, 3) := by decide +kernel
theorem dX9_adds_18 : decode cX9_adds 18 = .ok (.ifCond .eq 6, 3) := by decide +kernel
theorem dX9_adds_21 : decode cX9_adds 21 = .ok (.bipush (-5), 2) := by decide +kernel
theorem dX9_adds_23 : decode cX9_adds 23 = .ok (.ireturn, 1) := by decide +kernel
theorem dX9_adds_24 : decode cX9_adds 24 = .ok (.aload_n 0, 1) := by decide +kernel
theorem dX9_adds_25 : decode cX9_adds 25 = .ok (.iload_n 1, 1) := by decide +kernel
theorem dX9_adds_26 : decode cX9_adds 26 = .ok (.invokevirtual 249, 3) := by decide +kernel
theorem dX9_adds_29 : decode cX9_adds 29 = .ok (.aload_n 0, 1) := by decide +kernel
theorem dX9_adds_30 : decode cX9_adds 30 = .ok (.getfield 13, 3) := by decide +kernel
theorem dX9_adds_33 : decode cX9_adds 33 = .ok (.iload_n 2, 1) := by decide +kernel
theorem dX9_adds_34 : decode cX9_adds 34 = .ok (.iconst 1, 1) := by decide +kernel
theorem dX9_adds_35 : decode cX9_adds 35 = .ok (.bastore, 1) := by decide +kernel
theorem dX9_adds_36 : decode cX9_adds 36 = .ok (.aload_n 0, 1) := by decide +kernel
theorem dX9_adds_37 : decode cX9_adds 37 = .ok (.iload_n 1, 1) := by decide +kernel
theorem dX9_adds_38 : decode cX9_adds 38 = .ok (.invokevirtual 188, 3) := by decide +kernel
theorem dX9_adds_41 : decode cX9_adds 41 = .ok (.ireturn, 1) := by decide +kernel
theorem dX9_cuts_0 : decode cX9_cuts 0 = .ok (.aload_n 0, 1) := by decide +kernel
theorem dX9_cuts_1 : decode cX9_cuts 1 = .ok (.iload_n 1, 1) := by decide +kernel
theorem dX9_cuts_2 : decode cX9_cuts 2 = .ok (.iload_n 2, 1) := by decide +kernel
theorem dX9_cuts_3 : decode cX9_cuts 3 = .ok (.invokevirtual 210, 3) := by decide +kernel
theorem dX9_cuts_6 : decode cX9_cuts 6 = .ok (.ifCond .ne 6, 3) := by decide +kernel
theorem dX9_cuts_9 : decode cX9_cuts 9 = .ok (.bipush (-2), 2) := by decide +kernel
theorem dX9_cuts_11 : decode cX9_cuts 11 = .ok (.ireturn, 1) := by decide +kernel
theorem dX9_cuts_12 : decode cX9_cuts 12 = .ok (.aload_n 0, 1) := by decide +kernel
theorem dX9_cuts_13 : decode cX9_cuts 13 = .ok (.iload_n 1, 1) := by decide +kernel
theorem dX9_cuts_14 : decode cX9_cuts 14 = .ok (.iload_n 2, 1) := by decide +kernel
theorem dX9_cuts_15 : decode cX9_cuts 15 = .ok (.invokevirtual 81, 3) := by decide +kernel
theorem dX9_cuts_18 : decode cX9_cuts 18 = .ok (.ifCond .ne 6, 3) := by decide +kernel
theorem dX9_cuts_21 : decode cX9_cuts 21 = .ok (.bipush (-6), 2) := by decide +kernel
theorem dX9_cuts_23 : decode cX9_cuts 23 = .ok (.ireturn, 1) := by decide +kernel
theorem dX9_cuts_24 : decode cX9_cuts 24 = .ok (.aload_n 0, 1) := by decide +kernel
theorem dX9_cuts_25 : decode cX9_cuts 25 = .ok (.iload_n 1, 1) := by decide +kernel
theorem dX9_cuts_26 : decode cX9_cuts 26 = .ok (.invokevirtual 249, 3) := by decide +kernel
theorem dX9_cuts_29 : decode cX9_cuts 29 = .ok (.aload_n 0, 1) := by decide +kernel
theorem dX9_cuts_30 : decode cX9_cuts 30 = .ok (.getfield 13, 3) := by decide +kernel
theorem dX9_cuts_33 : decode cX9_cuts 33 = .ok (.iload_n 2, 1) := by decide +kernel
theorem dX9_cuts_34 : decode cX9_cuts 34 = .ok (.iconst 0, 1) := by decide +kernel
theorem dX9_cuts_35 : decode cX9_cuts 35 = .ok (.bastore, 1) := by decide +kernel
theorem dX9_cuts_36 : decode cX9_cuts 36 = .ok (.aload_n 0, 1) := by decide +kernel
theorem dX9_cuts_37 : decode cX9_cuts 37 = .ok (.iload_n 1, 1) := by decide +kernel
theorem dX9_cuts_38 : decode cX9_cuts 38 = .ok (.invokevirtual 188, 3) := by decide +kernel
theorem dX9_cuts_41 : decode cX9_cuts 41 = .ok (.ireturn, 1) := by decide +kernel
theorem dX9_drops_0 : decode cX9_drops 0 = .ok (.iload_n 1, 1) := by decide +kernel
theorem dX9_drops_1 : decode cX9_drops 1 = .ok (.invokestatic 67, 3) := by decide +kernel
theorem dX9_drops_4 : decode cX9_drops 4 = .ok (.ifCond .ne 6, 3) := by decide +kernel
theorem dX9_drops_7 : decode cX9_drops 7 = .ok (.bipush (-2), 2) := by decide +kernel
theorem dX9_drops_9 : decode cX9_drops 9 = .ok (.ireturn, 1) := by decide +kernel
theorem dX9_drops_10 : decode cX9_drops 10 = .ok (.aload_n 0, 1) := by decide +kernel
theorem dX9_drops_11 : decode cX9_drops 11 = .ok (.iload_n 1, 1) := by decide +kernel
theorem dX9_drops_12 : decode cX9_drops 12 = .ok (.invokevirtual 75, 3) := by decide +kernel
theorem dX9_drops_15 : decode cX9_drops 15 = .ok (.ifCond .ne 5, 3) := by decide +kernel
theorem dX9_drops_18 : decode cX9_drops 18 = .ok (.iconst 0, 1) := by decide +kernel
theorem dX9_drops_19 : decode cX9_drops 19 = .ok (.ireturn, 1) := by decide +kernel
theorem dX9_drops_20 : decode cX9_drops 20 = .ok (.aload_n 0, 1) := by decide +kernel
theorem dX9_drops_21 : decode cX9_drops 21 = .ok (.iconst 0, 1) := by decide +kernel
theorem dX9_drops_22 : decode cX9_drops 22 = .ok (.invokevirtual 176, 3) := by decide +kernel
theorem dX9_drops_25 : decode cX9_drops 25 = .ok (.aload_n 0, 1) := by decide +kernel
theorem dX9_drops_26 : decode cX9_drops 26 = .ok (.iload_n 1, 1) := by decide +kernel
theorem dX9_drops_27 : decode cX9_drops 27 = .ok (.invokevirtual 188, 3) := by decide +kernel
theorem dX9_drops_30 : decode cX9_drops 30 = .ok (.istore_n 2, 1) := by decide +kernel
theorem dX9_drops_31 : decode cX9_drops 31 = .ok (.iconst 1, 1) := by decide +kernel
theorem dX9_drops_32 : decode cX9_drops 32 = .ok (.ireturn, 1) := by decide +kernel
theorem dX9_says_0 : decode cX9_says 0 = .ok (.aload_n 0, 1) := by decide +kernel
theorem dX9_says_1 : decode cX9_says 1 = .ok (.getfield 55, 3) := by decide +kernel
theorem dX9_says_4 : decode cX9_says 4 = .ok (.aload_n 0, 1) := by decide +kernel
theorem dX9_says_5 : decode cX9_says 5 = .ok (.getfield 191, 3) := by decide +kernel
theorem dX9_says_8 : decode cX9_says 8 = .ok (.iload_n 1, 1) := by decide +kernel
theorem dX9_says_9 : decode cX9_says 9 = .ok (.i2b, 1) := by decide +kernel
theorem dX9_says_10 : decode cX9_says 10 = .ok (.bastore, 1) := by decide +kernel
theorem dX9_says_11 : decode cX9_says 11 = .ok (.aload_n 0, 1) := by decide +kernel
theorem dX9_says_12 : decode cX9_says 12 = .ok (.dup, 1) := by decide +kernel
theorem dX9_says_13 : decode cX9_says 13 = .ok (.getfield 191, 3) := by decide +kernel
theorem dX9_says_16 : decode cX9_says 16 = .ok (.iconst 1, 1) := by decide +kernel
theorem dX9_says_17 : decode cX9_says 17 = .ok (.iadd, 1) := by decide +kernel
theorem dX9_says_18 : decode cX9_says 18 = .ok (.putfield 191, 3) := by decide +kernel
theorem dX9_says_21 : decode cX9_says 21 = .ok (.return_, 1) := by decide +kernel
theorem dX9_saysText_0 : decode cX9_saysText 0 = .ok (.iconst 0, 1) := by decide +kernel
theorem dX9_saysText_1 : decode cX9_saysText 1 = .ok (.istore_n 2, 1) := by decide +kernel
theorem dX9_saysText_2 : decode cX9_saysText 2 = .ok (.iload_n 2, 1) := by decide +kernel
theorem dX9_saysText_3 : decode cX9_saysText 3 = .ok (.aload_n 1, 1) := by decide +kernel
theorem dX9_saysText_4 : decode cX9_saysText 4 = .ok (.invokevirtual 146, 3) := by decide +kernel
theorem dX9_saysText_7 : decode cX9_saysText 7 = .ok (.if_icmp .ge 18, 3) := by decide +kernel
theorem dX9_saysText_10 : decode cX9_saysText 10 = .ok (.aload_n 0, 1) := by decide +kernel
theorem dX9_saysText_11 : decode cX9_saysText 11 = .ok (.aload_n 1, 1) := by decide +kernel
theorem dX9_saysText_12 : decode cX9_saysText 12 = .ok (.iload_n 2, 1) := by decide +kernel
theorem dX9_saysText_13 : decode cX9_saysText 13 = .ok (.invokevirtual 152, 3) := by decide +kernel
theorem dX9_saysText_16 : decode cX9_saysText 16 = .ok (.invokevirtual 351, 3) := by decide +kernel
theorem dX9_saysText_19 : decode cX9_saysText 19 = .ok (.iinc 2 1, 3) := by decide +kernel
theorem dX9_saysText_22 : decode cX9_saysText 22 = .ok (.goto (-20), 3) := by decide +kernel
theorem dX9_saysText_25 : decode cX9_saysText 25 = .ok (.return_, 1) := by decide +kernel
theorem dX9_tell_0 : decode cX9_tell 0 = .ok (.aload_n 0, 1) := by decide +kernel
theorem dX9_tell_1 : decode cX9_tell 1 = .ok (.iload_n 1, 1) := by decide +kernel
theorem dX9_tell_2 : decode cX9_tell 2 = .ok (.invokevirtual 75, 3) := by decide +kernel
theorem dX9_tell_5 : decode cX9_tell 5 = .ok (.ifCond .ne 6, 3) := by decide +kernel
theorem dX9_tell_8 : decode cX9_tell 8 = .ok (.bipush (-2), 2) := by decide +kernel
theorem dX9_tell_10 : decode cX9_tell 10 = .ok (.ireturn, 1) := by decide +kernel
theorem dX9_tell_11 : decode cX9_tell 11 = .ok (.aload_n 0, 1) := by decide +kernel
theorem dX9_tell_12 : decode cX9_tell 12 = .ok (.iconst 0, 1) := by decide +kernel
theorem dX9_tell_13 : decode cX9_tell 13 = .ok (.putfield 191, 3) := by decide +kernel
theorem dX9_tell_16 : decode cX9_tell 16 = .ok (.aload_n 0, 1) := by decide +kernel
theorem dX9_tell_17 : decode cX9_tell 17 = .ok (.ldc_w 354, 3) := by decide +kernel
theorem dX9_tell_20 : decode cX9_tell 20 = .ok (.invokevirtual 356, 3) := by decide +kernel
theorem dX9_tell_23 : decode cX9_tell 23 = .ok (.aload_n 0, 1) := by decide +kernel
theorem dX9_tell_24 : decode cX9_tell 24 = .ok (.bipush 48, 2) := by decide +kernel
theorem dX9_tell_26 : decode cX9_tell 26 = .ok (.aload_n 0, 1) := by decide +kernel
theorem dX9_tell_27 : decode cX9_tell 27 = .ok (.iload_n 1, 1) := by decide +kernel
theorem dX9_tell_28 : decode cX9_tell 28 = .ok (.invokevirtual 78, 3) := by decide +kernel
theorem dX9_tell_31 : decode cX9_tell 31 = .ok (.iadd, 1) := by decide +kernel
theorem dX9_tell_32 : decode cX9_tell 32 = .ok (.invokevirtual 351, 3) := by decide +kernel
theorem dX9_tell_35 : decode cX9_tell 35 = .ok (.bipush 58, 2) := by decide +kernel
theorem dX9_tell_37 : decode cX9_tell 37 = .ok (.istore_n 2, 1) := by decide +kernel
theorem dX9_tell_38 : decode cX9_tell 38 = .ok (.iconst 0, 1) := by decide +kernel
theorem dX9_tell_39 : decode cX9_tell 39 = .ok (.istore_n 3, 1) := by decide +kernel
theorem dX9_tell_40 : decode cX9_tell 40 = .ok (.iload_n 3, 1) := by decide +kernel
theorem dX9_tell_41 : decode cX9_tell 41 = .ok (.sipush 128, 3) := by decide +kernel
theorem dX9_tell_44 : decode cX9_tell 44 = .ok (.if_icmp .ge 76, 3) := by decide +kernel
theorem dX9_tell_47 : decode cX9_tell 47 = .ok (.aload_n 0, 1) := by decide +kernel
theorem dX9_tell_48 : decode cX9_tell 48 = .ok (.iload_n 1, 1) := by decide +kernel
theorem dX9_tell_49 : decode cX9_tell 49 = .ok (.iload_n 3, 1) := by decide +kernel
theorem dX9_tell_50 : decode cX9_tell 50 = .ok (.invokevirtual 81, 3) := by decide +kernel
theorem dX9_tell_53 : decode cX9_tell 53 = .ok (.ifCond .ne 6, 3) := by decide +kernel
theorem dX9_tell_56 : decode cX9_tell 56 = .ok (.goto 58, 3) := by decide +kernel
theorem dX9_tell_59 : decode cX9_tell 59 = .ok (.aload_n 0, 1) := by decide +kernel
theorem dX9_tell_60 : decode cX9_tell 60 = .ok (.iload_n 2, 1) := by decide +kernel
theorem dX9_tell_61 : decode cX9_tell 61 = .ok (.invokevirtual 351, 3) := by decide +kernel
theorem dX9_tell_64 : decode cX9_tell 64 = .ok (.bipush 44, 2) := by decide +kernel
theorem dX9_tell_66 : decode cX9_tell 66 = .ok (.istore_n 2, 1) := by decide +kernel
theorem dX9_tell_67 : decode cX9_tell 67 = .ok (.iload_n 3, 1) := by decide +kernel
theorem dX9_tell_68 : decode cX9_tell 68 = .ok (.ifCond .ne 9, 3) := by decide +kernel
theorem dX9_tell_71 : decode cX9_tell 71 = .ok (.aload_n 0, 1) := by decide +kernel
theorem dX9_tell_72 : decode cX9_tell 72 = .ok (.ldc 159, 2) := by decide +kernel
theorem dX9_tell_74 : decode cX9_tell 74 = .ok (.invokevirtual 356, 3) := by decide +kernel
theorem dX9_tell_77 : decode cX9_tell 77 = .ok (.iconst 0, 1) := by decide +kernel
theorem dX9_tell_78 : decode cX9_tell 78 = .ok (.istore 4, 2) := by decide +kernel
theorem dX9_tell_80 : decode cX9_tell 80 = .ok (.iload 4, 2) := by decide +kernel
theorem dX9_tell_82 : decode cX9_tell 82 = .ok (.aload_n 0, 1) := by decide +kernel
theorem dX9_tell_83 : decode cX9_tell 83 = .ok (.iload_n 1, 1) := by decide +kernel
theorem dX9_tell_84 : decode cX9_tell 84 = .ok (.invokevirtual 78, 3) := by decide +kernel
theorem dX9_tell_87 : decode cX9_tell 87 = .ok (.if_icmp .ge 27, 3) := by decide +kernel
theorem dX9_tell_90 : decode cX9_tell 90 = .ok (.iload_n 3, 1) := by decide +kernel
theorem dX9_tell_91 : decode cX9_tell 91 = .ok (.iload 4, 2) := by decide +kernel
theorem dX9_tell_93 : decode cX9_tell 93 = .ok (.invokestatic 169, 3) := by decide +kernel
theorem dX9_tell_96 : decode cX9_tell 96 = .ok (.ifCond .eq 12, 3) := by decide +kernel
theorem dX9_tell_99 : decode cX9_tell 99 = .ok (.aload_n 0, 1) := by decide +kernel
theorem dX9_tell_100 : decode cX9_tell 100 = .ok (.bipush 48, 2) := by decide +kernel
theorem dX9_tell_102 : decode cX9_tell 102 = .ok (.iload 4, 2) := by decide +kernel
theorem dX9_tell_104 : decode cX9_tell 104 = .ok (.iadd, 1) := by decide +kernel
theorem dX9_tell_105 : decode cX9_tell 105 = .ok (.invokevirtual 351, 3) := by decide +kernel
theorem dX9_tell_108 : decode cX9_tell 108 = .ok (.iinc 4 1, 3) := by decide +kernel
theorem dX9_tell_111 : decode cX9_tell 111 = .ok (.goto (-31), 3) := by decide +kernel
theorem dX9_tell_114 : decode cX9_tell 114 = .ok (.iinc 3 1, 3) := by decide +kernel
theorem dX9_tell_117 : decode cX9_tell 117 = .ok (.goto (-77), 3) := by decide +kernel
theorem dX9_tell_120 : decode cX9_tell 120 = .ok (.aload_n 0, 1) := by decide +kernel
theorem dX9_tell_121 : decode cX9_tell 121 = .ok (.bipush 59, 2) := by decide +kernel
theorem dX9_tell_123 : decode cX9_tell 123 = .ok (.invokevirtual 351, 3) := by decide +kernel
theorem dX9_tell_126 : decode cX9_tell 126 = .ok (.aload_n 0, 1) := by decide +kernel
theorem dX9_tell_127 : decode cX9_tell 127 = .ok (.getfield 191, 3) := by decide +kernel
theorem dX9_tell_130 : decode cX9_tell 130 = .ok (.ireturn, 1) := by decide +kernel
theorem dX9_octet_0 : decode cX9_octet 0 = .ok (.iload_n 1, 1) := by decide +kernel
theorem dX9_octet_1 : decode cX9_octet 1 = .ok (.i2l, 1) := by decide +kernel
theorem dX9_octet_2 : decode cX9_octet 2 = .ok (.lconst 0, 1) := by decide +kernel
theorem dX9_octet_3 : decode cX9_octet 3 = .ok (.aload_n 0, 1) := by decide +kernel
theorem dX9_octet_4 : decode cX9_octet 4 = .ok (.getfield 191, 3) := by decide +kernel
theorem dX9_octet_7 : decode cX9_octet 7 = .ok (.iconst 1, 1) := by decide +kernel
theorem dX9_octet_8 : decode cX9_octet 8 = .ok (.isub, 1) := by decide +kernel
theorem dX9_octet_9 : decode cX9_octet 9 = .ok (.i2l, 1) := by decide +kernel
theorem dX9_octet_10 : decode cX9_octet 10 = .ok (.invokestatic 63, 3) := by decide +kernel
theorem dX9_octet_13 : decode cX9_octet 13 = .ok (.ifCond .eq 12, 3) := by decide +kernel
theorem dX9_octet_16 : decode cX9_octet 16 = .ok (.aload_n 0, 1) := by decide +kernel
theorem dX9_octet_17 : decode cX9_octet 17 = .ok (.getfield 55, 3) := by decide +kernel
theorem dX9_octet_20 : decode cX9_octet 20 = .ok (.iload_n 1, 1) := by decide +kernel
theorem dX9_octet_21 : decode cX9_octet 21 = .ok (.baload, 1) := by decide +kernel
theorem dX9_octet_22 : decode cX9_octet 22 = .ok (.goto 4, 3) := by decide +kernel
theorem dX9_octet_25 : decode cX9_octet 25 = .ok (.iconst (-1), 1) := by decide +kernel
theorem dX9_octet_26 : decode cX9_octet 26 = .ok (.ireturn, 1) := by decide +kernel
theorem dJ6_bitCount_0f7a4_0 : decode cJ6_bitCount_0f7a4 0 = .ok (.iload_n 0, 1) := by decide +kernel
theorem dJ6_bitCount_0f7a4_1 : decode cJ6_bitCount_0f7a4 1 = .ok (.iload_n 0, 1) := by decide +kernel
theorem dJ6_bitCount_0f7a4_2 : decode cJ6_bitCount_0f7a4 2 = .ok (.iconst 1, 1) := by decide +kernel
theorem dJ6_bitCount_0f7a4_3 : decode cJ6_bitCount_0f7a4 3 = .ok (.iushr, 1) := by decide +kernel
theorem dJ6_bitCount_0f7a4_4 : decode cJ6_bitCount_0f7a4 4 = .ok (.ldc_w 265, 3) := by decide +kernel
theorem dJ6_bitCount_0f7a4_7 : decode cJ6_bitCount_0f7a4 7 = .ok (.iand, 1) := by decide +kernel
theorem dJ6_bitCount_0f7a4_8 : decode cJ6_bitCount_0f7a4 8 = .ok (.isub, 1) := by decide +kernel
theorem dJ6_bitCount_0f7a4_9 : decode cJ6_bitCount_0f7a4 9 = .ok (.istore_n 0, 1) := by decide +kernel
theorem dJ6_bitCount_0f7a4_10 : decode cJ6_bitCount_0f7a4 10 = .ok (.iload_n 0, 1) := by decide +kernel
theorem dJ6_bitCount_0f7a4_11 : decode cJ6_bitCount_0f7a4 11 = .ok (.ldc_w 266, 3) := by decide +kernel
theorem dJ6_bitCount_0f7a4_14 : decode cJ6_bitCount_0f7a4 14 = .ok (.iand, 1) := by decide +kernel
theorem dJ6_bitCount_0f7a4_15 : decode cJ6_bitCount_0f7a4 15 = .ok (.iload_n 0, 1) := by decide +kernel
theorem dJ6_bitCount_0f7a4_16 : decode cJ6_bitCount_0f7a4 16 = .ok (.iconst 2, 1) := by decide +kernel
theorem dJ6_bitCount_0f7a4_17 : decode cJ6_bitCount_0f7a4 17 = .ok (.iushr, 1) := by decide +kernel
theorem dJ6_bitCount_0f7a4_18 : decode cJ6_bitCount_0f7a4 18 = .ok (.ldc_w 266, 3) := by decide +kernel
theorem dJ6_bitCount_0f7a4_21 : decode cJ6_bitCount_0f7a4 21 = .ok (.iand, 1) := by decide +kernel
theorem dJ6_bitCount_0f7a4_22 : decode cJ6_bitCount_0f7a4 22 = .ok (.iadd, 1) := by decide +kernel
theorem dJ6_bitCount_0f7a4_23 : decode cJ6_bitCount_0f7a4 23 = .ok (.istore_n 0, 1) := by decide +kernel
theorem dJ6_bitCount_0f7a4_24 : decode cJ6_bitCount_0f7a4 24 = .ok (.iload_n 0, 1) := by decide +kernel
theorem dJ6_bitCount_0f7a4_25 : decode cJ6_bitCount_0f7a4 25 = .ok (.iload_n 0, 1) := by decide +kernel
theorem dJ6_bitCount_0f7a4_26 : decode cJ6_bitCount_0f7a4 26 = .ok (.iconst 4, 1) := by decide +kernel
theorem dJ6_bitCount_0f7a4_27 : decode cJ6_bitCount_0f7a4 27 = .ok (.iushr, 1) := by decide +kernel
theorem dJ6_bitCount_0f7a4_28 : decode cJ6_bitCount_0f7a4 28 = .ok (.iadd, 1) := by decide +kernel
theorem dJ6_bitCount_0f7a4_29 : decode cJ6_bitCount_0f7a4 29 = .ok (.ldc_w 267, 3) := by decide +kernel
theorem dJ6_bitCount_0f7a4_32 : decode cJ6_bitCount_0f7a4 32 = .ok (.iand, 1) := by decide +kernel
theorem dJ6_bitCount_0f7a4_33 : decode cJ6_bitCount_0f7a4 33 = .ok (.istore_n 0, 1) := by decide +kernel
theorem dJ6_bitCount_0f7a4_34 : decode cJ6_bitCount_0f7a4 34 = .ok (.iload_n 0, 1) := by decide +kernel
theorem dJ6_bitCount_0f7a4_35 : decode cJ6_bitCount_0f7a4 35 = .ok (.iload_n 0, 1) := by decide +kernel
theorem dJ6_bitCount_0f7a4_36 : decode cJ6_bitCount_0f7a4 36 = .ok (.bipush 8, 2) := by decide +kernel
theorem dJ6_bitCount_0f7a4_38 : decode cJ6_bitCount_0f7a4 38 = .ok (.iushr, 1) := by decide +kernel
theorem dJ6_bitCount_0f7a4_39 : decode cJ6_bitCount_0f7a4 39 = .ok (.iadd, 1) := by decide +kernel
theorem dJ6_bitCount_0f7a4_40 : decode cJ6_bitCount_0f7a4 40 = .ok (.istore_n 0, 1) := by decide +kernel
theorem dJ6_bitCount_0f7a4_41 : decode cJ6_bitCount_0f7a4 41 = .ok (.iload_n 0, 1) := by decide +kernel
theorem dJ6_bitCount_0f7a4_42 : decode cJ6_bitCount_0f7a4 42 = .ok (.iload_n 0, 1) := by decide +kernel
theorem dJ6_bitCount_0f7a4_43 : decode cJ6_bitCount_0f7a4 43 = .ok (.bipush 16, 2) := by decide +kernel
theorem dJ6_bitCount_0f7a4_45 : decode cJ6_bitCount_0f7a4 45 = .ok (.iushr, 1) := by decide +kernel
theorem dJ6_bitCount_0f7a4_46 : decode cJ6_bitCount_0f7a4 46 = .ok (.iadd, 1) := by decide +kernel
theorem dJ6_bitCount_0f7a4_47 : decode cJ6_bitCount_0f7a4 47 = .ok (.istore_n 0, 1) := by decide +kernel
theorem dJ6_bitCount_0f7a4_48 : decode cJ6_bitCount_0f7a4 48 = .ok (.iload_n 0, 1) := by decide +kernel
theorem dJ6_bitCount_0f7a4_49 : decode cJ6_bitCount_0f7a4 49 = .ok (.bipush 63, 2) := by decide +kernel
theorem dJ6_bitCount_0f7a4_51 : decode cJ6_bitCount_0f7a4 51 = .ok (.iand, 1) := by decide +kernel
theorem dJ6_bitCount_0f7a4_52 : decode cJ6_bitCount_0f7a4 52 = .ok (.ireturn, 1) := by decide +kernel
theorem dJ13_bitCount_95d88_0 : decode cJ13_bitCount_95d88 0 = .ok (.lload_n 0, 1) := by decide +kernel
theorem dJ13_bitCount_95d88_1 : decode cJ13_bitCount_95d88 1 = .ok (.lload_n 0, 1) := by decide +kernel
theorem dJ13_bitCount_95d88_2 : decode cJ13_bitCount_95d88 2 = .ok (.iconst 1, 1) := by decide +kernel
theorem dJ13_bitCount_95d88_3 : decode cJ13_bitCount_95d88 3 = .ok (.lushr, 1) := by decide +kernel
theorem dJ13_bitCount_95d88_4 : decode cJ13_bitCount_95d88 4 = .ok (.ldc2_w 314, 3) := by decide +kernel
theorem dJ13_bitCount_95d88_7 : decode cJ13_bitCount_95d88 7 = .ok (.land, 1) := by decide +kernel
theorem dJ13_bitCount_95d88_8 : decode cJ13_bitCount_95d88 8 = .ok (.lsub, 1) := by decide +kernel
theorem dJ13_bitCount_95d88_9 : decode cJ13_bitCount_95d88 9 = .ok (.lstore_n 0, 1) := by decide +kernel
theorem dJ13_bitCount_95d88_10 : decode cJ13_bitCount_95d88 10 = .ok (.lload_n 0, 1) := by decide +kernel
theorem dJ13_bitCount_95d88_11 : decode cJ13_bitCount_95d88 11 = .ok (.ldc2_w 316, 3) := by decide +kernel
theorem dJ13_bitCount_95d88_14 : decode cJ13_bitCount_95d88 14 = .ok (.land, 1) := by decide +kernel
theorem dJ13_bitCount_95d88_15 : decode cJ13_bitCount_95d88 15 = .ok (.lload_n 0, 1) := by decide +kernel
theorem dJ13_bitCount_95d88_16 : decode cJ13_bitCount_95d88 16 = .ok (.iconst 2, 1) := by decide +kernel
theorem dJ13_bitCount_95d88_17 : decode cJ13_bitCount_95d88 17 = .ok (.lushr, 1) := by decide +kernel
theorem dJ13_bitCount_95d88_18 : decode cJ13_bitCount_95d88 18 = .ok (.ldc2_w 316, 3) := by decide +kernel
theorem dJ13_bitCount_95d88_21 : decode cJ13_bitCount_95d88 21 = .ok (.land, 1) := by decide +kernel
theorem dJ13_bitCount_95d88_22 : decode cJ13_bitCount_95d88 22 = .ok (.ladd, 1) := by decide +kernel
theorem dJ13_bitCount_95d88_23 : decode cJ13_bitCount_95d88 23 = .ok (.lstore_n 0, 1) := by decide +kernel
theorem dJ13_bitCount_95d88_24 : decode cJ13_bitCount_95d88 24 = .ok (.lload_n 0, 1) := by decide +kernel
theorem dJ13_bitCount_95d88_25 : decode cJ13_bitCount_95d88 25 = .ok (.lload_n 0, 1) := by decide +kernel
theorem dJ13_bitCount_95d88_26 : decode cJ13_bitCount_95d88 26 = .ok (.iconst 4, 1) := by decide +kernel
theorem dJ13_bitCount_95d88_27 : decode cJ13_bitCount_95d88 27 = .ok (.lushr, 1) := by decide +kernel
theorem dJ13_bitCount_95d88_28 : decode cJ13_bitCount_95d88 28 = .ok (.ladd, 1) := by decide +kernel
theorem dJ13_bitCount_95d88_29 : decode cJ13_bitCount_95d88 29 = .ok (.ldc2_w 318, 3) := by decide +kernel
theorem dJ13_bitCount_95d88_32 : decode cJ13_bitCount_95d88 32 = .ok (.land, 1) := by decide +kernel
theorem dJ13_bitCount_95d88_33 : decode cJ13_bitCount_95d88 33 = .ok (.lstore_n 0, 1) := by decide +kernel
theorem dJ13_bitCount_95d88_34 : decode cJ13_bitCount_95d88 34 = .ok (.lload_n 0, 1) := by decide +kernel
theorem dJ13_bitCount_95d88_35 : decode cJ13_bitCount_95d88 35 = .ok (.lload_n 0, 1) := by decide +kernel
theorem dJ13_bitCount_95d88_36 : decode cJ13_bitCount_95d88 36 = .ok (.bipush 8, 2) := by decide +kernel
theorem dJ13_bitCount_95d88_38 : decode cJ13_bitCount_95d88 38 = .ok (.lushr, 1) := by decide +kernel
theorem dJ13_bitCount_95d88_39 : decode cJ13_bitCount_95d88 39 = .ok (.ladd, 1) := by decide +kernel
theorem dJ13_bitCount_95d88_40 : decode cJ13_bitCount_95d88 40 = .ok (.lstore_n 0, 1) := by decide +kernel
theorem dJ13_bitCount_95d88_41 : decode cJ13_bitCount_95d88 41 = .ok (.lload_n 0, 1) := by decide +kernel
theorem dJ13_bitCount_95d88_42 : decode cJ13_bitCount_95d88 42 = .ok (.lload_n 0, 1) := by decide +kernel
theorem dJ13_bitCount_95d88_43 : decode cJ13_bitCount_95d88 43 = .ok (.bipush 16, 2) := by decide +kernel
theorem dJ13_bitCount_95d88_45 : decode cJ13_bitCount_95d88 45 = .ok (.lushr, 1) := by decide +kernel
theorem dJ13_bitCount_95d88_46 : decode cJ13_bitCount_95d88 46 = .ok (.ladd, 1) := by decide +kernel
theorem dJ13_bitCount_95d88_47 : decode cJ13_bitCount_95d88 47 = .ok (.lstore_n 0, 1) := by decide +kernel
theorem dJ13_bitCount_95d88_48 : decode cJ13_bitCount_95d88 48 = .ok (.lload_n 0, 1) := by decide +kernel
theorem dJ13_bitCount_95d88_49 : decode cJ13_bitCount_95d88 49 = .ok (.lload_n 0, 1) := by decide +kernel
theorem dJ13_bitCount_95d88_50 : decode cJ13_bitCount_95d88 50 = .ok (.bipush 32, 2) := by decide +kernel
theorem dJ13_bitCount_95d88_52 : decode cJ13_bitCount_95d88 52 = .ok (.lushr, 1) := by decide +kernel
theorem dJ13_bitCount_95d88_53 : decode cJ13_bitCount_95d88 53 = .ok (.ladd, 1) := by decide +kernel
theorem dJ13_bitCount_95d88_54 : decode cJ13_bitCount_95d88 54 = .ok (.lstore_n 0, 1) := by decide +kernel
theorem dJ13_bitCount_95d88_55 : decode cJ13_bitCount_95d88 55 = .ok (.lload_n 0, 1) := by decide +kernel
theorem dJ13_bitCount_95d88_56 : decode cJ13_bitCount_95d88 56 = .ok (.l2i, 1) := by decide +kernel
theorem dJ13_bitCount_95d88_57 : decode cJ13_bitCount_95d88 57 = .ok (.bipush 127, 2) := by decide +kernel
theorem dJ13_bitCount_95d88_59 : decode cJ13_bitCount_95d88 59 = .ok (.iand, 1) := by decide +kernel
theorem dJ13_bitCount_95d88_60 : decode cJ13_bitCount_95d88 60 = .ok (.ireturn, 1) := by decide +kernel
theorem dJ9_max_7cf53_0 : decode cJ9_max_7cf53 0 = .ok (.iload_n 0, 1) := by decide +kernel
theorem dJ9_max_7cf53_1 : decode cJ9_max_7cf53 1 = .ok (.iload_n 1, 1) := by decide +kernel
theorem dJ9_max_7cf53_2 : decode cJ9_max_7cf53 2 = .ok (.if_icmp .lt 7, 3) := by decide +kernel
theorem dJ9_max_7cf53_5 : decode cJ9_max_7cf53 5 = .ok (.iload_n 0, 1) := by decide +kernel
theorem dJ9_max_7cf53_6 : decode cJ9_max_7cf53 6 = .ok (.goto 4, 3) := by decide +kernel
theorem dJ9_max_7cf53_9 : decode cJ9_max_7cf53 9 = .ok (.iload_n 1, 1) := by decide +kernel
theorem dJ9_max_7cf53_10 : decode cJ9_max_7cf53 10 = .ok (.ireturn, 1) := by decide +kernel
theorem dJ9_min_7cf53_0 : decode cJ9_min_7cf53 0 = .ok (.iload_n 0, 1) := by decide +kernel
theorem dJ9_min_7cf53_1 : decode cJ9_min_7cf53 1 = .ok (.iload_n 1, 1) := by decide +kernel
theorem dJ9_min_7cf53_2 : decode cJ9_min_7cf53 2 = .ok (.if_icmp .gt 7, 3) := by decide +kernel
theorem dJ9_min_7cf53_5 : decode cJ9_min_7cf53 5 = .ok (.iload_n 0, 1) := by decide +kernel
theorem dJ9_min_7cf53_6 : decode cJ9_min_7cf53 6 = .ok (.goto 4, 3) := by decide +kernel
theorem dJ9_min_7cf53_9 : decode cJ9_min_7cf53 9 = .ok (.iload_n 1, 1) := by decide +kernel
theorem dJ9_min_7cf53_10 : decode cJ9_min_7cf53 10 = .ok (.ireturn, 1) := by decide +kernel
theorem dJ0_length_8abf5_0 : decode cJ0_length_8abf5 0 = .ok (.aload_n 0, 1) := by decide +kernel
theorem dJ0_length_8abf5_1 : decode cJ0_length_8abf5 1 = .ok (.getfield 9, 3) := by decide +kernel
theorem dJ0_length_8abf5_4 : decode cJ0_length_8abf5 4 = .ok (.arraylength, 1) := by decide +kernel
theorem dJ0_length_8abf5_5 : decode cJ0_length_8abf5 5 = .ok (.aload_n 0, 1) := by decide +kernel
theorem dJ0_length_8abf5_6 : decode cJ0_length_8abf5 6 = .ok (.invokevirtual 335, 3) := by decide +kernel
theorem dJ0_length_8abf5_9 : decode cJ0_length_8abf5 9 = .ok (.ishr, 1) := by decide +kernel
theorem dJ0_length_8abf5_10 : decode cJ0_length_8abf5 10 = .ok (.ireturn, 1) := by decide +kernel
theorem dJ0_charAt_5068e_0 : decode cJ0_charAt_5068e 0 = .ok (.aload_n 0, 1) := by decide +kernel
theorem dJ0_charAt_5068e_1 : decode cJ0_charAt_5068e 1 = .ok (.invokevirtual 492, 3) := by decide +kernel
theorem dJ0_charAt_5068e_4 : decode cJ0_charAt_5068e 4 = .ok (.ifCond .eq 12, 3) := by decide +kernel
theorem dJ0_charAt_5068e_7 : decode cJ0_charAt_5068e 7 = .ok (.aload_n 0, 1) := by decide +kernel
theorem dJ0_charAt_5068e_8 : decode cJ0_charAt_5068e 8 = .ok (.getfield 9, 3) := by decide +kernel
theorem dJ0_charAt_5068e_11 : decode cJ0_charAt_5068e 11 = .ok (.iload_n 1, 1) := by decide +kernel
theorem dJ0_charAt_5068e_12 : decode cJ0_charAt_5068e 12 = .ok (.invokestatic 495, 3) := by decide +kernel
theorem dJ0_charAt_5068e_15 : decode cJ0_charAt_5068e 15 = .ok (.ireturn, 1) := by decide +kernel
theorem dJ0_charAt_5068e_16 : decode cJ0_charAt_5068e 16 = .ok (.aload_n 0, 1) := by decide +kernel
theorem dJ0_charAt_5068e_17 : decode cJ0_charAt_5068e 17 = .ok (.getfield 9, 3) := by decide +kernel
theorem dJ0_charAt_5068e_20 : decode cJ0_charAt_5068e 20 = .ok (.iload_n 1, 1) := by decide +kernel
theorem dJ0_charAt_5068e_21 : decode cJ0_charAt_5068e 21 = .ok (.invokestatic 498, 3) := by decide +kernel
theorem dJ0_charAt_5068e_24 : decode cJ0_charAt_5068e 24 = .ok (.ireturn, 1) := by decide +kernel
theorem dJ0_coder_7d493_0 : decode cJ0_coder_7d493 0 = .ok (.getstatic 38, 3) := by decide +kernel
theorem dJ0_coder_7d493_3 : decode cJ0_coder_7d493 3 = .ok (.ifCond .eq 10, 3) := by decide +kernel
theorem dJ0_coder_7d493_6 : decode cJ0_coder_7d493 6 = .ok (.aload_n 0, 1) := by decide +kernel
theorem dJ0_coder_7d493_7 : decode cJ0_coder_7d493 7 = .ok (.getfield 15, 3) := by decide +kernel
theorem dJ0_coder_7d493_10 : decode cJ0_coder_7d493 10 = .ok (.goto 4, 3) := by decide +kernel
theorem dJ0_coder_7d493_13 : decode cJ0_coder_7d493 13 = .ok (.iconst 1, 1) := by decide +kernel
theorem dJ0_coder_7d493_14 : decode cJ0_coder_7d493 14 = .ok (.ireturn, 1) := by decide +kernel
theorem dJ0_isLatin1_aae02_0 : decode cJ0_isLatin1_aae02 0 = .ok (.getstatic 38, 3) := by decide +kernel
theorem dJ0_isLatin1_aae02_3 : decode cJ0_isLatin1_aae02 3 = .ok (.ifCond .eq 14, 3) := by decide +kernel
theorem dJ0_isLatin1_aae02_6 : decode cJ0_isLatin1_aae02 6 = .ok (.aload_n 0, 1) := by decide +kernel
theorem dJ0_isLatin1_aae02_7 : decode cJ0_isLatin1_aae02 7 = .ok (.getfield 15, 3) := by decide +kernel
theorem dJ0_isLatin1_aae02_10 : decode cJ0_isLatin1_aae02 10 = .ok (.ifCond .ne 7, 3) := by decide +kernel
theorem dJ0_isLatin1_aae02_13 : decode cJ0_isLatin1_aae02 13 = .ok (.iconst 1, 1) := by decide +kernel
theorem dJ0_isLatin1_aae02_14 : decode cJ0_isLatin1_aae02 14 = .ok (.goto 4, 3) := by decide +kernel
theorem dJ0_isLatin1_aae02_17 : decode cJ0_isLatin1_aae02 17 = .ok (.iconst 0, 1) := by decide +kernel
theorem dJ0_isLatin1_aae02_18 : decode cJ0_isLatin1_aae02 18 = .ok (.ireturn, 1) := by decide +kernel
theorem dJ0_checkIndex_df160_0 : decode cJ0_checkIndex_df160 0 = .ok (.iload_n 0, 1) := by decide +kernel
theorem dJ0_checkIndex_df160_1 : decode cJ0_checkIndex_df160 1 = .ok (.iload_n 1, 1) := by decide +kernel
theorem dJ0_checkIndex_df160_2 : decode cJ0_checkIndex_df160 2 = .ok (.getstatic 1053, 3) := by decide +kernel
theorem dJ0_checkIndex_df160_5 : decode cJ0_checkIndex_df160 5 = .ok (.invokestatic 1059, 3) := by decide +kernel
theorem dJ0_checkIndex_df160_8 : decode cJ0_checkIndex_df160 8 = .ok (.pop, 1) := by decide +kernel
theorem dJ0_checkIndex_df160_9 : decode cJ0_checkIndex_df160 9 = .ok (.return_, 1) := by decide +kernel
theorem dJ1_charAt_3b067_0 : decode cJ1_charAt_3b067 0 = .ok (.iload_n 1, 1) := by decide +kernel
theorem dJ1_charAt_3b067_1 : decode cJ1_charAt_3b067 1 = .ok (.aload_n 0, 1) := by decide +kernel
theorem dJ1_charAt_3b067_2 : decode cJ1_charAt_3b067 2 = .ok (.arraylength, 1) := by decide +kernel
theorem dJ1_charAt_3b067_3 : decode cJ1_charAt_3b067 3 = .ok (.invokestatic 9, 3) := by decide +kernel
theorem dJ1_charAt_3b067_6 : decode cJ1_charAt_3b067 6 = .ok (.aload_n 0, 1) := by decide +kernel
theorem dJ1_charAt_3b067_7 : decode cJ1_charAt_3b067 7 = .ok (.iload_n 1, 1) := by decide +kernel
theorem dJ1_charAt_3b067_8 : decode cJ1_charAt_3b067 8 = .ok (.baload, 1) := by decide +kernel
theorem dJ1_charAt_3b067_9 : decode cJ1_charAt_3b067 9 = .ok (.sipush 255, 3) := by decide +kernel
theorem dJ1_charAt_3b067_12 : decode cJ1_charAt_3b067 12 = .ok (.iand, 1) := by decide +kernel
theorem dJ1_charAt_3b067_13 : decode cJ1_charAt_3b067 13 = .ok (.i2c, 1) := by decide +kernel
theorem dJ1_charAt_3b067_14 : decode cJ1_charAt_3b067 14 = .ok (.ireturn, 1) := by decide +kernel
theorem dJ2_getChar_3b067_0 : decode cJ2_getChar_3b067 0 = .ok (.getstatic 44, 3) := by decide +kernel
theorem dJ2_getChar_3b067_3 : decode cJ2_getChar_3b067 3 = .ok (.ifCond .ne 25, 3) := by decide +kernel
theorem dJ2_getChar_3b067_6 : decode cJ2_getChar_3b067 6 = .ok (.iload_n 1, 1) := by decide +kernel
theorem dJ2_getChar_3b067_7 : decode cJ2_getChar_3b067 7 = .ok (.ifCond .lt 11, 3) := by decide +kernel
theorem dJ2_getChar_3b067_10 : decode cJ2_getChar_3b067 10 = .ok (.iload_n 1, 1) := by decide +kernel
theorem dJ2_getChar_3b067_11 : decode cJ2_getChar_3b067 11 = .ok (.aload_n 0, 1) := by decide +kernel
theorem dJ2_getChar_3b067_12 : decode cJ2_getChar_3b067 12 = .ok (.invokestatic 48, 3) := by decide +kernel
theorem dJ2_getChar_3b067_15 : decode cJ2_getChar_3b067 15 = .ok (.if_icmp .lt 13, 3) := by decide +kernel
theorem dJ2_getChar_3b067_18 : decode cJ2_getChar_3b067 18 = .ok (.new 52, 3) := by decide +kernel
theorem dJ2_getChar_3b067_21 : decode cJ2_getChar_3b067 21 = .ok (.dup, 1) := by decide +kernel
theorem dJ2_getChar_3b067_22 : decode cJ2_getChar_3b067 22 = .ok (.ldc 54, 2) := by decide +kernel
theorem dJ2_getChar_3b067_24 : decode cJ2_getChar_3b067 24 = .ok (.invokespecial 56, 3) := by decide +kernel
theorem dJ2_getChar_3b067_27 : decode cJ2_getChar_3b067 27 = .ok (.athrow, 1) := by decide +kernel
theorem dJ2_getChar_3b067_28 : decode cJ2_getChar_3b067 28 = .ok (.iload_n 1, 1) := by decide +kernel
theorem dJ2_getChar_3b067_29 : decode cJ2_getChar_3b067 29 = .ok (.iconst 1, 1) := by decide +kernel
theorem dJ2_getChar_3b067_30 : decode cJ2_getChar_3b067 30 = .ok (.ishl, 1) := by decide +kernel
theorem dJ2_getChar_3b067_31 : decode cJ2_getChar_3b067 31 = .ok (.istore_n 1, 1) := by decide +kernel
theorem dJ2_getChar_3b067_32 : decode cJ2_getChar_3b067 32 = .ok (.aload_n 0, 1) := by decide +kernel
theorem dJ2_getChar_3b067_33 : decode cJ2_getChar_3b067 33 = .ok (.iload_n 1, 1) := by decide +kernel
theorem dJ2_getChar_3b067_34 : decode cJ2_getChar_3b067 34 = .ok (.iinc 1 1, 3) := by decide +kernel
theorem dJ2_getChar_3b067_37 : decode cJ2_getChar_3b067 37 = .ok (.baload, 1) := by decide +kernel
theorem dJ2_getChar_3b067_38 : decode cJ2_getChar_3b067 38 = .ok (.sipush 255, 3) := by decide +kernel
theorem dJ2_getChar_3b067_41 : decode cJ2_getChar_3b067 41 = .ok (.iand, 1) := by decide +kernel
theorem dJ2_getChar_3b067_42 : decode cJ2_getChar_3b067 42 = .ok (.getstatic 59, 3) := by decide +kernel
theorem dJ2_getChar_3b067_45 : decode cJ2_getChar_3b067 45 = .ok (.ishl, 1) := by decide +kernel
theorem dJ2_getChar_3b067_46 : decode cJ2_getChar_3b067 46 = .ok (.aload_n 0, 1) := by decide +kernel
theorem dJ2_getChar_3b067_47 : decode cJ2_getChar_3b067 47 = .ok (.iload_n 1, 1) := by decide +kernel
theorem dJ2_getChar_3b067_48 : decode cJ2_getChar_3b067 48 = .ok (.baload, 1) := by decide +kernel
theorem dJ2_getChar_3b067_49 : decode cJ2_getChar_3b067 49 = .ok (.sipush 255, 3) := by decide +kernel
theorem dJ2_getChar_3b067_52 : decode cJ2_getChar_3b067 52 = .ok (.iand, 1) := by decide +kernel
theorem dJ2_getChar_3b067_53 : decode cJ2_getChar_3b067 53 = .ok (.getstatic 63, 3) := by decide +kernel
theorem dJ2_getChar_3b067_56 : decode cJ2_getChar_3b067 56 = .ok (.ishl, 1) := by decide +kernel
theorem dJ2_getChar_3b067_57 : decode cJ2_getChar_3b067 57 = .ok (.ior, 1) := by decide +kernel
theorem dJ2_getChar_3b067_58 : decode cJ2_getChar_3b067 58 = .ok (.i2c, 1) := by decide +kernel
theorem dJ2_getChar_3b067_59 : decode cJ2_getChar_3b067 59 = .ok (.ireturn, 1) := by decide +kernel
theorem dJ2_length_9d52b_0 : decode cJ2_length_9d52b 0 = .ok (.aload_n 0, 1) := by decide +kernel
theorem dJ2_length_9d52b_1 : decode cJ2_length_9d52b 1 = .ok (.arraylength, 1) := by decide +kernel
theorem dJ2_length_9d52b_2 : decode cJ2_length_9d52b 2 = .ok (.iconst 1, 1) := by decide +kernel
theorem dJ2_length_9d52b_3 : decode cJ2_length_9d52b 3 = .ok (.ishr, 1) := by decide +kernel
theorem dJ2_length_9d52b_4 : decode cJ2_length_9d52b 4 = .ok (.ireturn, 1) := by decide +kernel
theorem dJ2_charAt_3b067_0 : decode cJ2_charAt_3b067 0 = .ok (.iload_n 1, 1) := by decide +kernel
theorem dJ2_charAt_3b067_1 : decode cJ2_charAt_3b067 1 = .ok (.aload_n 0, 1) := by decide +kernel
theorem dJ2_charAt_3b067_2 : decode cJ2_charAt_3b067 2 = .ok (.invokestatic 67, 3) := by decide +kernel
theorem dJ2_charAt_3b067_5 : decode cJ2_charAt_3b067 5 = .ok (.aload_n 0, 1) := by decide +kernel
theorem dJ2_charAt_3b067_6 : decode cJ2_charAt_3b067 6 = .ok (.iload_n 1, 1) := by decide +kernel
theorem dJ2_charAt_3b067_7 : decode cJ2_charAt_3b067 7 = .ok (.invokestatic 71, 3) := by decide +kernel
theorem dJ2_charAt_3b067_10 : decode cJ2_charAt_3b067 10 = .ok (.ireturn, 1) := by decide +kernel
theorem dJ2_checkIndex_2214a_0 : decode cJ2_checkIndex_2214a 0 = .ok (.iload_n 0, 1) := by decide +kernel
theorem dJ2_checkIndex_2214a_1 : decode cJ2_checkIndex_2214a 1 = .ok (.aload_n 1, 1) := by decide +kernel
theorem dJ2_checkIndex_2214a_2 : decode cJ2_checkIndex_2214a 2 = .ok (.invokestatic 48, 3) := by decide +kernel
theorem dJ2_checkIndex_2214a_5 : decode cJ2_checkIndex_2214a 5 = .ok (.invokestatic 414, 3) := by decide +kernel
theorem dJ2_checkIndex_2214a_8 : decode cJ2_checkIndex_2214a 8 = .ok (.return_, 1) := by decide +kernel
theorem dJ3_checkIndex_8e157_0 : decode cJ3_checkIndex_8e157 0 = .ok (.iload_n 0, 1) := by decide +kernel
theorem dJ3_checkIndex_8e157_1 : decode cJ3_checkIndex_8e157 1 = .ok (.ifCond .lt 8, 3) := by decide +kernel
theorem dJ3_checkIndex_8e157_4 : decode cJ3_checkIndex_8e157 4 = .ok (.iload_n 0, 1) := by decide +kernel
theorem dJ3_checkIndex_8e157_5 : decode cJ3_checkIndex_8e157 5 = .ok (.iload_n 1, 1) := by decide +kernel
theorem dJ3_checkIndex_8e157_6 : decode cJ3_checkIndex_8e157 6 = .ok (.if_icmp .lt 10, 3) := by decide +kernel
theorem dJ3_checkIndex_8e157_9 : decode cJ3_checkIndex_8e157 9 = .ok (.aload_n 2, 1) := by decide +kernel
theorem dJ3_checkIndex_8e157_10 : decode cJ3_checkIndex_8e157 10 = .ok (.iload_n 0, 1) := by decide +kernel
theorem dJ3_checkIndex_8e157_11 : decode cJ3_checkIndex_8e157 11 = .ok (.iload_n 1, 1) := by decide +kernel
theorem dJ3_checkIndex_8e157_12 : decode cJ3_checkIndex_8e157 12 = .ok (.invokestatic 95, 3) := by decide +kernel
theorem dJ3_checkIndex_8e157_15 : decode cJ3_checkIndex_8e157 15 = .ok (.athrow, 1) := by decide +kernel
theorem dJ3_checkIndex_8e157_16 : decode cJ3_checkIndex_8e157 16 = .ok (.iload_n 0, 1) := by decide +kernel
theorem dJ3_checkIndex_8e157_17 : decode cJ3_checkIndex_8e157 17 = .ok (.ireturn, 1) := by decide +kernel
theorem dL_law_0 : decode cL_law 0 = .ok (.new 7, 3) := by decide +kernel
theorem dL_law_3 : decode cL_law 3 = .ok (.dup, 1) := by decide +kernel
theorem dL_law_4 : decode cL_law 4 = .ok (.invokespecial 9, 3) := by decide +kernel
theorem dL_law_7 : decode cL_law 7 = .ok (.astore_n 1, 1) := by decide +kernel
theorem dL_law_8 : decode cL_law 8 = .ok (.new 10, 3) := by decide +kernel
theorem dL_law_11 : decode cL_law 11 = .ok (.dup, 1) := by decide +kernel
theorem dL_law_12 : decode cL_law 12 = .ok (.invokespecial 12, 3) := by decide +kernel
theorem dL_law_15 : decode cL_law 15 = .ok (.astore_n 2, 1) := by decide +kernel
theorem dL_law_16 : decode cL_law 16 = .ok (.iconst 0, 1) := by decide +kernel
theorem dL_law_17 : decode cL_law 17 = .ok (.istore_n 3, 1) := by decide +kernel
theorem dL_law_18 : decode cL_law 18 = .ok (.iload_n 3, 1) := by decide +kernel
theorem dL_law_19 : decode cL_law 19 = .ok (.aload_n 0, 1) := by decide +kernel
theorem dL_law_20 : decode cL_law 20 = .ok (.arraylength, 1) := by decide +kernel
theorem dL_law_21 : decode cL_law 21 = .ok (.bipush 6, 2) := by decide +kernel
theorem dL_law_23 : decode cL_law 23 = .ok (.isub, 1) := by decide +kernel
theorem dL_law_24 : decode cL_law 24 = .ok (.if_icmp .gt 2343, 3) := by decide +kernel
theorem dL_law_27 : decode cL_law 27 = .ok (.aload_n 0, 1) := by decide +kernel
theorem dL_law_28 : decode cL_law 28 = .ok (.iload_n 3, 1) := by decide +kernel
theorem dL_law_29 : decode cL_law 29 = .ok (.iaload, 1) := by decide +kernel
theorem dL_law_30 : decode cL_law 30 = .ok (.bipush 63, 2) := by decide +kernel
theorem dL_law_32 : decode cL_law 32 = .ok (.iand, 1) := by decide +kernel
theorem dL_law_33 : decode cL_law 33 = .ok (.tableswitch 2328 0 58 #[251, 314, 337, 360, 383, 406, 439, 472, 505, 538, 571, 604, 637, 680, 733, 776, 819, 842, 895, 948, 981, 1024, 1057, 1100, 1153, 1176, 1209, 1262, 1305, 1338, 1381, 1414, 1447, 1480, 1513, 1546, 1589, 1622, 1655, 1678, 1711, 1754, 1787, 1810, 1823, 1846, 1869, 1912, 1945, 1968, 2021, 2044, 2077, 2110, 2143, 2176, 2219, 2272, 2295], 251) := by decide +kernel
theorem dL_law_284 : decode cL_law 284 = .ok (.aload_n 1, 1) := by decide +kernel
theorem dL_law_285 : decode cL_law 285 = .ok (.aload_n 0, 1) := by decide +kernel
theorem dL_law_286 : decode cL_law 286 = .ok (.iload_n 3, 1) := by decide +kernel
theorem dL_law_287 : decode cL_law 287 = .ok (.iconst 1, 1) := by decide +kernel
theorem dL_law_288 : decode cL_law 288 = .ok (.iadd, 1) := by decide +kernel
theorem dL_law_289 : decode cL_law 289 = .ok (.iaload, 1) := by decide +kernel
theorem dL_law_290 : decode cL_law 290 = .ok (.aload_n 0, 1) := by decide +kernel
theorem dL_law_291 : decode cL_law 291 = .ok (.iload_n 3, 1) := by decide +kernel
theorem dL_law_292 : decode cL_law 292 = .ok (.iconst 2, 1) := by decide +kernel
theorem dL_law_293 : decode cL_law 293 = .ok (.iadd, 1) := by decide +kernel
theorem dL_law_294 : decode cL_law 294 = .ok (.iaload, 1) := by decide +kernel
theorem dL_law_295 : decode cL_law 295 = .ok (.aload_n 0, 1) := by decide +kernel
theorem dL_law_296 : decode cL_law 296 = .ok (.iload_n 3, 1) := by decide +kernel
theorem dL_law_297 : decode cL_law 297 = .ok (.iconst 3, 1) := by decide +kernel
theorem dL_law_298 : decode cL_law 298 = .ok (.iadd, 1) := by decide +kernel
theorem dL_law_299 : decode cL_law 299 = .ok (.iaload, 1) := by decide +kernel
theorem dL_law_300 : decode cL_law 300 = .ok (.aload_n 0, 1) := by decide +kernel
theorem dL_law_301 : decode cL_law 301 = .ok (.iload_n 3, 1) := by decide +kernel
theorem dL_law_302 : decode cL_law 302 = .ok (.iconst 4, 1) := by decide +kernel
theorem dL_law_303 : decode cL_law 303 = .ok (.iadd, 1) := by decide +kernel
theorem dL_law_304 : decode cL_law 304 = .ok (.iaload, 1) := by decide +kernel
theorem dL_law_305 : decode cL_law 305 = .ok (.aload_n 0, 1) := by decide +kernel
theorem dL_law_306 : decode cL_law 306 = .ok (.iload_n 3, 1) := by decide +kernel
theorem dL_law_307 : decode cL_law 307 = .ok (.iconst 5, 1) := by decide +kernel
