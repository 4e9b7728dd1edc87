theorem dX11_init_0 : decode cX11_init 0 = .ok (.aload_n 0, 1) := by decide +kernel
theorem dX11_init_1 : decode cX11_init 1 = .ok (.invokespecial 1, 3) := by decide +kernel
theorem dX11_init_4 : decode cX11_init 4 = .ok (.aload_n 0, 1) := by decide +kernel
theorem dX11_init_5 : decode cX11_init 5 = .ok (.sipush 260, 3) := by decide +kernel
theorem dX11_init_8 : decode cX11_init 8 = .ok (.newarray .int, 2) := by decide +kernel
theorem dX11_init_10 : decode cX11_init 10 = .ok (.putfield 9, 3) := by decide +kernel
theorem dX11_init_13 : decode cX11_init 13 = .ok (.aload_n 0, 1) := by decide +kernel
theorem dX11_init_14 : decode cX11_init 14 = .ok (.iconst 0, 1) := by decide +kernel
theorem dX11_init_15 : decode cX11_init 15 = .ok (.putfield 13, 3) := by decide +kernel
theorem dX11_init_18 : decode cX11_init 18 = .ok (.aload_n 0, 1) := by decide +kernel
theorem dX11_init_19 : decode cX11_init 19 = .ok (.bipush 6, 2) := by decide +kernel
theorem dX11_init_21 : decode cX11_init 21 = .ok (.anewarray 17, 3) := by decide +kernel
theorem dX11_init_24 : decode cX11_init 24 = .ok (.putfield 19, 3) := by decide +kernel
theorem dX11_init_27 : decode cX11_init 27 = .ok (.aload_n 0, 1) := by decide +kernel
theorem dX11_init_28 : decode cX11_init 28 = .ok (.new 23, 3) := by decide +kernel
theorem dX11_init_31 : decode cX11_init 31 = .ok (.dup, 1) := by decide +kernel
theorem dX11_init_32 : decode cX11_init 32 = .ok (.invokespecial 25, 3) := by decide +kernel
theorem dX11_init_35 : decode cX11_init 35 = .ok (.putfield 26, 3) := by decide +kernel
theorem dX11_init_38 : decode cX11_init 38 = .ok (.aload_n 0, 1) := by decide +kernel
theorem dX11_init_39 : decode cX11_init 39 = .ok (.new 30, 3) := by decide +kernel
theorem dX11_init_42 : decode cX11_init 42 = .ok (.dup, 1) := by decide +kernel
theorem dX11_init_43 : decode cX11_init 43 = .ok (.invokespecial 32, 3) := by decide +kernel
theorem dX11_init_46 : decode cX11_init 46 = .ok (.putfield 33, 3) := by decide +kernel
theorem dX11_init_49 : decode cX11_init 49 = .ok (.aload_n 0, 1) := by decide +kernel
theorem dX11_init_50 : decode cX11_init 50 = .ok (.new 30, 3) := by decide +kernel
theorem dX11_init_53 : decode cX11_init 53 = .ok (.dup, 1) := by decide +kernel
theorem dX11_init_54 : decode cX11_init 54 = .ok (.invokespecial 32, 3) := by decide +kernel
theorem dX11_init_57 : decode cX11_init 57 = .ok (.putfield 37, 3) := by decide +kernel
theorem dX11_init_60 : decode cX11_init 60 = .ok (.aload_n 0, 1) := by decide +kernel
theorem dX11_init_61 : decode cX11_init 61 = .ok (.new 40, 3) := by decide +kernel
theorem dX11_init_64 : decode cX11_init 64 = .ok (.dup, 1) := by decide +kernel
theorem dX11_init_65 : decode cX11_init 65 = .ok (.invokespecial 42, 3) := by decide +kernel
theorem dX11_init_68 : decode cX11_init 68 = .ok (.putfield 43, 3) := by decide +kernel
theorem dX11_init_71 : decode cX11_init 71 = .ok (.aload_n 0, 1) := by decide +kernel
theorem dX11_init_72 : decode cX11_init 72 = .ok (.new 47, 3) := by decide +kernel
theorem dX11_init_75 : decode cX11_init 75 = .ok (.dup, 1) := by decide +kernel
theorem dX11_init_76 : decode cX11_init 76 = .ok (.invokespecial 49, 3) := by decide +kernel
theorem dX11_init_79 : decode cX11_init 79 = .ok (.putfield 50, 3) := by decide +kernel
theorem dX11_init_82 : decode cX11_init 82 = .ok (.aload_n 0, 1) := by decide +kernel
theorem dX11_init_83 : decode cX11_init 83 = .ok (.new 54, 3) := by decide +kernel
theorem dX11_init_86 : decode cX11_init 86 = .ok (.dup, 1) := by decide +kernel
theorem dX11_init_87 : decode cX11_init 87 = .ok (.invokespecial 56, 3) := by decide +kernel
theorem dX11_init_90 : decode cX11_init 90 = .ok (.putfield 57, 3) := by decide +kernel
theorem dX11_init_93 : decode cX11_init 93 = .ok (.aload_n 0, 1) := by decide +kernel
theorem dX11_init_94 : decode cX11_init 94 = .ok (.new 54, 3) := by decide +kernel
theorem dX11_init_97 : decode cX11_init 97 = .ok (.dup, 1) := by decide +kernel
theorem dX11_init_98 : decode cX11_init 98 = .ok (.invokespecial 56, 3) := by decide +kernel
theorem dX11_init_101 : decode cX11_init 101 = .ok (.putfield 61, 3) := by decide +kernel
theorem dX11_init_104 : decode cX11_init 104 = .ok (.aload_n 0, 1) := by decide +kernel
theorem dX11_init_105 : decode cX11_init 105 = .ok (.new 54, 3) := by decide +kernel
theorem dX11_init_108 : decode cX11_init 108 = .ok (.dup, 1) := by decide +kernel
theorem dX11_init_109 : decode cX11_init 109 = .ok (.invokespecial 56, 3) := by decide +kernel
theorem dX11_init_112 : decode cX11_init 112 = .ok (.putfield 64, 3) := by decide +kernel
theorem dX11_init_115 : decode cX11_init 115 = .ok (.aload_n 0, 1) := by decide +kernel
theorem dX11_init_116 : decode cX11_init 116 = .ok (.iconst 0, 1) := by decide +kernel
theorem dX11_init_117 : decode cX11_init 117 = .ok (.putfield 67, 3) := by decide +kernel
theorem dX11_init_120 : decode cX11_init 120 = .ok (.aload_n 0, 1) := by decide +kernel
theorem dX11_init_121 : decode cX11_init 121 = .ok (.new 71, 3) := by decide +kernel
theorem dX11_init_124 : decode cX11_init 124 = .ok (.dup, 1) := by decide +kernel
theorem dX11_init_125 : decode cX11_init 125 = .ok (.aload_n 0, 1) := by decide +kernel
theorem dX11_init_126 : decode cX11_init 126 = .ok (.getfield 50, 3) := by decide +kernel
theorem dX11_init_129 : decode cX11_init 129 = .ok (.invokespecial 73, 3) := by decide +kernel
theorem dX11_init_132 : decode cX11_init 132 = .ok (.putfield 76, 3) := by decide +kernel
theorem dX11_init_135 : decode cX11_init 135 = .ok (.aload_n 0, 1) := by decide +kernel
theorem dX11_init_136 : decode cX11_init 136 = .ok (.new 80, 3) := by decide +kernel
theorem dX11_init_139 : decode cX11_init 139 = .ok (.dup, 1) := by decide +kernel
theorem dX11_init_140 : decode cX11_init 140 = .ok (.aload_n 0, 1) := by decide +kernel
theorem dX11_init_141 : decode cX11_init 141 = .ok (.getfield 19, 3) := by decide +kernel
theorem dX11_init_144 : decode cX11_init 144 = .ok (.aload_n 0, 1) := by decide +kernel
theorem dX11_init_145 : decode cX11_init 145 = .ok (.getfield 50, 3) := by decide +kernel
theorem dX11_init_148 : decode cX11_init 148 = .ok (.aload_n 0, 1) := by decide +kernel
theorem dX11_init_149 : decode cX11_init 149 = .ok (.getfield 76, 3) := by decide +kernel
theorem dX11_init_152 : decode cX11_init 152 = .ok (.aload_n 0, 1) := by decide +kernel
theorem dX11_init_153 : decode cX11_init 153 = .ok (.getfield 57, 3) := by decide +kernel
theorem dX11_init_156 : decode cX11_init 156 = .ok (.aload_n 0, 1) := by decide +kernel
theorem dX11_init_157 : decode cX11_init 157 = .ok (.getfield 33, 3) := by decide +kernel
theorem dX11_init_160 : decode cX11_init 160 = .ok (.invokespecial 82, 3) := by decide +kernel
theorem dX11_init_163 : decode cX11_init 163 = .ok (.putfield 85, 3) := by decide +kernel
theorem dX11_init_166 : decode cX11_init 166 = .ok (.aload_n 0, 1) := by decide +kernel
theorem dX11_init_167 : decode cX11_init 167 = .ok (.new 89, 3) := by decide +kernel
theorem dX11_init_170 : decode cX11_init 170 = .ok (.dup, 1) := by decide +kernel
theorem dX11_init_171 : decode cX11_init 171 = .ok (.invokespecial 91, 3) := by decide +kernel
theorem dX11_init_174 : decode cX11_init 174 = .ok (.putfield 92, 3) := by decide +kernel
theorem dX11_init_177 : decode cX11_init 177 = .ok (.aload_n 0, 1) := by decide +kernel
theorem dX11_init_178 : decode cX11_init 178 = .ok (.new 96, 3) := by decide +kernel
theorem dX11_init_181 : decode cX11_init 181 = .ok (.dup, 1) := by decide +kernel
theorem dX11_init_182 : decode cX11_init 182 = .ok (.invokespecial 98, 3) := by decide +kernel
theorem dX11_init_185 : decode cX11_init 185 = .ok (.putfield 99, 3) := by decide +kernel
theorem dX11_init_188 : decode cX11_init 188 = .ok (.aload_n 0, 1) := by decide +kernel
theorem dX11_init_189 : decode cX11_init 189 = .ok (.new 103, 3) := by decide +kernel
theorem dX11_init_192 : decode cX11_init 192 = .ok (.dup, 1) := by decide +kernel
theorem dX11_init_193 : decode cX11_init 193 = .ok (.invokespecial 105, 3) := by decide +kernel
theorem dX11_init_196 : decode cX11_init 196 = .ok (.putfield 106, 3) := by decide +kernel
theorem dX11_init_199 : decode cX11_init 199 = .ok (.iconst 0, 1) := by decide +kernel
theorem dX11_init_200 : decode cX11_init 200 = .ok (.istore_n 1, 1) := by decide +kernel
theorem dX11_init_201 : decode cX11_init 201 = .ok (.iload_n 1, 1) := by decide +kernel
theorem dX11_init_202 : decode cX11_init 202 = .ok (.bipush 6, 2) := by decide +kernel
theorem dX11_init_204 : decode cX11_init 204 = .ok (.if_icmp .ge 22, 3) := by decide +kernel
theorem dX11_init_207 : decode cX11_init 207 = .ok (.aload_n 0, 1) := by decide +kernel
theorem dX11_init_208 : decode cX11_init 208 = .ok (.getfield 19, 3) := by decide +kernel
theorem dX11_init_211 : decode cX11_init 211 = .ok (.iload_n 1, 1) := by decide +kernel
theorem dX11_init_212 : decode cX11_init 212 = .ok (.new 17, 3) := by decide +kernel
theorem dX11_init_215 : decode cX11_init 215 = .ok (.dup, 1) := by decide +kernel
theorem dX11_init_216 : decode cX11_init 216 = .ok (.invokespecial 110, 3) := by decide +kernel
theorem dX11_init_219 : decode cX11_init 219 = .ok (.aastore, 1) := by decide +kernel
theorem dX11_init_220 : decode cX11_init 220 = .ok (.iinc 1 1, 3) := by decide +kernel
theorem dX11_init_223 : decode cX11_init 223 = .ok (.goto (-22), 3) := by decide +kernel
theorem dX11_init_226 : decode cX11_init 226 = .ok (.return_, 1) := by decide +kernel
theorem dX11_feed_0 : decode cX11_feed 0 = .ok (.aload_n 0, 1) := by decide +kernel
theorem dX11_feed_1 : decode cX11_feed 1 = .ok (.getfield 13, 3) := by decide +kernel
theorem dX11_feed_4 : decode cX11_feed 4 = .ok (.bipush 20, 2) := by decide +kernel
theorem dX11_feed_6 : decode cX11_feed 6 = .ok (.iadd, 1) := by decide +kernel
theorem dX11_feed_7 : decode cX11_feed 7 = .ok (.sipush 260, 3) := by decide +kernel
theorem dX11_feed_10 : decode cX11_feed 10 = .ok (.if_icmp .le 5, 3) := by decide +kernel
theorem dX11_feed_13 : decode cX11_feed 13 = .ok (.iconst (-1), 1) := by decide +kernel
theorem dX11_feed_14 : decode cX11_feed 14 = .ok (.ireturn, 1) := by decide +kernel
theorem dX11_feed_15 : decode cX11_feed 15 = .ok (.aload_n 0, 1) := by decide +kernel
theorem dX11_feed_16 : decode cX11_feed 16 = .ok (.iload_n 1, 1) := by decide +kernel
theorem dX11_feed_17 : decode cX11_feed 17 = .ok (.invokevirtual 111, 3) := by decide +kernel
theorem dX11_feed_20 : decode cX11_feed 20 = .ok (.aload_n 0, 1) := by decide +kernel
theorem dX11_feed_21 : decode cX11_feed 21 = .ok (.iload_n 2, 1) := by decide +kernel
theorem dX11_feed_22 : decode cX11_feed 22 = .ok (.invokevirtual 111, 3) := by decide +kernel
theorem dX11_feed_25 : decode cX11_feed 25 = .ok (.aload_n 0, 1) := by decide +kernel
theorem dX11_feed_26 : decode cX11_feed 26 = .ok (.iload_n 3, 1) := by decide +kernel
theorem dX11_feed_27 : decode cX11_feed 27 = .ok (.invokevirtual 111, 3) := by decide +kernel
theorem dX11_feed_30 : decode cX11_feed 30 = .ok (.aload_n 0, 1) := by decide +kernel
theorem dX11_feed_31 : decode cX11_feed 31 = .ok (.iload 4, 2) := by decide +kernel
theorem dX11_feed_33 : decode cX11_feed 33 = .ok (.invokevirtual 111, 3) := by decide +kernel
theorem dX11_feed_36 : decode cX11_feed 36 = .ok (.aload_n 0, 1) := by decide +kernel
theorem dX11_feed_37 : decode cX11_feed 37 = .ok (.iload 5, 2) := by decide +kernel
theorem dX11_feed_39 : decode cX11_feed 39 = .ok (.invokevirtual 111, 3) := by decide +kernel
theorem dX11_feed_42 : decode cX11_feed 42 = .ok (.aload_n 0, 1) := by decide +kernel
theorem dX11_feed_43 : decode cX11_feed 43 = .ok (.getfield 13, 3) := by decide +kernel
theorem dX11_feed_46 : decode cX11_feed 46 = .ok (.ireturn, 1) := by decide +kernel
theorem dX11_story_0 : decode cX11_story 0 = .ok (.aload_n 0, 1) := by decide +kernel
theorem dX11_story_1 : decode cX11_story 1 = .ok (.iload_n 1, 1) := by decide +kernel
theorem dX11_story_2 : decode cX11_story 2 = .ok (.invokevirtual 115, 3) := by decide +kernel
theorem dX11_story_5 : decode cX11_story 5 = .ok (.astore_n 3, 1) := by decide +kernel
theorem dX11_story_6 : decode cX11_story 6 = .ok (.aload_n 3, 1) := by decide +kernel
theorem dX11_story_7 : decode cX11_story 7 = .ok (.ifnull 14, 3) := by decide +kernel
theorem dX11_story_10 : decode cX11_story 10 = .ok (.aload_n 0, 1) := by decide +kernel
theorem dX11_story_11 : decode cX11_story 11 = .ok (.iload_n 2, 1) := by decide +kernel
theorem dX11_story_12 : decode cX11_story 12 = .ok (.iconst 1, 1) := by decide +kernel
theorem dX11_story_13 : decode cX11_story 13 = .ok (.bipush 80, 2) := by decide +kernel
theorem dX11_story_15 : decode cX11_story 15 = .ok (.invokevirtual 119, 3) := by decide +kernel
theorem dX11_story_18 : decode cX11_story 18 = .ok (.ifCond .ne 5, 3) := by decide +kernel
theorem dX11_story_21 : decode cX11_story 21 = .ok (.iconst (-1), 1) := by decide +kernel
theorem dX11_story_22 : decode cX11_story 22 = .ok (.ireturn, 1) := by decide +kernel
theorem dX11_story_23 : decode cX11_story 23 = .ok (.aload_n 0, 1) := by decide +kernel
theorem dX11_story_24 : decode cX11_story 24 = .ok (.iconst 0, 1) := by decide +kernel
theorem dX11_story_25 : decode cX11_story 25 = .ok (.putfield 13, 3) := by decide +kernel
theorem dX11_story_28 : decode cX11_story 28 = .ok (.aload_n 0, 1) := by decide +kernel
theorem dX11_story_29 : decode cX11_story 29 = .ok (.getfield 26, 3) := by decide +kernel
theorem dX11_story_32 : decode cX11_story 32 = .ok (.aload_n 0, 1) := by decide +kernel
theorem dX11_story_33 : decode cX11_story 33 = .ok (.getfield 9, 3) := by decide +kernel
theorem dX11_story_36 : decode cX11_story 36 = .ok (.iload_n 2, 1) := by decide +kernel
theorem dX11_story_37 : decode cX11_story 37 = .ok (.invokevirtual 123, 3) := by decide +kernel
theorem dX11_story_40 : decode cX11_story 40 = .ok (.istore 4, 2) := by decide +kernel
theorem dX11_story_42 : decode cX11_story 42 = .ok (.iload 4, 2) := by decide +kernel
theorem dX11_story_44 : decode cX11_story 44 = .ok (.ifCond .le 24, 3) := by decide +kernel
theorem dX11_story_47 : decode cX11_story 47 = .ok (.aload_n 3, 1) := by decide +kernel
theorem dX11_story_48 : decode cX11_story 48 = .ok (.aload_n 0, 1) := by decide +kernel
theorem dX11_story_49 : decode cX11_story 49 = .ok (.getfield 26, 3) := by decide +kernel
theorem dX11_story_52 : decode cX11_story 52 = .ok (.getfield 127, 3) := by decide +kernel
theorem dX11_story_55 : decode cX11_story 55 = .ok (.iload 4, 2) := by decide +kernel
theorem dX11_story_57 : decode cX11_story 57 = .ok (.invokevirtual 130, 3) := by decide +kernel
theorem dX11_story_60 : decode cX11_story 60 = .ok (.aload_n 0, 1) := by decide +kernel
theorem dX11_story_61 : decode cX11_story 61 = .ok (.getfield 57, 3) := by decide +kernel
theorem dX11_story_64 : decode cX11_story 64 = .ok (.iload_n 1, 1) := by decide +kernel
theorem dX11_story_65 : decode cX11_story 65 = .ok (.invokevirtual 134, 3) := by decide +kernel
theorem dX11_story_68 : decode cX11_story 68 = .ok (.iload 4, 2) := by decide +kernel
theorem dX11_story_70 : decode cX11_story 70 = .ok (.ireturn, 1) := by decide +kernel
theorem dX11_law_0 : decode cX11_law 0 = .ok (.aload_n 0, 1) := by decide +kernel
theorem dX11_law_1 : decode cX11_law 1 = .ok (.iload_n 1, 1) := by decide +kernel
theorem dX11_law_2 : decode cX11_law 2 = .ok (.iconst 1, 1) := by decide +kernel
theorem dX11_law_3 : decode cX11_law 3 = .ok (.sipush 240, 3) := by decide +kernel
theorem dX11_law_6 : decode cX11_law 6 = .ok (.invokevirtual 119, 3) := by decide +kernel
theorem dX11_law_9 : decode cX11_law 9 = .ok (.ifCond .ne 5, 3) := by decide +kernel
theorem dX11_law_12 : decode cX11_law 12 = .ok (.iconst (-1), 1) := by decide +kernel
theorem dX11_law_13 : decode cX11_law 13 = .ok (.ireturn, 1) := by decide +kernel
theorem dX11_law_14 : decode cX11_law 14 = .ok (.aload_n 0, 1) := by decide +kernel
theorem dX11_law_15 : decode cX11_law 15 = .ok (.iconst 0, 1) := by decide +kernel
theorem dX11_law_16 : decode cX11_law 16 = .ok (.putfield 13, 3) := by decide +kernel
theorem dX11_law_19 : decode cX11_law 19 = .ok (.aload_n 0, 1) := by decide +kernel
theorem dX11_law_20 : decode cX11_law 20 = .ok (.getfield 43, 3) := by decide +kernel
theorem dX11_law_23 : decode cX11_law 23 = .ok (.aload_n 0, 1) := by decide +kernel
theorem dX11_law_24 : decode cX11_law 24 = .ok (.getfield 9, 3) := by decide +kernel
theorem dX11_law_27 : decode cX11_law 27 = .ok (.iload_n 1, 1) := by decide +kernel
theorem dX11_law_28 : decode cX11_law 28 = .ok (.invokevirtual 137, 3) := by decide +kernel
theorem dX11_law_31 : decode cX11_law 31 = .ok (.istore_n 2, 1) := by decide +kernel
theorem dX11_law_32 : decode cX11_law 32 = .ok (.iload_n 2, 1) := by decide +kernel
theorem dX11_law_33 : decode cX11_law 33 = .ok (.ifCond .le 17, 3) := by decide +kernel
theorem dX11_law_36 : decode cX11_law 36 = .ok (.aload_n 0, 1) := by decide +kernel
theorem dX11_law_37 : decode cX11_law 37 = .ok (.getfield 33, 3) := by decide +kernel
theorem dX11_law_40 : decode cX11_law 40 = .ok (.aload_n 0, 1) := by decide +kernel
theorem dX11_law_41 : decode cX11_law 41 = .ok (.getfield 43, 3) := by decide +kernel
theorem dX11_law_44 : decode cX11_law 44 = .ok (.getfield 138, 3) := by decide +kernel
theorem dX11_law_47 : decode cX11_law 47 = .ok (.invokevirtual 141, 3) := by decide +kernel
theorem dX11_law_50 : decode cX11_law 50 = .ok (.iload_n 2, 1) := by decide +kernel
theorem dX11_law_51 : decode cX11_law 51 = .ok (.ireturn, 1) := by decide +kernel
theorem dX11_end_0 : decode cX11_end 0 = .ok (.iload_n 1, 1) := by decide +kernel
theorem dX11_end_1 : decode cX11_end 1 = .ok (.iconst 0, 1) := by decide +kernel
theorem dX11_end_2 : decode cX11_end 2 = .ok (.bipush 9, 2) := by decide +kernel
theorem dX11_end_4 : decode cX11_end 4 = .ok (.invokestatic 145, 3) := by decide +kernel
theorem dX11_end_7 : decode cX11_end 7 = .ok (.ifCond .eq 50, 3) := by decide +kernel
theorem dX11_end_10 : decode cX11_end 10 = .ok (.iload_n 2, 1) := by decide +kernel
theorem dX11_end_11 : decode cX11_end 11 = .ok (.iconst 1, 1) := by decide +kernel
theorem dX11_end_12 : decode cX11_end 12 = .ok (.sipush 1023, 3) := by decide +kernel
theorem dX11_end_15 : decode cX11_end 15 = .ok (.invokestatic 145, 3) := by decide +kernel
theorem dX11_end_18 : decode cX11_end 18 = .ok (.ifCond .eq 39, 3) := by decide +kernel
theorem dX11_end_21 : decode cX11_end 21 = .ok (.iload_n 3, 1) := by decide +kernel
theorem dX11_end_22 : decode cX11_end 22 = .ok (.iconst 0, 1) := by decide +kernel
theorem dX11_end_23 : decode cX11_end 23 = .ok (.bipush 99, 2) := by decide +kernel
theorem dX11_end_25 : decode cX11_end 25 = .ok (.invokestatic 145, 3) := by decide +kernel
theorem dX11_end_28 : decode cX11_end 28 = .ok (.ifCond .eq 29, 3) := by decide +kernel
theorem dX11_end_31 : decode cX11_end 31 = .ok (.iload 4, 2) := by decide +kernel
theorem dX11_end_33 : decode cX11_end 33 = .ok (.iconst 0, 1) := by decide +kernel
theorem dX11_end_34 : decode cX11_end 34 = .ok (.bipush 9, 2) := by decide +kernel
theorem dX11_end_36 : decode cX11_end 36 = .ok (.invokestatic 145, 3) := by decide +kernel
theorem dX11_end_39 : decode cX11_end 39 = .ok (.ifCond .eq 18, 3) := by decide +kernel
theorem dX11_end_42 : decode cX11_end 42 = .ok (.iload 5, 2) := by decide +kernel
theorem dX11_end_44 : decode cX11_end 44 = .ok (.iconst 1, 1) := by decide +kernel
theorem dX11_end_45 : decode cX11_end 45 = .ok (.bipush 30, 2) := by decide +kernel
theorem dX11_end_47 : decode cX11_end 47 = .ok (.invokestatic 145, 3) := by decide +kernel
theorem dX11_end_50 : decode cX11_end 50 = .ok (.ifCond .eq 7, 3) := by decide +kernel
theorem dX11_end_53 : decode cX11_end 53 = .ok (.iconst 1, 1) := by decide +kernel
theorem dX11_end_54 : decode cX11_end 54 = .ok (.goto 4, 3) := by decide +kernel
theorem dX11_end_57 : decode cX11_end 57 = .ok (.iconst 0, 1) := by decide +kernel
theorem dX11_end_58 : decode cX11_end 58 = .ok (.istore 6, 2) := by decide +kernel
theorem dX11_end_60 : decode cX11_end 60 = .ok (.iload 6, 2) := by decide +kernel
theorem dX11_end_62 : decode cX11_end 62 = .ok (.ifCond .eq 26, 3) := by decide +kernel
theorem dX11_end_65 : decode cX11_end 65 = .ok (.aload_n 0, 1) := by decide +kernel
theorem dX11_end_66 : decode cX11_end 66 = .ok (.getfield 50, 3) := by decide +kernel
theorem dX11_end_69 : decode cX11_end 69 = .ok (.iload_n 1, 1) := by decide +kernel
theorem dX11_end_70 : decode cX11_end 70 = .ok (.iload_n 2, 1) := by decide +kernel
theorem dX11_end_71 : decode cX11_end 71 = .ok (.iload_n 3, 1) := by decide +kernel
theorem dX11_end_72 : decode cX11_end 72 = .ok (.iload 5, 2) := by decide +kernel
theorem dX11_end_74 : decode cX11_end 74 = .ok (.invokevirtual 148, 3) := by decide +kernel
theorem dX11_end_77 : decode cX11_end 77 = .ok (.aload_n 0, 1) := by decide +kernel
theorem dX11_end_78 : decode cX11_end 78 = .ok (.getfield 57, 3) := by decide +kernel
theorem dX11_end_81 : decode cX11_end 81 = .ok (.getfield 151, 3) := by decide +kernel
theorem dX11_end_84 : decode cX11_end 84 = .ok (.iload_n 1, 1) := by decide +kernel
theorem dX11_end_85 : decode cX11_end 85 = .ok (.iload 4, 2) := by decide +kernel
theorem dX11_end_87 : decode cX11_end 87 = .ok (.iastore, 1) := by decide +kernel
theorem dX11_end_88 : decode cX11_end 88 = .ok (.iload 6, 2) := by decide +kernel
theorem dX11_end_90 : decode cX11_end 90 = .ok (.ireturn, 1) := by decide +kernel
theorem dX11_teller_0 : decode cX11_teller 0 = .ok (.iload_n 1, 1) := by decide +kernel
theorem dX11_teller_1 : decode cX11_teller 1 = .ok (.iconst 0, 1) := by decide +kernel
theorem dX11_teller_2 : decode cX11_teller 2 = .ok (.iconst 3, 1) := by decide +kernel
theorem dX11_teller_3 : decode cX11_teller 3 = .ok (.invokestatic 145, 3) := by decide +kernel
theorem dX11_teller_6 : decode cX11_teller 6 = .ok (.ifCond .eq 26, 3) := by decide +kernel
theorem dX11_teller_9 : decode cX11_teller 9 = .ok (.aload_n 0, 1) := by decide +kernel
theorem dX11_teller_10 : decode cX11_teller 10 = .ok (.iload_n 2, 1) := by decide +kernel
theorem dX11_teller_11 : decode cX11_teller 11 = .ok (.invokevirtual 154, 3) := by decide +kernel
theorem dX11_teller_14 : decode cX11_teller 14 = .ok (.ifnull 18, 3) := by decide +kernel
theorem dX11_teller_17 : decode cX11_teller 17 = .ok (.iload_n 3, 1) := by decide +kernel
theorem dX11_teller_18 : decode cX11_teller 18 = .ok (.iconst 0, 1) := by decide +kernel
theorem dX11_teller_19 : decode cX11_teller 19 = .ok (.sipush 9999, 3) := by decide +kernel
theorem dX11_teller_22 : decode cX11_teller 22 = .ok (.invokestatic 145, 3) := by decide +kernel
theorem dX11_teller_25 : decode cX11_teller 25 = .ok (.ifCond .eq 7, 3) := by decide +kernel
theorem dX11_teller_28 : decode cX11_teller 28 = .ok (.iconst 1, 1) := by decide +kernel
theorem dX11_teller_29 : decode cX11_teller 29 = .ok (.goto 4, 3) := by decide +kernel
theorem dX11_teller_32 : decode cX11_teller 32 = .ok (.iconst 0, 1) := by decide +kernel
theorem dX11_teller_33 : decode cX11_teller 33 = .ok (.istore 4, 2) := by decide +kernel
theorem dX11_teller_35 : decode cX11_teller 35 = .ok (.iload 4, 2) := by decide +kernel
theorem dX11_teller_37 : decode cX11_teller 37 = .ok (.ifCond .eq 13, 3) := by decide +kernel
theorem dX11_teller_40 : decode cX11_teller 40 = .ok (.aload_n 0, 1) := by decide +kernel
theorem dX11_teller_41 : decode cX11_teller 41 = .ok (.getfield 57, 3) := by decide +kernel
theorem dX11_teller_44 : decode cX11_teller 44 = .ok (.iload_n 1, 1) := by decide +kernel
theorem dX11_teller_45 : decode cX11_teller 45 = .ok (.iload_n 2, 1) := by decide +kernel
theorem dX11_teller_46 : decode cX11_teller 46 = .ok (.iload_n 3, 1) := by decide +kernel
theorem dX11_teller_47 : decode cX11_teller 47 = .ok (.invokevirtual 157, 3) := by decide +kernel
theorem dX11_teller_50 : decode cX11_teller 50 = .ok (.iload 4, 2) := by decide +kernel
theorem dX11_teller_52 : decode cX11_teller 52 = .ok (.ireturn, 1) := by decide +kernel
theorem dX11_listener_0 : decode cX11_listener 0 = .ok (.iload_n 1, 1) := by decide +kernel
theorem dX11_listener_1 : decode cX11_listener 1 = .ok (.iconst 0, 1) := by decide +kernel
theorem dX11_listener_2 : decode cX11_listener 2 = .ok (.bipush 9, 2) := by decide +kernel
theorem dX11_listener_4 : decode cX11_listener 4 = .ok (.invokestatic 145, 3) := by decide +kernel
theorem dX11_listener_7 : decode cX11_listener 7 = .ok (.ifCond .eq 31, 3) := by decide +kernel
theorem dX11_listener_10 : decode cX11_listener 10 = .ok (.aload_n 0, 1) := by decide +kernel
theorem dX11_listener_11 : decode cX11_listener 11 = .ok (.getfield 57, 3) := by decide +kernel
theorem dX11_listener_14 : decode cX11_listener 14 = .ok (.getfield 161, 3) := by decide +kernel
theorem dX11_listener_17 : decode cX11_listener 17 = .ok (.iload_n 2, 1) := by decide +kernel
theorem dX11_listener_18 : decode cX11_listener 18 = .ok (.invokestatic 164, 3) := by decide +kernel
theorem dX11_listener_21 : decode cX11_listener 21 = .ok (.ifCond .eq 17, 3) := by decide +kernel
theorem dX11_listener_24 : decode cX11_listener 24 = .ok (.iload_n 3, 1) := by decide +kernel
theorem dX11_listener_25 : decode cX11_listener 25 = .ok (.iconst 0, 1) := by decide +kernel
theorem dX11_listener_26 : decode cX11_listener 26 = .ok (.bipush 99, 2) := by decide +kernel
theorem dX11_listener_28 : decode cX11_listener 28 = .ok (.invokestatic 145, 3) := by decide +kernel
theorem dX11_listener_31 : decode cX11_listener 31 = .ok (.ifCond .eq 7, 3) := by decide +kernel
theorem dX11_listener_34 : decode cX11_listener 34 = .ok (.iconst 1, 1) := by decide +kernel
theorem dX11_listener_35 : decode cX11_listener 35 = .ok (.goto 4, 3) := by decide +kernel
theorem dX11_listener_38 : decode cX11_listener 38 = .ok (.iconst 0, 1) := by decide +kernel
theorem dX11_listener_39 : decode cX11_listener 39 = .ok (.istore 4, 2) := by decide +kernel
theorem dX11_listener_41 : decode cX11_listener 41 = .ok (.iload 4, 2) := by decide +kernel
theorem dX11_listener_43 : decode cX11_listener 43 = .ok (.ifCond .eq 13, 3) := by decide +kernel
theorem dX11_listener_46 : decode cX11_listener 46 = .ok (.aload_n 0, 1) := by decide +kernel
theorem dX11_listener_47 : decode cX11_listener 47 = .ok (.getfield 57, 3) := by decide +kernel
theorem dX11_listener_50 : decode cX11_listener 50 = .ok (.iload_n 1, 1) := by decide +kernel
theorem dX11_listener_51 : decode cX11_listener 51 = .ok (.iload_n 2, 1) := by decide +kernel
theorem dX11_listener_52 : decode cX11_listener 52 = .ok (.iload_n 3, 1) := by decide +kernel
theorem dX11_listener_53 : decode cX11_listener 53 = .ok (.invokevirtual 168, 3) := by decide +kernel
theorem dX11_listener_56 : decode cX11_listener 56 = .ok (.iload 4, 2) := by decide +kernel
theorem dX11_listener_58 : decode cX11_listener 58 = .ok (.ireturn, 1) := by decide +kernel
theorem dX11_evenings_0 : decode cX11_evenings 0 = .ok (.iload_n 1, 1) := by decide +kernel
theorem dX11_evenings_1 : decode cX11_evenings 1 = .ok (.iconst 1, 1) := by decide +kernel
theorem dX11_evenings_2 : decode cX11_evenings 2 = .ok (.bipush 60, 2) := by decide +kernel
theorem dX11_evenings_4 : decode cX11_evenings 4 = .ok (.invokestatic 145, 3) := by decide +kernel
theorem dX11_evenings_7 : decode cX11_evenings 7 = .ok (.ifCond .ne 5, 3) := by decide +kernel
theorem dX11_evenings_10 : decode cX11_evenings 10 = .ok (.iconst (-1), 1) := by decide +kernel
theorem dX11_evenings_11 : decode cX11_evenings 11 = .ok (.ireturn, 1) := by decide +kernel
theorem dX11_evenings_12 : decode cX11_evenings 12 = .ok (.aload_n 0, 1) := by decide +kernel
theorem dX11_evenings_13 : decode cX11_evenings 13 = .ok (.getfield 85, 3) := by decide +kernel
theorem dX11_evenings_16 : decode cX11_evenings 16 = .ok (.aload_n 0, 1) := by decide +kernel
theorem dX11_evenings_17 : decode cX11_evenings 17 = .ok (.getfield 57, 3) := by decide +kernel
theorem dX11_evenings_20 : decode cX11_evenings 20 = .ok (.aload_n 0, 1) := by decide +kernel
theorem dX11_evenings_21 : decode cX11_evenings 21 = .ok (.getfield 33, 3) := by decide +kernel
theorem dX11_evenings_24 : decode cX11_evenings 24 = .ok (.iload_n 1, 1) := by decide +kernel
theorem dX11_evenings_25 : decode cX11_evenings 25 = .ok (.invokevirtual 171, 3) := by decide +kernel
theorem dX11_evenings_28 : decode cX11_evenings 28 = .ok (.aload_n 0, 1) := by decide +kernel
theorem dX11_evenings_29 : decode cX11_evenings 29 = .ok (.getfield 85, 3) := by decide +kernel
theorem dX11_evenings_32 : decode cX11_evenings 32 = .ok (.getfield 175, 3) := by decide +kernel
theorem dX11_evenings_35 : decode cX11_evenings 35 = .ok (.ireturn, 1) := by decide +kernel
theorem dX11_tried_0 : decode cX11_tried 0 = .ok (.iload_n 1, 1) := by decide +kernel
theorem dX11_tried_1 : decode cX11_tried 1 = .ok (.iconst 1, 1) := by decide +kernel
theorem dX11_tried_2 : decode cX11_tried 2 = .ok (.bipush 60, 2) := by decide +kernel
theorem dX11_tried_4 : decode cX11_tried 4 = .ok (.invokestatic 145, 3) := by decide +kernel
theorem dX11_tried_7 : decode cX11_tried 7 = .ok (.ifCond .eq 11, 3) := by decide +kernel
theorem dX11_tried_10 : decode cX11_tried 10 = .ok (.aload_n 0, 1) := by decide +kernel
theorem dX11_tried_11 : decode cX11_tried 11 = .ok (.iload_n 2, 1) := by decide +kernel
theorem dX11_tried_12 : decode cX11_tried 12 = .ok (.invokevirtual 178, 3) := by decide +kernel
theorem dX11_tried_15 : decode cX11_tried 15 = .ok (.ifCond .ne 5, 3) := by decide +kernel
theorem dX11_tried_18 : decode cX11_tried 18 = .ok (.iconst (-1), 1) := by decide +kernel
theorem dX11_tried_19 : decode cX11_tried 19 = .ok (.ireturn, 1) := by decide +kernel
theorem dX11_tried_20 : decode cX11_tried 20 = .ok (.aload_n 0, 1) := by decide +kernel
theorem dX11_tried_21 : decode cX11_tried 21 = .ok (.getfield 64, 3) := by decide +kernel
theorem dX11_tried_24 : decode cX11_tried 24 = .ok (.aload_n 0, 1) := by decide +kernel
theorem dX11_tried_25 : decode cX11_tried 25 = .ok (.getfield 57, 3) := by decide +kernel
theorem dX11_tried_28 : decode cX11_tried 28 = .ok (.invokevirtual 182, 3) := by decide +kernel
theorem dX11_tried_31 : decode cX11_tried 31 = .ok (.aload_n 0, 1) := by decide +kernel
theorem dX11_tried_32 : decode cX11_tried 32 = .ok (.getfield 85, 3) := by decide +kernel
theorem dX11_tried_35 : decode cX11_tried 35 = .ok (.aload_n 0, 1) := by decide +kernel
theorem dX11_tried_36 : decode cX11_tried 36 = .ok (.getfield 64, 3) := by decide +kernel
theorem dX11_tried_39 : decode cX11_tried 39 = .ok (.aload_n 0, 1) := by decide +kernel
theorem dX11_tried_40 : decode cX11_tried 40 = .ok (.getfield 33, 3) := by decide +kernel
theorem dX11_tried_43 : decode cX11_tried 43 = .ok (.iload_n 1, 1) := by decide +kernel
theorem dX11_tried_44 : decode cX11_tried 44 = .ok (.invokevirtual 171, 3) := by decide +kernel
theorem dX11_tried_47 : decode cX11_tried 47 = .ok (.aload_n 0, 1) := by decide +kernel
theorem dX11_tried_48 : decode cX11_tried 48 = .ok (.getfield 85, 3) := by decide +kernel
theorem dX11_tried_51 : decode cX11_tried 51 = .ok (.iload_n 2, 1) := by decide +kernel
theorem dX11_tried_52 : decode cX11_tried 52 = .ok (.invokevirtual 185, 3) := by decide +kernel
theorem dX11_tried_55 : decode cX11_tried 55 = .ok (.ireturn, 1) := by decide +kernel
theorem dX11_other_0 : decode cX11_other 0 = .ok (.iload_n 1, 1) := by decide +kernel
theorem dX11_other_1 : decode cX11_other 1 = .ok (.iconst 1, 1) := by decide +kernel
theorem dX11_other_2 : decode cX11_other 2 = .ok (.bipush 60, 2) := by decide +kernel
theorem dX11_other_4 : decode cX11_other 4 = .ok (.invokestatic 145, 3) := by decide +kernel
theorem dX11_other_7 : decode cX11_other 7 = .ok (.ifCond .eq 11, 3) := by decide +kernel
theorem dX11_other_10 : decode cX11_other 10 = .ok (.aload_n 0, 1) := by decide +kernel
theorem dX11_other_11 : decode cX11_other 11 = .ok (.iload_n 2, 1) := by decide +kernel
theorem dX11_other_12 : decode cX11_other 12 = .ok (.invokevirtual 178, 3) := by decide +kernel
theorem dX11_other_15 : decode cX11_other 15 = .ok (.ifCond .ne 5, 3) := by decide +kernel
theorem dX11_other_18 : decode cX11_other 18 = .ok (.iconst (-1), 1) := by decide +kernel
theorem dX11_other_19 : decode cX11_other 19 = .ok (.ireturn, 1) := by decide +kernel
theorem dX11_other_20 : decode cX11_other 20 = .ok (.aload_n 0, 1) := by decide +kernel
theorem dX11_other_21 : decode cX11_other 21 = .ok (.getfield 64, 3) := by decide +kernel
theorem dX11_other_24 : decode cX11_other 24 = .ok (.aload_n 0, 1) := by decide +kernel
theorem dX11_other_25 : decode cX11_other 25 = .ok (.getfield 57, 3) := by decide +kernel
theorem dX11_other_28 : decode cX11_other 28 = .ok (.invokevirtual 182, 3) := by decide +kernel
theorem dX11_other_31 : decode cX11_other 31 = .ok (.aload_n 0, 1) := by decide +kernel
theorem dX11_other_32 : decode cX11_other 32 = .ok (.getfield 85, 3) := by decide +kernel
theorem dX11_other_35 : decode cX11_other 35 = .ok (.aload_n 0, 1) := by decide +kernel
theorem dX11_other_36 : decode cX11_other 36 = .ok (.getfield 64, 3) := by decide +kernel
theorem dX11_other_39 : decode cX11_other 39 = .ok (.aload_n 0, 1) := by decide +kernel
theorem dX11_other_40 : decode cX11_other 40 = .ok (.getfield 37, 3) := by decide +kernel
theorem dX11_other_43 : decode cX11_other 43 = .ok (.iload_n 1, 1) := by decide +kernel
theorem dX11_other_44 : decode cX11_other 44 = .ok (.invokevirtual 171, 3) := by decide +kernel
theorem dX11_other_47 : decode cX11_other 47 = .ok (.aload_n 0, 1) := by decide +kernel
theorem dX11_other_48 : decode cX11_other 48 = .ok (.getfield 85, 3) := by decide +kernel
theorem dX11_other_51 : decode cX11_other 51 = .ok (.iload_n 2, 1) := by decide +kernel
theorem dX11_other_52 : decode cX11_other 52 = .ok (.invokevirtual 185, 3) := by decide +kernel
theorem dX11_other_55 : decode cX11_other 55 = .ok (.ireturn, 1) := by decide +kernel
theorem dX11_copy_0 : decode cX11_copy 0 = .ok (.aload_n 0, 1) := by decide +kernel
theorem dX11_copy_1 : decode cX11_copy 1 = .ok (.getfield 37, 3) := by decide +kernel
theorem dX11_copy_4 : decode cX11_copy 4 = .ok (.aload_n 0, 1) := by decide +kernel
theorem dX11_copy_5 : decode cX11_copy 5 = .ok (.getfield 33, 3) := by decide +kernel
theorem dX11_copy_8 : decode cX11_copy 8 = .ok (.invokevirtual 141, 3) := by decide +kernel
theorem dX11_copy_11 : decode cX11_copy 11 = .ok (.aload_n 0, 1) := by decide +kernel
theorem dX11_copy_12 : decode cX11_copy 12 = .ok (.getfield 37, 3) := by decide +kernel
theorem dX11_copy_15 : decode cX11_copy 15 = .ok (.getfield 189, 3) := by decide +kernel
theorem dX11_copy_18 : decode cX11_copy 18 = .ok (.ireturn, 1) := by decide +kernel
theorem dX11_first_0 : decode cX11_first 0 = .ok (.iload_n 1, 1) := by decide +kernel
theorem dX11_first_1 : decode cX11_first 1 = .ok (.iconst 1, 1) := by decide +kernel
theorem dX11_first_2 : decode cX11_first 2 = .ok (.bipush 60, 2) := by decide +kernel
theorem dX11_first_4 : decode cX11_first 4 = .ok (.invokestatic 145, 3) := by decide +kernel
theorem dX11_first_7 : decode cX11_first 7 = .ok (.ifCond .eq 12, 3) := by decide +kernel
theorem dX11_first_10 : decode cX11_first 10 = .ok (.iload_n 2, 1) := by decide +kernel
theorem dX11_first_11 : decode cX11_first 11 = .ok (.iconst 0, 1) := by decide +kernel
theorem dX11_first_12 : decode cX11_first 12 = .ok (.iconst 1, 1) := by decide +kernel
theorem dX11_first_13 : decode cX11_first 13 = .ok (.invokestatic 145, 3) := by decide +kernel
theorem dX11_first_16 : decode cX11_first 16 = .ok (.ifCond .ne 5, 3) := by decide +kernel
theorem dX11_first_19 : decode cX11_first 19 = .ok (.iconst (-1), 1) := by decide +kernel
theorem dX11_first_20 : decode cX11_first 20 = .ok (.ireturn, 1) := by decide +kernel
theorem dX11_first_21 : decode cX11_first 21 = .ok (.aload_n 0, 1) := by decide +kernel
theorem dX11_first_22 : decode cX11_first 22 = .ok (.getfield 64, 3) := by decide +kernel
theorem dX11_first_25 : decode cX11_first 25 = .ok (.aload_n 0, 1) := by decide +kernel
theorem dX11_first_26 : decode cX11_first 26 = .ok (.getfield 57, 3) := by decide +kernel
theorem dX11_first_29 : decode cX11_first 29 = .ok (.invokevirtual 182, 3) := by decide +kernel
theorem dX11_first_32 : decode cX11_first 32 = .ok (.aload_n 0, 1) := by decide +kernel
theorem dX11_first_33 : decode cX11_first 33 = .ok (.getfield 85, 3) := by decide +kernel
theorem dX11_first_36 : decode cX11_first 36 = .ok (.aload_n 0, 1) := by decide +kernel
theorem dX11_first_37 : decode cX11_first 37 = .ok (.getfield 64, 3) := by decide +kernel
theorem dX11_first_40 : decode cX11_first 40 = .ok (.aload_n 0, 1) := by decide +kernel
theorem dX11_first_41 : decode cX11_first 41 = .ok (.getfield 33, 3) := by decide +kernel
theorem dX11_first_44 : decode cX11_first 44 = .ok (.iload_n 1, 1) := by decide +kernel
theorem dX11_first_45 : decode cX11_first 45 = .ok (.invokevirtual 171, 3) := by decide +kernel
theorem dX11_first_48 : decode cX11_first 48 = .ok (.iload_n 2, 1) := by decide +kernel
theorem dX11_first_49 : decode cX11_first 49 = .ok (.ifCond .ne 13, 3) := by decide +kernel
theorem dX11_first_52 : decode cX11_first 52 = .ok (.aload_n 0, 1) := by decide +kernel
theorem dX11_first_53 : decode cX11_first 53 = .ok (.getfield 85, 3) := by decide +kernel
theorem dX11_first_56 : decode cX11_first 56 = .ok (.getfield 192, 3) := by decide +kernel
theorem dX11_first_59 : decode cX11_first 59 = .ok (.goto 10, 3) := by decide +kernel
theorem dX11_first_62 : decode cX11_first 62 = .ok (.aload_n 0, 1) := by decide +kernel
theorem dX11_first_63 : decode cX11_first 63 = .ok (.getfield 85, 3) := by decide +kernel
theorem dX11_first_66 : decode cX11_first 66 = .ok (.getfield 195, 3) := by decide +kernel
theorem dX11_first_69 : decode cX11_first 69 = .ok (.ireturn, 1) := by decide +kernel
theorem dX11_storyIs_0 : decode cX11_storyIs 0 = .ok (.aload_n 0, 1) := by decide +kernel
theorem dX11_storyIs_1 : decode cX11_storyIs 1 = .ok (.iload_n 1, 1) := by decide +kernel
theorem dX11_storyIs_2 : decode cX11_storyIs 2 = .ok (.invokevirtual 154, 3) := by decide +kernel
theorem dX11_storyIs_5 : decode cX11_storyIs 5 = .ok (.astore_n 3, 1) := by decide +kernel
theorem dX11_storyIs_6 : decode cX11_storyIs 6 = .ok (.aload_n 3, 1) := by decide +kernel
theorem dX11_storyIs_7 : decode cX11_storyIs 7 = .ok (.ifnonnull 5, 3) := by decide +kernel
theorem dX11_storyIs_10 : decode cX11_storyIs 10 = .ok (.iconst (-1), 1) := by decide +kernel
theorem dX11_storyIs_11 : decode cX11_storyIs 11 = .ok (.ireturn, 1) := by decide +kernel
theorem dX11_storyIs_12 : decode cX11_storyIs 12 = .ok (.iload_n 2, 1) := by decide +kernel
theorem dX11_storyIs_13 : decode cX11_storyIs 13 = .ok (.tableswitch 61 0 4 #[35, 40, 45, 50, 55], 35) := by decide +kernel
theorem dX11_storyIs_48 : decode cX11_storyIs 48 = .ok (.aload_n 3, 1) := by decide +kernel
theorem dX11_storyIs_49 : decode cX11_storyIs 49 = .ok (.getfield 198, 3) := by decide +kernel
theorem dX11_storyIs_52 : decode cX11_storyIs 52 = .ok (.ireturn, 1) := by decide +kernel
theorem dX11_storyIs_53 : decode cX11_storyIs 53 = .ok (.aload_n 3, 1) := by decide +kernel
theorem dX11_storyIs_54 : decode cX11_storyIs 54 = .ok (.getfield 201, 3) := by decide +kernel
theorem dX11_storyIs_57 : decode cX11_storyIs 57 = .ok (.ireturn, 1) := by decide +kernel
theorem dX11_storyIs_58 : decode cX11_storyIs 58 = .ok (.aload_n 3, 1) := by decide +kernel
theorem dX11_storyIs_59 : decode cX11_storyIs 59 = .ok (.getfield 204, 3) := by decide +kernel
theorem dX11_storyIs_62 : decode cX11_storyIs 62 = .ok (.ireturn, 1) := by decide +kernel
theorem dX11_storyIs_63 : decode cX11_storyIs 63 = .ok (.aload_n 3, 1) := by decide +kernel
theorem dX11_storyIs_64 : decode cX11_storyIs 64 = .ok (.getfield 207, 3) := by decide +kernel
theorem dX11_storyIs_67 : decode cX11_storyIs 67 = .ok (.ireturn, 1) := by decide +kernel
theorem dX11_storyIs_68 : decode cX11_storyIs 68 = .ok (.aload_n 0, 1) := by decide +kernel
theorem dX11_storyIs_69 : decode cX11_storyIs 69 = .ok (.iload_n 1, 1) := by decide +kernel
theorem dX11_storyIs_70 : decode cX11_storyIs 70 = .ok (.invokevirtual 210, 3) := by decide +kernel
theorem dX11_storyIs_73 : decode cX11_storyIs 73 = .ok (.ireturn, 1) := by decide +kernel
theorem dX11_storyIs_74 : decode cX11_storyIs 74 = .ok (.iconst (-1), 1) := by decide +kernel
theorem dX11_storyIs_75 : decode cX11_storyIs 75 = .ok (.ireturn, 1) := by decide +kernel
theorem dX11_open_0 : decode cX11_open 0 = .ok (.aload_n 0, 1) := by decide +kernel
theorem dX11_open_1 : decode cX11_open 1 = .ok (.iload_n 1, 1) := by decide +kernel
theorem dX11_open_2 : decode cX11_open 2 = .ok (.invokevirtual 154, 3) := by decide +kernel
theorem dX11_open_5 : decode cX11_open 5 = .ok (.astore 4, 2) := by decide +kernel
theorem dX11_open_7 : decode cX11_open 7 = .ok (.aload 4, 2) := by decide +kernel
theorem dX11_open_9 : decode cX11_open 9 = .ok (.ifnull 27, 3) := by decide +kernel
theorem dX11_open_12 : decode cX11_open 12 = .ok (.iload_n 2, 1) := by decide +kernel
theorem dX11_open_13 : decode cX11_open 13 = .ok (.iconst 0, 1) := by decide +kernel
theorem dX11_open_14 : decode cX11_open 14 = .ok (.aload 4, 2) := by decide +kernel
theorem dX11_open_16 : decode cX11_open 16 = .ok (.getfield 198, 3) := by decide +kernel
theorem dX11_open_19 : decode cX11_open 19 = .ok (.invokestatic 145, 3) := by decide +kernel
theorem dX11_open_22 : decode cX11_open 22 = .ok (.ifCond .eq 14, 3) := by decide +kernel
theorem dX11_open_25 : decode cX11_open 25 = .ok (.iload_n 3, 1) := by decide +kernel
theorem dX11_open_26 : decode cX11_open 26 = .ok (.iconst 0, 1) := by decide +kernel
theorem dX11_open_27 : decode cX11_open 27 = .ok (.sipush 1023, 3) := by decide +kernel
theorem dX11_open_30 : decode cX11_open 30 = .ok (.invokestatic 145, 3) := by decide +kernel
theorem dX11_open_33 : decode cX11_open 33 = .ok (.ifCond .ne 5, 3) := by decide +kernel
theorem dX11_open_36 : decode cX11_open 36 = .ok (.iconst (-1), 1) := by decide +kernel
theorem dX11_open_37 : decode cX11_open 37 = .ok (.ireturn, 1) := by decide +kernel
theorem dX11_open_38 : decode cX11_open 38 = .ok (.aload 4, 2) := by decide +kernel
theorem dX11_open_40 : decode cX11_open 40 = .ok (.iconst 0, 1) := by decide +kernel
theorem dX11_open_41 : decode cX11_open 41 = .ok (.iload_n 2, 1) := by decide +kernel
theorem dX11_open_42 : decode cX11_open 42 = .ok (.iload_n 3, 1) := by decide +kernel
theorem dX11_open_43 : decode cX11_open 43 = .ok (.invokevirtual 213, 3) := by decide +kernel
theorem dX11_open_46 : decode cX11_open 46 = .ok (.ireturn, 1) := by decide +kernel
theorem dX11_endIs_0 : decode cX11_endIs 0 = .ok (.aload_n 0, 1) := by decide +kernel
theorem dX11_endIs_1 : decode cX11_endIs 1 = .ok (.getfield 50, 3) := by decide +kernel
theorem dX11_endIs_4 : decode cX11_endIs 4 = .ok (.iload_n 1, 1) := by decide +kernel
theorem dX11_endIs_5 : decode cX11_endIs 5 = .ok (.invokevirtual 217, 3) := by decide +kernel
theorem dX11_endIs_8 : decode cX11_endIs 8 = .ok (.ifCond .ne 5, 3) := by decide +kernel
theorem dX11_endIs_11 : decode cX11_endIs 11 = .ok (.iconst (-1), 1) := by decide +kernel
theorem dX11_endIs_12 : decode cX11_endIs 12 = .ok (.ireturn, 1) := by decide +kernel
theorem dX11_endIs_13 : decode cX11_endIs 13 = .ok (.iload_n 2, 1) := by decide +kernel
theorem dX11_endIs_14 : decode cX11_endIs 14 = .ok (.tableswitch 114 0 5 #[38, 48, 58, 68, 78, 96], 38) := by decide +kernel
theorem dX11_endIs_52 : decode cX11_endIs 52 = .ok (.aload_n 0, 1) := by decide +kernel
theorem dX11_endIs_53 : decode cX11_endIs 53 = .ok (.getfield 50, 3) := by decide +kernel
theorem dX11_endIs_56 : decode cX11_endIs 56 = .ok (.getfield 220, 3) := by decide +kernel
theorem dX11_endIs_59 : decode cX11_endIs 59 = .ok (.iload_n 1, 1) := by decide +kernel
theorem dX11_endIs_60 : decode cX11_endIs 60 = .ok (.iaload, 1) := by decide +kernel
theorem dX11_endIs_61 : decode cX11_endIs 61 = .ok (.ireturn, 1) := by decide +kernel
theorem dX11_endIs_62 : decode cX11_endIs 62 = .ok (.aload_n 0, 1) := by decide +kernel
theorem dX11_endIs_63 : decode cX11_endIs 63 = .ok (.getfield 50, 3) := by decide +kernel
theorem dX11_endIs_66 : decode cX11_endIs 66 = .ok (.getfield 223, 3) := by decide +kernel
theorem dX11_endIs_69 : decode cX11_endIs 69 = .ok (.iload_n 1, 1) := by decide +kernel
theorem dX11_endIs_70 : decode cX11_endIs 70 = .ok (.iaload, 1) := by decide +kernel
theorem dX11_endIs_71 : decode cX11_endIs 71 = .ok (.ireturn, 1) := by decide +kernel
theorem dX11_endIs_72 : decode cX11_endIs 72 = .ok (.aload_n 0, 1) := by decide +kernel
theorem dX11_endIs_73 : decode cX11_endIs 73 = .ok (.getfield 57, 3) := by decide +kernel
theorem dX11_endIs_76 : decode cX11_endIs 76 = .ok (.getfield 151, 3) := by decide +kernel
theorem dX11_endIs_79 : decode cX11_endIs 79 = .ok (.iload_n 1, 1) := by decide +kernel
theorem dX11_endIs_80 : decode cX11_endIs 80 = .ok (.iaload, 1) := by decide +kernel
theorem dX11_endIs_81 : decode cX11_endIs 81 = .ok (.ireturn, 1) := by decide +kernel
theorem dX11_endIs_82 : decode cX11_endIs 82 = .ok (.aload_n 0, 1) := by decide +kernel
theorem dX11_endIs_83 : decode cX11_endIs 83 = .ok (.getfield 50, 3) := by decide +kernel
theorem dX11_endIs_86 : decode cX11_endIs 86 = .ok (.getfield 226, 3) := by decide +kernel
theorem dX11_endIs_89 : decode cX11_endIs 89 = .ok (.iload_n 1, 1) := by decide +kernel
theorem dX11_endIs_90 : decode cX11_endIs 90 = .ok (.iaload, 1) := by decide +kernel
theorem dX11_endIs_91 : decode cX11_endIs 91 = .ok (.ireturn, 1) := by decide +kernel
theorem dX11_endIs_92 : decode cX11_endIs 92 = .ok (.aload_n 0, 1) := by decide +kernel
theorem dX11_endIs_93 : decode cX11_endIs 93 = .ok (.getfield 76, 3) := by decide +kernel
theorem dX11_endIs_96 : decode cX11_endIs 96 = .ok (.aload_n 0, 1) := by decide +kernel
theorem dX11_endIs_97 : decode cX11_endIs 97 = .ok (.getfield 57, 3) := by decide +kernel
theorem dX11_endIs_100 : decode cX11_endIs 100 = .ok (.aload_n 0, 1) := by decide +kernel
theorem dX11_endIs_101 : decode cX11_endIs 101 = .ok (.getfield 33, 3) := by decide +kernel
theorem dX11_endIs_104 : decode cX11_endIs 104 = .ok (.iconst 1, 1) := by decide +kernel
theorem dX11_endIs_105 : decode cX11_endIs 105 = .ok (.iload_n 1, 1) := by decide +kernel
theorem dX11_endIs_106 : decode cX11_endIs 106 = .ok (.invokevirtual 229, 3) := by decide +kernel
theorem dX11_endIs_109 : decode cX11_endIs 109 = .ok (.ireturn, 1) := by decide +kernel
theorem dX11_endIs_110 : decode cX11_endIs 110 = .ok (.aload_n 0, 1) := by decide +kernel
theorem dX11_endIs_111 : decode cX11_endIs 111 = .ok (.getfield 76, 3) := by decide +kernel
theorem dX11_endIs_114 : decode cX11_endIs 114 = .ok (.aload_n 0, 1) := by decide +kernel
theorem dX11_endIs_115 : decode cX11_endIs 115 = .ok (.getfield 57, 3) := by decide +kernel
theorem dX11_endIs_118 : decode cX11_endIs 118 = .ok (.aload_n 0, 1) := by decide +kernel
theorem dX11_endIs_119 : decode cX11_endIs 119 = .ok (.getfield 33, 3) := by decide +kernel
theorem dX11_endIs_122 : decode cX11_endIs 122 = .ok (.iconst 5, 1) := by decide +kernel
theorem dX11_endIs_123 : decode cX11_endIs 123 = .ok (.iload_n 1, 1) := by decide +kernel
theorem dX11_endIs_124 : decode cX11_endIs 124 = .ok (.invokevirtual 229, 3) := by decide +kernel
theorem dX11_endIs_127 : decode cX11_endIs 127 = .ok (.ireturn, 1) := by decide +kernel
theorem dX11_endIs_128 : decode cX11_endIs 128 = .ok (.iconst (-1), 1) := by decide +kernel
theorem dX11_endIs_129 : decode cX11_endIs 129 = .ok (.ireturn, 1) := by decide +kernel
theorem dX11_tellerIs_0 : decode cX11_tellerIs 0 = .ok (.iload_n 1, 1) := by decide +kernel
theorem dX11_tellerIs_1 : decode cX11_tellerIs 1 = .ok (.iconst 0, 1) := by decide +kernel
theorem dX11_tellerIs_2 : decode cX11_tellerIs 2 = .ok (.iconst 3, 1) := by decide +kernel
theorem dX11_tellerIs_3 : decode cX11_tellerIs 3 = .ok (.invokestatic 145, 3) := by decide +kernel
theorem dX11_tellerIs_6 : decode cX11_tellerIs 6 = .ok (.ifCond .eq 17, 3) := by decide +kernel
theorem dX11_tellerIs_9 : decode cX11_tellerIs 9 = .ok (.aload_n 0, 1) := by decide +kernel
theorem dX11_tellerIs_10 : decode cX11_tellerIs 10 = .ok (.getfield 57, 3) := by decide +kernel
theorem dX11_tellerIs_13 : decode cX11_tellerIs 13 = .ok (.getfield 161, 3) := by decide +kernel
theorem dX11_tellerIs_16 : decode cX11_tellerIs 16 = .ok (.iload_n 1, 1) := by decide +kernel
theorem dX11_tellerIs_17 : decode cX11_tellerIs 17 = .ok (.invokestatic 164, 3) := by decide +kernel
theorem dX11_tellerIs_20 : decode cX11_tellerIs 20 = .ok (.ifCond .ne 5, 3) := by decide +kernel
theorem dX11_tellerIs_23 : decode cX11_tellerIs 23 = .ok (.iconst (-1), 1) := by decide +kernel
theorem dX11_tellerIs_24 : decode cX11_tellerIs 24 = .ok (.ireturn, 1) := by decide +kernel
theorem dX11_tellerIs_25 : decode cX11_tellerIs 25 = .ok (.iload_n 2, 1) := by decide +kernel
theorem dX11_tellerIs_26 : decode cX11_tellerIs 26 = .ok (.tableswitch 105 0 5 #[38, 48, 58, 68, 78, 87], 38) := by decide +kernel
theorem dX11_tellerIs_64 : decode cX11_tellerIs 64 = .ok (.aload_n 0, 1) := by decide +kernel
theorem dX11_tellerIs_65 : decode cX11_tellerIs 65 = .ok (.getfield 57, 3) := by decide +kernel
theorem dX11_tellerIs_68 : decode cX11_tellerIs 68 = .ok (.getfield 233, 3) := by decide +kernel
theorem dX11_tellerIs_71 : decode cX11_tellerIs 71 = .ok (.iload_n 1, 1) := by decide +kernel
theorem dX11_tellerIs_72 : decode cX11_tellerIs 72 = .ok (.iaload, 1) := by decide +kernel
theorem dX11_tellerIs_73 : decode cX11_tellerIs 73 = .ok (.ireturn, 1) := by decide +kernel
theorem dX11_tellerIs_74 : decode cX11_tellerIs 74 = .ok (.aload_n 0, 1) := by decide +kernel
theorem dX11_tellerIs_75 : decode cX11_tellerIs 75 = .ok (.getfield 57, 3) := by decide +kernel
theorem dX11_tellerIs_78 : decode cX11_tellerIs 78 = .ok (.getfield 236, 3) := by decide +kernel
theorem dX11_tellerIs_81 : decode cX11_tellerIs 81 = .ok (.iload_n 1, 1) := by decide +kernel
theorem dX11_tellerIs_82 : decode cX11_tellerIs 82 = .ok (.iaload, 1) := by decide +kernel
theorem dX11_tellerIs_83 : decode cX11_tellerIs 83 = .ok (.ireturn, 1) := by decide +kernel
theorem dX11_tellerIs_84 : decode cX11_tellerIs 84 = .ok (.aload_n 0, 1) := by decide +kernel
theorem dX11_tellerIs_85 : decode cX11_tellerIs 85 = .ok (.getfield 57, 3) := by decide +kernel
theorem dX11_tellerIs_88 : decode cX11_tellerIs 88 = .ok (.getfield 239, 3) := by decide +kernel
theorem dX11_tellerIs_91 : decode cX11_tellerIs 91 = .ok (.iload_n 1, 1) := by decide +kernel
theorem dX11_tellerIs_92 : decode cX11_tellerIs 92 = .ok (.iaload, 1) := by decide +kernel
theorem dX11_tellerIs_93 : decode cX11_tellerIs 93 = .ok (.ireturn, 1) := by decide +kernel
theorem dX11_tellerIs_94 : decode cX11_tellerIs 94 = .ok (.aload_n 0, 1) := by decide +kernel
theorem dX11_tellerIs_95 : decode cX11_tellerIs 95 = .ok (.getfield 57, 3) := by decide +kernel
theorem dX11_tellerIs_98 : decode cX11_tellerIs 98 = .ok (.getfield 242, 3) := by decide +kernel
theorem dX11_tellerIs_101 : decode cX11_tellerIs 101 = .ok (.iload_n 1, 1) := by decide +kernel
theorem dX11_tellerIs_102 : decode cX11_tellerIs 102 = .ok (.iaload, 1) := by decide +kernel
theorem dX11_tellerIs_103 : decode cX11_tellerIs 103 = .ok (.ireturn, 1) := by decide +kernel
theorem dX11_tellerIs_104 : decode cX11_tellerIs 104 = .ok (.aload_n 0, 1) := by decide +kernel
theorem dX11_tellerIs_105 : decode cX11_tellerIs 105 = .ok (.getfield 57, 3) := by decide +kernel
theorem dX11_tellerIs_108 : decode cX11_tellerIs 108 = .ok (.iload_n 1, 1) := by decide +kernel
theorem dX11_tellerIs_109 : decode cX11_tellerIs 109 = .ok (.invokevirtual 245, 3) := by decide +kernel
theorem dX11_tellerIs_112 : decode cX11_tellerIs 112 = .ok (.ireturn, 1) := by decide +kernel
theorem dX11_tellerIs_113 : decode cX11_tellerIs 113 = .ok (.aload_n 0, 1) := by decide +kernel
theorem dX11_tellerIs_114 : decode cX11_tellerIs 114 = .ok (.getfield 76, 3) := by decide +kernel
theorem dX11_tellerIs_117 : decode cX11_tellerIs 117 = .ok (.aload_n 0, 1) := by decide +kernel
theorem dX11_tellerIs_118 : decode cX11_tellerIs 118 = .ok (.getfield 57, 3) := by decide +kernel
theorem dX11_tellerIs_121 : decode cX11_tellerIs 121 = .ok (.aload_n 0, 1) := by decide +kernel
theorem dX11_tellerIs_122 : decode cX11_tellerIs 122 = .ok (.getfield 33, 3) := by decide +kernel
theorem dX11_tellerIs_125 : decode cX11_tellerIs 125 = .ok (.iconst 0, 1) := by decide +kernel
theorem dX11_tellerIs_126 : decode cX11_tellerIs 126 = .ok (.iload_n 1, 1) := by decide +kernel
theorem dX11_tellerIs_127 : decode cX11_tellerIs 127 = .ok (.invokevirtual 248, 3) := by decide +kernel
theorem dX11_tellerIs_130 : decode cX11_tellerIs 130 = .ok (.ireturn, 1) := by decide +kernel
theorem dX11_tellerIs_131 : decode cX11_tellerIs 131 = .ok (.iconst (-1), 1) := by decide +kernel
theorem dX11_tellerIs_132 : decode cX11_tellerIs 132 = .ok (.ireturn, 1) := by decide +kernel
theorem dX11_listenerIs_0 : decode cX11_listenerIs 0 = .ok (.iload_n 1, 1) := by decide +kernel
theorem dX11_listenerIs_1 : decode cX11_listenerIs 1 = .ok (.iconst 0, 1) := by decide +kernel
theorem dX11_listenerIs_2 : decode cX11_listenerIs 2 = .ok (.bipush 9, 2) := by decide +kernel
theorem dX11_listenerIs_4 : decode cX11_listenerIs 4 = .ok (.invokestatic 145, 3) := by decide +kernel
theorem dX11_listenerIs_7 : decode cX11_listenerIs 7 = .ok (.ifCond .eq 17, 3) := by decide +kernel
theorem dX11_listenerIs_10 : decode cX11_listenerIs 10 = .ok (.aload_n 0, 1) := by decide +kernel
theorem dX11_listenerIs_11 : decode cX11_listenerIs 11 = .ok (.getfield 57, 3) := by decide +kernel
theorem dX11_listenerIs_14 : decode cX11_listenerIs 14 = .ok (.getfield 251, 3) := by decide +kernel
theorem dX11_listenerIs_17 : decode cX11_listenerIs 17 = .ok (.iload_n 1, 1) := by decide +kernel
theorem dX11_listenerIs_18 : decode cX11_listenerIs 18 = .ok (.invokestatic 164, 3) := by decide +kernel
theorem dX11_listenerIs_21 : decode cX11_listenerIs 21 = .ok (.ifCond .ne 5, 3) := by decide +kernel
theorem dX11_listenerIs_24 : decode cX11_listenerIs 24 = .ok (.iconst (-1), 1) := by decide +kernel
theorem dX11_listenerIs_25 : decode cX11_listenerIs 25 = .ok (.ireturn, 1) := by decide +kernel
theorem dX11_listenerIs_26 : decode cX11_listenerIs 26 = .ok (.iload_n 2, 1) := by decide +kernel
theorem dX11_listenerIs_27 : decode cX11_listenerIs 27 = .ok (.tableswitch 55 0 2 #[25, 35, 45], 25) := by decide +kernel
theorem dX11_listenerIs_52 : decode cX11_listenerIs 52 = .ok (.aload_n 0, 1) := by decide +kernel
theorem dX11_listenerIs_53 : decode cX11_listenerIs 53 = .ok (.getfield 57, 3) := by decide +kernel
theorem dX11_listenerIs_56 : decode cX11_listenerIs 56 = .ok (.getfield 254, 3) := by decide +kernel
theorem dX11_listenerIs_59 : decode cX11_listenerIs 59 = .ok (.iload_n 1, 1) := by decide +kernel
theorem dX11_listenerIs_60 : decode cX11_listenerIs 60 = .ok (.iaload, 1) := by decide +kernel
theorem dX11_listenerIs_61 : decode cX11_listenerIs 61 = .ok (.ireturn, 1) := by decide +kernel
theorem dX11_listenerIs_62 : decode cX11_listenerIs 62 = .ok (.aload_n 0, 1) := by decide +kernel
theorem dX11_listenerIs_63 : decode cX11_listenerIs 63 = .ok (.getfield 57, 3) := by decide +kernel
theorem dX11_listenerIs_66 : decode cX11_listenerIs 66 = .ok (.getfield 257, 3) := by decide +kernel
theorem dX11_listenerIs_69 : decode cX11_listenerIs 69 = .ok (.iload_n 1, 1) := by decide +kernel
theorem dX11_listenerIs_70 : decode cX11_listenerIs 70 = .ok (.iaload, 1) := by decide +kernel
theorem dX11_listenerIs_71 : decode cX11_listenerIs 71 = .ok (.ireturn, 1) := by decide +kernel
theorem dX11_listenerIs_72 : decode cX11_listenerIs 72 = .ok (.aload_n 0, 1) := by decide +kernel
theorem dX11_listenerIs_73 : decode cX11_listenerIs 73 = .ok (.getfield 57, 3) := by decide +kernel
theorem dX11_listenerIs_76 : decode cX11_listenerIs 76 = .ok (.getfield 260, 3) := by decide +kernel
theorem dX11_listenerIs_79 : decode cX11_listenerIs 79 = .ok (.iload_n 1, 1) := by decide +kernel
theorem dX11_listenerIs_80 : decode cX11_listenerIs 80 = .ok (.iaload, 1) := by decide +kernel
theorem dX11_listenerIs_81 : decode cX11_listenerIs 81 = .ok (.ireturn, 1) := by decide +kernel
theorem dX11_listenerIs_82 : decode cX11_listenerIs 82 = .ok (.iconst (-1), 1) := by decide +kernel
theorem dX11_listenerIs_83 : decode cX11_listenerIs 83 = .ok (.ireturn, 1) := by decide +kernel
theorem dX11_cheapest_0 : decode cX11_cheapest 0 = .ok (.iload_n 1, 1) := by decide +kernel
theorem dX11_cheapest_1 : decode cX11_cheapest 1 = .ok (.iconst 1, 1) := by decide +kernel
theorem dX11_cheapest_2 : decode cX11_cheapest 2 = .ok (.sipush 1023, 3) := by decide +kernel
theorem dX11_cheapest_5 : decode cX11_cheapest 5 = .ok (.invokestatic 145, 3) := by decide +kernel
theorem dX11_cheapest_8 : decode cX11_cheapest 8 = .ok (.ifCond .eq 12, 3) := by decide +kernel
theorem dX11_cheapest_11 : decode cX11_cheapest 11 = .ok (.iload_n 2, 1) := by decide +kernel
theorem dX11_cheapest_12 : decode cX11_cheapest 12 = .ok (.iconst 0, 1) := by decide +kernel
theorem dX11_cheapest_13 : decode cX11_cheapest 13 = .ok (.iconst 1, 1) := by decide +kernel
theorem dX11_cheapest_14 : decode cX11_cheapest 14 = .ok (.invokestatic 145, 3) := by decide +kernel
theorem dX11_cheapest_17 : decode cX11_cheapest 17 = .ok (.ifCond .ne 5, 3) := by decide +kernel
theorem dX11_cheapest_20 : decode cX11_cheapest 20 = .ok (.iconst (-1), 1) := by decide +kernel
theorem dX11_cheapest_21 : decode cX11_cheapest 21 = .ok (.ireturn, 1) := by decide +kernel
theorem dX11_cheapest_22 : decode cX11_cheapest 22 = .ok (.aload_n 0, 1) := by decide +kernel
theorem dX11_cheapest_23 : decode cX11_cheapest 23 = .ok (.getfield 50, 3) := by decide +kernel
theorem dX11_cheapest_26 : decode cX11_cheapest 26 = .ok (.iload_n 1, 1) := by decide +kernel
theorem dX11_cheapest_27 : decode cX11_cheapest 27 = .ok (.aload_n 0, 1) := by decide +kernel
theorem dX11_cheapest_28 : decode cX11_cheapest 28 = .ok (.getfield 57, 3) := by decide +kernel
theorem dX11_cheapest_31 : decode cX11_cheapest 31 = .ok (.aload_n 0, 1) := by decide +kernel
theorem dX11_cheapest_32 : decode cX11_cheapest 32 = .ok (.getfield 33, 3) := by decide +kernel
theorem dX11_cheapest_35 : decode cX11_cheapest 35 = .ok (.aload_n 0, 1) := by decide +kernel
theorem dX11_cheapest_36 : decode cX11_cheapest 36 = .ok (.getfield 76, 3) := by decide +kernel
theorem dX11_cheapest_39 : decode cX11_cheapest 39 = .ok (.invokevirtual 263, 3) := by decide +kernel
theorem dX11_cheapest_42 : decode cX11_cheapest 42 = .ok (.ifCond .ne 6, 3) := by decide +kernel
theorem dX11_cheapest_45 : decode cX11_cheapest 45 = .ok (.bipush (-2), 2) := by decide +kernel
theorem dX11_cheapest_47 : decode cX11_cheapest 47 = .ok (.ireturn, 1) := by decide +kernel
theorem dX11_cheapest_48 : decode cX11_cheapest 48 = .ok (.iload_n 2, 1) := by decide +kernel
theorem dX11_cheapest_49 : decode cX11_cheapest 49 = .ok (.ifCond .ne 13, 3) := by decide +kernel
theorem dX11_cheapest_52 : decode cX11_cheapest 52 = .ok (.aload_n 0, 1) := by decide +kernel
theorem dX11_cheapest_53 : decode cX11_cheapest 53 = .ok (.getfield 50, 3) := by decide +kernel
theorem dX11_cheapest_56 : decode cX11_cheapest 56 = .ok (.getfield 267, 3) := by decide +kernel
theorem dX11_cheapest_59 : decode cX11_cheapest 59 = .ok (.goto 10, 3) := by decide +kernel
theorem dX11_cheapest_62 : decode cX11_cheapest 62 = .ok (.aload_n 0, 1) := by decide +kernel
theorem dX11_cheapest_63 : decode cX11_cheapest 63 = .ok (.getfield 50, 3) := by decide +kernel
theorem dX11_cheapest_66 : decode cX11_cheapest 66 = .ok (.getfield 270, 3) := by decide +kernel
theorem dX11_cheapest_69 : decode cX11_cheapest 69 = .ok (.ireturn, 1) := by decide +kernel
theorem dX11_buys_0 : decode cX11_buys 0 = .ok (.iload_n 1, 1) := by decide +kernel
theorem dX11_buys_1 : decode cX11_buys 1 = .ok (.iconst 0, 1) := by decide +kernel
theorem dX11_buys_2 : decode cX11_buys 2 = .ok (.iconst 3, 1) := by decide +kernel
theorem dX11_buys_3 : decode cX11_buys 3 = .ok (.invokestatic 145, 3) := by decide +kernel
theorem dX11_buys_6 : decode cX11_buys 6 = .ok (.ifCond .eq 40, 3) := by decide +kernel
theorem dX11_buys_9 : decode cX11_buys 9 = .ok (.aload_n 0, 1) := by decide +kernel
theorem dX11_buys_10 : decode cX11_buys 10 = .ok (.getfield 57, 3) := by decide +kernel
theorem dX11_buys_13 : decode cX11_buys 13 = .ok (.getfield 161, 3) := by decide +kernel
theorem dX11_buys_16 : decode cX11_buys 16 = .ok (.iload_n 1, 1) := by decide +kernel
theorem dX11_buys_17 : decode cX11_buys 17 = .ok (.invokestatic 164, 3) := by decide +kernel
theorem dX11_buys_20 : decode cX11_buys 20 = .ok (.ifCond .eq 26, 3) := by decide +kernel
theorem dX11_buys_23 : decode cX11_buys 23 = .ok (.aload_n 0, 1) := by decide +kernel
theorem dX11_buys_24 : decode cX11_buys 24 = .ok (.getfield 50, 3) := by decide +kernel
theorem dX11_buys_27 : decode cX11_buys 27 = .ok (.iload_n 2, 1) := by decide +kernel
theorem dX11_buys_28 : decode cX11_buys 28 = .ok (.invokevirtual 217, 3) := by decide +kernel
theorem dX11_buys_31 : decode cX11_buys 31 = .ok (.ifCond .eq 15, 3) := by decide +kernel
theorem dX11_buys_34 : decode cX11_buys 34 = .ok (.aload_n 0, 1) := by decide +kernel
theorem dX11_buys_35 : decode cX11_buys 35 = .ok (.getfield 57, 3) := by decide +kernel
theorem dX11_buys_38 : decode cX11_buys 38 = .ok (.getfield 151, 3) := by decide +kernel
theorem dX11_buys_41 : decode cX11_buys 41 = .ok (.iload_n 2, 1) := by decide +kernel
theorem dX11_buys_42 : decode cX11_buys 42 = .ok (.iaload, 1) := by decide +kernel
theorem dX11_buys_43 : decode cX11_buys 43 = .ok (.ifCond .gt 5, 3) := by decide +kernel
theorem dX11_buys_46 : decode cX11_buys 46 = .ok (.iconst (-1), 1) := by decide +kernel
theorem dX11_buys_47 : decode cX11_buys 47 = .ok (.ireturn, 1) := by decide +kernel
theorem dX11_buys_48 : decode cX11_buys 48 = .ok (.aload_n 0, 1) := by decide +kernel
theorem dX11_buys_49 : decode cX11_buys 49 = .ok (.getfield 76, 3) := by decide +kernel
theorem dX11_buys_52 : decode cX11_buys 52 = .ok (.aload_n 0, 1) := by decide +kernel
theorem dX11_buys_53 : decode cX11_buys 53 = .ok (.getfield 57, 3) := by decide +kernel
theorem dX11_buys_56 : decode cX11_buys 56 = .ok (.aload_n 0, 1) := by decide +kernel
theorem dX11_buys_57 : decode cX11_buys 57 = .ok (.getfield 33, 3) := by decide +kernel
theorem dX11_buys_60 : decode cX11_buys 60 = .ok (.iconst 1, 1) := by decide +kernel
theorem dX11_buys_61 : decode cX11_buys 61 = .ok (.iload_n 2, 1) := by decide +kernel
theorem dX11_buys_62 : decode cX11_buys 62 = .ok (.invokevirtual 229, 3) := by decide +kernel
theorem dX11_buys_65 : decode cX11_buys 65 = .ok (.istore_n 3, 1) := by decide +kernel
theorem dX11_buys_66 : decode cX11_buys 66 = .ok (.aload_n 0, 1) := by decide +kernel
theorem dX11_buys_67 : decode cX11_buys 67 = .ok (.getfield 57, 3) := by decide +kernel
theorem dX11_buys_70 : decode cX11_buys 70 = .ok (.getfield 236, 3) := by decide +kernel
theorem dX11_buys_73 : decode cX11_buys 73 = .ok (.iload_n 1, 1) := by decide +kernel
theorem dX11_buys_74 : decode cX11_buys 74 = .ok (.iaload, 1) := by decide +kernel
theorem dX11_buys_75 : decode cX11_buys 75 = .ok (.iload_n 3, 1) := by decide +kernel
theorem dX11_buys_76 : decode cX11_buys 76 = .ok (.if_icmp .ge 5, 3) := by decide +kernel
theorem dX11_buys_79 : decode cX11_buys 79 = .ok (.iconst (-1), 1) := by decide +kernel
theorem dX11_buys_80 : decode cX11_buys 80 = .ok (.ireturn, 1) := by decide +kernel
theorem dX11_buys_81 : decode cX11_buys 81 = .ok (.aload_n 0, 1) := by decide +kernel
theorem dX11_buys_82 : decode cX11_buys 82 = .ok (.getfield 85, 3) := by decide +kernel
theorem dX11_buys_85 : decode cX11_buys 85 = .ok (.aload_n 0, 1) := by decide +kernel
theorem dX11_buys_86 : decode cX11_buys 86 = .ok (.getfield 57, 3) := by decide +kernel
theorem dX11_buys_89 : decode cX11_buys 89 = .ok (.aload_n 0, 1) := by decide +kernel
theorem dX11_buys_90 : decode cX11_buys 90 = .ok (.getfield 33, 3) := by decide +kernel
theorem dX11_buys_93 : decode cX11_buys 93 = .ok (.invokevirtual 273, 3) := by decide +kernel
theorem dX11_buys_96 : decode cX11_buys 96 = .ok (.aload_n 0, 1) := by decide +kernel
theorem dX11_buys_97 : decode cX11_buys 97 = .ok (.getfield 85, 3) := by decide +kernel
theorem dX11_buys_100 : decode cX11_buys 100 = .ok (.iload_n 1, 1) := by decide +kernel
theorem dX11_buys_101 : decode cX11_buys 101 = .ok (.iload_n 2, 1) := by decide +kernel
theorem dX11_buys_102 : decode cX11_buys 102 = .ok (.iload_n 3, 1) := by decide +kernel
theorem dX11_buys_103 : decode cX11_buys 103 = .ok (.invokevirtual 277, 3) := by decide +kernel
theorem dX11_buys_106 : decode cX11_buys 106 = .ok (.ireturn, 1) := by decide +kernel
theorem dX11_fitting_0 : decode cX11_fitting 0 = .ok (.aload_n 0, 1) := by decide +kernel
theorem dX11_fitting_1 : decode cX11_fitting 1 = .ok (.iload_n 1, 1) := by decide +kernel
theorem dX11_fitting_2 : decode cX11_fitting 2 = .ok (.invokevirtual 154, 3) := by decide +kernel
theorem dX11_fitting_5 : decode cX11_fitting 5 = .ok (.astore 4, 2) := by decide +kernel
theorem dX11_fitting_7 : decode cX11_fitting 7 = .ok (.aload 4, 2) := by decide +kernel
theorem dX11_fitting_9 : decode cX11_fitting 9 = .ok (.ifnull 14, 3) := by decide +kernel
theorem dX11_fitting_12 : decode cX11_fitting 12 = .ok (.iload_n 2, 1) := by decide +kernel
theorem dX11_fitting_13 : decode cX11_fitting 13 = .ok (.iconst 0, 1) := by decide +kernel
theorem dX11_fitting_14 : decode cX11_fitting 14 = .ok (.sipush 1023, 3) := by decide +kernel
theorem dX11_fitting_17 : decode cX11_fitting 17 = .ok (.invokestatic 145, 3) := by decide +kernel
theorem dX11_fitting_20 : decode cX11_fitting 20 = .ok (.ifCond .ne 5, 3) := by decide +kernel
theorem dX11_fitting_23 : decode cX11_fitting 23 = .ok (.iconst (-1), 1) := by decide +kernel
theorem dX11_fitting_24 : decode cX11_fitting 24 = .ok (.ireturn, 1) := by decide +kernel
theorem dX11_fitting_25 : decode cX11_fitting 25 = .ok (.aload_n 0, 1) := by decide +kernel
theorem dX11_fitting_26 : decode cX11_fitting 26 = .ok (.getfield 92, 3) := by decide +kernel
theorem dX11_fitting_29 : decode cX11_fitting 29 = .ok (.aload 4, 2) := by decide +kernel
theorem dX11_fitting_31 : decode cX11_fitting 31 = .ok (.iload_n 2, 1) := by decide +kernel
theorem dX11_fitting_32 : decode cX11_fitting 32 = .ok (.invokevirtual 280, 3) := by decide +kernel
theorem dX11_fitting_35 : decode cX11_fitting 35 = .ok (.iload_n 3, 1) := by decide +kernel
theorem dX11_fitting_36 : decode cX11_fitting 36 = .ok (.bipush 100, 2) := by decide +kernel
theorem dX11_fitting_38 : decode cX11_fitting 38 = .ok (.if_icmp .ne 11, 3) := by decide +kernel
theorem dX11_fitting_41 : decode cX11_fitting 41 = .ok (.aload_n 0, 1) := by decide +kernel
theorem dX11_fitting_42 : decode cX11_fitting 42 = .ok (.getfield 92, 3) := by decide +kernel
theorem dX11_fitting_45 : decode cX11_fitting 45 = .ok (.getfield 284, 3) := by decide +kernel
theorem dX11_fitting_48 : decode cX11_fitting 48 = .ok (.ireturn, 1) := by decide +kernel
theorem dX11_fitting_49 : decode cX11_fitting 49 = .ok (.iload_n 3, 1) := by decide +kernel
theorem dX11_fitting_50 : decode cX11_fitting 50 = .ok (.iconst 0, 1) := by decide +kernel
theorem dX11_fitting_51 : decode cX11_fitting 51 = .ok (.aload_n 0, 1) := by decide +kernel
theorem dX11_fitting_52 : decode cX11_fitting 52 = .ok (.getfield 92, 3) := by decide +kernel
theorem dX11_fitting_55 : decode cX11_fitting 55 = .ok (.getfield 284, 3) := by decide +kernel
theorem dX11_fitting_58 : decode cX11_fitting 58 = .ok (.iconst 1, 1) := by decide +kernel
theorem dX11_fitting_59 : decode cX11_fitting 59 = .ok (.isub, 1) := by decide +kernel
theorem dX11_fitting_60 : decode cX11_fitting 60 = .ok (.invokestatic 145, 3) := by decide +kernel
theorem dX11_fitting_63 : decode cX11_fitting 63 = .ok (.ifCond .eq 21, 3) := by decide +kernel
theorem dX11_fitting_66 : decode cX11_fitting 66 = .ok (.iload_n 3, 1) := by decide +kernel
theorem dX11_fitting_67 : decode cX11_fitting 67 = .ok (.bipush 72, 2) := by decide +kernel
theorem dX11_fitting_69 : decode cX11_fitting 69 = .ok (.if_icmp .ge 15, 3) := by decide +kernel
theorem dX11_fitting_72 : decode cX11_fitting 72 = .ok (.aload_n 0, 1) := by decide +kernel
theorem dX11_fitting_73 : decode cX11_fitting 73 = .ok (.getfield 92, 3) := by decide +kernel
theorem dX11_fitting_76 : decode cX11_fitting 76 = .ok (.getfield 287, 3) := by decide +kernel
theorem dX11_fitting_79 : decode cX11_fitting 79 = .ok (.iload_n 3, 1) := by decide +kernel
theorem dX11_fitting_80 : decode cX11_fitting 80 = .ok (.iaload, 1) := by decide +kernel
theorem dX11_fitting_81 : decode cX11_fitting 81 = .ok (.goto 5, 3) := by decide +kernel
theorem dX11_fitting_84 : decode cX11_fitting 84 = .ok (.bipush (-4), 2) := by decide +kernel
theorem dX11_fitting_86 : decode cX11_fitting 86 = .ok (.ireturn, 1) := by decide +kernel
theorem dX11_wouldDo_0 : decode cX11_wouldDo 0 = .ok (.aload_n 0, 1) := by decide +kernel
theorem dX11_wouldDo_1 : decode cX11_wouldDo 1 = .ok (.iload_n 1, 1) := by decide +kernel
theorem dX11_wouldDo_2 : decode cX11_wouldDo 2 = .ok (.invokevirtual 154, 3) := by decide +kernel
theorem dX11_wouldDo_5 : decode cX11_wouldDo 5 = .ok (.astore 4, 2) := by decide +kernel
theorem dX11_wouldDo_7 : decode cX11_wouldDo 7 = .ok (.aload 4, 2) := by decide +kernel
theorem dX11_wouldDo_9 : decode cX11_wouldDo 9 = .ok (.ifnull 23, 3) := by decide +kernel
theorem dX11_wouldDo_12 : decode cX11_wouldDo 12 = .ok (.aload_n 0, 1) := by decide +kernel
theorem dX11_wouldDo_13 : decode cX11_wouldDo 13 = .ok (.getfield 50, 3) := by decide +kernel
theorem dX11_wouldDo_16 : decode cX11_wouldDo 16 = .ok (.iload_n 2, 1) := by decide +kernel
theorem dX11_wouldDo_17 : decode cX11_wouldDo 17 = .ok (.invokevirtual 217, 3) := by decide +kernel
theorem dX11_wouldDo_20 : decode cX11_wouldDo 20 = .ok (.ifCond .eq 12, 3) := by decide +kernel
theorem dX11_wouldDo_23 : decode cX11_wouldDo 23 = .ok (.iload_n 3, 1) := by decide +kernel
theorem dX11_wouldDo_24 : decode cX11_wouldDo 24 = .ok (.iconst 0, 1) := by decide +kernel
theorem dX11_wouldDo_25 : decode cX11_wouldDo 25 = .ok (.iconst 2, 1) := by decide +kernel
theorem dX11_wouldDo_26 : decode cX11_wouldDo 26 = .ok (.invokestatic 145, 3) := by decide +kernel
theorem dX11_wouldDo_29 : decode cX11_wouldDo 29 = .ok (.ifCond .ne 5, 3) := by decide +kernel
theorem dX11_wouldDo_32 : decode cX11_wouldDo 32 = .ok (.iconst (-1), 1) := by decide +kernel
theorem dX11_wouldDo_33 : decode cX11_wouldDo 33 = .ok (.ireturn, 1) := by decide +kernel
theorem dX11_wouldDo_34 : decode cX11_wouldDo 34 = .ok (.iconst 0, 1) := by decide +kernel
theorem dX11_wouldDo_35 : decode cX11_wouldDo 35 = .ok (.istore 5, 2) := by decide +kernel
theorem dX11_wouldDo_37 : decode cX11_wouldDo 37 = .ok (.bipush (-2), 2) := by decide +kernel
theorem dX11_wouldDo_39 : decode cX11_wouldDo 39 = .ok (.istore 6, 2) := by decide +kernel
theorem dX11_wouldDo_41 : decode cX11_wouldDo 41 = .ok (.bipush (-2), 2) := by decide +kernel
theorem dX11_wouldDo_43 : decode cX11_wouldDo 43 = .ok (.istore 7, 2) := by decide +kernel
theorem dX11_wouldDo_45 : decode cX11_wouldDo 45 = .ok (.iconst 0, 1) := by decide +kernel
theorem dX11_wouldDo_46 : decode cX11_wouldDo 46 = .ok (.istore 8, 2) := by decide +kernel
theorem dX11_wouldDo_48 : decode cX11_wouldDo 48 = .ok (.iconst 1, 1) := by decide +kernel
theorem dX11_wouldDo_49 : decode cX11_wouldDo 49 = .ok (.istore 9, 2) := by decide +kernel
theorem dX11_wouldDo_51 : decode cX11_wouldDo 51 = .ok (.iload 9, 2) := by decide +kernel
theorem dX11_wouldDo_53 : decode cX11_wouldDo 53 = .ok (.aload 4, 2) := by decide +kernel
theorem dX11_wouldDo_55 : decode cX11_wouldDo 55 = .ok (.getfield 198, 3) := by decide +kernel
theorem dX11_wouldDo_58 : decode cX11_wouldDo 58 = .ok (.if_icmp .gt 68, 3) := by decide +kernel
theorem dX11_wouldDo_61 : decode cX11_wouldDo 61 = .ok (.aload 4, 2) := by decide +kernel
theorem dX11_wouldDo_63 : decode cX11_wouldDo 63 = .ok (.iload 9, 2) := by decide +kernel
theorem dX11_wouldDo_65 : decode cX11_wouldDo 65 = .ok (.iconst 1, 1) := by decide +kernel
theorem dX11_wouldDo_66 : decode cX11_wouldDo 66 = .ok (.isub, 1) := by decide +kernel
theorem dX11_wouldDo_67 : decode cX11_wouldDo 67 = .ok (.iload 9, 2) := by decide +kernel
theorem dX11_wouldDo_69 : decode cX11_wouldDo 69 = .ok (.iload 8, 2) := by decide +kernel
theorem dX11_wouldDo_71 : decode cX11_wouldDo 71 = .ok (.invokevirtual 213, 3) := by decide +kernel
theorem dX11_wouldDo_74 : decode cX11_wouldDo 74 = .ok (.istore 8, 2) := by decide +kernel
theorem dX11_wouldDo_76 : decode cX11_wouldDo 76 = .ok (.iload 8, 2) := by decide +kernel
theorem dX11_wouldDo_78 : decode cX11_wouldDo 78 = .ok (.ifCond .eq 42, 3) := by decide +kernel
theorem dX11_wouldDo_81 : decode cX11_wouldDo 81 = .ok (.iload 8, 2) := by decide +kernel
theorem dX11_wouldDo_83 : decode cX11_wouldDo 83 = .ok (.aload_n 0, 1) := by decide +kernel
theorem dX11_wouldDo_84 : decode cX11_wouldDo 84 = .ok (.getfield 50, 3) := by decide +kernel
theorem dX11_wouldDo_87 : decode cX11_wouldDo 87 = .ok (.getfield 220, 3) := by decide +kernel
theorem dX11_wouldDo_90 : decode cX11_wouldDo 90 = .ok (.iload_n 2, 1) := by decide +kernel
theorem dX11_wouldDo_91 : decode cX11_wouldDo 91 = .ok (.iaload, 1) := by decide +kernel
theorem dX11_wouldDo_92 : decode cX11_wouldDo 92 = .ok (.iconst (-1), 1) := by decide +kernel
theorem dX11_wouldDo_93 : decode cX11_wouldDo 93 = .ok (.ixor, 1) := by decide +kernel
theorem dX11_wouldDo_94 : decode cX11_wouldDo 94 = .ok (.iand, 1) := by decide +kernel
theorem dX11_wouldDo_95 : decode cX11_wouldDo 95 = .ok (.ifCond .ne 25, 3) := by decide +kernel
theorem dX11_wouldDo_98 : decode cX11_wouldDo 98 = .ok (.iinc 5 1, 3) := by decide +kernel
theorem dX11_wouldDo_101 : decode cX11_wouldDo 101 = .ok (.iload 5, 2) := by decide +kernel
theorem dX11_wouldDo_103 : decode cX11_wouldDo 103 = .ok (.iconst 1, 1) := by decide +kernel
theorem dX11_wouldDo_104 : decode cX11_wouldDo 104 = .ok (.if_icmp .ne 8, 3) := by decide +kernel
theorem dX11_wouldDo_107 : decode cX11_wouldDo 107 = .ok (.iload 9, 2) := by decide +kernel
theorem dX11_wouldDo_109 : decode cX11_wouldDo 109 = .ok (.goto 5, 3) := by decide +kernel
theorem dX11_wouldDo_112 : decode cX11_wouldDo 112 = .ok (.iload 6, 2) := by decide +kernel
theorem dX11_wouldDo_114 : decode cX11_wouldDo 114 = .ok (.istore 6, 2) := by decide +kernel
theorem dX11_wouldDo_116 : decode cX11_wouldDo 116 = .ok (.iload 9, 2) := by decide +kernel
theorem dX11_wouldDo_118 : decode cX11_wouldDo 118 = .ok (.istore 7, 2) := by decide +kernel
theorem dX11_wouldDo_120 : decode cX11_wouldDo 120 = .ok (.iinc 9 1, 3) := by decide +kernel
theorem dX11_wouldDo_123 : decode cX11_wouldDo 123 = .ok (.goto (-72), 3) := by decide +kernel
theorem dX11_wouldDo_126 : decode cX11_wouldDo 126 = .ok (.iload_n 3, 1) := by decide +kernel
theorem dX11_wouldDo_127 : decode cX11_wouldDo 127 = .ok (.ifCond .ne 6, 3) := by decide +kernel
theorem dX11_wouldDo_130 : decode cX11_wouldDo 130 = .ok (.iload 5, 2) := by decide +kernel
theorem dX11_wouldDo_132 : decode cX11_wouldDo 132 = .ok (.ireturn, 1) := by decide +kernel
theorem dX11_wouldDo_133 : decode cX11_wouldDo 133 = .ok (.iload_n 3, 1) := by decide +kernel
theorem dX11_wouldDo_134 : decode cX11_wouldDo 134 = .ok (.iconst 1, 1) := by decide +kernel
theorem dX11_wouldDo_135 : decode cX11_wouldDo 135 = .ok (.if_icmp .ne 8, 3) := by decide +kernel
theorem dX11_wouldDo_138 : decode cX11_wouldDo 138 = .ok (.iload 6, 2) := by decide +kernel
theorem dX11_wouldDo_140 : decode cX11_wouldDo 140 = .ok (.goto 5, 3) := by decide +kernel
theorem dX11_wouldDo_143 : decode cX11_wouldDo 143 = .ok (.iload 7, 2) := by decide +kernel
theorem dX11_wouldDo_145 : decode cX11_wouldDo 145 = .ok (.ireturn, 1) := by decide +kernel
theorem dX11_series_0 : decode cX11_series 0 = .ok (.iload_n 1, 1) := by decide +kernel
theorem dX11_series_1 : decode cX11_series 1 = .ok (.invokestatic 290, 3) := by decide +kernel
theorem dX11_series_4 : decode cX11_series 4 = .ok (.istore_n 3, 1) := by decide +kernel
theorem dX11_series_5 : decode cX11_series 5 = .ok (.iload_n 2, 1) := by decide +kernel
theorem dX11_series_6 : decode cX11_series 6 = .ok (.iconst 0, 1) := by decide +kernel
theorem dX11_series_7 : decode cX11_series 7 = .ok (.iload_n 3, 1) := by decide +kernel
theorem dX11_series_8 : decode cX11_series 8 = .ok (.iconst 1, 1) := by decide +kernel
theorem dX11_series_9 : decode cX11_series 9 = .ok (.isub, 1) := by decide +kernel
theorem dX11_series_10 : decode cX11_series 10 = .ok (.invokestatic 145, 3) := by decide +kernel
theorem dX11_series_13 : decode cX11_series 13 = .ok (.ifCond .eq 12, 3) := by decide +kernel
theorem dX11_series_16 : decode cX11_series 16 = .ok (.iload_n 2, 1) := by decide +kernel
theorem dX11_series_17 : decode cX11_series 17 = .ok (.iconst 5, 1) := by decide +kernel
theorem dX11_series_18 : decode cX11_series 18 = .ok (.if_icmp .ge 7, 3) := by decide +kernel
theorem dX11_series_21 : decode cX11_series 21 = .ok (.iconst 1, 1) := by decide +kernel
theorem dX11_series_22 : decode cX11_series 22 = .ok (.goto 4, 3) := by decide +kernel
theorem dX11_series_25 : decode cX11_series 25 = .ok (.iconst 0, 1) := by decide +kernel
theorem dX11_series_26 : decode cX11_series 26 = .ok (.istore 4, 2) := by decide +kernel
theorem dX11_series_28 : decode cX11_series 28 = .ok (.aload_n 0, 1) := by decide +kernel
theorem dX11_series_29 : decode cX11_series 29 = .ok (.iload_n 1, 1) := by decide +kernel
theorem dX11_series_30 : decode cX11_series 30 = .ok (.invokevirtual 295, 3) := by decide +kernel
theorem dX11_series_33 : decode cX11_series 33 = .ok (.ifCond .eq 29, 3) := by decide +kernel
theorem dX11_series_36 : decode cX11_series 36 = .ok (.iload_n 3, 1) := by decide +kernel
theorem dX11_series_37 : decode cX11_series 37 = .ok (.iconst 2, 1) := by decide +kernel
theorem dX11_series_38 : decode cX11_series 38 = .ok (.iconst 5, 1) := by decide +kernel
theorem dX11_series_39 : decode cX11_series 39 = .ok (.invokestatic 145, 3) := by decide +kernel
theorem dX11_series_42 : decode cX11_series 42 = .ok (.ifCond .eq 20, 3) := by decide +kernel
theorem dX11_series_45 : decode cX11_series 45 = .ok (.iload 4, 2) := by decide +kernel
theorem dX11_series_47 : decode cX11_series 47 = .ok (.ifCond .ne 17, 3) := by decide +kernel
theorem dX11_series_50 : decode cX11_series 50 = .ok (.iload_n 2, 1) := by decide +kernel
theorem dX11_series_51 : decode cX11_series 51 = .ok (.bipush 20, 2) := by decide +kernel
theorem dX11_series_53 : decode cX11_series 53 = .ok (.if_icmp .eq 11, 3) := by decide +kernel
theorem dX11_series_56 : decode cX11_series 56 = .ok (.iload_n 2, 1) := by decide +kernel
theorem dX11_series_57 : decode cX11_series 57 = .ok (.bipush 21, 2) := by decide +kernel
theorem dX11_series_59 : decode cX11_series 59 = .ok (.if_icmp .eq 5, 3) := by decide +kernel
theorem dX11_series_62 : decode cX11_series 62 = .ok (.iconst (-1), 1) := by decide +kernel
theorem dX11_series_63 : decode cX11_series 63 = .ok (.ireturn, 1) := by decide +kernel
theorem dX11_series_64 : decode cX11_series 64 = .ok (.aload_n 0, 1) := by decide +kernel
theorem dX11_series_65 : decode cX11_series 65 = .ok (.getfield 99, 3) := by decide +kernel
theorem dX11_series_68 : decode cX11_series 68 = .ok (.aload_n 0, 1) := by decide +kernel
theorem dX11_series_69 : decode cX11_series 69 = .ok (.getfield 19, 3) := by decide +kernel
theorem dX11_series_72 : decode cX11_series 72 = .ok (.iload_n 1, 1) := by decide +kernel
theorem dX11_series_73 : decode cX11_series 73 = .ok (.invokevirtual 298, 3) := by decide +kernel
theorem dX11_series_76 : decode cX11_series 76 = .ok (.iload 4, 2) := by decide +kernel
theorem dX11_series_78 : decode cX11_series 78 = .ok (.ifCond .eq 13, 3) := by decide +kernel
theorem dX11_series_81 : decode cX11_series 81 = .ok (.aload_n 0, 1) := by decide +kernel
theorem dX11_series_82 : decode cX11_series 82 = .ok (.getfield 99, 3) := by decide +kernel
theorem dX11_series_85 : decode cX11_series 85 = .ok (.getfield 301, 3) := by decide +kernel
theorem dX11_series_88 : decode cX11_series 88 = .ok (.iload_n 2, 1) := by decide +kernel
theorem dX11_series_89 : decode cX11_series 89 = .ok (.iaload, 1) := by decide +kernel
theorem dX11_series_90 : decode cX11_series 90 = .ok (.ireturn, 1) := by decide +kernel
theorem dX11_series_91 : decode cX11_series 91 = .ok (.iload_n 2, 1) := by decide +kernel
theorem dX11_series_92 : decode cX11_series 92 = .ok (.bipush 20, 2) := by decide +kernel
theorem dX11_series_94 : decode cX11_series 94 = .ok (.if_icmp .ne 13, 3) := by decide +kernel
theorem dX11_series_97 : decode cX11_series 97 = .ok (.aload_n 0, 1) := by decide +kernel
theorem dX11_series_98 : decode cX11_series 98 = .ok (.getfield 99, 3) := by decide +kernel
theorem dX11_series_101 : decode cX11_series 101 = .ok (.getfield 304, 3) := by decide +kernel
theorem dX11_series_104 : decode cX11_series 104 = .ok (.goto 10, 3) := by decide +kernel
theorem dX11_series_107 : decode cX11_series 107 = .ok (.aload_n 0, 1) := by decide +kernel
theorem dX11_series_108 : decode cX11_series 108 = .ok (.getfield 99, 3) := by decide +kernel
theorem dX11_series_111 : decode cX11_series 111 = .ok (.getfield 307, 3) := by decide +kernel
theorem dX11_series_114 : decode cX11_series 114 = .ok (.ireturn, 1) := by decide +kernel
theorem dX11_knots_0 : decode cX11_knots 0 = .ok (.iconst 0, 1) := by decide +kernel
theorem dX11_knots_1 : decode cX11_knots 1 = .ok (.istore_n 1, 1) := by decide +kernel
theorem dX11_knots_2 : decode cX11_knots 2 = .ok (.aload_n 0, 1) := by decide +kernel
theorem dX11_knots_3 : decode cX11_knots 3 = .ok (.invokevirtual 310, 3) := by decide +kernel
theorem dX11_knots_6 : decode cX11_knots 6 = .ok (.istore_n 2, 1) := by decide +kernel
theorem dX11_knots_7 : decode cX11_knots 7 = .ok (.iconst 0, 1) := by decide +kernel
theorem dX11_knots_8 : decode cX11_knots 8 = .ok (.istore_n 3, 1) := by decide +kernel
theorem dX11_knots_9 : decode cX11_knots 9 = .ok (.iload_n 3, 1) := by decide +kernel
theorem dX11_knots_10 : decode cX11_knots 10 = .ok (.bipush 6, 2) := by decide +kernel
theorem dX11_knots_12 : decode cX11_knots 12 = .ok (.if_icmp .ge 30, 3) := by decide +kernel
theorem dX11_knots_15 : decode cX11_knots 15 = .ok (.iload_n 2, 1) := by decide +kernel
theorem dX11_knots_16 : decode cX11_knots 16 = .ok (.iload_n 3, 1) := by decide +kernel
theorem dX11_knots_17 : decode cX11_knots 17 = .ok (.invokestatic 164, 3) := by decide +kernel
theorem dX11_knots_20 : decode cX11_knots 20 = .ok (.ifCond .eq 16, 3) := by decide +kernel
theorem dX11_knots_23 : decode cX11_knots 23 = .ok (.iinc 1 1, 3) := by decide +kernel
theorem dX11_knots_26 : decode cX11_knots 26 = .ok (.iload_n 2, 1) := by decide +kernel
theorem dX11_knots_27 : decode cX11_knots 27 = .ok (.aload_n 0, 1) := by decide +kernel
theorem dX11_knots_28 : decode cX11_knots 28 = .ok (.iload_n 3, 1) := by decide +kernel
theorem dX11_knots_29 : decode cX11_knots 29 = .ok (.invokevirtual 210, 3) := by decide +kernel
theorem dX11_knots_32 : decode cX11_knots 32 = .ok (.iconst (-1), 1) := by decide +kernel
theorem dX11_knots_33 : decode cX11_knots 33 = .ok (.ixor, 1) := by decide +kernel
theorem dX11_knots_34 : decode cX11_knots 34 = .ok (.iand, 1) := by decide +kernel
theorem dX11_knots_35 : decode cX11_knots 35 = .ok (.istore_n 2, 1) := by decide +kernel
theorem dX11_knots_36 : decode cX11_knots 36 = .ok (.iinc 3 1, 3) := by decide +kernel
theorem dX11_knots_39 : decode cX11_knots 39 = .ok (.goto (-30), 3) := by decide +kernel
theorem dX11_knots_42 : decode cX11_knots 42 = .ok (.iload_n 1, 1) := by decide +kernel
theorem dX11_knots_43 : decode cX11_knots 43 = .ok (.ireturn, 1) := by decide +kernel
theorem dX11_winter_0 : decode cX11_winter 0 = .ok (.iload_n 1, 1) := by decide +kernel
theorem dX11_winter_1 : decode cX11_winter 1 = .ok (.iconst 0, 1) := by decide +kernel
theorem dX11_winter_2 : decode cX11_winter 2 = .ok (.sipush 300, 3) := by decide +kernel
theorem dX11_winter_5 : decode cX11_winter 5 = .ok (.invokestatic 145, 3) := by decide +kernel
theorem dX11_winter_8 : decode cX11_winter 8 = .ok (.ifCond .eq 30, 3) := by decide +kernel
theorem dX11_winter_11 : decode cX11_winter 11 = .ok (.iload_n 3, 1) := by decide +kernel
theorem dX11_winter_12 : decode cX11_winter 12 = .ok (.iconst 0, 1) := by decide +kernel
theorem dX11_winter_13 : decode cX11_winter 13 = .ok (.iconst 2, 1) := by decide +kernel
theorem dX11_winter_14 : decode cX11_winter 14 = .ok (.invokestatic 145, 3) := by decide +kernel
theorem dX11_winter_17 : decode cX11_winter 17 = .ok (.ifCond .eq 21, 3) := by decide +kernel
theorem dX11_winter_20 : decode cX11_winter 20 = .ok (.iload_n 2, 1) := by decide +kernel
theorem dX11_winter_21 : decode cX11_winter 21 = .ok (.aload_n 0, 1) := by decide +kernel
theorem dX11_winter_22 : decode cX11_winter 22 = .ok (.getfield 50, 3) := by decide +kernel
theorem dX11_winter_25 : decode cX11_winter 25 = .ok (.getfield 314, 3) := by decide +kernel
theorem dX11_winter_28 : decode cX11_winter 28 = .ok (.invokestatic 290, 3) := by decide +kernel
theorem dX11_winter_31 : decode cX11_winter 31 = .ok (.if_icmp .ne 7, 3) := by decide +kernel
theorem dX11_winter_34 : decode cX11_winter 34 = .ok (.iconst 1, 1) := by decide +kernel
theorem dX11_winter_35 : decode cX11_winter 35 = .ok (.goto 4, 3) := by decide +kernel
theorem dX11_winter_38 : decode cX11_winter 38 = .ok (.iconst 0, 1) := by decide +kernel
theorem dX11_winter_39 : decode cX11_winter 39 = .ok (.istore 4, 2) := by decide +kernel
theorem dX11_winter_41 : decode cX11_winter 41 = .ok (.iload 4, 2) := by decide +kernel
theorem dX11_winter_43 : decode cX11_winter 43 = .ok (.ifCond .eq 14, 3) := by decide +kernel
theorem dX11_winter_46 : decode cX11_winter 46 = .ok (.aload_n 0, 1) := by decide +kernel
theorem dX11_winter_47 : decode cX11_winter 47 = .ok (.iload_n 2, 1) := by decide +kernel
theorem dX11_winter_48 : decode cX11_winter 48 = .ok (.iconst 1, 1) := by decide +kernel
theorem dX11_winter_49 : decode cX11_winter 49 = .ok (.bipush 10, 2) := by decide +kernel
theorem dX11_winter_51 : decode cX11_winter 51 = .ok (.invokevirtual 119, 3) := by decide +kernel
theorem dX11_winter_54 : decode cX11_winter 54 = .ok (.ifCond .ne 5, 3) := by decide +kernel
theorem dX11_winter_57 : decode cX11_winter 57 = .ok (.iconst (-1), 1) := by decide +kernel
theorem dX11_winter_58 : decode cX11_winter 58 = .ok (.ireturn, 1) := by decide +kernel
theorem dX11_winter_59 : decode cX11_winter 59 = .ok (.aload_n 0, 1) := by decide +kernel
theorem dX11_winter_60 : decode cX11_winter 60 = .ok (.iconst 0, 1) := by decide +kernel
theorem dX11_winter_61 : decode cX11_winter 61 = .ok (.putfield 13, 3) := by decide +kernel
theorem dX11_winter_64 : decode cX11_winter 64 = .ok (.aload_n 0, 1) := by decide +kernel
theorem dX11_winter_65 : decode cX11_winter 65 = .ok (.iload_n 2, 1) := by decide +kernel
theorem dX11_winter_66 : decode cX11_winter 66 = .ok (.bipush 10, 2) := by decide +kernel
theorem dX11_winter_68 : decode cX11_winter 68 = .ok (.invokevirtual 317, 3) := by decide +kernel
theorem dX11_winter_71 : decode cX11_winter 71 = .ok (.ifCond .ne 6, 3) := by decide +kernel
theorem dX11_winter_74 : decode cX11_winter 74 = .ok (.bipush (-2), 2) := by decide +kernel
theorem dX11_winter_76 : decode cX11_winter 76 = .ok (.ireturn, 1) := by decide +kernel
theorem dX11_winter_77 : decode cX11_winter 77 = .ok (.aload_n 0, 1) := by decide +kernel
theorem dX11_winter_78 : decode cX11_winter 78 = .ok (.getfield 50, 3) := by decide +kernel
theorem dX11_winter_81 : decode cX11_winter 81 = .ok (.iload_n 1, 1) := by decide +kernel
theorem dX11_winter_82 : decode cX11_winter 82 = .ok (.aload_n 0, 1) := by decide +kernel
theorem dX11_winter_83 : decode cX11_winter 83 = .ok (.getfield 9, 3) := by decide +kernel
theorem dX11_winter_86 : decode cX11_winter 86 = .ok (.invokevirtual 320, 3) := by decide +kernel
theorem dX11_winter_89 : decode cX11_winter 89 = .ok (.iload_n 3, 1) := by decide +kernel
theorem dX11_winter_90 : decode cX11_winter 90 = .ok (.ifCond .ne 11, 3) := by decide +kernel
theorem dX11_winter_93 : decode cX11_winter 93 = .ok (.aload_n 0, 1) := by decide +kernel
theorem dX11_winter_94 : decode cX11_winter 94 = .ok (.getfield 50, 3) := by decide +kernel
theorem dX11_winter_97 : decode cX11_winter 97 = .ok (.getfield 324, 3) := by decide +kernel
theorem dX11_winter_100 : decode cX11_winter 100 = .ok (.ireturn, 1) := by decide +kernel
theorem dX11_winter_101 : decode cX11_winter 101 = .ok (.iload_n 3, 1) := by decide +kernel
theorem dX11_winter_102 : decode cX11_winter 102 = .ok (.iconst 1, 1) := by decide +kernel
theorem dX11_winter_103 : decode cX11_winter 103 = .ok (.if_icmp .ne 13, 3) := by decide +kernel
theorem dX11_winter_106 : decode cX11_winter 106 = .ok (.aload_n 0, 1) := by decide +kernel
theorem dX11_winter_107 : decode cX11_winter 107 = .ok (.getfield 50, 3) := by decide +kernel
theorem dX11_winter_110 : decode cX11_winter 110 = .ok (.getfield 327, 3) := by decide +kernel
theorem dX11_winter_113 : decode cX11_winter 113 = .ok (.goto 10, 3) := by decide +kernel
theorem dX11_winter_116 : decode cX11_winter 116 = .ok (.aload_n 0, 1) := by decide +kernel
theorem dX11_winter_117 : decode cX11_winter 117 = .ok (.getfield 50, 3) := by decide +kernel
theorem dX11_winter_120 : decode cX11_winter 120 = .ok (.getfield 330, 3) := by decide +kernel
theorem dX11_winter_123 : decode cX11_winter 123 = .ok (.ireturn, 1) := by decide +kernel
theorem dX11_lent_0 : decode cX11_lent 0 = .ok (.iload_n 1, 1) := by decide +kernel
theorem dX11_lent_1 : decode cX11_lent 1 = .ok (.iconst 1, 1) := by decide +kernel
theorem dX11_lent_2 : decode cX11_lent 2 = .ok (.bipush 8, 2) := by decide +kernel
theorem dX11_lent_4 : decode cX11_lent 4 = .ok (.invokestatic 145, 3) := by decide +kernel
theorem dX11_lent_7 : decode cX11_lent 7 = .ok (.ifCond .eq 13, 3) := by decide +kernel
theorem dX11_lent_10 : decode cX11_lent 10 = .ok (.iconst 2, 1) := by decide +kernel
theorem dX11_lent_11 : decode cX11_lent 11 = .ok (.iload_n 1, 1) := by decide +kernel
theorem dX11_lent_12 : decode cX11_lent 12 = .ok (.imul, 1) := by decide +kernel
theorem dX11_lent_13 : decode cX11_lent 13 = .ok (.aload_n 0, 1) := by decide +kernel
theorem dX11_lent_14 : decode cX11_lent 14 = .ok (.getfield 13, 3) := by decide +kernel
theorem dX11_lent_17 : decode cX11_lent 17 = .ok (.if_icmp .le 5, 3) := by decide +kernel
theorem dX11_lent_20 : decode cX11_lent 20 = .ok (.iconst (-1), 1) := by decide +kernel
theorem dX11_lent_21 : decode cX11_lent 21 = .ok (.ireturn, 1) := by decide +kernel
theorem dX11_lent_22 : decode cX11_lent 22 = .ok (.aload_n 0, 1) := by decide +kernel
theorem dX11_lent_23 : decode cX11_lent 23 = .ok (.iconst 0, 1) := by decide +kernel
theorem dX11_lent_24 : decode cX11_lent 24 = .ok (.putfield 13, 3) := by decide +kernel
theorem dX11_lent_27 : decode cX11_lent 27 = .ok (.aload_n 0, 1) := by decide +kernel
theorem dX11_lent_28 : decode cX11_lent 28 = .ok (.iconst 2, 1) := by decide +kernel
theorem dX11_lent_29 : decode cX11_lent 29 = .ok (.iload_n 1, 1) := by decide +kernel
theorem dX11_lent_30 : decode cX11_lent 30 = .ok (.imul, 1) := by decide +kernel
theorem dX11_lent_31 : decode cX11_lent 31 = .ok (.bipush 99, 2) := by decide +kernel
theorem dX11_lent_33 : decode cX11_lent 33 = .ok (.invokevirtual 317, 3) := by decide +kernel
theorem dX11_lent_36 : decode cX11_lent 36 = .ok (.ifCond .eq 18, 3) := by decide +kernel
theorem dX11_lent_39 : decode cX11_lent 39 = .ok (.aload_n 0, 1) := by decide +kernel
theorem dX11_lent_40 : decode cX11_lent 40 = .ok (.getfield 106, 3) := by decide +kernel
theorem dX11_lent_43 : decode cX11_lent 43 = .ok (.aload_n 0, 1) := by decide +kernel
theorem dX11_lent_44 : decode cX11_lent 44 = .ok (.getfield 9, 3) := by decide +kernel
theorem dX11_lent_47 : decode cX11_lent 47 = .ok (.iload_n 1, 1) := by decide +kernel
theorem dX11_lent_48 : decode cX11_lent 48 = .ok (.invokevirtual 333, 3) := by decide +kernel
theorem dX11_lent_51 : decode cX11_lent 51 = .ok (.ifCond .ne 6, 3) := by decide +kernel
theorem dX11_lent_54 : decode cX11_lent 54 = .ok (.bipush (-2), 2) := by decide +kernel
theorem dX11_lent_56 : decode cX11_lent 56 = .ok (.ireturn, 1) := by decide +kernel
theorem dX11_lent_57 : decode cX11_lent 57 = .ok (.iload_n 2, 1) := by decide +kernel
theorem dX11_lent_58 : decode cX11_lent 58 = .ok (.iconst 0, 1) := by decide +kernel
theorem dX11_lent_59 : decode cX11_lent 59 = .ok (.iload_n 1, 1) := by decide +kernel
theorem dX11_lent_60 : decode cX11_lent 60 = .ok (.iconst 1, 1) := by decide +kernel
theorem dX11_lent_61 : decode cX11_lent 61 = .ok (.isub, 1) := by decide +kernel
theorem dX11_lent_62 : decode cX11_lent 62 = .ok (.invokestatic 145, 3) := by decide +kernel
theorem dX11_lent_65 : decode cX11_lent 65 = .ok (.istore_n 3, 1) := by decide +kernel
theorem dX11_lent_66 : decode cX11_lent 66 = .ok (.iload_n 3, 1) := by decide +kernel
theorem dX11_lent_67 : decode cX11_lent 67 = .ok (.ifCond .ne 12, 3) := by decide +kernel
theorem dX11_lent_70 : decode cX11_lent 70 = .ok (.iload_n 2, 1) := by decide +kernel
theorem dX11_lent_71 : decode cX11_lent 71 = .ok (.bipush 20, 2) := by decide +kernel
theorem dX11_lent_73 : decode cX11_lent 73 = .ok (.if_icmp .eq 6, 3) := by decide +kernel
theorem dX11_lent_76 : decode cX11_lent 76 = .ok (.bipush (-4), 2) := by decide +kernel
theorem dX11_lent_78 : decode cX11_lent 78 = .ok (.ireturn, 1) := by decide +kernel
theorem dX11_lent_79 : decode cX11_lent 79 = .ok (.aload_n 0, 1) := by decide +kernel
theorem dX11_lent_80 : decode cX11_lent 80 = .ok (.getfield 106, 3) := by decide +kernel
theorem dX11_lent_83 : decode cX11_lent 83 = .ok (.invokevirtual 336, 3) := by decide +kernel
theorem dX11_lent_86 : decode cX11_lent 86 = .ok (.iload_n 3, 1) := by decide +kernel
theorem dX11_lent_87 : decode cX11_lent 87 = .ok (.ifCond .eq 15, 3) := by decide +kernel
theorem dX11_lent_90 : decode cX11_lent 90 = .ok (.aload_n 0, 1) := by decide +kernel
theorem dX11_lent_91 : decode cX11_lent 91 = .ok (.getfield 106, 3) := by decide +kernel
theorem dX11_lent_94 : decode cX11_lent 94 = .ok (.getfield 338, 3) := by decide +kernel
theorem dX11_lent_97 : decode cX11_lent 97 = .ok (.iload_n 2, 1) := by decide +kernel
theorem dX11_lent_98 : decode cX11_lent 98 = .ok (.iaload, 1) := by decide +kernel
theorem dX11_lent_99 : decode cX11_lent 99 = .ok (.goto 10, 3) := by decide +kernel
theorem dX11_lent_102 : decode cX11_lent 102 = .ok (.aload_n 0, 1) := by decide +kernel
theorem dX11_lent_103 : decode cX11_lent 103 = .ok (.getfield 106, 3) := by decide +kernel
theorem dX11_lent_106 : decode cX11_lent 106 = .ok (.getfield 341, 3) := by decide +kernel
theorem dX11_lent_109 : decode cX11_lent 109 = .ok (.ireturn, 1) := by decide +kernel
theorem dX11_forged_0 : decode cX11_forged 0 = .ok (.iload_n 1, 1) := by decide +kernel
theorem dX11_forged_1 : decode cX11_forged 1 = .ok (.iconst 1, 1) := by decide +kernel
theorem dX11_forged_2 : decode cX11_forged 2 = .ok (.sipush 1023, 3) := by decide +kernel
theorem dX11_forged_5 : decode cX11_forged 5 = .ok (.invokestatic 145, 3) := by decide +kernel
theorem dX11_forged_8 : decode cX11_forged 8 = .ok (.ifCond .eq 42, 3) := by decide +kernel
theorem dX11_forged_11 : decode cX11_forged 11 = .ok (.iload_n 1, 1) := by decide +kernel
theorem dX11_forged_12 : decode cX11_forged 12 = .ok (.aload_n 0, 1) := by decide +kernel
theorem dX11_forged_13 : decode cX11_forged 13 = .ok (.getfield 50, 3) := by decide +kernel
theorem dX11_forged_16 : decode cX11_forged 16 = .ok (.getfield 314, 3) := by decide +kernel
theorem dX11_forged_19 : decode cX11_forged 19 = .ok (.iconst (-1), 1) := by decide +kernel
theorem dX11_forged_20 : decode cX11_forged 20 = .ok (.ixor, 1) := by decide +kernel
theorem dX11_forged_21 : decode cX11_forged 21 = .ok (.iand, 1) := by decide +kernel
theorem dX11_forged_22 : decode cX11_forged 22 = .ok (.ifCond .ne 28, 3) := by decide +kernel
theorem dX11_forged_25 : decode cX11_forged 25 = .ok (.iload_n 2, 1) := by decide +kernel
theorem dX11_forged_26 : decode cX11_forged 26 = .ok (.iconst 0, 1) := by decide +kernel
theorem dX11_forged_27 : decode cX11_forged 27 = .ok (.sipush 1023, 3) := by decide +kernel
theorem dX11_forged_30 : decode cX11_forged 30 = .ok (.invokestatic 145, 3) := by decide +kernel
theorem dX11_forged_33 : decode cX11_forged 33 = .ok (.ifCond .eq 17, 3) := by decide +kernel
theorem dX11_forged_36 : decode cX11_forged 36 = .ok (.iload 4, 2) := by decide +kernel
theorem dX11_forged_38 : decode cX11_forged 38 = .ok (.iconst 0, 1) := by decide +kernel
theorem dX11_forged_39 : decode cX11_forged 39 = .ok (.iconst 1, 1) := by decide +kernel
theorem dX11_forged_40 : decode cX11_forged 40 = .ok (.invokestatic 145, 3) := by decide +kernel
theorem dX11_forged_43 : decode cX11_forged 43 = .ok (.ifCond .eq 7, 3) := by decide +kernel
theorem dX11_forged_46 : decode cX11_forged 46 = .ok (.iconst 1, 1) := by decide +kernel
theorem dX11_forged_47 : decode cX11_forged 47 = .ok (.goto 4, 3) := by decide +kernel
theorem dX11_forged_50 : decode cX11_forged 50 = .ok (.iconst 0, 1) := by decide +kernel
theorem dX11_forged_51 : decode cX11_forged 51 = .ok (.istore 5, 2) := by decide +kernel
theorem dX11_forged_53 : decode cX11_forged 53 = .ok (.iload 5, 2) := by decide +kernel
theorem dX11_forged_55 : decode cX11_forged 55 = .ok (.ifCond .eq 16, 3) := by decide +kernel
theorem dX11_forged_58 : decode cX11_forged 58 = .ok (.iload_n 3, 1) := by decide +kernel
theorem dX11_forged_59 : decode cX11_forged 59 = .ok (.iconst (-1), 1) := by decide +kernel
theorem dX11_forged_60 : decode cX11_forged 60 = .ok (.if_icmp .eq 13, 3) := by decide +kernel
theorem dX11_forged_63 : decode cX11_forged 63 = .ok (.iload_n 2, 1) := by decide +kernel
theorem dX11_forged_64 : decode cX11_forged 64 = .ok (.iload_n 3, 1) := by decide +kernel
theorem dX11_forged_65 : decode cX11_forged 65 = .ok (.invokestatic 164, 3) := by decide +kernel
theorem dX11_forged_68 : decode cX11_forged 68 = .ok (.ifCond .ne 5, 3) := by decide +kernel
theorem dX11_forged_71 : decode cX11_forged 71 = .ok (.iconst (-1), 1) := by decide +kernel
theorem dX11_forged_72 : decode cX11_forged 72 = .ok (.ireturn, 1) := by decide +kernel
theorem dX11_forged_73 : decode cX11_forged 73 = .ok (.aload_n 0, 1) := by decide +kernel
theorem dX11_forged_74 : decode cX11_forged 74 = .ok (.getfield 50, 3) := by decide +kernel
theorem dX11_forged_77 : decode cX11_forged 77 = .ok (.iload_n 1, 1) := by decide +kernel
theorem dX11_forged_78 : decode cX11_forged 78 = .ok (.iload_n 2, 1) := by decide +kernel
theorem dX11_forged_79 : decode cX11_forged 79 = .ok (.iload_n 3, 1) := by decide +kernel
theorem dX11_forged_80 : decode cX11_forged 80 = .ok (.invokevirtual 344, 3) := by decide +kernel
theorem dX11_forged_83 : decode cX11_forged 83 = .ok (.istore 6, 2) := by decide +kernel
theorem dX11_forged_85 : decode cX11_forged 85 = .ok (.iload 4, 2) := by decide +kernel
theorem dX11_forged_87 : decode cX11_forged 87 = .ok (.ifCond .ne 8, 3) := by decide +kernel
theorem dX11_forged_90 : decode cX11_forged 90 = .ok (.iload 6, 2) := by decide +kernel
theorem dX11_forged_92 : decode cX11_forged 92 = .ok (.goto 12, 3) := by decide +kernel
theorem dX11_forged_95 : decode cX11_forged 95 = .ok (.aload_n 0, 1) := by decide +kernel
theorem dX11_forged_96 : decode cX11_forged 96 = .ok (.getfield 50, 3) := by decide +kernel
theorem dX11_forged_99 : decode cX11_forged 99 = .ok (.iload 6, 2) := by decide +kernel
theorem dX11_forged_101 : decode cX11_forged 101 = .ok (.invokevirtual 347, 3) := by decide +kernel
theorem dX11_forged_104 : decode cX11_forged 104 = .ok (.ireturn, 1) := by decide +kernel
theorem dX11_yawns_0 : decode cX11_yawns 0 = .ok (.aload_n 0, 1) := by decide +kernel
theorem dX11_yawns_1 : decode cX11_yawns 1 = .ok (.iload_n 1, 1) := by decide +kernel
theorem dX11_yawns_2 : decode cX11_yawns 2 = .ok (.invokevirtual 154, 3) := by decide +kernel
theorem dX11_yawns_5 : decode cX11_yawns 5 = .ok (.astore 4, 2) := by decide +kernel
theorem dX11_yawns_7 : decode cX11_yawns 7 = .ok (.aload 4, 2) := by decide +kernel
theorem dX11_yawns_9 : decode cX11_yawns 9 = .ok (.ifnull 23, 3) := by decide +kernel
theorem dX11_yawns_12 : decode cX11_yawns 12 = .ok (.iload_n 3, 1) := by decide +kernel
theorem dX11_yawns_13 : decode cX11_yawns 13 = .ok (.iconst 0, 1) := by decide +kernel
theorem dX11_yawns_14 : decode cX11_yawns 14 = .ok (.iconst 1, 1) := by decide +kernel
theorem dX11_yawns_15 : decode cX11_yawns 15 = .ok (.invokestatic 145, 3) := by decide +kernel
theorem dX11_yawns_18 : decode cX11_yawns 18 = .ok (.ifCond .eq 14, 3) := by decide +kernel
theorem dX11_yawns_21 : decode cX11_yawns 21 = .ok (.aload_n 0, 1) := by decide +kernel
theorem dX11_yawns_22 : decode cX11_yawns 22 = .ok (.iload_n 2, 1) := by decide +kernel
theorem dX11_yawns_23 : decode cX11_yawns 23 = .ok (.iconst 1, 1) := by decide +kernel
theorem dX11_yawns_24 : decode cX11_yawns 24 = .ok (.bipush 20, 2) := by decide +kernel
theorem dX11_yawns_26 : decode cX11_yawns 26 = .ok (.invokevirtual 119, 3) := by decide +kernel
theorem dX11_yawns_29 : decode cX11_yawns 29 = .ok (.ifCond .ne 5, 3) := by decide +kernel
theorem dX11_yawns_32 : decode cX11_yawns 32 = .ok (.iconst (-1), 1) := by decide +kernel
theorem dX11_yawns_33 : decode cX11_yawns 33 = .ok (.ireturn, 1) := by decide +kernel
theorem dX11_yawns_34 : decode cX11_yawns 34 = .ok (.aload_n 0, 1) := by decide +kernel
theorem dX11_yawns_35 : decode cX11_yawns 35 = .ok (.iconst 0, 1) := by decide +kernel
theorem dX11_yawns_36 : decode cX11_yawns 36 = .ok (.putfield 13, 3) := by decide +kernel
theorem dX11_yawns_39 : decode cX11_yawns 39 = .ok (.aload 4, 2) := by decide +kernel
theorem dX11_yawns_41 : decode cX11_yawns 41 = .ok (.getfield 198, 3) := by decide +kernel
theorem dX11_yawns_44 : decode cX11_yawns 44 = .ok (.iload_n 2, 1) := by decide +kernel
theorem dX11_yawns_45 : decode cX11_yawns 45 = .ok (.if_icmp .ge 6, 3) := by decide +kernel
theorem dX11_yawns_48 : decode cX11_yawns 48 = .ok (.bipush (-2), 2) := by decide +kernel
theorem dX11_yawns_50 : decode cX11_yawns 50 = .ok (.ireturn, 1) := by decide +kernel
theorem dX11_yawns_51 : decode cX11_yawns 51 = .ok (.iconst 0, 1) := by decide +kernel
theorem dX11_yawns_52 : decode cX11_yawns 52 = .ok (.istore 5, 2) := by decide +kernel
theorem dX11_yawns_54 : decode cX11_yawns 54 = .ok (.iconst 0, 1) := by decide +kernel
theorem dX11_yawns_55 : decode cX11_yawns 55 = .ok (.istore 6, 2) := by decide +kernel
theorem dX11_yawns_57 : decode cX11_yawns 57 = .ok (.iconst 0, 1) := by decide +kernel
theorem dX11_yawns_58 : decode cX11_yawns 58 = .ok (.istore 7, 2) := by decide +kernel
theorem dX11_yawns_60 : decode cX11_yawns 60 = .ok (.iload 7, 2) := by decide +kernel
theorem dX11_yawns_62 : decode cX11_yawns 62 = .ok (.bipush 10, 2) := by decide +kernel
theorem dX11_yawns_64 : decode cX11_yawns 64 = .ok (.if_icmp .ge 77, 3) := by decide +kernel
theorem dX11_yawns_67 : decode cX11_yawns 67 = .ok (.iconst 1, 1) := by decide +kernel
theorem dX11_yawns_68 : decode cX11_yawns 68 = .ok (.istore 8, 2) := by decide +kernel
theorem dX11_yawns_70 : decode cX11_yawns 70 = .ok (.aload_n 0, 1) := by decide +kernel
theorem dX11_yawns_71 : decode cX11_yawns 71 = .ok (.getfield 50, 3) := by decide +kernel
theorem dX11_yawns_74 : decode cX11_yawns 74 = .ok (.iload 7, 2) := by decide +kernel
theorem dX11_yawns_76 : decode cX11_yawns 76 = .ok (.invokevirtual 217, 3) := by decide +kernel
theorem dX11_yawns_79 : decode cX11_yawns 79 = .ok (.ifCond .eq 56, 3) := by decide +kernel
theorem dX11_yawns_82 : decode cX11_yawns 82 = .ok (.iload 8, 2) := by decide +kernel
theorem dX11_yawns_84 : decode cX11_yawns 84 = .ok (.aload 4, 2) := by decide +kernel
theorem dX11_yawns_86 : decode cX11_yawns 86 = .ok (.getfield 198, 3) := by decide +kernel
theorem dX11_yawns_89 : decode cX11_yawns 89 = .ok (.if_icmp .gt 46, 3) := by decide +kernel
theorem dX11_yawns_92 : decode cX11_yawns 92 = .ok (.aload 4, 2) := by decide +kernel
theorem dX11_yawns_94 : decode cX11_yawns 94 = .ok (.aload_n 0, 1) := by decide +kernel
theorem dX11_yawns_95 : decode cX11_yawns 95 = .ok (.getfield 9, 3) := by decide +kernel
theorem dX11_yawns_98 : decode cX11_yawns 98 = .ok (.iload_n 2, 1) := by decide +kernel
theorem dX11_yawns_99 : decode cX11_yawns 99 = .ok (.iload 8, 2) := by decide +kernel
theorem dX11_yawns_101 : decode cX11_yawns 101 = .ok (.aload_n 0, 1) := by decide +kernel
theorem dX11_yawns_102 : decode cX11_yawns 102 = .ok (.getfield 50, 3) := by decide +kernel
theorem dX11_yawns_105 : decode cX11_yawns 105 = .ok (.getfield 220, 3) := by decide +kernel
theorem dX11_yawns_108 : decode cX11_yawns 108 = .ok (.iload 7, 2) := by decide +kernel
theorem dX11_yawns_110 : decode cX11_yawns 110 = .ok (.iaload, 1) := by decide +kernel
theorem dX11_yawns_111 : decode cX11_yawns 111 = .ok (.invokevirtual 350, 3) := by decide +kernel
theorem dX11_yawns_114 : decode cX11_yawns 114 = .ok (.ifCond .eq 15, 3) := by decide +kernel
theorem dX11_yawns_117 : decode cX11_yawns 117 = .ok (.iload 5, 2) := by decide +kernel
theorem dX11_yawns_119 : decode cX11_yawns 119 = .ok (.iconst 1, 1) := by decide +kernel
theorem dX11_yawns_120 : decode cX11_yawns 120 = .ok (.iload 7, 2) := by decide +kernel
theorem dX11_yawns_122 : decode cX11_yawns 122 = .ok (.ishl, 1) := by decide +kernel
theorem dX11_yawns_123 : decode cX11_yawns 123 = .ok (.ior, 1) := by decide +kernel
theorem dX11_yawns_124 : decode cX11_yawns 124 = .ok (.istore 5, 2) := by decide +kernel
theorem dX11_yawns_126 : decode cX11_yawns 126 = .ok (.iinc 6 1, 3) := by decide +kernel
theorem dX11_yawns_129 : decode cX11_yawns 129 = .ok (.iinc 8 1, 3) := by decide +kernel
theorem dX11_yawns_132 : decode cX11_yawns 132 = .ok (.goto (-62), 3) := by decide +kernel
theorem dX11_yawns_135 : decode cX11_yawns 135 = .ok (.iinc 7 1, 3) := by decide +kernel
theorem dX11_yawns_138 : decode cX11_yawns 138 = .ok (.goto (-78), 3) := by decide +kernel
theorem dX11_yawns_141 : decode cX11_yawns 141 = .ok (.iload_n 3, 1) := by decide +kernel
theorem dX11_yawns_142 : decode cX11_yawns 142 = .ok (.ifCond .ne 8, 3) := by decide +kernel
theorem dX11_yawns_145 : decode cX11_yawns 145 = .ok (.iload 5, 2) := by decide +kernel
theorem dX11_yawns_147 : decode cX11_yawns 147 = .ok (.goto 5, 3) := by decide +kernel
theorem dX11_yawns_150 : decode cX11_yawns 150 = .ok (.iload 6, 2) := by decide +kernel
theorem dX11_yawns_152 : decode cX11_yawns 152 = .ok (.ireturn, 1) := by decide +kernel
theorem dX11_book_0 : decode cX11_book 0 = .ok (.iload_n 1, 1) := by decide +kernel
theorem dX11_book_1 : decode cX11_book 1 = .ok (.invokestatic 290, 3) := by decide +kernel
theorem dX11_book_4 : decode cX11_book 4 = .ok (.istore 4, 2) := by decide +kernel
theorem dX11_book_6 : decode cX11_book 6 = .ok (.iload 4, 2) := by decide +kernel
theorem dX11_book_8 : decode cX11_book 8 = .ok (.iconst 1, 1) := by decide +kernel
theorem dX11_book_9 : decode cX11_book 9 = .ok (.if_icmp .lt 29, 3) := by decide +kernel
theorem dX11_book_12 : decode cX11_book 12 = .ok (.aload_n 0, 1) := by decide +kernel
theorem dX11_book_13 : decode cX11_book 13 = .ok (.iload_n 1, 1) := by decide +kernel
theorem dX11_book_14 : decode cX11_book 14 = .ok (.invokevirtual 295, 3) := by decide +kernel
theorem dX11_book_17 : decode cX11_book 17 = .ok (.ifCond .eq 21, 3) := by decide +kernel
theorem dX11_book_20 : decode cX11_book 20 = .ok (.iload_n 2, 1) := by decide +kernel
theorem dX11_book_21 : decode cX11_book 21 = .ok (.iconst 1, 1) := by decide +kernel
theorem dX11_book_22 : decode cX11_book 22 = .ok (.iconst 3, 1) := by decide +kernel
theorem dX11_book_23 : decode cX11_book 23 = .ok (.iload 4, 2) := by decide +kernel
theorem dX11_book_25 : decode cX11_book 25 = .ok (.invokestatic 354, 3) := by decide +kernel
theorem dX11_book_28 : decode cX11_book 28 = .ok (.invokestatic 145, 3) := by decide +kernel
theorem dX11_book_31 : decode cX11_book 31 = .ok (.ifCond .eq 7, 3) := by decide +kernel
theorem dX11_book_34 : decode cX11_book 34 = .ok (.iconst 1, 1) := by decide +kernel
theorem dX11_book_35 : decode cX11_book 35 = .ok (.goto 4, 3) := by decide +kernel
theorem dX11_book_38 : decode cX11_book 38 = .ok (.iconst 0, 1) := by decide +kernel
theorem dX11_book_39 : decode cX11_book 39 = .ok (.istore 5, 2) := by decide +kernel
theorem dX11_book_41 : decode cX11_book 41 = .ok (.iload 5, 2) := by decide +kernel
theorem dX11_book_43 : decode cX11_book 43 = .ok (.ifCond .eq 12, 3) := by decide +kernel
theorem dX11_book_46 : decode cX11_book 46 = .ok (.iload_n 3, 1) := by decide +kernel
theorem dX11_book_47 : decode cX11_book 47 = .ok (.iconst 0, 1) := by decide +kernel
theorem dX11_book_48 : decode cX11_book 48 = .ok (.iconst 2, 1) := by decide +kernel
theorem dX11_book_49 : decode cX11_book 49 = .ok (.invokestatic 145, 3) := by decide +kernel
theorem dX11_book_52 : decode cX11_book 52 = .ok (.ifCond .ne 5, 3) := by decide +kernel
theorem dX11_book_55 : decode cX11_book 55 = .ok (.iconst (-1), 1) := by decide +kernel
theorem dX11_book_56 : decode cX11_book 56 = .ok (.ireturn, 1) := by decide +kernel
theorem dX11_book_57 : decode cX11_book 57 = .ok (.sipush 433, 3) := by decide +kernel
theorem dX11_book_60 : decode cX11_book 60 = .ok (.istore 6, 2) := by decide +kernel
theorem dX11_book_62 : decode cX11_book 62 = .ok (.bipush (-2), 2) := by decide +kernel
theorem dX11_book_64 : decode cX11_book 64 = .ok (.istore 7, 2) := by decide +kernel
theorem dX11_book_66 : decode cX11_book 66 = .ok (.bipush (-2), 2) := by decide +kernel
theorem dX11_book_68 : decode cX11_book 68 = .ok (.istore 8, 2) := by decide +kernel
theorem dX11_book_70 : decode cX11_book 70 = .ok (.iconst 1, 1) := by decide +kernel
theorem dX11_book_71 : decode cX11_book 71 = .ok (.istore 9, 2) := by decide +kernel
theorem dX11_book_73 : decode cX11_book 73 = .ok (.iload 9, 2) := by decide +kernel
theorem dX11_book_75 : decode cX11_book 75 = .ok (.bipush 6, 2) := by decide +kernel
theorem dX11_book_77 : decode cX11_book 77 = .ok (.if_icmp .gt 105, 3) := by decide +kernel
theorem dX11_book_80 : decode cX11_book 80 = .ok (.iload 9, 2) := by decide +kernel
theorem dX11_book_82 : decode cX11_book 82 = .ok (.istore 10, 2) := by decide +kernel
theorem dX11_book_84 : decode cX11_book 84 = .ok (.iload 10, 2) := by decide +kernel
theorem dX11_book_86 : decode cX11_book 86 = .ok (.bipush 6, 2) := by decide +kernel
theorem dX11_book_88 : decode cX11_book 88 = .ok (.if_icmp .gt 88, 3) := by decide +kernel
theorem dX11_book_91 : decode cX11_book 91 = .ok (.iload_n 1, 1) := by decide +kernel
theorem dX11_book_92 : decode cX11_book 92 = .ok (.iload 9, 2) := by decide +kernel
theorem dX11_book_94 : decode cX11_book 94 = .ok (.iload 10, 2) := by decide +kernel
theorem dX11_book_96 : decode cX11_book 96 = .ok (.invokestatic 360, 3) := by decide +kernel
theorem dX11_book_99 : decode cX11_book 99 = .ok (.iload_n 2, 1) := by decide +kernel
theorem dX11_book_100 : decode cX11_book 100 = .ok (.if_icmp .ne 7, 3) := by decide +kernel
theorem dX11_book_103 : decode cX11_book 103 = .ok (.iconst 1, 1) := by decide +kernel
theorem dX11_book_104 : decode cX11_book 104 = .ok (.goto 4, 3) := by decide +kernel
theorem dX11_book_107 : decode cX11_book 107 = .ok (.iconst 0, 1) := by decide +kernel
theorem dX11_book_108 : decode cX11_book 108 = .ok (.istore 11, 2) := by decide +kernel
theorem dX11_book_110 : decode cX11_book 110 = .ok (.iload 11, 2) := by decide +kernel
theorem dX11_book_112 : decode cX11_book 112 = .ok (.ifCond .eq 15, 3) := by decide +kernel
theorem dX11_book_115 : decode cX11_book 115 = .ok (.aload_n 0, 1) := by decide +kernel
theorem dX11_book_116 : decode cX11_book 116 = .ok (.iload_n 1, 1) := by decide +kernel
theorem dX11_book_117 : decode cX11_book 117 = .ok (.iload 9, 2) := by decide +kernel
theorem dX11_book_119 : decode cX11_book 119 = .ok (.iload 10, 2) := by decide +kernel
theorem dX11_book_121 : decode cX11_book 121 = .ok (.invokevirtual 363, 3) := by decide +kernel
theorem dX11_book_124 : decode cX11_book 124 = .ok (.goto 5, 3) := by decide +kernel
theorem dX11_book_127 : decode cX11_book 127 = .ok (.iload 6, 2) := by decide +kernel
theorem dX11_book_129 : decode cX11_book 129 = .ok (.istore 12, 2) := by decide +kernel
theorem dX11_book_131 : decode cX11_book 131 = .ok (.iload 12, 2) := by decide +kernel
theorem dX11_book_133 : decode cX11_book 133 = .ok (.iload 6, 2) := by decide +kernel
theorem dX11_book_135 : decode cX11_book 135 = .ok (.if_icmp .ge 35, 3) := by decide +kernel
theorem dX11_book_138 : decode cX11_book 138 = .ok (.iload 12, 2) := by decide +kernel
theorem dX11_book_140 : decode cX11_book 140 = .ok (.istore 6, 2) := by decide +kernel
theorem dX11_book_142 : decode cX11_book 142 = .ok (.iload_n 2, 1) := by decide +kernel
theorem dX11_book_143 : decode cX11_book 143 = .ok (.iconst 1, 1) := by decide +kernel
theorem dX11_book_144 : decode cX11_book 144 = .ok (.if_icmp .le 8, 3) := by decide +kernel
theorem dX11_book_147 : decode cX11_book 147 = .ok (.iload 9, 2) := by decide +kernel
theorem dX11_book_149 : decode cX11_book 149 = .ok (.goto 5, 3) := by decide +kernel
theorem dX11_book_152 : decode cX11_book 152 = .ok (.bipush (-2), 2) := by decide +kernel
theorem dX11_book_154 : decode cX11_book 154 = .ok (.istore 7, 2) := by decide +kernel
theorem dX11_book_156 : decode cX11_book 156 = .ok (.iload_n 2, 1) := by decide +kernel
theorem dX11_book_157 : decode cX11_book 157 = .ok (.iconst 2, 1) := by decide +kernel
theorem dX11_book_158 : decode cX11_book 158 = .ok (.if_icmp .le 8, 3) := by decide +kernel
theorem dX11_book_161 : decode cX11_book 161 = .ok (.iload 10, 2) := by decide +kernel
theorem dX11_book_163 : decode cX11_book 163 = .ok (.goto 5, 3) := by decide +kernel
theorem dX11_book_166 : decode cX11_book 166 = .ok (.bipush (-2), 2) := by decide +kernel
theorem dX11_book_168 : decode cX11_book 168 = .ok (.istore 8, 2) := by decide +kernel
theorem dX11_book_170 : decode cX11_book 170 = .ok (.iinc 10 1, 3) := by decide +kernel
theorem dX11_book_173 : decode cX11_book 173 = .ok (.goto (-89), 3) := by decide +kernel
theorem dX11_book_176 : decode cX11_book 176 = .ok (.iinc 9 1, 3) := by decide +kernel
theorem dX11_book_179 : decode cX11_book 179 = .ok (.goto (-106), 3) := by decide +kernel
theorem dX11_book_182 : decode cX11_book 182 = .ok (.iload_n 3, 1) := by decide +kernel
theorem dX11_book_183 : decode cX11_book 183 = .ok (.ifCond .ne 6, 3) := by decide +kernel
theorem dX11_book_186 : decode cX11_book 186 = .ok (.iload 6, 2) := by decide +kernel
theorem dX11_book_188 : decode cX11_book 188 = .ok (.ireturn, 1) := by decide +kernel
theorem dX11_book_189 : decode cX11_book 189 = .ok (.iload_n 3, 1) := by decide +kernel
theorem dX11_book_190 : decode cX11_book 190 = .ok (.iconst 1, 1) := by decide +kernel
theorem dX11_book_191 : decode cX11_book 191 = .ok (.if_icmp .ne 8, 3) := by decide +kernel
theorem dX11_book_194 : decode cX11_book 194 = .ok (.iload 7, 2) := by decide +kernel
theorem dX11_book_196 : decode cX11_book 196 = .ok (.goto 5, 3) := by decide +kernel
theorem dX11_book_199 : decode cX11_book 199 = .ok (.iload 8, 2) := by decide +kernel
theorem dX11_book_201 : decode cX11_book 201 = .ok (.ireturn, 1) := by decide +kernel
theorem dX11_seed_0 : decode cX11_seed 0 = .ok (.iload_n 1, 1) := by decide +kernel
theorem dX11_seed_1 : decode cX11_seed 1 = .ok (.iconst 0, 1) := by decide +kernel
theorem dX11_seed_2 : decode cX11_seed 2 = .ok (.ldc_w 366, 3) := by decide +kernel
theorem dX11_seed_5 : decode cX11_seed 5 = .ok (.invokestatic 145, 3) := by decide +kernel
theorem dX11_seed_8 : decode cX11_seed 8 = .ok (.istore_n 2, 1) := by decide +kernel
theorem dX11_seed_9 : decode cX11_seed 9 = .ok (.iload_n 2, 1) := by decide +kernel
theorem dX11_seed_10 : decode cX11_seed 10 = .ok (.ifCond .eq 11, 3) := by decide +kernel
theorem dX11_seed_13 : decode cX11_seed 13 = .ok (.aload_n 0, 1) := by decide +kernel
theorem dX11_seed_14 : decode cX11_seed 14 = .ok (.getfield 57, 3) := by decide +kernel
theorem dX11_seed_17 : decode cX11_seed 17 = .ok (.iload_n 1, 1) := by decide +kernel
theorem dX11_seed_18 : decode cX11_seed 18 = .ok (.putfield 367, 3) := by decide +kernel
theorem dX11_seed_21 : decode cX11_seed 21 = .ok (.iload_n 2, 1) := by decide +kernel
theorem dX11_seed_22 : decode cX11_seed 22 = .ok (.ireturn, 1) := by decide +kernel
theorem dX11_keep_0 : decode cX11_keep 0 = .ok (.aload_n 0, 1) := by decide +kernel
theorem dX11_keep_1 : decode cX11_keep 1 = .ok (.getfield 61, 3) := by decide +kernel
theorem dX11_keep_4 : decode cX11_keep 4 = .ok (.aload_n 0, 1) := by decide +kernel
theorem dX11_keep_5 : decode cX11_keep 5 = .ok (.getfield 57, 3) := by decide +kernel
theorem dX11_keep_8 : decode cX11_keep 8 = .ok (.invokevirtual 182, 3) := by decide +kernel
theorem dX11_keep_11 : decode cX11_keep 11 = .ok (.aload_n 0, 1) := by decide +kernel
theorem dX11_keep_12 : decode cX11_keep 12 = .ok (.iconst 1, 1) := by decide +kernel
theorem dX11_keep_13 : decode cX11_keep 13 = .ok (.putfield 67, 3) := by decide +kernel
theorem dX11_keep_16 : decode cX11_keep 16 = .ok (.aload_n 0, 1) := by decide +kernel
theorem dX11_keep_17 : decode cX11_keep 17 = .ok (.getfield 57, 3) := by decide +kernel
theorem dX11_keep_20 : decode cX11_keep 20 = .ok (.getfield 370, 3) := by decide +kernel
theorem dX11_keep_23 : decode cX11_keep 23 = .ok (.ireturn, 1) := by decide +kernel
theorem dX11_undo_0 : decode cX11_undo 0 = .ok (.aload_n 0, 1) := by decide +kernel
theorem dX11_undo_1 : decode cX11_undo 1 = .ok (.getfield 67, 3) := by decide +kernel
theorem dX11_undo_4 : decode cX11_undo 4 = .ok (.ifCond .eq 74, 3) := by decide +kernel
theorem dX11_undo_7 : decode cX11_undo 7 = .ok (.aload_n 0, 1) := by decide +kernel
theorem dX11_undo_8 : decode cX11_undo 8 = .ok (.getfield 57, 3) := by decide +kernel
theorem dX11_undo_11 : decode cX11_undo 11 = .ok (.aload_n 0, 1) := by decide +kernel
theorem dX11_undo_12 : decode cX11_undo 12 = .ok (.getfield 61, 3) := by decide +kernel
theorem dX11_undo_15 : decode cX11_undo 15 = .ok (.invokevirtual 182, 3) := by decide +kernel
theorem dX11_undo_18 : decode cX11_undo 18 = .ok (.iconst 0, 1) := by decide +kernel
theorem dX11_undo_19 : decode cX11_undo 19 = .ok (.istore_n 1, 1) := by decide +kernel
theorem dX11_undo_20 : decode cX11_undo 20 = .ok (.iload_n 1, 1) := by decide +kernel
theorem dX11_undo_21 : decode cX11_undo 21 = .ok (.iconst 4, 1) := by decide +kernel
theorem dX11_undo_22 : decode cX11_undo 22 = .ok (.if_icmp .ge 56, 3) := by decide +kernel
theorem dX11_undo_25 : decode cX11_undo 25 = .ok (.aload_n 0, 1) := by decide +kernel
theorem dX11_undo_26 : decode cX11_undo 26 = .ok (.aload_n 0, 1) := by decide +kernel
theorem dX11_undo_27 : decode cX11_undo 27 = .ok (.getfield 57, 3) := by decide +kernel
theorem dX11_undo_30 : decode cX11_undo 30 = .ok (.getfield 233, 3) := by decide +kernel
theorem dX11_undo_33 : decode cX11_undo 33 = .ok (.iload_n 1, 1) := by decide +kernel
theorem dX11_undo_34 : decode cX11_undo 34 = .ok (.iaload, 1) := by decide +kernel
theorem dX11_undo_35 : decode cX11_undo 35 = .ok (.invokevirtual 115, 3) := by decide +kernel
theorem dX11_undo_38 : decode cX11_undo 38 = .ok (.astore_n 2, 1) := by decide +kernel
theorem dX11_undo_39 : decode cX11_undo 39 = .ok (.aload_n 0, 1) := by decide +kernel
theorem dX11_undo_40 : decode cX11_undo 40 = .ok (.getfield 57, 3) := by decide +kernel
theorem dX11_undo_43 : decode cX11_undo 43 = .ok (.getfield 239, 3) := by decide +kernel
theorem dX11_undo_46 : decode cX11_undo 46 = .ok (.iload_n 1, 1) := by decide +kernel
theorem dX11_undo_47 : decode cX11_undo 47 = .ok (.aload_n 2, 1) := by decide +kernel
theorem dX11_undo_48 : decode cX11_undo 48 = .ok (.ifnonnull 7, 3) := by decide +kernel
theorem dX11_undo_51 : decode cX11_undo 51 = .ok (.iconst 0, 1) := by decide +kernel
theorem dX11_undo_52 : decode cX11_undo 52 = .ok (.goto 19, 3) := by decide +kernel
theorem dX11_undo_55 : decode cX11_undo 55 = .ok (.aload_n 0, 1) := by decide +kernel
theorem dX11_undo_56 : decode cX11_undo 56 = .ok (.getfield 57, 3) := by decide +kernel
theorem dX11_undo_59 : decode cX11_undo 59 = .ok (.getfield 239, 3) := by decide +kernel
theorem dX11_undo_62 : decode cX11_undo 62 = .ok (.iload_n 1, 1) := by decide +kernel
theorem dX11_undo_63 : decode cX11_undo 63 = .ok (.iaload, 1) := by decide +kernel
theorem dX11_undo_64 : decode cX11_undo 64 = .ok (.aload_n 2, 1) := by decide +kernel
theorem dX11_undo_65 : decode cX11_undo 65 = .ok (.getfield 198, 3) := by decide +kernel
theorem dX11_undo_68 : decode cX11_undo 68 = .ok (.invokestatic 354, 3) := by decide +kernel
theorem dX11_undo_71 : decode cX11_undo 71 = .ok (.iastore, 1) := by decide +kernel
theorem dX11_undo_72 : decode cX11_undo 72 = .ok (.iinc 1 1, 3) := by decide +kernel
theorem dX11_undo_75 : decode cX11_undo 75 = .ok (.goto (-55), 3) := by decide +kernel
theorem dX11_undo_78 : decode cX11_undo 78 = .ok (.aload_n 0, 1) := by decide +kernel
theorem dX11_undo_79 : decode cX11_undo 79 = .ok (.getfield 67, 3) := by decide +kernel
theorem dX11_undo_82 : decode cX11_undo 82 = .ok (.ireturn, 1) := by decide +kernel
theorem dX11_check_0 : decode cX11_check 0 = .ok (.aload_n 0, 1) := by decide +kernel
theorem dX11_check_1 : decode cX11_check 1 = .ok (.iload_n 1, 1) := by decide +kernel
theorem dX11_check_2 : decode cX11_check 2 = .ok (.iconst 0, 1) := by decide +kernel
theorem dX11_check_3 : decode cX11_check 3 = .ok (.bipush 10, 2) := by decide +kernel
theorem dX11_check_5 : decode cX11_check 5 = .ok (.invokevirtual 119, 3) := by decide +kernel
theorem dX11_check_8 : decode cX11_check 8 = .ok (.ifCond .ne 6, 3) := by decide +kernel
theorem dX11_check_11 : decode cX11_check 11 = .ok (.bipush (-2), 2) := by decide +kernel
theorem dX11_check_13 : decode cX11_check 13 = .ok (.ireturn, 1) := by decide +kernel
theorem dX11_check_14 : decode cX11_check 14 = .ok (.aload_n 0, 1) := by decide +kernel
theorem dX11_check_15 : decode cX11_check 15 = .ok (.iconst 0, 1) := by decide +kernel
theorem dX11_check_16 : decode cX11_check 16 = .ok (.putfield 13, 3) := by decide +kernel
theorem dX11_check_19 : decode cX11_check 19 = .ok (.iconst 0, 1) := by decide +kernel
theorem dX11_check_20 : decode cX11_check 20 = .ok (.istore_n 2, 1) := by decide +kernel
theorem dX11_check_21 : decode cX11_check 21 = .ok (.iload_n 2, 1) := by decide +kernel
theorem dX11_check_22 : decode cX11_check 22 = .ok (.iload_n 1, 1) := by decide +kernel
theorem dX11_check_23 : decode cX11_check 23 = .ok (.if_icmp .ge 29, 3) := by decide +kernel
theorem dX11_check_26 : decode cX11_check 26 = .ok (.aload_n 0, 1) := by decide +kernel
theorem dX11_check_27 : decode cX11_check 27 = .ok (.getfield 9, 3) := by decide +kernel
theorem dX11_check_30 : decode cX11_check 30 = .ok (.iload_n 2, 1) := by decide +kernel
theorem dX11_check_31 : decode cX11_check 31 = .ok (.iaload, 1) := by decide +kernel
theorem dX11_check_32 : decode cX11_check 32 = .ok (.aload_n 0, 1) := by decide +kernel
theorem dX11_check_33 : decode cX11_check 33 = .ok (.getfield 57, 3) := by decide +kernel
theorem dX11_check_36 : decode cX11_check 36 = .ok (.getfield 260, 3) := by decide +kernel
theorem dX11_check_39 : decode cX11_check 39 = .ok (.iload_n 2, 1) := by decide +kernel
theorem dX11_check_40 : decode cX11_check 40 = .ok (.iaload, 1) := by decide +kernel
theorem dX11_check_41 : decode cX11_check 41 = .ok (.if_icmp .eq 5, 3) := by decide +kernel
theorem dX11_check_44 : decode cX11_check 44 = .ok (.iload_n 2, 1) := by decide +kernel
theorem dX11_check_45 : decode cX11_check 45 = .ok (.ireturn, 1) := by decide +kernel
theorem dX11_check_46 : decode cX11_check 46 = .ok (.iinc 2 1, 3) := by decide +kernel
theorem dX11_check_49 : decode cX11_check 49 = .ok (.goto (-28), 3) := by decide +kernel
theorem dX11_check_52 : decode cX11_check 52 = .ok (.iconst (-1), 1) := by decide +kernel
theorem dX11_check_53 : decode cX11_check 53 = .ok (.ireturn, 1) := by decide +kernel
theorem dX11_count_0 : decode cX11_count 0 = .ok (.iload_n 1, 1) := by decide +kernel
theorem dX11_count_1 : decode cX11_count 1 = .ok (.tableswitch 129 0 9 #[55, 63, 71, 79, 84, 92, 100, 108, 116, 121], 55) := by decide +kernel
theorem dX11_count_56 : decode cX11_count 56 = .ok (.aload_n 0, 1) := by decide +kernel
theorem dX11_count_57 : decode cX11_count 57 = .ok (.getfield 57, 3) := by decide +kernel
theorem dX11_count_60 : decode cX11_count 60 = .ok (.getfield 370, 3) := by decide +kernel
theorem dX11_count_63 : decode cX11_count 63 = .ok (.ireturn, 1) := by decide +kernel
theorem dX11_count_64 : decode cX11_count 64 = .ok (.aload_n 0, 1) := by decide +kernel
theorem dX11_count_65 : decode cX11_count 65 = .ok (.getfield 57, 3) := by decide +kernel
theorem dX11_count_68 : decode cX11_count 68 = .ok (.getfield 373, 3) := by decide +kernel
theorem dX11_count_71 : decode cX11_count 71 = .ok (.ireturn, 1) := by decide +kernel
theorem dX11_count_72 : decode cX11_count 72 = .ok (.aload_n 0, 1) := by decide +kernel
theorem dX11_count_73 : decode cX11_count 73 = .ok (.getfield 57, 3) := by decide +kernel
theorem dX11_count_76 : decode cX11_count 76 = .ok (.getfield 376, 3) := by decide +kernel
theorem dX11_count_79 : decode cX11_count 79 = .ok (.ireturn, 1) := by decide +kernel
theorem dX11_count_80 : decode cX11_count 80 = .ok (.aload_n 0, 1) := by decide +kernel
theorem dX11_count_81 : decode cX11_count 81 = .ok (.invokevirtual 310, 3) := by decide +kernel
theorem dX11_count_84 : decode cX11_count 84 = .ok (.ireturn, 1) := by decide +kernel
theorem dX11_count_85 : decode cX11_count 85 = .ok (.aload_n 0, 1) := by decide +kernel
theorem dX11_count_86 : decode cX11_count 86 = .ok (.getfield 50, 3) := by decide +kernel
theorem dX11_count_89 : decode cX11_count 89 = .ok (.getfield 314, 3) := by decide +kernel
theorem dX11_count_92 : decode cX11_count 92 = .ok (.ireturn, 1) := by decide +kernel
theorem dX11_count_93 : decode cX11_count 93 = .ok (.aload_n 0, 1) := by decide +kernel
theorem dX11_count_94 : decode cX11_count 94 = .ok (.getfield 57, 3) := by decide +kernel
theorem dX11_count_97 : decode cX11_count 97 = .ok (.getfield 161, 3) := by decide +kernel
theorem dX11_count_100 : decode cX11_count 100 = .ok (.ireturn, 1) := by decide +kernel
theorem dX11_count_101 : decode cX11_count 101 = .ok (.aload_n 0, 1) := by decide +kernel
theorem dX11_count_102 : decode cX11_count 102 = .ok (.getfield 57, 3) := by decide +kernel
theorem dX11_count_105 : decode cX11_count 105 = .ok (.getfield 251, 3) := by decide +kernel
theorem dX11_count_108 : decode cX11_count 108 = .ok (.ireturn, 1) := by decide +kernel
theorem dX11_count_109 : decode cX11_count 109 = .ok (.aload_n 0, 1) := by decide +kernel
theorem dX11_count_110 : decode cX11_count 110 = .ok (.getfield 33, 3) := by decide +kernel
theorem dX11_count_113 : decode cX11_count 113 = .ok (.getfield 189, 3) := by decide +kernel
theorem dX11_count_116 : decode cX11_count 116 = .ok (.ireturn, 1) := by decide +kernel
theorem dX11_count_117 : decode cX11_count 117 = .ok (.aload_n 0, 1) := by decide +kernel
theorem dX11_count_118 : decode cX11_count 118 = .ok (.getfield 13, 3) := by decide +kernel
theorem dX11_count_121 : decode cX11_count 121 = .ok (.ireturn, 1) := by decide +kernel
theorem dX11_count_122 : decode cX11_count 122 = .ok (.aload_n 0, 1) := by decide +kernel
theorem dX11_count_123 : decode cX11_count 123 = .ok (.getfield 57, 3) := by decide +kernel
theorem dX11_count_126 : decode cX11_count 126 = .ok (.getfield 367, 3) := by decide +kernel
theorem dX11_count_129 : decode cX11_count 129 = .ok (.ireturn, 1) := by decide +kernel
theorem dX11_count_130 : decode cX11_count 130 = .ok (.iconst (-1), 1) := by decide +kernel
theorem dX11_count_131 : decode cX11_count 131 = .ok (.ireturn, 1) := by decide +kernel
theorem dX11_putOnTape_0 : decode cX11_putOnTape 0 = .ok (.bipush 24, 2) := by decide +kernel
theorem dX11_putOnTape_2 : decode cX11_putOnTape 2 = .ok (.istore_n 2, 1) := by decide +kernel
theorem dX11_putOnTape_3 : decode cX11_putOnTape 3 = .ok (.iload_n 2, 1) := by decide +kernel
theorem dX11_putOnTape_4 : decode cX11_putOnTape 4 = .ok (.ifCond .lt 45, 3) := by decide +kernel
theorem dX11_putOnTape_7 : decode cX11_putOnTape 7 = .ok (.aload_n 0, 1) := by decide +kernel
theorem dX11_putOnTape_8 : decode cX11_putOnTape 8 = .ok (.getfield 13, 3) := by decide +kernel
theorem dX11_putOnTape_11 : decode cX11_putOnTape 11 = .ok (.sipush 260, 3) := by decide +kernel
theorem dX11_putOnTape_14 : decode cX11_putOnTape 14 = .ok (.if_icmp .ge 29, 3) := by decide +kernel
theorem dX11_putOnTape_17 : decode cX11_putOnTape 17 = .ok (.aload_n 0, 1) := by decide +kernel
theorem dX11_putOnTape_18 : decode cX11_putOnTape 18 = .ok (.getfield 9, 3) := by decide +kernel
theorem dX11_putOnTape_21 : decode cX11_putOnTape 21 = .ok (.aload_n 0, 1) := by decide +kernel
theorem dX11_putOnTape_22 : decode cX11_putOnTape 22 = .ok (.getfield 13, 3) := by decide +kernel
theorem dX11_putOnTape_25 : decode cX11_putOnTape 25 = .ok (.iload_n 1, 1) := by decide +kernel
theorem dX11_putOnTape_26 : decode cX11_putOnTape 26 = .ok (.iload_n 2, 1) := by decide +kernel
theorem dX11_putOnTape_27 : decode cX11_putOnTape 27 = .ok (.iushr, 1) := by decide +kernel
theorem dX11_putOnTape_28 : decode cX11_putOnTape 28 = .ok (.sipush 255, 3) := by decide +kernel
theorem dX11_putOnTape_31 : decode cX11_putOnTape 31 = .ok (.iand, 1) := by decide +kernel
theorem dX11_putOnTape_32 : decode cX11_putOnTape 32 = .ok (.iastore, 1) := by decide +kernel
theorem dX11_putOnTape_33 : decode cX11_putOnTape 33 = .ok (.aload_n 0, 1) := by decide +kernel
theorem dX11_putOnTape_34 : decode cX11_putOnTape 34 = .ok (.dup, 1) := by decide +kernel
theorem dX11_putOnTape_35 : decode cX11_putOnTape 35 = .ok (.getfield 13, 3) := by decide +kernel
theorem dX11_putOnTape_38 : decode cX11_putOnTape 38 = .ok (.iconst 1, 1) := by decide +kernel
theorem dX11_putOnTape_39 : decode cX11_putOnTape 39 = .ok (.iadd, 1) := by decide +kernel
theorem dX11_putOnTape_40 : decode cX11_putOnTape 40 = .ok (.putfield 13, 3) := by decide +kernel
theorem dX11_putOnTape_43 : decode cX11_putOnTape 43 = .ok (.iinc 2 (-8), 3) := by decide +kernel
theorem dX11_putOnTape_46 : decode cX11_putOnTape 46 = .ok (.goto (-43), 3) := by decide +kernel
theorem dX11_putOnTape_49 : decode cX11_putOnTape 49 = .ok (.return_, 1) := by decide +kernel
theorem dX11_tapeGives_0 : decode cX11_tapeGives 0 = .ok (.iload_n 1, 1) := by decide +kernel
theorem dX11_tapeGives_1 : decode cX11_tapeGives 1 = .ok (.iload_n 2, 1) := by decide +kernel
theorem dX11_tapeGives_2 : decode cX11_tapeGives 2 = .ok (.iload_n 3, 1) := by decide +kernel
theorem dX11_tapeGives_3 : decode cX11_tapeGives 3 = .ok (.invokestatic 145, 3) := by decide +kernel
theorem dX11_tapeGives_6 : decode cX11_tapeGives 6 = .ok (.ifCond .eq 15, 3) := by decide +kernel
theorem dX11_tapeGives_9 : decode cX11_tapeGives 9 = .ok (.iload_n 1, 1) := by decide +kernel
theorem dX11_tapeGives_10 : decode cX11_tapeGives 10 = .ok (.aload_n 0, 1) := by decide +kernel
theorem dX11_tapeGives_11 : decode cX11_tapeGives 11 = .ok (.getfield 13, 3) := by decide +kernel
theorem dX11_tapeGives_14 : decode cX11_tapeGives 14 = .ok (.if_icmp .gt 7, 3) := by decide +kernel
theorem dX11_tapeGives_17 : decode cX11_tapeGives 17 = .ok (.iconst 1, 1) := by decide +kernel
theorem dX11_tapeGives_18 : decode cX11_tapeGives 18 = .ok (.goto 4, 3) := by decide +kernel
theorem dX11_tapeGives_21 : decode cX11_tapeGives 21 = .ok (.iconst 0, 1) := by decide +kernel
theorem dX11_tapeGives_22 : decode cX11_tapeGives 22 = .ok (.ireturn, 1) := by decide +kernel
theorem dX11_tapeIsWithin_0 : decode cX11_tapeIsWithin 0 = .ok (.iconst 0, 1) := by decide +kernel
theorem dX11_tapeIsWithin_1 : decode cX11_tapeIsWithin 1 = .ok (.istore_n 3, 1) := by decide +kernel
theorem dX11_tapeIsWithin_2 : decode cX11_tapeIsWithin 2 = .ok (.iload_n 3, 1) := by decide +kernel
theorem dX11_tapeIsWithin_3 : decode cX11_tapeIsWithin 3 = .ok (.iload_n 1, 1) := by decide +kernel
theorem dX11_tapeIsWithin_4 : decode cX11_tapeIsWithin 4 = .ok (.if_icmp .ge 28, 3) := by decide +kernel
theorem dX11_tapeIsWithin_7 : decode cX11_tapeIsWithin 7 = .ok (.iload_n 3, 1) := by decide +kernel
theorem dX11_tapeIsWithin_8 : decode cX11_tapeIsWithin 8 = .ok (.sipush 260, 3) := by decide +kernel
theorem dX11_tapeIsWithin_11 : decode cX11_tapeIsWithin 11 = .ok (.if_icmp .ge 21, 3) := by decide +kernel
theorem dX11_tapeIsWithin_14 : decode cX11_tapeIsWithin 14 = .ok (.aload_n 0, 1) := by decide +kernel
theorem dX11_tapeIsWithin_15 : decode cX11_tapeIsWithin 15 = .ok (.getfield 9, 3) := by decide +kernel
theorem dX11_tapeIsWithin_18 : decode cX11_tapeIsWithin 18 = .ok (.iload_n 3, 1) := by decide +kernel
theorem dX11_tapeIsWithin_19 : decode cX11_tapeIsWithin 19 = .ok (.iaload, 1) := by decide +kernel
theorem dX11_tapeIsWithin_20 : decode cX11_tapeIsWithin 20 = .ok (.iload_n 2, 1) := by decide +kernel
theorem dX11_tapeIsWithin_21 : decode cX11_tapeIsWithin 21 = .ok (.if_icmp .le 5, 3) := by decide +kernel
theorem dX11_tapeIsWithin_24 : decode cX11_tapeIsWithin 24 = .ok (.iconst 0, 1) := by decide +kernel
theorem dX11_tapeIsWithin_25 : decode cX11_tapeIsWithin 25 = .ok (.ireturn, 1) := by decide +kernel
theorem dX11_tapeIsWithin_26 : decode cX11_tapeIsWithin 26 = .ok (.iinc 3 1, 3) := by decide +kernel
theorem dX11_tapeIsWithin_29 : decode cX11_tapeIsWithin 29 = .ok (.goto (-27), 3) := by decide +kernel
theorem dX11_tapeIsWithin_32 : decode cX11_tapeIsWithin 32 = .ok (.iconst 1, 1) := by decide +kernel
theorem dX11_tapeIsWithin_33 : decode cX11_tapeIsWithin 33 = .ok (.ireturn, 1) := by decide +kernel
theorem dX11_storyAt_0 : decode cX11_storyAt 0 = .ok (.iload_n 1, 1) := by decide +kernel
theorem dX11_storyAt_1 : decode cX11_storyAt 1 = .ok (.iconst 0, 1) := by decide +kernel
theorem dX11_storyAt_2 : decode cX11_storyAt 2 = .ok (.iconst 5, 1) := by decide +kernel
theorem dX11_storyAt_3 : decode cX11_storyAt 3 = .ok (.invokestatic 145, 3) := by decide +kernel
theorem dX11_storyAt_6 : decode cX11_storyAt 6 = .ok (.ifCond .eq 12, 3) := by decide +kernel
theorem dX11_storyAt_9 : decode cX11_storyAt 9 = .ok (.aload_n 0, 1) := by decide +kernel
theorem dX11_storyAt_10 : decode cX11_storyAt 10 = .ok (.getfield 19, 3) := by decide +kernel
theorem dX11_storyAt_13 : decode cX11_storyAt 13 = .ok (.iload_n 1, 1) := by decide +kernel
theorem dX11_storyAt_14 : decode cX11_storyAt 14 = .ok (.aaload, 1) := by decide +kernel
theorem dX11_storyAt_15 : decode cX11_storyAt 15 = .ok (.goto 4, 3) := by decide +kernel
theorem dX11_storyAt_18 : decode cX11_storyAt 18 = .ok (.aconst_null, 1) := by decide +kernel
theorem dX11_storyAt_19 : decode cX11_storyAt 19 = .ok (.areturn, 1) := by decide +kernel
theorem dX11_toldStory_0 : decode cX11_toldStory 0 = .ok (.aload_n 0, 1) := by decide +kernel
theorem dX11_toldStory_1 : decode cX11_toldStory 1 = .ok (.iload_n 1, 1) := by decide +kernel
theorem dX11_toldStory_2 : decode cX11_toldStory 2 = .ok (.invokevirtual 115, 3) := by decide +kernel
theorem dX11_toldStory_5 : decode cX11_toldStory 5 = .ok (.astore_n 2, 1) := by decide +kernel
theorem dX11_toldStory_6 : decode cX11_toldStory 6 = .ok (.aload_n 2, 1) := by decide +kernel
theorem dX11_toldStory_7 : decode cX11_toldStory 7 = .ok (.ifnull 10, 3) := by decide +kernel
theorem dX11_toldStory_10 : decode cX11_toldStory 10 = .ok (.aload_n 2, 1) := by decide +kernel
theorem dX11_toldStory_11 : decode cX11_toldStory 11 = .ok (.getfield 198, 3) := by decide +kernel
theorem dX11_toldStory_14 : decode cX11_toldStory 14 = .ok (.ifCond .ne 7, 3) := by decide +kernel
theorem dX11_toldStory_17 : decode cX11_toldStory 17 = .ok (.aconst_null, 1) := by decide +kernel
theorem dX11_toldStory_18 : decode cX11_toldStory 18 = .ok (.goto 4, 3) := by decide +kernel
theorem dX11_toldStory_21 : decode cX11_toldStory 21 = .ok (.aload_n 2, 1) := by decide +kernel
theorem dX11_toldStory_22 : decode cX11_toldStory 22 = .ok (.areturn, 1) := by decide +kernel
theorem dX11_toldStories_0 : decode cX11_toldStories 0 = .ok (.iconst 0, 1) := by decide +kernel
theorem dX11_toldStories_1 : decode cX11_toldStories 1 = .ok (.istore_n 1, 1) := by decide +kernel
theorem dX11_toldStories_2 : decode cX11_toldStories 2 = .ok (.iconst 0, 1) := by decide +kernel
theorem dX11_toldStories_3 : decode cX11_toldStories 3 = .ok (.istore_n 2, 1) := by decide +kernel
theorem dX11_toldStories_4 : decode cX11_toldStories 4 = .ok (.iload_n 2, 1) := by decide +kernel
theorem dX11_toldStories_5 : decode cX11_toldStories 5 = .ok (.bipush 6, 2) := by decide +kernel
theorem dX11_toldStories_7 : decode cX11_toldStories 7 = .ok (.if_icmp .ge 23, 3) := by decide +kernel
theorem dX11_toldStories_10 : decode cX11_toldStories 10 = .ok (.aload_n 0, 1) := by decide +kernel
theorem dX11_toldStories_11 : decode cX11_toldStories 11 = .ok (.iload_n 2, 1) := by decide +kernel
theorem dX11_toldStories_12 : decode cX11_toldStories 12 = .ok (.invokevirtual 154, 3) := by decide +kernel
theorem dX11_toldStories_15 : decode cX11_toldStories 15 = .ok (.ifnull 9, 3) := by decide +kernel
theorem dX11_toldStories_18 : decode cX11_toldStories 18 = .ok (.iload_n 1, 1) := by decide +kernel
theorem dX11_toldStories_19 : decode cX11_toldStories 19 = .ok (.iconst 1, 1) := by decide +kernel
theorem dX11_toldStories_20 : decode cX11_toldStories 20 = .ok (.iload_n 2, 1) := by decide +kernel
theorem dX11_toldStories_21 : decode cX11_toldStories 21 = .ok (.ishl, 1) := by decide +kernel
theorem dX11_toldStories_22 : decode cX11_toldStories 22 = .ok (.ior, 1) := by decide +kernel
theorem dX11_toldStories_23 : decode cX11_toldStories 23 = .ok (.istore_n 1, 1) := by decide +kernel
theorem dX11_toldStories_24 : decode cX11_toldStories 24 = .ok (.iinc 2 1, 3) := by decide +kernel
theorem dX11_toldStories_27 : decode cX11_toldStories 27 = .ok (.goto (-23), 3) := by decide +kernel
theorem dX11_toldStories_30 : decode cX11_toldStories 30 = .ok (.iload_n 1, 1) := by decide +kernel
theorem dX11_toldStories_31 : decode cX11_toldStories 31 = .ok (.ireturn, 1) := by decide +kernel
theorem dX11_areTold_0 : decode cX11_areTold 0 = .ok (.iload_n 1, 1) := by decide +kernel
theorem dX11_areTold_1 : decode cX11_areTold 1 = .ok (.aload_n 0, 1) := by decide +kernel
theorem dX11_areTold_2 : decode cX11_areTold 2 = .ok (.invokevirtual 310, 3) := by decide +kernel
theorem dX11_areTold_5 : decode cX11_areTold 5 = .ok (.iconst (-1), 1) := by decide +kernel
theorem dX11_areTold_6 : decode cX11_areTold 6 = .ok (.ixor, 1) := by decide +kernel
theorem dX11_areTold_7 : decode cX11_areTold 7 = .ok (.iand, 1) := by decide +kernel
theorem dX11_areTold_8 : decode cX11_areTold 8 = .ok (.ifCond .ne 7, 3) := by decide +kernel
theorem dX11_areTold_11 : decode cX11_areTold 11 = .ok (.iconst 1, 1) := by decide +kernel
theorem dX11_areTold_12 : decode cX11_areTold 12 = .ok (.goto 4, 3) := by decide +kernel
theorem dX11_areTold_15 : decode cX11_areTold 15 = .ok (.iconst 0, 1) := by decide +kernel
theorem dX11_areTold_16 : decode cX11_areTold 16 = .ok (.ireturn, 1) := by decide +kernel
theorem dX11_knotOf_0 : decode cX11_knotOf 0 = .ok (.iconst 1, 1) := by decide +kernel
theorem dX11_knotOf_1 : decode cX11_knotOf 1 = .ok (.iload_n 1, 1) := by decide +kernel
theorem dX11_knotOf_2 : decode cX11_knotOf 2 = .ok (.ishl, 1) := by decide +kernel
theorem dX11_knotOf_3 : decode cX11_knotOf 3 = .ok (.istore_n 2, 1) := by decide +kernel
theorem dX11_knotOf_4 : decode cX11_knotOf 4 = .ok (.iconst 0, 1) := by decide +kernel
theorem dX11_knotOf_5 : decode cX11_knotOf 5 = .ok (.istore_n 3, 1) := by decide +kernel
theorem dX11_knotOf_6 : decode cX11_knotOf 6 = .ok (.iload_n 3, 1) := by decide +kernel
theorem dX11_knotOf_7 : decode cX11_knotOf 7 = .ok (.bipush 6, 2) := by decide +kernel
theorem dX11_knotOf_9 : decode cX11_knotOf 9 = .ok (.if_icmp .ge 63, 3) := by decide +kernel
theorem dX11_knotOf_12 : decode cX11_knotOf 12 = .ok (.aload_n 0, 1) := by decide +kernel
theorem dX11_knotOf_13 : decode cX11_knotOf 13 = .ok (.iload_n 2, 1) := by decide +kernel
theorem dX11_knotOf_14 : decode cX11_knotOf 14 = .ok (.invokevirtual 377, 3) := by decide +kernel
theorem dX11_knotOf_17 : decode cX11_knotOf 17 = .ok (.istore 4, 2) := by decide +kernel
theorem dX11_knotOf_19 : decode cX11_knotOf 19 = .ok (.iconst 0, 1) := by decide +kernel
theorem dX11_knotOf_20 : decode cX11_knotOf 20 = .ok (.istore 5, 2) := by decide +kernel
theorem dX11_knotOf_22 : decode cX11_knotOf 22 = .ok (.iload 5, 2) := by decide +kernel
theorem dX11_knotOf_24 : decode cX11_knotOf 24 = .ok (.bipush 6, 2) := by decide +kernel
theorem dX11_knotOf_26 : decode cX11_knotOf 26 = .ok (.if_icmp .ge 40, 3) := by decide +kernel
theorem dX11_knotOf_29 : decode cX11_knotOf 29 = .ok (.aload_n 0, 1) := by decide +kernel
theorem dX11_knotOf_30 : decode cX11_knotOf 30 = .ok (.iload 5, 2) := by decide +kernel
theorem dX11_knotOf_32 : decode cX11_knotOf 32 = .ok (.invokevirtual 154, 3) := by decide +kernel
theorem dX11_knotOf_35 : decode cX11_knotOf 35 = .ok (.astore 6, 2) := by decide +kernel
theorem dX11_knotOf_37 : decode cX11_knotOf 37 = .ok (.aload 6, 2) := by decide +kernel
theorem dX11_knotOf_39 : decode cX11_knotOf 39 = .ok (.ifnull 21, 3) := by decide +kernel
theorem dX11_knotOf_42 : decode cX11_knotOf 42 = .ok (.aload 6, 2) := by decide +kernel
theorem dX11_knotOf_44 : decode cX11_knotOf 44 = .ok (.getfield 207, 3) := by decide +kernel
theorem dX11_knotOf_47 : decode cX11_knotOf 47 = .ok (.iload 4, 2) := by decide +kernel
theorem dX11_knotOf_49 : decode cX11_knotOf 49 = .ok (.iand, 1) := by decide +kernel
theorem dX11_knotOf_50 : decode cX11_knotOf 50 = .ok (.ifCond .eq 10, 3) := by decide +kernel
theorem dX11_knotOf_53 : decode cX11_knotOf 53 = .ok (.iload_n 2, 1) := by decide +kernel
theorem dX11_knotOf_54 : decode cX11_knotOf 54 = .ok (.iconst 1, 1) := by decide +kernel
theorem dX11_knotOf_55 : decode cX11_knotOf 55 = .ok (.iload 5, 2) := by decide +kernel
theorem dX11_knotOf_57 : decode cX11_knotOf 57 = .ok (.ishl, 1) := by decide +kernel
theorem dX11_knotOf_58 : decode cX11_knotOf 58 = .ok (.ior, 1) := by decide +kernel
theorem dX11_knotOf_59 : decode cX11_knotOf 59 = .ok (.istore_n 2, 1) := by decide +kernel
theorem dX11_knotOf_60 : decode cX11_knotOf 60 = .ok (.iinc 5 1, 3) := by decide +kernel
theorem dX11_knotOf_63 : decode cX11_knotOf 63 = .ok (.goto (-41), 3) := by decide +kernel
theorem dX11_knotOf_66 : decode cX11_knotOf 66 = .ok (.iinc 3 1, 3) := by decide +kernel
theorem dX11_knotOf_69 : decode cX11_knotOf 69 = .ok (.goto (-63), 3) := by decide +kernel
theorem dX11_knotOf_72 : decode cX11_knotOf 72 = .ok (.iload_n 2, 1) := by decide +kernel
theorem dX11_knotOf_73 : decode cX11_knotOf 73 = .ok (.ireturn, 1) := by decide +kernel
theorem dX11_threadsOf_0 : decode cX11_threadsOf 0 = .ok (.iconst 0, 1) := by decide +kernel
theorem dX11_threadsOf_1 : decode cX11_threadsOf 1 = .ok (.istore_n 2, 1) := by decide +kernel
theorem dX11_threadsOf_2 : decode cX11_threadsOf 2 = .ok (.iconst 0, 1) := by decide +kernel
theorem dX11_threadsOf_3 : decode cX11_threadsOf 3 = .ok (.istore_n 3, 1) := by decide +kernel
theorem dX11_threadsOf_4 : decode cX11_threadsOf 4 = .ok (.iload_n 3, 1) := by decide +kernel
theorem dX11_threadsOf_5 : decode cX11_threadsOf 5 = .ok (.bipush 6, 2) := by decide +kernel
theorem dX11_threadsOf_7 : decode cX11_threadsOf 7 = .ok (.if_icmp .ge 37, 3) := by decide +kernel
theorem dX11_threadsOf_10 : decode cX11_threadsOf 10 = .ok (.aload_n 0, 1) := by decide +kernel
theorem dX11_threadsOf_11 : decode cX11_threadsOf 11 = .ok (.iload_n 3, 1) := by decide +kernel
theorem dX11_threadsOf_12 : decode cX11_threadsOf 12 = .ok (.invokevirtual 154, 3) := by decide +kernel
theorem dX11_threadsOf_15 : decode cX11_threadsOf 15 = .ok (.astore 4, 2) := by decide +kernel
theorem dX11_threadsOf_17 : decode cX11_threadsOf 17 = .ok (.aload 4, 2) := by decide +kernel
theorem dX11_threadsOf_19 : decode cX11_threadsOf 19 = .ok (.ifnull 19, 3) := by decide +kernel
theorem dX11_threadsOf_22 : decode cX11_threadsOf 22 = .ok (.iload_n 1, 1) := by decide +kernel
theorem dX11_threadsOf_23 : decode cX11_threadsOf 23 = .ok (.iload_n 3, 1) := by decide +kernel
theorem dX11_threadsOf_24 : decode cX11_threadsOf 24 = .ok (.invokestatic 164, 3) := by decide +kernel
theorem dX11_threadsOf_27 : decode cX11_threadsOf 27 = .ok (.ifCond .eq 11, 3) := by decide +kernel
theorem dX11_threadsOf_30 : decode cX11_threadsOf 30 = .ok (.iload_n 2, 1) := by decide +kernel
theorem dX11_threadsOf_31 : decode cX11_threadsOf 31 = .ok (.aload 4, 2) := by decide +kernel
theorem dX11_threadsOf_33 : decode cX11_threadsOf 33 = .ok (.getfield 207, 3) := by decide +kernel
theorem dX11_threadsOf_36 : decode cX11_threadsOf 36 = .ok (.ior, 1) := by decide +kernel
theorem dX11_threadsOf_37 : decode cX11_threadsOf 37 = .ok (.istore_n 2, 1) := by decide +kernel
theorem dX11_threadsOf_38 : decode cX11_threadsOf 38 = .ok (.iinc 3 1, 3) := by decide +kernel
theorem dX11_threadsOf_41 : decode cX11_threadsOf 41 = .ok (.goto (-37), 3) := by decide +kernel
theorem dX11_threadsOf_44 : decode cX11_threadsOf 44 = .ok (.iload_n 2, 1) := by decide +kernel
theorem dX11_threadsOf_45 : decode cX11_threadsOf 45 = .ok (.ireturn, 1) := by decide +kernel
theorem dX11_turnsOf_0 : decode cX11_turnsOf 0 = .ok (.iconst 0, 1) := by decide +kernel
theorem dX11_turnsOf_1 : decode cX11_turnsOf 1 = .ok (.istore_n 2, 1) := by decide +kernel
theorem dX11_turnsOf_2 : decode cX11_turnsOf 2 = .ok (.iconst 0, 1) := by decide +kernel
theorem dX11_turnsOf_3 : decode cX11_turnsOf 3 = .ok (.istore_n 3, 1) := by decide +kernel
theorem dX11_turnsOf_4 : decode cX11_turnsOf 4 = .ok (.iload_n 3, 1) := by decide +kernel
theorem dX11_turnsOf_5 : decode cX11_turnsOf 5 = .ok (.bipush 6, 2) := by decide +kernel
theorem dX11_turnsOf_7 : decode cX11_turnsOf 7 = .ok (.if_icmp .ge 37, 3) := by decide +kernel
theorem dX11_turnsOf_10 : decode cX11_turnsOf 10 = .ok (.aload_n 0, 1) := by decide +kernel
theorem dX11_turnsOf_11 : decode cX11_turnsOf 11 = .ok (.iload_n 3, 1) := by decide +kernel
theorem dX11_turnsOf_12 : decode cX11_turnsOf 12 = .ok (.invokevirtual 154, 3) := by decide +kernel
theorem dX11_turnsOf_15 : decode cX11_turnsOf 15 = .ok (.astore 4, 2) := by decide +kernel
theorem dX11_turnsOf_17 : decode cX11_turnsOf 17 = .ok (.aload 4, 2) := by decide +kernel
theorem dX11_turnsOf_19 : decode cX11_turnsOf 19 = .ok (.ifnull 19, 3) := by decide +kernel
theorem dX11_turnsOf_22 : decode cX11_turnsOf 22 = .ok (.iload_n 1, 1) := by decide +kernel
theorem dX11_turnsOf_23 : decode cX11_turnsOf 23 = .ok (.iload_n 3, 1) := by decide +kernel
theorem dX11_turnsOf_24 : decode cX11_turnsOf 24 = .ok (.invokestatic 164, 3) := by decide +kernel
theorem dX11_turnsOf_27 : decode cX11_turnsOf 27 = .ok (.ifCond .eq 11, 3) := by decide +kernel
theorem dX11_turnsOf_30 : decode cX11_turnsOf 30 = .ok (.iload_n 2, 1) := by decide +kernel
theorem dX11_turnsOf_31 : decode cX11_turnsOf 31 = .ok (.aload 4, 2) := by decide +kernel
theorem dX11_turnsOf_33 : decode cX11_turnsOf 33 = .ok (.getfield 198, 3) := by decide +kernel
theorem dX11_turnsOf_36 : decode cX11_turnsOf 36 = .ok (.iadd, 1) := by decide +kernel
theorem dX11_turnsOf_37 : decode cX11_turnsOf 37 = .ok (.istore_n 2, 1) := by decide +kernel
theorem dX11_turnsOf_38 : decode cX11_turnsOf 38 = .ok (.iinc 3 1, 3) := by decide +kernel
theorem dX11_turnsOf_41 : decode cX11_turnsOf 41 = .ok (.goto (-37), 3) := by decide +kernel
theorem dX11_turnsOf_44 : decode cX11_turnsOf 44 = .ok (.iload_n 2, 1) := by decide +kernel
theorem dX11_turnsOf_45 : decode cX11_turnsOf 45 = .ok (.ireturn, 1) := by decide +kernel
theorem dX11_volumesCutAt_0 : decode cX11_volumesCutAt 0 = .ok (.iload_n 1, 1) := by decide +kernel
theorem dX11_volumesCutAt_1 : decode cX11_volumesCutAt 1 = .ok (.bipush 6, 2) := by decide +kernel
theorem dX11_volumesCutAt_3 : decode cX11_volumesCutAt 3 = .ok (.if_icmp .eq 11, 3) := by decide +kernel
theorem dX11_volumesCutAt_6 : decode cX11_volumesCutAt 6 = .ok (.iload_n 0, 1) := by decide +kernel
theorem dX11_volumesCutAt_7 : decode cX11_volumesCutAt 7 = .ok (.iload_n 1, 1) := by decide +kernel
theorem dX11_volumesCutAt_8 : decode cX11_volumesCutAt 8 = .ok (.invokestatic 164, 3) := by decide +kernel
theorem dX11_volumesCutAt_11 : decode cX11_volumesCutAt 11 = .ok (.ifCond .eq 21, 3) := by decide +kernel
theorem dX11_volumesCutAt_14 : decode cX11_volumesCutAt 14 = .ok (.iload_n 2, 1) := by decide +kernel
theorem dX11_volumesCutAt_15 : decode cX11_volumesCutAt 15 = .ok (.bipush 6, 2) := by decide +kernel
theorem dX11_volumesCutAt_17 : decode cX11_volumesCutAt 17 = .ok (.if_icmp .eq 11, 3) := by decide +kernel
theorem dX11_volumesCutAt_20 : decode cX11_volumesCutAt 20 = .ok (.iload_n 0, 1) := by decide +kernel
theorem dX11_volumesCutAt_21 : decode cX11_volumesCutAt 21 = .ok (.iload_n 2, 1) := by decide +kernel
theorem dX11_volumesCutAt_22 : decode cX11_volumesCutAt 22 = .ok (.invokestatic 164, 3) := by decide +kernel
theorem dX11_volumesCutAt_25 : decode cX11_volumesCutAt 25 = .ok (.ifCond .eq 7, 3) := by decide +kernel
theorem dX11_volumesCutAt_28 : decode cX11_volumesCutAt 28 = .ok (.iconst 1, 1) := by decide +kernel
theorem dX11_volumesCutAt_29 : decode cX11_volumesCutAt 29 = .ok (.goto 4, 3) := by decide +kernel
theorem dX11_volumesCutAt_32 : decode cX11_volumesCutAt 32 = .ok (.iconst 0, 1) := by decide +kernel
theorem dX11_volumesCutAt_33 : decode cX11_volumesCutAt 33 = .ok (.istore_n 3, 1) := by decide +kernel
theorem dX11_volumesCutAt_34 : decode cX11_volumesCutAt 34 = .ok (.iload_n 1, 1) := by decide +kernel
theorem dX11_volumesCutAt_35 : decode cX11_volumesCutAt 35 = .ok (.iload_n 2, 1) := by decide +kernel
theorem dX11_volumesCutAt_36 : decode cX11_volumesCutAt 36 = .ok (.if_icmp .lt 9, 3) := by decide +kernel
theorem dX11_volumesCutAt_39 : decode cX11_volumesCutAt 39 = .ok (.iload_n 1, 1) := by decide +kernel
theorem dX11_volumesCutAt_40 : decode cX11_volumesCutAt 40 = .ok (.bipush 6, 2) := by decide +kernel
theorem dX11_volumesCutAt_42 : decode cX11_volumesCutAt 42 = .ok (.if_icmp .ne 7, 3) := by decide +kernel
theorem dX11_volumesCutAt_45 : decode cX11_volumesCutAt 45 = .ok (.iconst 1, 1) := by decide +kernel
theorem dX11_volumesCutAt_46 : decode cX11_volumesCutAt 46 = .ok (.goto 4, 3) := by decide +kernel
theorem dX11_volumesCutAt_49 : decode cX11_volumesCutAt 49 = .ok (.iconst 0, 1) := by decide +kernel
theorem dX11_volumesCutAt_50 : decode cX11_volumesCutAt 50 = .ok (.istore 4, 2) := by decide +kernel
theorem dX11_volumesCutAt_52 : decode cX11_volumesCutAt 52 = .ok (.iload_n 0, 1) := by decide +kernel
theorem dX11_volumesCutAt_53 : decode cX11_volumesCutAt 53 = .ok (.iconst 1, 1) := by decide +kernel
theorem dX11_volumesCutAt_54 : decode cX11_volumesCutAt 54 = .ok (.iload_n 1, 1) := by decide +kernel
theorem dX11_volumesCutAt_55 : decode cX11_volumesCutAt 55 = .ok (.ishl, 1) := by decide +kernel
theorem dX11_volumesCutAt_56 : decode cX11_volumesCutAt 56 = .ok (.iconst 1, 1) := by decide +kernel
theorem dX11_volumesCutAt_57 : decode cX11_volumesCutAt 57 = .ok (.isub, 1) := by decide +kernel
theorem dX11_volumesCutAt_58 : decode cX11_volumesCutAt 58 = .ok (.iand, 1) := by decide +kernel
theorem dX11_volumesCutAt_59 : decode cX11_volumesCutAt 59 = .ok (.ifCond .eq 7, 3) := by decide +kernel
theorem dX11_volumesCutAt_62 : decode cX11_volumesCutAt 62 = .ok (.iconst 1, 1) := by decide +kernel
theorem dX11_volumesCutAt_63 : decode cX11_volumesCutAt 63 = .ok (.goto 4, 3) := by decide +kernel
theorem dX11_volumesCutAt_66 : decode cX11_volumesCutAt 66 = .ok (.iconst 0, 1) := by decide +kernel
theorem dX11_volumesCutAt_67 : decode cX11_volumesCutAt 67 = .ok (.istore 5, 2) := by decide +kernel
theorem dX11_volumesCutAt_69 : decode cX11_volumesCutAt 69 = .ok (.iload_n 3, 1) := by decide +kernel
theorem dX11_volumesCutAt_70 : decode cX11_volumesCutAt 70 = .ok (.ifCond .eq 13, 3) := by decide +kernel
theorem dX11_volumesCutAt_73 : decode cX11_volumesCutAt 73 = .ok (.iload 4, 2) := by decide +kernel
theorem dX11_volumesCutAt_75 : decode cX11_volumesCutAt 75 = .ok (.ifCond .eq 8, 3) := by decide +kernel
theorem dX11_volumesCutAt_78 : decode cX11_volumesCutAt 78 = .ok (.iload 5, 2) := by decide +kernel
theorem dX11_volumesCutAt_80 : decode cX11_volumesCutAt 80 = .ok (.ifCond .ne 5, 3) := by decide +kernel
theorem dX11_volumesCutAt_83 : decode cX11_volumesCutAt 83 = .ok (.iconst 0, 1) := by decide +kernel
theorem dX11_volumesCutAt_84 : decode cX11_volumesCutAt 84 = .ok (.ireturn, 1) := by decide +kernel
theorem dX11_volumesCutAt_85 : decode cX11_volumesCutAt 85 = .ok (.iconst 1, 1) := by decide +kernel
theorem dX11_volumesCutAt_86 : decode cX11_volumesCutAt 86 = .ok (.iload_n 1, 1) := by decide +kernel
theorem dX11_volumesCutAt_87 : decode cX11_volumesCutAt 87 = .ok (.bipush 6, 2) := by decide +kernel
theorem dX11_volumesCutAt_89 : decode cX11_volumesCutAt 89 = .ok (.if_icmp .ge 7, 3) := by decide +kernel
theorem dX11_volumesCutAt_92 : decode cX11_volumesCutAt 92 = .ok (.iconst 1, 1) := by decide +kernel
theorem dX11_volumesCutAt_93 : decode cX11_volumesCutAt 93 = .ok (.goto 4, 3) := by decide +kernel
theorem dX11_volumesCutAt_96 : decode cX11_volumesCutAt 96 = .ok (.iconst 0, 1) := by decide +kernel
theorem dX11_volumesCutAt_97 : decode cX11_volumesCutAt 97 = .ok (.iadd, 1) := by decide +kernel
theorem dX11_volumesCutAt_98 : decode cX11_volumesCutAt 98 = .ok (.iload_n 2, 1) := by decide +kernel
theorem dX11_volumesCutAt_99 : decode cX11_volumesCutAt 99 = .ok (.bipush 6, 2) := by decide +kernel
theorem dX11_volumesCutAt_101 : decode cX11_volumesCutAt 101 = .ok (.if_icmp .ge 7, 3) := by decide +kernel
theorem dX11_volumesCutAt_104 : decode cX11_volumesCutAt 104 = .ok (.iconst 1, 1) := by decide +kernel
theorem dX11_volumesCutAt_105 : decode cX11_volumesCutAt 105 = .ok (.goto 4, 3) := by decide +kernel
theorem dX11_volumesCutAt_108 : decode cX11_volumesCutAt 108 = .ok (.iconst 0, 1) := by decide +kernel
theorem dX11_volumesCutAt_109 : decode cX11_volumesCutAt 109 = .ok (.iadd, 1) := by decide +kernel
theorem dX11_volumesCutAt_110 : decode cX11_volumesCutAt 110 = .ok (.ireturn, 1) := by decide +kernel
theorem dX11_thickestCutAt_0 : decode cX11_thickestCutAt 0 = .ok (.iconst 1, 1) := by decide +kernel
theorem dX11_thickestCutAt_1 : decode cX11_thickestCutAt 1 = .ok (.iload_n 2, 1) := by decide +kernel
theorem dX11_thickestCutAt_2 : decode cX11_thickestCutAt 2 = .ok (.ishl, 1) := by decide +kernel
theorem dX11_thickestCutAt_3 : decode cX11_thickestCutAt 3 = .ok (.iconst 1, 1) := by decide +kernel
theorem dX11_thickestCutAt_4 : decode cX11_thickestCutAt 4 = .ok (.isub, 1) := by decide +kernel
theorem dX11_thickestCutAt_5 : decode cX11_thickestCutAt 5 = .ok (.istore 4, 2) := by decide +kernel
theorem dX11_thickestCutAt_7 : decode cX11_thickestCutAt 7 = .ok (.iconst 1, 1) := by decide +kernel
theorem dX11_thickestCutAt_8 : decode cX11_thickestCutAt 8 = .ok (.iload_n 3, 1) := by decide +kernel
theorem dX11_thickestCutAt_9 : decode cX11_thickestCutAt 9 = .ok (.ishl, 1) := by decide +kernel
theorem dX11_thickestCutAt_10 : decode cX11_thickestCutAt 10 = .ok (.iconst 1, 1) := by decide +kernel
theorem dX11_thickestCutAt_11 : decode cX11_thickestCutAt 11 = .ok (.isub, 1) := by decide +kernel
theorem dX11_thickestCutAt_12 : decode cX11_thickestCutAt 12 = .ok (.istore 5, 2) := by decide +kernel
theorem dX11_thickestCutAt_14 : decode cX11_thickestCutAt 14 = .ok (.aload_n 0, 1) := by decide +kernel
theorem dX11_thickestCutAt_15 : decode cX11_thickestCutAt 15 = .ok (.iload_n 1, 1) := by decide +kernel
theorem dX11_thickestCutAt_16 : decode cX11_thickestCutAt 16 = .ok (.iload 4, 2) := by decide +kernel
theorem dX11_thickestCutAt_18 : decode cX11_thickestCutAt 18 = .ok (.iand, 1) := by decide +kernel
theorem dX11_thickestCutAt_19 : decode cX11_thickestCutAt 19 = .ok (.invokevirtual 380, 3) := by decide +kernel
theorem dX11_thickestCutAt_22 : decode cX11_thickestCutAt 22 = .ok (.istore 6, 2) := by decide +kernel
theorem dX11_thickestCutAt_24 : decode cX11_thickestCutAt 24 = .ok (.aload_n 0, 1) := by decide +kernel
theorem dX11_thickestCutAt_25 : decode cX11_thickestCutAt 25 = .ok (.iload_n 1, 1) := by decide +kernel
theorem dX11_thickestCutAt_26 : decode cX11_thickestCutAt 26 = .ok (.iload 5, 2) := by decide +kernel
theorem dX11_thickestCutAt_28 : decode cX11_thickestCutAt 28 = .ok (.iand, 1) := by decide +kernel
theorem dX11_thickestCutAt_29 : decode cX11_thickestCutAt 29 = .ok (.iload 4, 2) := by decide +kernel
theorem dX11_thickestCutAt_31 : decode cX11_thickestCutAt 31 = .ok (.iconst (-1), 1) := by decide +kernel
theorem dX11_thickestCutAt_32 : decode cX11_thickestCutAt 32 = .ok (.ixor, 1) := by decide +kernel
theorem dX11_thickestCutAt_33 : decode cX11_thickestCutAt 33 = .ok (.iand, 1) := by decide +kernel
theorem dX11_thickestCutAt_34 : decode cX11_thickestCutAt 34 = .ok (.invokevirtual 380, 3) := by decide +kernel
theorem dX11_thickestCutAt_37 : decode cX11_thickestCutAt 37 = .ok (.istore 7, 2) := by decide +kernel
theorem dX11_thickestCutAt_39 : decode cX11_thickestCutAt 39 = .ok (.aload_n 0, 1) := by decide +kernel
theorem dX11_thickestCutAt_40 : decode cX11_thickestCutAt 40 = .ok (.iload_n 1, 1) := by decide +kernel
theorem dX11_thickestCutAt_41 : decode cX11_thickestCutAt 41 = .ok (.iload 5, 2) := by decide +kernel
theorem dX11_thickestCutAt_43 : decode cX11_thickestCutAt 43 = .ok (.iconst (-1), 1) := by decide +kernel
theorem dX11_thickestCutAt_44 : decode cX11_thickestCutAt 44 = .ok (.ixor, 1) := by decide +kernel
theorem dX11_thickestCutAt_45 : decode cX11_thickestCutAt 45 = .ok (.iand, 1) := by decide +kernel
theorem dX11_thickestCutAt_46 : decode cX11_thickestCutAt 46 = .ok (.invokevirtual 380, 3) := by decide +kernel
theorem dX11_thickestCutAt_49 : decode cX11_thickestCutAt 49 = .ok (.istore 8, 2) := by decide +kernel
theorem dX11_thickestCutAt_51 : decode cX11_thickestCutAt 51 = .ok (.iload 6, 2) := by decide +kernel
theorem dX11_thickestCutAt_53 : decode cX11_thickestCutAt 53 = .ok (.iload 7, 2) := by decide +kernel
theorem dX11_thickestCutAt_55 : decode cX11_thickestCutAt 55 = .ok (.iload 8, 2) := by decide +kernel
theorem dX11_thickestCutAt_57 : decode cX11_thickestCutAt 57 = .ok (.invokestatic 383, 3) := by decide +kernel
theorem dX11_thickestCutAt_60 : decode cX11_thickestCutAt 60 = .ok (.invokestatic 383, 3) := by decide +kernel
theorem dX11_thickestCutAt_63 : decode cX11_thickestCutAt 63 = .ok (.ireturn, 1) := by decide +kernel
theorem dX11_canBeTried_0 : decode cX11_canBeTried 0 = .ok (.iload_n 1, 1) := by decide +kernel
theorem dX11_canBeTried_1 : decode cX11_canBeTried 1 = .ok (.iconst 0, 1) := by decide +kernel
theorem dX11_canBeTried_2 : decode cX11_canBeTried 2 = .ok (.bipush 6, 2) := by decide +kernel
theorem dX11_canBeTried_4 : decode cX11_canBeTried 4 = .ok (.invokestatic 145, 3) := by decide +kernel
theorem dX11_canBeTried_7 : decode cX11_canBeTried 7 = .ok (.ifCond .ne 54, 3) := by decide +kernel
theorem dX11_canBeTried_10 : decode cX11_canBeTried 10 = .ok (.aload_n 0, 1) := by decide +kernel
theorem dX11_canBeTried_11 : decode cX11_canBeTried 11 = .ok (.getfield 57, 3) := by decide +kernel
theorem dX11_canBeTried_14 : decode cX11_canBeTried 14 = .ok (.getfield 161, 3) := by decide +kernel
theorem dX11_canBeTried_17 : decode cX11_canBeTried 17 = .ok (.iload_n 1, 1) := by decide +kernel
theorem dX11_canBeTried_18 : decode cX11_canBeTried 18 = .ok (.bipush 10, 2) := by decide +kernel
theorem dX11_canBeTried_20 : decode cX11_canBeTried 20 = .ok (.isub, 1) := by decide +kernel
theorem dX11_canBeTried_21 : decode cX11_canBeTried 21 = .ok (.invokestatic 164, 3) := by decide +kernel
theorem dX11_canBeTried_24 : decode cX11_canBeTried 24 = .ok (.ifCond .ne 37, 3) := by decide +kernel
theorem dX11_canBeTried_27 : decode cX11_canBeTried 27 = .ok (.aload_n 0, 1) := by decide +kernel
theorem dX11_canBeTried_28 : decode cX11_canBeTried 28 = .ok (.getfield 57, 3) := by decide +kernel
theorem dX11_canBeTried_31 : decode cX11_canBeTried 31 = .ok (.getfield 161, 3) := by decide +kernel
theorem dX11_canBeTried_34 : decode cX11_canBeTried 34 = .ok (.iload_n 1, 1) := by decide +kernel
theorem dX11_canBeTried_35 : decode cX11_canBeTried 35 = .ok (.bipush 20, 2) := by decide +kernel
theorem dX11_canBeTried_37 : decode cX11_canBeTried 37 = .ok (.isub, 1) := by decide +kernel
theorem dX11_canBeTried_38 : decode cX11_canBeTried 38 = .ok (.invokestatic 164, 3) := by decide +kernel
theorem dX11_canBeTried_41 : decode cX11_canBeTried 41 = .ok (.ifCond .ne 20, 3) := by decide +kernel
theorem dX11_canBeTried_44 : decode cX11_canBeTried 44 = .ok (.aload_n 0, 1) := by decide +kernel
theorem dX11_canBeTried_45 : decode cX11_canBeTried 45 = .ok (.getfield 57, 3) := by decide +kernel
theorem dX11_canBeTried_48 : decode cX11_canBeTried 48 = .ok (.getfield 251, 3) := by decide +kernel
theorem dX11_canBeTried_51 : decode cX11_canBeTried 51 = .ok (.iload_n 1, 1) := by decide +kernel
theorem dX11_canBeTried_52 : decode cX11_canBeTried 52 = .ok (.bipush 30, 2) := by decide +kernel
theorem dX11_canBeTried_54 : decode cX11_canBeTried 54 = .ok (.isub, 1) := by decide +kernel
theorem dX11_canBeTried_55 : decode cX11_canBeTried 55 = .ok (.invokestatic 164, 3) := by decide +kernel
theorem dX11_canBeTried_58 : decode cX11_canBeTried 58 = .ok (.ifCond .eq 7, 3) := by decide +kernel
theorem dX11_canBeTried_61 : decode cX11_canBeTried 61 = .ok (.iconst 1, 1) := by decide +kernel
theorem dX11_canBeTried_62 : decode cX11_canBeTried 62 = .ok (.goto 4, 3) := by decide +kernel
theorem dX11_canBeTried_65 : decode cX11_canBeTried 65 = .ok (.iconst 0, 1) := by decide +kernel
theorem dX11_canBeTried_66 : decode cX11_canBeTried 66 = .ok (.ireturn, 1) := by decide +kernel
theorem dX11_isWithin_0 : decode cX11_isWithin 0 = .ok (.iload_n 0, 1) := by decide +kernel
theorem dX11_isWithin_1 : decode cX11_isWithin 1 = .ok (.iload_n 1, 1) := by decide +kernel
theorem dX11_isWithin_2 : decode cX11_isWithin 2 = .ok (.if_icmp .lt 12, 3) := by decide +kernel
theorem dX11_isWithin_5 : decode cX11_isWithin 5 = .ok (.iload_n 0, 1) := by decide +kernel
theorem dX11_isWithin_6 : decode cX11_isWithin 6 = .ok (.iload_n 2, 1) := by decide +kernel
theorem dX11_isWithin_7 : decode cX11_isWithin 7 = .ok (.if_icmp .gt 7, 3) := by decide +kernel
theorem dX11_isWithin_10 : decode cX11_isWithin 10 = .ok (.iconst 1, 1) := by decide +kernel
theorem dX11_isWithin_11 : decode cX11_isWithin 11 = .ok (.goto 4, 3) := by decide +kernel
theorem dX11_isWithin_14 : decode cX11_isWithin 14 = .ok (.iconst 0, 1) := by decide +kernel
theorem dX11_isWithin_15 : decode cX11_isWithin 15 = .ok (.ireturn, 1) := by decide +kernel
theorem dX11_has_0 : decode cX11_has 0 = .ok (.iload_n 1, 1) := by decide +kernel
theorem dX11_has_1 : decode cX11_has 1 = .ok (.ifCond .lt 22, 3) := by decide +kernel
theorem dX11_has_4 : decode cX11_has 4 = .ok (.iload_n 1, 1) := by decide +kernel
theorem dX11_has_5 : decode cX11_has 5 = .ok (.bipush 10, 2) := by decide +kernel
theorem dX11_has_7 : decode cX11_has 7 = .ok (.if_icmp .ge 16, 3) := by decide +kernel
theorem dX11_has_10 : decode cX11_has 10 = .ok (.iload_n 0, 1) := by decide +kernel
theorem dX11_has_11 : decode cX11_has 11 = .ok (.iload_n 1, 1) := by decide +kernel
theorem dX11_has_12 : decode cX11_has 12 = .ok (.ishr, 1) := by decide +kernel
theorem dX11_has_13 : decode cX11_has 13 = .ok (.iconst 1, 1) := by decide +kernel
theorem dX11_has_14 : decode cX11_has 14 = .ok (.iand, 1) := by decide +kernel
theorem dX11_has_15 : decode cX11_has 15 = .ok (.iconst 1, 1) := by decide +kernel
theorem dX11_has_16 : decode cX11_has 16 = .ok (.if_icmp .ne 7, 3) := by decide +kernel
theorem dX11_has_19 : decode cX11_has 19 = .ok (.iconst 1, 1) := by decide +kernel
theorem dX11_has_20 : decode cX11_has 20 = .ok (.goto 4, 3) := by decide +kernel
theorem dX11_has_23 : decode cX11_has 23 = .ok (.iconst 0, 1) := by decide +kernel
theorem dX11_has_24 : decode cX11_has 24 = .ok (.ireturn, 1) := by decide +kernel
