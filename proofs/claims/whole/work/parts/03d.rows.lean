theorem dX12_laysCheapest_73 : decode cX12_laysCheapest 73 = .ok (.iload_n 3, 1) := by decide +kernel
theorem dX12_laysCheapest_74 : decode cX12_laysCheapest 74 = .ok (.iload_n 2, 1) := by decide +kernel
theorem dX12_laysCheapest_75 : decode cX12_laysCheapest 75 = .ok (.iconst (-1), 1) := by decide +kernel
theorem dX12_laysCheapest_76 : decode cX12_laysCheapest 76 = .ok (.ixor, 1) := by decide +kernel
theorem dX12_laysCheapest_77 : decode cX12_laysCheapest 77 = .ok (.iand, 1) := by decide +kernel
theorem dX12_laysCheapest_78 : decode cX12_laysCheapest 78 = .ok (.ifCond .eq 6, 3) := by decide +kernel
theorem dX12_laysCheapest_81 : decode cX12_laysCheapest 81 = .ok (.goto 116, 3) := by decide +kernel
theorem dX12_laysCheapest_84 : decode cX12_laysCheapest 84 = .ok (.iconst 0, 1) := by decide +kernel
theorem dX12_laysCheapest_85 : decode cX12_laysCheapest 85 = .ok (.istore 4, 2) := by decide +kernel
theorem dX12_laysCheapest_87 : decode cX12_laysCheapest 87 = .ok (.iconst 0, 1) := by decide +kernel
theorem dX12_laysCheapest_88 : decode cX12_laysCheapest 88 = .ok (.istore 5, 2) := by decide +kernel
theorem dX12_laysCheapest_90 : decode cX12_laysCheapest 90 = .ok (.iconst 0, 1) := by decide +kernel
theorem dX12_laysCheapest_91 : decode cX12_laysCheapest 91 = .ok (.istore 6, 2) := by decide +kernel
theorem dX12_laysCheapest_93 : decode cX12_laysCheapest 93 = .ok (.iload 6, 2) := by decide +kernel
theorem dX12_laysCheapest_95 : decode cX12_laysCheapest 95 = .ok (.bipush 10, 2) := by decide +kernel
theorem dX12_laysCheapest_97 : decode cX12_laysCheapest 97 = .ok (.if_icmp .ge 45, 3) := by decide +kernel
theorem dX12_laysCheapest_100 : decode cX12_laysCheapest 100 = .ok (.iload_n 3, 1) := by decide +kernel
theorem dX12_laysCheapest_101 : decode cX12_laysCheapest 101 = .ok (.iload 6, 2) := by decide +kernel
theorem dX12_laysCheapest_103 : decode cX12_laysCheapest 103 = .ok (.invokestatic 194, 3) := by decide +kernel
theorem dX12_laysCheapest_106 : decode cX12_laysCheapest 106 = .ok (.ifCond .ne 6, 3) := by decide +kernel
theorem dX12_laysCheapest_109 : decode cX12_laysCheapest 109 = .ok (.goto 27, 3) := by decide +kernel
theorem dX12_laysCheapest_112 : decode cX12_laysCheapest 112 = .ok (.iload 4, 2) := by decide +kernel
theorem dX12_laysCheapest_114 : decode cX12_laysCheapest 114 = .ok (.aload_n 0, 1) := by decide +kernel
theorem dX12_laysCheapest_115 : decode cX12_laysCheapest 115 = .ok (.getfield 91, 3) := by decide +kernel
theorem dX12_laysCheapest_118 : decode cX12_laysCheapest 118 = .ok (.iload 6, 2) := by decide +kernel
theorem dX12_laysCheapest_120 : decode cX12_laysCheapest 120 = .ok (.iaload, 1) := by decide +kernel
theorem dX12_laysCheapest_121 : decode cX12_laysCheapest 121 = .ok (.ior, 1) := by decide +kernel
theorem dX12_laysCheapest_122 : decode cX12_laysCheapest 122 = .ok (.istore 4, 2) := by decide +kernel
theorem dX12_laysCheapest_124 : decode cX12_laysCheapest 124 = .ok (.iload 5, 2) := by decide +kernel
theorem dX12_laysCheapest_126 : decode cX12_laysCheapest 126 = .ok (.aload_n 0, 1) := by decide +kernel
theorem dX12_laysCheapest_127 : decode cX12_laysCheapest 127 = .ok (.getfield 130, 3) := by decide +kernel
theorem dX12_laysCheapest_130 : decode cX12_laysCheapest 130 = .ok (.iload 6, 2) := by decide +kernel
theorem dX12_laysCheapest_132 : decode cX12_laysCheapest 132 = .ok (.iaload, 1) := by decide +kernel
theorem dX12_laysCheapest_133 : decode cX12_laysCheapest 133 = .ok (.iadd, 1) := by decide +kernel
theorem dX12_laysCheapest_134 : decode cX12_laysCheapest 134 = .ok (.istore 5, 2) := by decide +kernel
theorem dX12_laysCheapest_136 : decode cX12_laysCheapest 136 = .ok (.iinc 6 1, 3) := by decide +kernel
theorem dX12_laysCheapest_139 : decode cX12_laysCheapest 139 = .ok (.goto (-46), 3) := by decide +kernel
theorem dX12_laysCheapest_142 : decode cX12_laysCheapest 142 = .ok (.iload_n 1, 1) := by decide +kernel
theorem dX12_laysCheapest_143 : decode cX12_laysCheapest 143 = .ok (.iload 4, 2) := by decide +kernel
theorem dX12_laysCheapest_145 : decode cX12_laysCheapest 145 = .ok (.iconst (-1), 1) := by decide +kernel
theorem dX12_laysCheapest_146 : decode cX12_laysCheapest 146 = .ok (.ixor, 1) := by decide +kernel
theorem dX12_laysCheapest_147 : decode cX12_laysCheapest 147 = .ok (.iand, 1) := by decide +kernel
theorem dX12_laysCheapest_148 : decode cX12_laysCheapest 148 = .ok (.ifCond .ne 49, 3) := by decide +kernel
theorem dX12_laysCheapest_151 : decode cX12_laysCheapest 151 = .ok (.iload 5, 2) := by decide +kernel
theorem dX12_laysCheapest_153 : decode cX12_laysCheapest 153 = .ok (.aload_n 0, 1) := by decide +kernel
theorem dX12_laysCheapest_154 : decode cX12_laysCheapest 154 = .ok (.getfield 477, 3) := by decide +kernel
theorem dX12_laysCheapest_157 : decode cX12_laysCheapest 157 = .ok (.if_icmp .gt 40, 3) := by decide +kernel
theorem dX12_laysCheapest_160 : decode cX12_laysCheapest 160 = .ok (.iload 5, 2) := by decide +kernel
theorem dX12_laysCheapest_162 : decode cX12_laysCheapest 162 = .ok (.aload_n 0, 1) := by decide +kernel
theorem dX12_laysCheapest_163 : decode cX12_laysCheapest 163 = .ok (.getfield 477, 3) := by decide +kernel
theorem dX12_laysCheapest_166 : decode cX12_laysCheapest 166 = .ok (.if_icmp .ne 20, 3) := by decide +kernel
theorem dX12_laysCheapest_169 : decode cX12_laysCheapest 169 = .ok (.iload_n 3, 1) := by decide +kernel
theorem dX12_laysCheapest_170 : decode cX12_laysCheapest 170 = .ok (.invokestatic 289, 3) := by decide +kernel
theorem dX12_laysCheapest_173 : decode cX12_laysCheapest 173 = .ok (.aload_n 0, 1) := by decide +kernel
theorem dX12_laysCheapest_174 : decode cX12_laysCheapest 174 = .ok (.getfield 473, 3) := by decide +kernel
theorem dX12_laysCheapest_177 : decode cX12_laysCheapest 177 = .ok (.invokestatic 289, 3) := by decide +kernel
theorem dX12_laysCheapest_180 : decode cX12_laysCheapest 180 = .ok (.if_icmp .lt 6, 3) := by decide +kernel
theorem dX12_laysCheapest_183 : decode cX12_laysCheapest 183 = .ok (.goto 14, 3) := by decide +kernel
theorem dX12_laysCheapest_186 : decode cX12_laysCheapest 186 = .ok (.aload_n 0, 1) := by decide +kernel
theorem dX12_laysCheapest_187 : decode cX12_laysCheapest 187 = .ok (.iload_n 3, 1) := by decide +kernel
theorem dX12_laysCheapest_188 : decode cX12_laysCheapest 188 = .ok (.putfield 473, 3) := by decide +kernel
theorem dX12_laysCheapest_191 : decode cX12_laysCheapest 191 = .ok (.aload_n 0, 1) := by decide +kernel
theorem dX12_laysCheapest_192 : decode cX12_laysCheapest 192 = .ok (.iload 5, 2) := by decide +kernel
theorem dX12_laysCheapest_194 : decode cX12_laysCheapest 194 = .ok (.putfield 477, 3) := by decide +kernel
theorem dX12_laysCheapest_197 : decode cX12_laysCheapest 197 = .ok (.iinc 3 1, 3) := by decide +kernel
theorem dX12_laysCheapest_200 : decode cX12_laysCheapest 200 = .ok (.goto (-132), 3) := by decide +kernel
theorem dX12_laysCheapest_203 : decode cX12_laysCheapest 203 = .ok (.aload_n 0, 1) := by decide +kernel
theorem dX12_laysCheapest_204 : decode cX12_laysCheapest 204 = .ok (.getfield 473, 3) := by decide +kernel
theorem dX12_laysCheapest_207 : decode cX12_laysCheapest 207 = .ok (.iconst (-1), 1) := by decide +kernel
theorem dX12_laysCheapest_208 : decode cX12_laysCheapest 208 = .ok (.if_icmp .eq 7, 3) := by decide +kernel
theorem dX12_laysCheapest_211 : decode cX12_laysCheapest 211 = .ok (.iconst 1, 1) := by decide +kernel
theorem dX12_laysCheapest_212 : decode cX12_laysCheapest 212 = .ok (.goto 4, 3) := by decide +kernel
theorem dX12_laysCheapest_215 : decode cX12_laysCheapest 215 = .ok (.iconst 0, 1) := by decide +kernel
theorem dX12_laysCheapest_216 : decode cX12_laysCheapest 216 = .ok (.ireturn, 1) := by decide +kernel
theorem dX12_cheapest_0 : decode cX12_cheapest 0 = .ok (.iload_n 1, 1) := by decide +kernel
theorem dX12_cheapest_1 : decode cX12_cheapest 1 = .ok (.i2l, 1) := by decide +kernel
theorem dX12_cheapest_2 : decode cX12_cheapest 2 = .ok (.lconst 1, 1) := by decide +kernel
theorem dX12_cheapest_3 : decode cX12_cheapest 3 = .ok (.ldc2_w 283, 3) := by decide +kernel
theorem dX12_cheapest_6 : decode cX12_cheapest 6 = .ok (.invokestatic 222, 3) := by decide +kernel
theorem dX12_cheapest_9 : decode cX12_cheapest 9 = .ok (.ifCond .eq 13, 3) := by decide +kernel
theorem dX12_cheapest_12 : decode cX12_cheapest 12 = .ok (.iload_n 2, 1) := by decide +kernel
theorem dX12_cheapest_13 : decode cX12_cheapest 13 = .ok (.i2l, 1) := by decide +kernel
theorem dX12_cheapest_14 : decode cX12_cheapest 14 = .ok (.lconst 0, 1) := by decide +kernel
theorem dX12_cheapest_15 : decode cX12_cheapest 15 = .ok (.lconst 1, 1) := by decide +kernel
theorem dX12_cheapest_16 : decode cX12_cheapest 16 = .ok (.invokestatic 222, 3) := by decide +kernel
theorem dX12_cheapest_19 : decode cX12_cheapest 19 = .ok (.ifCond .ne 5, 3) := by decide +kernel
theorem dX12_cheapest_22 : decode cX12_cheapest 22 = .ok (.iconst (-1), 1) := by decide +kernel
theorem dX12_cheapest_23 : decode cX12_cheapest 23 = .ok (.ireturn, 1) := by decide +kernel
theorem dX12_cheapest_24 : decode cX12_cheapest 24 = .ok (.aload_n 0, 1) := by decide +kernel
theorem dX12_cheapest_25 : decode cX12_cheapest 25 = .ok (.iload_n 1, 1) := by decide +kernel
theorem dX12_cheapest_26 : decode cX12_cheapest 26 = .ok (.invokevirtual 480, 3) := by decide +kernel
theorem dX12_cheapest_29 : decode cX12_cheapest 29 = .ok (.ifCond .ne 6, 3) := by decide +kernel
theorem dX12_cheapest_32 : decode cX12_cheapest 32 = .ok (.bipush (-2), 2) := by decide +kernel
theorem dX12_cheapest_34 : decode cX12_cheapest 34 = .ok (.ireturn, 1) := by decide +kernel
theorem dX12_cheapest_35 : decode cX12_cheapest 35 = .ok (.iload_n 2, 1) := by decide +kernel
theorem dX12_cheapest_36 : decode cX12_cheapest 36 = .ok (.ifCond .ne 10, 3) := by decide +kernel
theorem dX12_cheapest_39 : decode cX12_cheapest 39 = .ok (.aload_n 0, 1) := by decide +kernel
theorem dX12_cheapest_40 : decode cX12_cheapest 40 = .ok (.getfield 477, 3) := by decide +kernel
theorem dX12_cheapest_43 : decode cX12_cheapest 43 = .ok (.goto 7, 3) := by decide +kernel
theorem dX12_cheapest_46 : decode cX12_cheapest 46 = .ok (.aload_n 0, 1) := by decide +kernel
theorem dX12_cheapest_47 : decode cX12_cheapest 47 = .ok (.getfield 473, 3) := by decide +kernel
theorem dX12_cheapest_50 : decode cX12_cheapest 50 = .ok (.ireturn, 1) := by decide +kernel
theorem dX12_draw_0 : decode cX12_draw 0 = .ok (.aload_n 0, 1) := by decide +kernel
theorem dX12_draw_1 : decode cX12_draw 1 = .ok (.sipush 25173, 3) := by decide +kernel
theorem dX12_draw_4 : decode cX12_draw 4 = .ok (.aload_n 0, 1) := by decide +kernel
theorem dX12_draw_5 : decode cX12_draw 5 = .ok (.getfield 13, 3) := by decide +kernel
theorem dX12_draw_8 : decode cX12_draw 8 = .ok (.imul, 1) := by decide +kernel
theorem dX12_draw_9 : decode cX12_draw 9 = .ok (.sipush 13849, 3) := by decide +kernel
theorem dX12_draw_12 : decode cX12_draw 12 = .ok (.iadd, 1) := by decide +kernel
theorem dX12_draw_13 : decode cX12_draw 13 = .ok (.ldc_w 483, 3) := by decide +kernel
theorem dX12_draw_16 : decode cX12_draw 16 = .ok (.irem, 1) := by decide +kernel
theorem dX12_draw_17 : decode cX12_draw 17 = .ok (.putfield 13, 3) := by decide +kernel
theorem dX12_draw_20 : decode cX12_draw 20 = .ok (.aload_n 0, 1) := by decide +kernel
theorem dX12_draw_21 : decode cX12_draw 21 = .ok (.getfield 13, 3) := by decide +kernel
theorem dX12_draw_24 : decode cX12_draw 24 = .ok (.bipush 10, 2) := by decide +kernel
theorem dX12_draw_26 : decode cX12_draw 26 = .ok (.irem, 1) := by decide +kernel
theorem dX12_draw_27 : decode cX12_draw 27 = .ok (.ireturn, 1) := by decide +kernel
theorem dX12_buying_0 : decode cX12_buying 0 = .ok (.aload_n 0, 1) := by decide +kernel
theorem dX12_buying_1 : decode cX12_buying 1 = .ok (.iload_n 2, 1) := by decide +kernel
theorem dX12_buying_2 : decode cX12_buying 2 = .ok (.invokevirtual 484, 3) := by decide +kernel
theorem dX12_buying_5 : decode cX12_buying 5 = .ok (.istore 4, 2) := by decide +kernel
theorem dX12_buying_7 : decode cX12_buying 7 = .ok (.aload_n 0, 1) := by decide +kernel
theorem dX12_buying_8 : decode cX12_buying 8 = .ok (.getfield 109, 3) := by decide +kernel
theorem dX12_buying_11 : decode cX12_buying 11 = .ok (.iload_n 1, 1) := by decide +kernel
theorem dX12_buying_12 : decode cX12_buying 12 = .ok (.dup2, 1) := by decide +kernel
theorem dX12_buying_13 : decode cX12_buying 13 = .ok (.iaload, 1) := by decide +kernel
theorem dX12_buying_14 : decode cX12_buying 14 = .ok (.iload_n 3, 1) := by decide +kernel
theorem dX12_buying_15 : decode cX12_buying 15 = .ok (.isub, 1) := by decide +kernel
theorem dX12_buying_16 : decode cX12_buying 16 = .ok (.iastore, 1) := by decide +kernel
theorem dX12_buying_17 : decode cX12_buying 17 = .ok (.aload_n 0, 1) := by decide +kernel
theorem dX12_buying_18 : decode cX12_buying 18 = .ok (.getfield 97, 3) := by decide +kernel
theorem dX12_buying_21 : decode cX12_buying 21 = .ok (.iload_n 2, 1) := by decide +kernel
theorem dX12_buying_22 : decode cX12_buying 22 = .ok (.dup2, 1) := by decide +kernel
theorem dX12_buying_23 : decode cX12_buying 23 = .ok (.iaload, 1) := by decide +kernel
theorem dX12_buying_24 : decode cX12_buying 24 = .ok (.iconst 1, 1) := by decide +kernel
theorem dX12_buying_25 : decode cX12_buying 25 = .ok (.isub, 1) := by decide +kernel
theorem dX12_buying_26 : decode cX12_buying 26 = .ok (.iastore, 1) := by decide +kernel
theorem dX12_buying_27 : decode cX12_buying 27 = .ok (.aload_n 0, 1) := by decide +kernel
theorem dX12_buying_28 : decode cX12_buying 28 = .ok (.dup, 1) := by decide +kernel
theorem dX12_buying_29 : decode cX12_buying 29 = .ok (.getfield 487, 3) := by decide +kernel
theorem dX12_buying_32 : decode cX12_buying 32 = .ok (.iload_n 3, 1) := by decide +kernel
theorem dX12_buying_33 : decode cX12_buying 33 = .ok (.iadd, 1) := by decide +kernel
theorem dX12_buying_34 : decode cX12_buying 34 = .ok (.putfield 487, 3) := by decide +kernel
theorem dX12_buying_37 : decode cX12_buying 37 = .ok (.aload_n 0, 1) := by decide +kernel
theorem dX12_buying_38 : decode cX12_buying 38 = .ok (.dup, 1) := by decide +kernel
theorem dX12_buying_39 : decode cX12_buying 39 = .ok (.getfield 490, 3) := by decide +kernel
theorem dX12_buying_42 : decode cX12_buying 42 = .ok (.iconst 1, 1) := by decide +kernel
theorem dX12_buying_43 : decode cX12_buying 43 = .ok (.iadd, 1) := by decide +kernel
theorem dX12_buying_44 : decode cX12_buying 44 = .ok (.putfield 490, 3) := by decide +kernel
theorem dX12_buying_47 : decode cX12_buying 47 = .ok (.aload_n 0, 1) := by decide +kernel
theorem dX12_buying_48 : decode cX12_buying 48 = .ok (.invokevirtual 493, 3) := by decide +kernel
theorem dX12_buying_51 : decode cX12_buying 51 = .ok (.iload 4, 2) := by decide +kernel
theorem dX12_buying_53 : decode cX12_buying 53 = .ok (.if_icmp .ge 7, 3) := by decide +kernel
theorem dX12_buying_56 : decode cX12_buying 56 = .ok (.iconst 1, 1) := by decide +kernel
theorem dX12_buying_57 : decode cX12_buying 57 = .ok (.goto 4, 3) := by decide +kernel
theorem dX12_buying_60 : decode cX12_buying 60 = .ok (.iconst 0, 1) := by decide +kernel
theorem dX12_buying_61 : decode cX12_buying 61 = .ok (.istore 5, 2) := by decide +kernel
theorem dX12_buying_63 : decode cX12_buying 63 = .ok (.aload_n 0, 1) := by decide +kernel
theorem dX12_buying_64 : decode cX12_buying 64 = .ok (.dup, 1) := by decide +kernel
theorem dX12_buying_65 : decode cX12_buying 65 = .ok (.getfield 496, 3) := by decide +kernel
theorem dX12_buying_68 : decode cX12_buying 68 = .ok (.iload 5, 2) := by decide +kernel
theorem dX12_buying_70 : decode cX12_buying 70 = .ok (.ifCond .eq 7, 3) := by decide +kernel
theorem dX12_buying_73 : decode cX12_buying 73 = .ok (.iconst 1, 1) := by decide +kernel
theorem dX12_buying_74 : decode cX12_buying 74 = .ok (.goto 4, 3) := by decide +kernel
theorem dX12_buying_77 : decode cX12_buying 77 = .ok (.iconst 0, 1) := by decide +kernel
theorem dX12_buying_78 : decode cX12_buying 78 = .ok (.iadd, 1) := by decide +kernel
theorem dX12_buying_79 : decode cX12_buying 79 = .ok (.putfield 496, 3) := by decide +kernel
theorem dX12_buying_82 : decode cX12_buying 82 = .ok (.aload_n 0, 1) := by decide +kernel
theorem dX12_buying_83 : decode cX12_buying 83 = .ok (.getfield 115, 3) := by decide +kernel
theorem dX12_buying_86 : decode cX12_buying 86 = .ok (.iload_n 1, 1) := by decide +kernel
theorem dX12_buying_87 : decode cX12_buying 87 = .ok (.iaload, 1) := by decide +kernel
theorem dX12_buying_88 : decode cX12_buying 88 = .ok (.iload 5, 2) := by decide +kernel
theorem dX12_buying_90 : decode cX12_buying 90 = .ok (.ifCond .eq 21, 3) := by decide +kernel
theorem dX12_buying_93 : decode cX12_buying 93 = .ok (.aload_n 0, 1) := by decide +kernel
theorem dX12_buying_94 : decode cX12_buying 94 = .ok (.getfield 91, 3) := by decide +kernel
theorem dX12_buying_97 : decode cX12_buying 97 = .ok (.iload_n 2, 1) := by decide +kernel
theorem dX12_buying_98 : decode cX12_buying 98 = .ok (.iaload, 1) := by decide +kernel
theorem dX12_buying_99 : decode cX12_buying 99 = .ok (.aload_n 0, 1) := by decide +kernel
theorem dX12_buying_100 : decode cX12_buying 100 = .ok (.getfield 91, 3) := by decide +kernel
theorem dX12_buying_103 : decode cX12_buying 103 = .ok (.iload_n 2, 1) := by decide +kernel
theorem dX12_buying_104 : decode cX12_buying 104 = .ok (.iaload, 1) := by decide +kernel
theorem dX12_buying_105 : decode cX12_buying 105 = .ok (.iconst 1, 1) := by decide +kernel
theorem dX12_buying_106 : decode cX12_buying 106 = .ok (.isub, 1) := by decide +kernel
theorem dX12_buying_107 : decode cX12_buying 107 = .ok (.iand, 1) := by decide +kernel
theorem dX12_buying_108 : decode cX12_buying 108 = .ok (.goto 9, 3) := by decide +kernel
theorem dX12_buying_111 : decode cX12_buying 111 = .ok (.aload_n 0, 1) := by decide +kernel
theorem dX12_buying_112 : decode cX12_buying 112 = .ok (.getfield 91, 3) := by decide +kernel
theorem dX12_buying_115 : decode cX12_buying 115 = .ok (.iload_n 2, 1) := by decide +kernel
theorem dX12_buying_116 : decode cX12_buying 116 = .ok (.iaload, 1) := by decide +kernel
theorem dX12_buying_117 : decode cX12_buying 117 = .ok (.iand, 1) := by decide +kernel
theorem dX12_buying_118 : decode cX12_buying 118 = .ok (.istore 6, 2) := by decide +kernel
theorem dX12_buying_120 : decode cX12_buying 120 = .ok (.aload_n 0, 1) := by decide +kernel
theorem dX12_buying_121 : decode cX12_buying 121 = .ok (.getfield 115, 3) := by decide +kernel
theorem dX12_buying_124 : decode cX12_buying 124 = .ok (.iload_n 1, 1) := by decide +kernel
theorem dX12_buying_125 : decode cX12_buying 125 = .ok (.dup2, 1) := by decide +kernel
theorem dX12_buying_126 : decode cX12_buying 126 = .ok (.iaload, 1) := by decide +kernel
theorem dX12_buying_127 : decode cX12_buying 127 = .ok (.iload 6, 2) := by decide +kernel
theorem dX12_buying_129 : decode cX12_buying 129 = .ok (.iconst (-1), 1) := by decide +kernel
theorem dX12_buying_130 : decode cX12_buying 130 = .ok (.ixor, 1) := by decide +kernel
theorem dX12_buying_131 : decode cX12_buying 131 = .ok (.iand, 1) := by decide +kernel
theorem dX12_buying_132 : decode cX12_buying 132 = .ok (.iastore, 1) := by decide +kernel
theorem dX12_buying_133 : decode cX12_buying 133 = .ok (.iload 6, 2) := by decide +kernel
theorem dX12_buying_135 : decode cX12_buying 135 = .ok (.ireturn, 1) := by decide +kernel
theorem dX12_buys_0 : decode cX12_buys 0 = .ok (.aload_n 0, 1) := by decide +kernel
theorem dX12_buys_1 : decode cX12_buys 1 = .ok (.iload_n 1, 1) := by decide +kernel
theorem dX12_buys_2 : decode cX12_buys 2 = .ok (.invokevirtual 467, 3) := by decide +kernel
theorem dX12_buys_5 : decode cX12_buys 5 = .ok (.ifCond .eq 20, 3) := by decide +kernel
theorem dX12_buys_8 : decode cX12_buys 8 = .ok (.aload_n 0, 1) := by decide +kernel
theorem dX12_buys_9 : decode cX12_buys 9 = .ok (.iload_n 2, 1) := by decide +kernel
theorem dX12_buys_10 : decode cX12_buys 10 = .ok (.invokevirtual 499, 3) := by decide +kernel
theorem dX12_buys_13 : decode cX12_buys 13 = .ok (.ifCond .eq 12, 3) := by decide +kernel
theorem dX12_buys_16 : decode cX12_buys 16 = .ok (.aload_n 0, 1) := by decide +kernel
theorem dX12_buys_17 : decode cX12_buys 17 = .ok (.getfield 97, 3) := by decide +kernel
theorem dX12_buys_20 : decode cX12_buys 20 = .ok (.iload_n 2, 1) := by decide +kernel
theorem dX12_buys_21 : decode cX12_buys 21 = .ok (.iaload, 1) := by decide +kernel
theorem dX12_buys_22 : decode cX12_buys 22 = .ok (.ifCond .ne 5, 3) := by decide +kernel
theorem dX12_buys_25 : decode cX12_buys 25 = .ok (.iconst (-1), 1) := by decide +kernel
theorem dX12_buys_26 : decode cX12_buys 26 = .ok (.ireturn, 1) := by decide +kernel
theorem dX12_buys_27 : decode cX12_buys 27 = .ok (.aload_n 0, 1) := by decide +kernel
theorem dX12_buys_28 : decode cX12_buys 28 = .ok (.iload_n 2, 1) := by decide +kernel
theorem dX12_buys_29 : decode cX12_buys 29 = .ok (.invokevirtual 470, 3) := by decide +kernel
theorem dX12_buys_32 : decode cX12_buys 32 = .ok (.istore_n 3, 1) := by decide +kernel
theorem dX12_buys_33 : decode cX12_buys 33 = .ok (.iload_n 3, 1) := by decide +kernel
theorem dX12_buys_34 : decode cX12_buys 34 = .ok (.aload_n 0, 1) := by decide +kernel
theorem dX12_buys_35 : decode cX12_buys 35 = .ok (.getfield 109, 3) := by decide +kernel
theorem dX12_buys_38 : decode cX12_buys 38 = .ok (.iload_n 1, 1) := by decide +kernel
theorem dX12_buys_39 : decode cX12_buys 39 = .ok (.iaload, 1) := by decide +kernel
theorem dX12_buys_40 : decode cX12_buys 40 = .ok (.if_icmp .le 7, 3) := by decide +kernel
theorem dX12_buys_43 : decode cX12_buys 43 = .ok (.iconst (-1), 1) := by decide +kernel
theorem dX12_buys_44 : decode cX12_buys 44 = .ok (.goto 10, 3) := by decide +kernel
theorem dX12_buys_47 : decode cX12_buys 47 = .ok (.aload_n 0, 1) := by decide +kernel
theorem dX12_buys_48 : decode cX12_buys 48 = .ok (.iload_n 1, 1) := by decide +kernel
theorem dX12_buys_49 : decode cX12_buys 49 = .ok (.iload_n 2, 1) := by decide +kernel
theorem dX12_buys_50 : decode cX12_buys 50 = .ok (.iload_n 3, 1) := by decide +kernel
theorem dX12_buys_51 : decode cX12_buys 51 = .ok (.invokevirtual 502, 3) := by decide +kernel
theorem dX12_buys_54 : decode cX12_buys 54 = .ok (.ireturn, 1) := by decide +kernel
theorem dX12_isAtEnd_0 : decode cX12_isAtEnd 0 = .ok (.aload_n 0, 1) := by decide +kernel
theorem dX12_isAtEnd_1 : decode cX12_isAtEnd 1 = .ok (.getfield 112, 3) := by decide +kernel
theorem dX12_isAtEnd_4 : decode cX12_isAtEnd 4 = .ok (.iload_n 1, 1) := by decide +kernel
theorem dX12_isAtEnd_5 : decode cX12_isAtEnd 5 = .ok (.iaload, 1) := by decide +kernel
theorem dX12_isAtEnd_6 : decode cX12_isAtEnd 6 = .ok (.aload_n 0, 1) := by decide +kernel
theorem dX12_isAtEnd_7 : decode cX12_isAtEnd 7 = .ok (.getfield 21, 3) := by decide +kernel
theorem dX12_isAtEnd_10 : decode cX12_isAtEnd 10 = .ok (.aload_n 0, 1) := by decide +kernel
theorem dX12_isAtEnd_11 : decode cX12_isAtEnd 11 = .ok (.getfield 106, 3) := by decide +kernel
theorem dX12_isAtEnd_14 : decode cX12_isAtEnd 14 = .ok (.iload_n 1, 1) := by decide +kernel
theorem dX12_isAtEnd_15 : decode cX12_isAtEnd 15 = .ok (.iaload, 1) := by decide +kernel
theorem dX12_isAtEnd_16 : decode cX12_isAtEnd 16 = .ok (.iaload, 1) := by decide +kernel
theorem dX12_isAtEnd_17 : decode cX12_isAtEnd 17 = .ok (.if_icmp .ne 7, 3) := by decide +kernel
theorem dX12_isAtEnd_20 : decode cX12_isAtEnd 20 = .ok (.iconst 1, 1) := by decide +kernel
theorem dX12_isAtEnd_21 : decode cX12_isAtEnd 21 = .ok (.goto 4, 3) := by decide +kernel
theorem dX12_isAtEnd_24 : decode cX12_isAtEnd 24 = .ok (.iconst 0, 1) := by decide +kernel
theorem dX12_isAtEnd_25 : decode cX12_isAtEnd 25 = .ok (.ireturn, 1) := by decide +kernel
theorem dX12_goesOn_0 : decode cX12_goesOn 0 = .ok (.aload_n 0, 1) := by decide +kernel
theorem dX12_goesOn_1 : decode cX12_goesOn 1 = .ok (.iload_n 1, 1) := by decide +kernel
theorem dX12_goesOn_2 : decode cX12_goesOn 2 = .ok (.invokevirtual 505, 3) := by decide +kernel
theorem dX12_goesOn_5 : decode cX12_goesOn 5 = .ok (.istore_n 2, 1) := by decide +kernel
theorem dX12_goesOn_6 : decode cX12_goesOn 6 = .ok (.iload_n 2, 1) := by decide +kernel
theorem dX12_goesOn_7 : decode cX12_goesOn 7 = .ok (.ifCond .le 63, 3) := by decide +kernel
theorem dX12_goesOn_10 : decode cX12_goesOn 10 = .ok (.aload_n 0, 1) := by decide +kernel
theorem dX12_goesOn_11 : decode cX12_goesOn 11 = .ok (.iload_n 1, 1) := by decide +kernel
theorem dX12_goesOn_12 : decode cX12_goesOn 12 = .ok (.invokevirtual 508, 3) := by decide +kernel
theorem dX12_goesOn_15 : decode cX12_goesOn 15 = .ok (.ifCond .ne 55, 3) := by decide +kernel
theorem dX12_goesOn_18 : decode cX12_goesOn 18 = .ok (.aload_n 0, 1) := by decide +kernel
theorem dX12_goesOn_19 : decode cX12_goesOn 19 = .ok (.getfield 115, 3) := by decide +kernel
theorem dX12_goesOn_22 : decode cX12_goesOn 22 = .ok (.iload_n 1, 1) := by decide +kernel
theorem dX12_goesOn_23 : decode cX12_goesOn 23 = .ok (.aload_n 0, 1) := by decide +kernel
theorem dX12_goesOn_24 : decode cX12_goesOn 24 = .ok (.getfield 115, 3) := by decide +kernel
theorem dX12_goesOn_27 : decode cX12_goesOn 27 = .ok (.iload_n 1, 1) := by decide +kernel
theorem dX12_goesOn_28 : decode cX12_goesOn 28 = .ok (.iaload, 1) := by decide +kernel
theorem dX12_goesOn_29 : decode cX12_goesOn 29 = .ok (.aload_n 0, 1) := by decide +kernel
theorem dX12_goesOn_30 : decode cX12_goesOn 30 = .ok (.getfield 25, 3) := by decide +kernel
theorem dX12_goesOn_33 : decode cX12_goesOn 33 = .ok (.bipush 72, 2) := by decide +kernel
theorem dX12_goesOn_35 : decode cX12_goesOn 35 = .ok (.aload_n 0, 1) := by decide +kernel
theorem dX12_goesOn_36 : decode cX12_goesOn 36 = .ok (.getfield 106, 3) := by decide +kernel
theorem dX12_goesOn_39 : decode cX12_goesOn 39 = .ok (.iload_n 1, 1) := by decide +kernel
theorem dX12_goesOn_40 : decode cX12_goesOn 40 = .ok (.iaload, 1) := by decide +kernel
theorem dX12_goesOn_41 : decode cX12_goesOn 41 = .ok (.imul, 1) := by decide +kernel
theorem dX12_goesOn_42 : decode cX12_goesOn 42 = .ok (.aload_n 0, 1) := by decide +kernel
theorem dX12_goesOn_43 : decode cX12_goesOn 43 = .ok (.getfield 112, 3) := by decide +kernel
theorem dX12_goesOn_46 : decode cX12_goesOn 46 = .ok (.iload_n 1, 1) := by decide +kernel
theorem dX12_goesOn_47 : decode cX12_goesOn 47 = .ok (.iaload, 1) := by decide +kernel
theorem dX12_goesOn_48 : decode cX12_goesOn 48 = .ok (.iadd, 1) := by decide +kernel
theorem dX12_goesOn_49 : decode cX12_goesOn 49 = .ok (.iaload, 1) := by decide +kernel
theorem dX12_goesOn_50 : decode cX12_goesOn 50 = .ok (.invokestatic 275, 3) := by decide +kernel
theorem dX12_goesOn_53 : decode cX12_goesOn 53 = .ok (.iastore, 1) := by decide +kernel
theorem dX12_goesOn_54 : decode cX12_goesOn 54 = .ok (.aload_n 0, 1) := by decide +kernel
theorem dX12_goesOn_55 : decode cX12_goesOn 55 = .ok (.getfield 112, 3) := by decide +kernel
theorem dX12_goesOn_58 : decode cX12_goesOn 58 = .ok (.iload_n 1, 1) := by decide +kernel
theorem dX12_goesOn_59 : decode cX12_goesOn 59 = .ok (.dup2, 1) := by decide +kernel
theorem dX12_goesOn_60 : decode cX12_goesOn 60 = .ok (.iaload, 1) := by decide +kernel
theorem dX12_goesOn_61 : decode cX12_goesOn 61 = .ok (.iconst 1, 1) := by decide +kernel
theorem dX12_goesOn_62 : decode cX12_goesOn 62 = .ok (.iadd, 1) := by decide +kernel
theorem dX12_goesOn_63 : decode cX12_goesOn 63 = .ok (.iastore, 1) := by decide +kernel
theorem dX12_goesOn_64 : decode cX12_goesOn 64 = .ok (.iinc 2 (-1), 3) := by decide +kernel
theorem dX12_goesOn_67 : decode cX12_goesOn 67 = .ok (.goto (-61), 3) := by decide +kernel
theorem dX12_goesOn_70 : decode cX12_goesOn 70 = .ok (.return_, 1) := by decide +kernel
theorem dX12_buysAll_0 : decode cX12_buysAll 0 = .ok (.aload_n 0, 1) := by decide +kernel
theorem dX12_buysAll_1 : decode cX12_buysAll 1 = .ok (.iload_n 1, 1) := by decide +kernel
theorem dX12_buysAll_2 : decode cX12_buysAll 2 = .ok (.invokevirtual 508, 3) := by decide +kernel
theorem dX12_buysAll_5 : decode cX12_buysAll 5 = .ok (.ifCond .eq 38, 3) := by decide +kernel
theorem dX12_buysAll_8 : decode cX12_buysAll 8 = .ok (.aload_n 0, 1) := by decide +kernel
theorem dX12_buysAll_9 : decode cX12_buysAll 9 = .ok (.getfield 115, 3) := by decide +kernel
theorem dX12_buysAll_12 : decode cX12_buysAll 12 = .ok (.iload_n 1, 1) := by decide +kernel
theorem dX12_buysAll_13 : decode cX12_buysAll 13 = .ok (.iaload, 1) := by decide +kernel
theorem dX12_buysAll_14 : decode cX12_buysAll 14 = .ok (.ifCond .eq 29, 3) := by decide +kernel
theorem dX12_buysAll_17 : decode cX12_buysAll 17 = .ok (.aload_n 0, 1) := by decide +kernel
theorem dX12_buysAll_18 : decode cX12_buysAll 18 = .ok (.aload_n 0, 1) := by decide +kernel
theorem dX12_buysAll_19 : decode cX12_buysAll 19 = .ok (.getfield 115, 3) := by decide +kernel
theorem dX12_buysAll_22 : decode cX12_buysAll 22 = .ok (.iload_n 1, 1) := by decide +kernel
theorem dX12_buysAll_23 : decode cX12_buysAll 23 = .ok (.iaload, 1) := by decide +kernel
theorem dX12_buysAll_24 : decode cX12_buysAll 24 = .ok (.invokevirtual 480, 3) := by decide +kernel
theorem dX12_buysAll_27 : decode cX12_buysAll 27 = .ok (.ifCond .eq 16, 3) := by decide +kernel
theorem dX12_buysAll_30 : decode cX12_buysAll 30 = .ok (.aload_n 0, 1) := by decide +kernel
theorem dX12_buysAll_31 : decode cX12_buysAll 31 = .ok (.getfield 477, 3) := by decide +kernel
theorem dX12_buysAll_34 : decode cX12_buysAll 34 = .ok (.aload_n 0, 1) := by decide +kernel
theorem dX12_buysAll_35 : decode cX12_buysAll 35 = .ok (.getfield 109, 3) := by decide +kernel
theorem dX12_buysAll_38 : decode cX12_buysAll 38 = .ok (.iload_n 1, 1) := by decide +kernel
theorem dX12_buysAll_39 : decode cX12_buysAll 39 = .ok (.iaload, 1) := by decide +kernel
theorem dX12_buysAll_40 : decode cX12_buysAll 40 = .ok (.if_icmp .le 4, 3) := by decide +kernel
theorem dX12_buysAll_43 : decode cX12_buysAll 43 = .ok (.return_, 1) := by decide +kernel
theorem dX12_buysAll_44 : decode cX12_buysAll 44 = .ok (.iconst 0, 1) := by decide +kernel
theorem dX12_buysAll_45 : decode cX12_buysAll 45 = .ok (.istore_n 2, 1) := by decide +kernel
theorem dX12_buysAll_46 : decode cX12_buysAll 46 = .ok (.iload_n 2, 1) := by decide +kernel
theorem dX12_buysAll_47 : decode cX12_buysAll 47 = .ok (.bipush 10, 2) := by decide +kernel
theorem dX12_buysAll_49 : decode cX12_buysAll 49 = .ok (.if_icmp .ge 21, 3) := by decide +kernel
theorem dX12_buysAll_52 : decode cX12_buysAll 52 = .ok (.aload_n 0, 1) := by decide +kernel
theorem dX12_buysAll_53 : decode cX12_buysAll 53 = .ok (.getfield 133, 3) := by decide +kernel
theorem dX12_buysAll_56 : decode cX12_buysAll 56 = .ok (.iload_n 2, 1) := by decide +kernel
theorem dX12_buysAll_57 : decode cX12_buysAll 57 = .ok (.aload_n 0, 1) := by decide +kernel
theorem dX12_buysAll_58 : decode cX12_buysAll 58 = .ok (.getfield 130, 3) := by decide +kernel
theorem dX12_buysAll_61 : decode cX12_buysAll 61 = .ok (.iload_n 2, 1) := by decide +kernel
theorem dX12_buysAll_62 : decode cX12_buysAll 62 = .ok (.iaload, 1) := by decide +kernel
theorem dX12_buysAll_63 : decode cX12_buysAll 63 = .ok (.iastore, 1) := by decide +kernel
theorem dX12_buysAll_64 : decode cX12_buysAll 64 = .ok (.iinc 2 1, 3) := by decide +kernel
theorem dX12_buysAll_67 : decode cX12_buysAll 67 = .ok (.goto (-21), 3) := by decide +kernel
theorem dX12_buysAll_70 : decode cX12_buysAll 70 = .ok (.aload_n 0, 1) := by decide +kernel
theorem dX12_buysAll_71 : decode cX12_buysAll 71 = .ok (.getfield 473, 3) := by decide +kernel
theorem dX12_buysAll_74 : decode cX12_buysAll 74 = .ok (.istore_n 2, 1) := by decide +kernel
theorem dX12_buysAll_75 : decode cX12_buysAll 75 = .ok (.iconst 0, 1) := by decide +kernel
theorem dX12_buysAll_76 : decode cX12_buysAll 76 = .ok (.istore_n 3, 1) := by decide +kernel
theorem dX12_buysAll_77 : decode cX12_buysAll 77 = .ok (.iload_n 3, 1) := by decide +kernel
theorem dX12_buysAll_78 : decode cX12_buysAll 78 = .ok (.bipush 10, 2) := by decide +kernel
theorem dX12_buysAll_80 : decode cX12_buysAll 80 = .ok (.if_icmp .ge 34, 3) := by decide +kernel
theorem dX12_buysAll_83 : decode cX12_buysAll 83 = .ok (.iload_n 2, 1) := by decide +kernel
theorem dX12_buysAll_84 : decode cX12_buysAll 84 = .ok (.iload_n 3, 1) := by decide +kernel
theorem dX12_buysAll_85 : decode cX12_buysAll 85 = .ok (.invokestatic 194, 3) := by decide +kernel
theorem dX12_buysAll_88 : decode cX12_buysAll 88 = .ok (.ifCond .ne 6, 3) := by decide +kernel
theorem dX12_buysAll_91 : decode cX12_buysAll 91 = .ok (.goto 17, 3) := by decide +kernel
theorem dX12_buysAll_94 : decode cX12_buysAll 94 = .ok (.aload_n 0, 1) := by decide +kernel
theorem dX12_buysAll_95 : decode cX12_buysAll 95 = .ok (.iload_n 1, 1) := by decide +kernel
theorem dX12_buysAll_96 : decode cX12_buysAll 96 = .ok (.iload_n 3, 1) := by decide +kernel
theorem dX12_buysAll_97 : decode cX12_buysAll 97 = .ok (.aload_n 0, 1) := by decide +kernel
theorem dX12_buysAll_98 : decode cX12_buysAll 98 = .ok (.getfield 133, 3) := by decide +kernel
theorem dX12_buysAll_101 : decode cX12_buysAll 101 = .ok (.iload_n 3, 1) := by decide +kernel
theorem dX12_buysAll_102 : decode cX12_buysAll 102 = .ok (.iaload, 1) := by decide +kernel
theorem dX12_buysAll_103 : decode cX12_buysAll 103 = .ok (.invokevirtual 502, 3) := by decide +kernel
theorem dX12_buysAll_106 : decode cX12_buysAll 106 = .ok (.istore 4, 2) := by decide +kernel
theorem dX12_buysAll_108 : decode cX12_buysAll 108 = .ok (.iinc 3 1, 3) := by decide +kernel
theorem dX12_buysAll_111 : decode cX12_buysAll 111 = .ok (.goto (-34), 3) := by decide +kernel
theorem dX12_buysAll_114 : decode cX12_buysAll 114 = .ok (.return_, 1) := by decide +kernel
theorem dX12_listens_0 : decode cX12_listens 0 = .ok (.aload_n 0, 1) := by decide +kernel
theorem dX12_listens_1 : decode cX12_listens 1 = .ok (.iload_n 1, 1) := by decide +kernel
theorem dX12_listens_2 : decode cX12_listens 2 = .ok (.invokevirtual 511, 3) := by decide +kernel
theorem dX12_listens_5 : decode cX12_listens 5 = .ok (.aload_n 0, 1) := by decide +kernel
theorem dX12_listens_6 : decode cX12_listens 6 = .ok (.getfield 127, 3) := by decide +kernel
theorem dX12_listens_9 : decode cX12_listens 9 = .ok (.iload_n 1, 1) := by decide +kernel
theorem dX12_listens_10 : decode cX12_listens 10 = .ok (.iaload, 1) := by decide +kernel
theorem dX12_listens_11 : decode cX12_listens 11 = .ok (.istore_n 3, 1) := by decide +kernel
theorem dX12_listens_12 : decode cX12_listens 12 = .ok (.aload_n 0, 1) := by decide +kernel
theorem dX12_listens_13 : decode cX12_listens 13 = .ok (.getfield 400, 3) := by decide +kernel
theorem dX12_listens_16 : decode cX12_listens 16 = .ok (.ifCond .le 27, 3) := by decide +kernel
theorem dX12_listens_19 : decode cX12_listens 19 = .ok (.aload_n 0, 1) := by decide +kernel
theorem dX12_listens_20 : decode cX12_listens 20 = .ok (.getfield 127, 3) := by decide +kernel
theorem dX12_listens_23 : decode cX12_listens 23 = .ok (.iload_n 1, 1) := by decide +kernel
theorem dX12_listens_24 : decode cX12_listens 24 = .ok (.iload_n 3, 1) := by decide +kernel
theorem dX12_listens_25 : decode cX12_listens 25 = .ok (.aload_n 0, 1) := by decide +kernel
theorem dX12_listens_26 : decode cX12_listens 26 = .ok (.bipush 116, 2) := by decide +kernel
theorem dX12_listens_28 : decode cX12_listens 28 = .ok (.bipush 9, 2) := by decide +kernel
theorem dX12_listens_30 : decode cX12_listens 30 = .ok (.invokevirtual 451, 3) := by decide +kernel
theorem dX12_listens_33 : decode cX12_listens 33 = .ok (.iadd, 1) := by decide +kernel
theorem dX12_listens_34 : decode cX12_listens 34 = .ok (.bipush 9, 2) := by decide +kernel
theorem dX12_listens_36 : decode cX12_listens 36 = .ok (.invokestatic 445, 3) := by decide +kernel
theorem dX12_listens_39 : decode cX12_listens 39 = .ok (.iastore, 1) := by decide +kernel
theorem dX12_listens_40 : decode cX12_listens 40 = .ok (.goto 24, 3) := by decide +kernel
theorem dX12_listens_43 : decode cX12_listens 43 = .ok (.aload_n 0, 1) := by decide +kernel
theorem dX12_listens_44 : decode cX12_listens 44 = .ok (.getfield 127, 3) := by decide +kernel
theorem dX12_listens_47 : decode cX12_listens 47 = .ok (.iload_n 1, 1) := by decide +kernel
theorem dX12_listens_48 : decode cX12_listens 48 = .ok (.iload_n 3, 1) := by decide +kernel
theorem dX12_listens_49 : decode cX12_listens 49 = .ok (.aload_n 0, 1) := by decide +kernel
theorem dX12_listens_50 : decode cX12_listens 50 = .ok (.bipush 115, 2) := by decide +kernel
theorem dX12_listens_52 : decode cX12_listens 52 = .ok (.bipush 9, 2) := by decide +kernel
theorem dX12_listens_54 : decode cX12_listens 54 = .ok (.invokevirtual 451, 3) := by decide +kernel
theorem dX12_listens_57 : decode cX12_listens 57 = .ok (.isub, 1) := by decide +kernel
theorem dX12_listens_58 : decode cX12_listens 58 = .ok (.bipush 9, 2) := by decide +kernel
theorem dX12_listens_60 : decode cX12_listens 60 = .ok (.invokestatic 445, 3) := by decide +kernel
theorem dX12_listens_63 : decode cX12_listens 63 = .ok (.iastore, 1) := by decide +kernel
theorem dX12_listens_64 : decode cX12_listens 64 = .ok (.iload_n 3, 1) := by decide +kernel
theorem dX12_listens_65 : decode cX12_listens 65 = .ok (.bipush 9, 2) := by decide +kernel
theorem dX12_listens_67 : decode cX12_listens 67 = .ok (.if_icmp .ge 53, 3) := by decide +kernel
theorem dX12_listens_70 : decode cX12_listens 70 = .ok (.aload_n 0, 1) := by decide +kernel
theorem dX12_listens_71 : decode cX12_listens 71 = .ok (.getfield 127, 3) := by decide +kernel
theorem dX12_listens_74 : decode cX12_listens 74 = .ok (.iload_n 1, 1) := by decide +kernel
theorem dX12_listens_75 : decode cX12_listens 75 = .ok (.iaload, 1) := by decide +kernel
theorem dX12_listens_76 : decode cX12_listens 76 = .ok (.bipush 9, 2) := by decide +kernel
theorem dX12_listens_78 : decode cX12_listens 78 = .ok (.if_icmp .ne 42, 3) := by decide +kernel
theorem dX12_listens_81 : decode cX12_listens 81 = .ok (.aload_n 0, 1) := by decide +kernel
theorem dX12_listens_82 : decode cX12_listens 82 = .ok (.dup, 1) := by decide +kernel
theorem dX12_listens_83 : decode cX12_listens 83 = .ok (.getfield 514, 3) := by decide +kernel
theorem dX12_listens_86 : decode cX12_listens 86 = .ok (.iconst 1, 1) := by decide +kernel
theorem dX12_listens_87 : decode cX12_listens 87 = .ok (.iadd, 1) := by decide +kernel
theorem dX12_listens_88 : decode cX12_listens 88 = .ok (.putfield 514, 3) := by decide +kernel
theorem dX12_listens_91 : decode cX12_listens 91 = .ok (.aload_n 0, 1) := by decide +kernel
theorem dX12_listens_92 : decode cX12_listens 92 = .ok (.dup, 1) := by decide +kernel
theorem dX12_listens_93 : decode cX12_listens 93 = .ok (.getfield 517, 3) := by decide +kernel
theorem dX12_listens_96 : decode cX12_listens 96 = .ok (.iconst 1, 1) := by decide +kernel
theorem dX12_listens_97 : decode cX12_listens 97 = .ok (.iadd, 1) := by decide +kernel
theorem dX12_listens_98 : decode cX12_listens 98 = .ok (.putfield 517, 3) := by decide +kernel
theorem dX12_listens_101 : decode cX12_listens 101 = .ok (.aload_n 0, 1) := by decide +kernel
theorem dX12_listens_102 : decode cX12_listens 102 = .ok (.getfield 520, 3) := by decide +kernel
theorem dX12_listens_105 : decode cX12_listens 105 = .ok (.bipush (-2), 2) := by decide +kernel
theorem dX12_listens_107 : decode cX12_listens 107 = .ok (.if_icmp .ne 13, 3) := by decide +kernel
theorem dX12_listens_110 : decode cX12_listens 110 = .ok (.aload_n 0, 1) := by decide +kernel
theorem dX12_listens_111 : decode cX12_listens 111 = .ok (.iload_n 1, 1) := by decide +kernel
theorem dX12_listens_112 : decode cX12_listens 112 = .ok (.putfield 520, 3) := by decide +kernel
theorem dX12_listens_115 : decode cX12_listens 115 = .ok (.aload_n 0, 1) := by decide +kernel
theorem dX12_listens_116 : decode cX12_listens 116 = .ok (.iload_n 2, 1) := by decide +kernel
theorem dX12_listens_117 : decode cX12_listens 117 = .ok (.putfield 523, 3) := by decide +kernel
theorem dX12_listens_120 : decode cX12_listens 120 = .ok (.aload_n 0, 1) := by decide +kernel
theorem dX12_listens_121 : decode cX12_listens 121 = .ok (.iload_n 1, 1) := by decide +kernel
theorem dX12_listens_122 : decode cX12_listens 122 = .ok (.invokevirtual 511, 3) := by decide +kernel
theorem dX12_listens_125 : decode cX12_listens 125 = .ok (.aload_n 0, 1) := by decide +kernel
theorem dX12_listens_126 : decode cX12_listens 126 = .ok (.invokevirtual 526, 3) := by decide +kernel
theorem dX12_listens_129 : decode cX12_listens 129 = .ok (.ifCond .ne 4, 3) := by decide +kernel
theorem dX12_listens_132 : decode cX12_listens 132 = .ok (.return_, 1) := by decide +kernel
theorem dX12_listens_133 : decode cX12_listens 133 = .ok (.aload_n 0, 1) := by decide +kernel
theorem dX12_listens_134 : decode cX12_listens 134 = .ok (.getfield 121, 3) := by decide +kernel
theorem dX12_listens_137 : decode cX12_listens 137 = .ok (.iload_n 1, 1) := by decide +kernel
theorem dX12_listens_138 : decode cX12_listens 138 = .ok (.iconst (-1), 1) := by decide +kernel
theorem dX12_listens_139 : decode cX12_listens 139 = .ok (.iastore, 1) := by decide +kernel
theorem dX12_listens_140 : decode cX12_listens 140 = .ok (.aload_n 0, 1) := by decide +kernel
theorem dX12_listens_141 : decode cX12_listens 141 = .ok (.dup, 1) := by decide +kernel
theorem dX12_listens_142 : decode cX12_listens 142 = .ok (.getfield 529, 3) := by decide +kernel
theorem dX12_listens_145 : decode cX12_listens 145 = .ok (.iconst 1, 1) := by decide +kernel
theorem dX12_listens_146 : decode cX12_listens 146 = .ok (.iadd, 1) := by decide +kernel
theorem dX12_listens_147 : decode cX12_listens 147 = .ok (.putfield 529, 3) := by decide +kernel
theorem dX12_listens_150 : decode cX12_listens 150 = .ok (.return_, 1) := by decide +kernel
theorem dX12_isBound_0 : decode cX12_isBound 0 = .ok (.aload_n 0, 1) := by decide +kernel
theorem dX12_isBound_1 : decode cX12_isBound 1 = .ok (.getfield 118, 3) := by decide +kernel
theorem dX12_isBound_4 : decode cX12_isBound 4 = .ok (.iload_n 1, 1) := by decide +kernel
theorem dX12_isBound_5 : decode cX12_isBound 5 = .ok (.baload, 1) := by decide +kernel
theorem dX12_isBound_6 : decode cX12_isBound 6 = .ok (.ifCond .eq 17, 3) := by decide +kernel
theorem dX12_isBound_9 : decode cX12_isBound 9 = .ok (.aload_n 0, 1) := by decide +kernel
theorem dX12_isBound_10 : decode cX12_isBound 10 = .ok (.getfield 121, 3) := by decide +kernel
theorem dX12_isBound_13 : decode cX12_isBound 13 = .ok (.iload_n 1, 1) := by decide +kernel
theorem dX12_isBound_14 : decode cX12_isBound 14 = .ok (.iaload, 1) := by decide +kernel
theorem dX12_isBound_15 : decode cX12_isBound 15 = .ok (.iload_n 2, 1) := by decide +kernel
theorem dX12_isBound_16 : decode cX12_isBound 16 = .ok (.if_icmp .ne 7, 3) := by decide +kernel
theorem dX12_isBound_19 : decode cX12_isBound 19 = .ok (.iconst 1, 1) := by decide +kernel
theorem dX12_isBound_20 : decode cX12_isBound 20 = .ok (.goto 4, 3) := by decide +kernel
theorem dX12_isBound_23 : decode cX12_isBound 23 = .ok (.iconst 0, 1) := by decide +kernel
theorem dX12_isBound_24 : decode cX12_isBound 24 = .ok (.ireturn, 1) := by decide +kernel
theorem dX12_closesStory_0 : decode cX12_closesStory 0 = .ok (.aload_n 0, 1) := by decide +kernel
theorem dX12_closesStory_1 : decode cX12_closesStory 1 = .ok (.iload_n 1, 1) := by decide +kernel
theorem dX12_closesStory_2 : decode cX12_closesStory 2 = .ok (.invokevirtual 508, 3) := by decide +kernel
theorem dX12_closesStory_5 : decode cX12_closesStory 5 = .ok (.ifCond .eq 12, 3) := by decide +kernel
theorem dX12_closesStory_8 : decode cX12_closesStory 8 = .ok (.aload_n 0, 1) := by decide +kernel
theorem dX12_closesStory_9 : decode cX12_closesStory 9 = .ok (.getfield 115, 3) := by decide +kernel
theorem dX12_closesStory_12 : decode cX12_closesStory 12 = .ok (.iload_n 1, 1) := by decide +kernel
theorem dX12_closesStory_13 : decode cX12_closesStory 13 = .ok (.iaload, 1) := by decide +kernel
theorem dX12_closesStory_14 : decode cX12_closesStory 14 = .ok (.ifCond .eq 4, 3) := by decide +kernel
theorem dX12_closesStory_17 : decode cX12_closesStory 17 = .ok (.return_, 1) := by decide +kernel
theorem dX12_closesStory_18 : decode cX12_closesStory 18 = .ok (.iconst 0, 1) := by decide +kernel
theorem dX12_closesStory_19 : decode cX12_closesStory 19 = .ok (.istore_n 2, 1) := by decide +kernel
theorem dX12_closesStory_20 : decode cX12_closesStory 20 = .ok (.iload_n 2, 1) := by decide +kernel
theorem dX12_closesStory_21 : decode cX12_closesStory 21 = .ok (.bipush 10, 2) := by decide +kernel
theorem dX12_closesStory_23 : decode cX12_closesStory 23 = .ok (.if_icmp .ge 72, 3) := by decide +kernel
theorem dX12_closesStory_26 : decode cX12_closesStory 26 = .ok (.aload_n 0, 1) := by decide +kernel
theorem dX12_closesStory_27 : decode cX12_closesStory 27 = .ok (.iload_n 2, 1) := by decide +kernel
theorem dX12_closesStory_28 : decode cX12_closesStory 28 = .ok (.iload_n 1, 1) := by decide +kernel
theorem dX12_closesStory_29 : decode cX12_closesStory 29 = .ok (.invokevirtual 532, 3) := by decide +kernel
theorem dX12_closesStory_32 : decode cX12_closesStory 32 = .ok (.ifCond .ne 6, 3) := by decide +kernel
theorem dX12_closesStory_35 : decode cX12_closesStory 35 = .ok (.goto 54, 3) := by decide +kernel
theorem dX12_closesStory_38 : decode cX12_closesStory 38 = .ok (.aload_n 0, 1) := by decide +kernel
theorem dX12_closesStory_39 : decode cX12_closesStory 39 = .ok (.iload_n 2, 1) := by decide +kernel
theorem dX12_closesStory_40 : decode cX12_closesStory 40 = .ok (.invokevirtual 511, 3) := by decide +kernel
theorem dX12_closesStory_43 : decode cX12_closesStory 43 = .ok (.aload_n 0, 1) := by decide +kernel
theorem dX12_closesStory_44 : decode cX12_closesStory 44 = .ok (.getfield 109, 3) := by decide +kernel
theorem dX12_closesStory_47 : decode cX12_closesStory 47 = .ok (.iload_n 1, 1) := by decide +kernel
theorem dX12_closesStory_48 : decode cX12_closesStory 48 = .ok (.iaload, 1) := by decide +kernel
theorem dX12_closesStory_49 : decode cX12_closesStory 49 = .ok (.istore_n 3, 1) := by decide +kernel
theorem dX12_closesStory_50 : decode cX12_closesStory 50 = .ok (.aload_n 0, 1) := by decide +kernel
theorem dX12_closesStory_51 : decode cX12_closesStory 51 = .ok (.getfield 109, 3) := by decide +kernel
theorem dX12_closesStory_54 : decode cX12_closesStory 54 = .ok (.iload_n 1, 1) := by decide +kernel
theorem dX12_closesStory_55 : decode cX12_closesStory 55 = .ok (.iload_n 3, 1) := by decide +kernel
theorem dX12_closesStory_56 : decode cX12_closesStory 56 = .ok (.aload_n 0, 1) := by decide +kernel
theorem dX12_closesStory_57 : decode cX12_closesStory 57 = .ok (.bipush 102, 2) := by decide +kernel
theorem dX12_closesStory_59 : decode cX12_closesStory 59 = .ok (.bipush 99, 2) := by decide +kernel
theorem dX12_closesStory_61 : decode cX12_closesStory 61 = .ok (.invokevirtual 451, 3) := by decide +kernel
theorem dX12_closesStory_64 : decode cX12_closesStory 64 = .ok (.iadd, 1) := by decide +kernel
theorem dX12_closesStory_65 : decode cX12_closesStory 65 = .ok (.sipush 9999, 3) := by decide +kernel
theorem dX12_closesStory_68 : decode cX12_closesStory 68 = .ok (.invokestatic 445, 3) := by decide +kernel
theorem dX12_closesStory_71 : decode cX12_closesStory 71 = .ok (.iastore, 1) := by decide +kernel
theorem dX12_closesStory_72 : decode cX12_closesStory 72 = .ok (.aload_n 0, 1) := by decide +kernel
theorem dX12_closesStory_73 : decode cX12_closesStory 73 = .ok (.dup, 1) := by decide +kernel
theorem dX12_closesStory_74 : decode cX12_closesStory 74 = .ok (.getfield 535, 3) := by decide +kernel
theorem dX12_closesStory_77 : decode cX12_closesStory 77 = .ok (.aload_n 0, 1) := by decide +kernel
theorem dX12_closesStory_78 : decode cX12_closesStory 78 = .ok (.getfield 109, 3) := by decide +kernel
theorem dX12_closesStory_81 : decode cX12_closesStory 81 = .ok (.iload_n 1, 1) := by decide +kernel
theorem dX12_closesStory_82 : decode cX12_closesStory 82 = .ok (.iaload, 1) := by decide +kernel
theorem dX12_closesStory_83 : decode cX12_closesStory 83 = .ok (.iload_n 3, 1) := by decide +kernel
theorem dX12_closesStory_84 : decode cX12_closesStory 84 = .ok (.isub, 1) := by decide +kernel
theorem dX12_closesStory_85 : decode cX12_closesStory 85 = .ok (.iadd, 1) := by decide +kernel
theorem dX12_closesStory_86 : decode cX12_closesStory 86 = .ok (.putfield 535, 3) := by decide +kernel
theorem dX12_closesStory_89 : decode cX12_closesStory 89 = .ok (.iinc 2 1, 3) := by decide +kernel
theorem dX12_closesStory_92 : decode cX12_closesStory 92 = .ok (.goto (-72), 3) := by decide +kernel
theorem dX12_closesStory_95 : decode cX12_closesStory 95 = .ok (.aload_n 0, 1) := by decide +kernel
theorem dX12_closesStory_96 : decode cX12_closesStory 96 = .ok (.dup, 1) := by decide +kernel
theorem dX12_closesStory_97 : decode cX12_closesStory 97 = .ok (.getfield 538, 3) := by decide +kernel
theorem dX12_closesStory_100 : decode cX12_closesStory 100 = .ok (.iconst 1, 1) := by decide +kernel
theorem dX12_closesStory_101 : decode cX12_closesStory 101 = .ok (.iadd, 1) := by decide +kernel
theorem dX12_closesStory_102 : decode cX12_closesStory 102 = .ok (.putfield 538, 3) := by decide +kernel
theorem dX12_closesStory_105 : decode cX12_closesStory 105 = .ok (.aload_n 0, 1) := by decide +kernel
theorem dX12_closesStory_106 : decode cX12_closesStory 106 = .ok (.dup, 1) := by decide +kernel
theorem dX12_closesStory_107 : decode cX12_closesStory 107 = .ok (.getfield 541, 3) := by decide +kernel
theorem dX12_closesStory_110 : decode cX12_closesStory 110 = .ok (.iconst 1, 1) := by decide +kernel
theorem dX12_closesStory_111 : decode cX12_closesStory 111 = .ok (.iadd, 1) := by decide +kernel
theorem dX12_closesStory_112 : decode cX12_closesStory 112 = .ok (.putfield 541, 3) := by decide +kernel
theorem dX12_closesStory_115 : decode cX12_closesStory 115 = .ok (.aload_n 0, 1) := by decide +kernel
theorem dX12_closesStory_116 : decode cX12_closesStory 116 = .ok (.getfield 112, 3) := by decide +kernel
theorem dX12_closesStory_119 : decode cX12_closesStory 119 = .ok (.iload_n 1, 1) := by decide +kernel
theorem dX12_closesStory_120 : decode cX12_closesStory 120 = .ok (.iconst 0, 1) := by decide +kernel
theorem dX12_closesStory_121 : decode cX12_closesStory 121 = .ok (.iastore, 1) := by decide +kernel
theorem dX12_closesStory_122 : decode cX12_closesStory 122 = .ok (.return_, 1) := by decide +kernel
theorem dX12_go_0 : decode cX12_go 0 = .ok (.aload_n 0, 1) := by decide +kernel
theorem dX12_go_1 : decode cX12_go 1 = .ok (.iconst 0, 1) := by decide +kernel
theorem dX12_go_2 : decode cX12_go 2 = .ok (.putfield 487, 3) := by decide +kernel
theorem dX12_go_5 : decode cX12_go 5 = .ok (.aload_n 0, 1) := by decide +kernel
theorem dX12_go_6 : decode cX12_go 6 = .ok (.iconst 0, 1) := by decide +kernel
theorem dX12_go_7 : decode cX12_go 7 = .ok (.putfield 490, 3) := by decide +kernel
theorem dX12_go_10 : decode cX12_go 10 = .ok (.aload_n 0, 1) := by decide +kernel
theorem dX12_go_11 : decode cX12_go 11 = .ok (.iconst 0, 1) := by decide +kernel
theorem dX12_go_12 : decode cX12_go 12 = .ok (.putfield 496, 3) := by decide +kernel
theorem dX12_go_15 : decode cX12_go 15 = .ok (.aload_n 0, 1) := by decide +kernel
theorem dX12_go_16 : decode cX12_go 16 = .ok (.iconst 0, 1) := by decide +kernel
theorem dX12_go_17 : decode cX12_go 17 = .ok (.putfield 517, 3) := by decide +kernel
theorem dX12_go_20 : decode cX12_go 20 = .ok (.aload_n 0, 1) := by decide +kernel
theorem dX12_go_21 : decode cX12_go 21 = .ok (.iconst 0, 1) := by decide +kernel
theorem dX12_go_22 : decode cX12_go 22 = .ok (.putfield 529, 3) := by decide +kernel
theorem dX12_go_25 : decode cX12_go 25 = .ok (.aload_n 0, 1) := by decide +kernel
theorem dX12_go_26 : decode cX12_go 26 = .ok (.iconst 0, 1) := by decide +kernel
theorem dX12_go_27 : decode cX12_go 27 = .ok (.putfield 541, 3) := by decide +kernel
theorem dX12_go_30 : decode cX12_go 30 = .ok (.aload_n 0, 1) := by decide +kernel
theorem dX12_go_31 : decode cX12_go 31 = .ok (.iconst 0, 1) := by decide +kernel
theorem dX12_go_32 : decode cX12_go 32 = .ok (.putfield 535, 3) := by decide +kernel
theorem dX12_go_35 : decode cX12_go 35 = .ok (.aload_n 0, 1) := by decide +kernel
theorem dX12_go_36 : decode cX12_go 36 = .ok (.bipush (-2), 2) := by decide +kernel
theorem dX12_go_38 : decode cX12_go 38 = .ok (.putfield 520, 3) := by decide +kernel
theorem dX12_go_41 : decode cX12_go 41 = .ok (.aload_n 0, 1) := by decide +kernel
theorem dX12_go_42 : decode cX12_go 42 = .ok (.bipush (-2), 2) := by decide +kernel
theorem dX12_go_44 : decode cX12_go 44 = .ok (.putfield 523, 3) := by decide +kernel
theorem dX12_go_47 : decode cX12_go 47 = .ok (.iconst 1, 1) := by decide +kernel
theorem dX12_go_48 : decode cX12_go 48 = .ok (.istore_n 2, 1) := by decide +kernel
theorem dX12_go_49 : decode cX12_go 49 = .ok (.iload_n 2, 1) := by decide +kernel
theorem dX12_go_50 : decode cX12_go 50 = .ok (.iload_n 1, 1) := by decide +kernel
theorem dX12_go_51 : decode cX12_go 51 = .ok (.if_icmp .gt 102, 3) := by decide +kernel
theorem dX12_go_54 : decode cX12_go 54 = .ok (.aload_n 0, 1) := by decide +kernel
theorem dX12_go_55 : decode cX12_go 55 = .ok (.getfield 424, 3) := by decide +kernel
theorem dX12_go_58 : decode cX12_go 58 = .ok (.sipush 9999, 3) := by decide +kernel
theorem dX12_go_61 : decode cX12_go 61 = .ok (.if_icmp .ge 92, 3) := by decide +kernel
theorem dX12_go_64 : decode cX12_go 64 = .ok (.iconst 0, 1) := by decide +kernel
theorem dX12_go_65 : decode cX12_go 65 = .ok (.istore_n 3, 1) := by decide +kernel
theorem dX12_go_66 : decode cX12_go 66 = .ok (.iload_n 3, 1) := by decide +kernel
theorem dX12_go_67 : decode cX12_go 67 = .ok (.iconst 4, 1) := by decide +kernel
theorem dX12_go_68 : decode cX12_go 68 = .ok (.if_icmp .ge 69, 3) := by decide +kernel
theorem dX12_go_71 : decode cX12_go 71 = .ok (.aload_n 0, 1) := by decide +kernel
theorem dX12_go_72 : decode cX12_go 72 = .ok (.getfield 103, 3) := by decide +kernel
theorem dX12_go_75 : decode cX12_go 75 = .ok (.iload_n 3, 1) := by decide +kernel
theorem dX12_go_76 : decode cX12_go 76 = .ok (.baload, 1) := by decide +kernel
theorem dX12_go_77 : decode cX12_go 77 = .ok (.ifCond .ne 6, 3) := by decide +kernel
theorem dX12_go_80 : decode cX12_go 80 = .ok (.goto 51, 3) := by decide +kernel
theorem dX12_go_83 : decode cX12_go 83 = .ok (.aload_n 0, 1) := by decide +kernel
theorem dX12_go_84 : decode cX12_go 84 = .ok (.iload_n 3, 1) := by decide +kernel
theorem dX12_go_85 : decode cX12_go 85 = .ok (.invokevirtual 544, 3) := by decide +kernel
theorem dX12_go_88 : decode cX12_go 88 = .ok (.aload_n 0, 1) := by decide +kernel
theorem dX12_go_89 : decode cX12_go 89 = .ok (.iload_n 3, 1) := by decide +kernel
theorem dX12_go_90 : decode cX12_go 90 = .ok (.invokevirtual 547, 3) := by decide +kernel
theorem dX12_go_93 : decode cX12_go 93 = .ok (.iconst 0, 1) := by decide +kernel
theorem dX12_go_94 : decode cX12_go 94 = .ok (.istore 4, 2) := by decide +kernel
theorem dX12_go_96 : decode cX12_go 96 = .ok (.iload 4, 2) := by decide +kernel
theorem dX12_go_98 : decode cX12_go 98 = .ok (.bipush 10, 2) := by decide +kernel
theorem dX12_go_100 : decode cX12_go 100 = .ok (.if_icmp .ge 26, 3) := by decide +kernel
theorem dX12_go_103 : decode cX12_go 103 = .ok (.aload_n 0, 1) := by decide +kernel
theorem dX12_go_104 : decode cX12_go 104 = .ok (.iload 4, 2) := by decide +kernel
theorem dX12_go_106 : decode cX12_go 106 = .ok (.iload_n 3, 1) := by decide +kernel
theorem dX12_go_107 : decode cX12_go 107 = .ok (.invokevirtual 532, 3) := by decide +kernel
theorem dX12_go_110 : decode cX12_go 110 = .ok (.ifCond .eq 10, 3) := by decide +kernel
theorem dX12_go_113 : decode cX12_go 113 = .ok (.aload_n 0, 1) := by decide +kernel
theorem dX12_go_114 : decode cX12_go 114 = .ok (.iload 4, 2) := by decide +kernel
theorem dX12_go_116 : decode cX12_go 116 = .ok (.iload_n 2, 1) := by decide +kernel
theorem dX12_go_117 : decode cX12_go 117 = .ok (.invokevirtual 550, 3) := by decide +kernel
theorem dX12_go_120 : decode cX12_go 120 = .ok (.iinc 4 1, 3) := by decide +kernel
theorem dX12_go_123 : decode cX12_go 123 = .ok (.goto (-27), 3) := by decide +kernel
theorem dX12_go_126 : decode cX12_go 126 = .ok (.aload_n 0, 1) := by decide +kernel
theorem dX12_go_127 : decode cX12_go 127 = .ok (.iload_n 3, 1) := by decide +kernel
theorem dX12_go_128 : decode cX12_go 128 = .ok (.invokevirtual 553, 3) := by decide +kernel
theorem dX12_go_131 : decode cX12_go 131 = .ok (.iinc 3 1, 3) := by decide +kernel
theorem dX12_go_134 : decode cX12_go 134 = .ok (.goto (-68), 3) := by decide +kernel
theorem dX12_go_137 : decode cX12_go 137 = .ok (.aload_n 0, 1) := by decide +kernel
theorem dX12_go_138 : decode cX12_go 138 = .ok (.dup, 1) := by decide +kernel
theorem dX12_go_139 : decode cX12_go 139 = .ok (.getfield 424, 3) := by decide +kernel
theorem dX12_go_142 : decode cX12_go 142 = .ok (.iconst 1, 1) := by decide +kernel
theorem dX12_go_143 : decode cX12_go 143 = .ok (.iadd, 1) := by decide +kernel
theorem dX12_go_144 : decode cX12_go 144 = .ok (.putfield 424, 3) := by decide +kernel
theorem dX12_go_147 : decode cX12_go 147 = .ok (.iinc 2 1, 3) := by decide +kernel
theorem dX12_go_150 : decode cX12_go 150 = .ok (.goto (-101), 3) := by decide +kernel
theorem dX12_go_153 : decode cX12_go 153 = .ok (.return_, 1) := by decide +kernel
theorem dX12_evenings_0 : decode cX12_evenings 0 = .ok (.iload_n 1, 1) := by decide +kernel
theorem dX12_evenings_1 : decode cX12_evenings 1 = .ok (.i2l, 1) := by decide +kernel
theorem dX12_evenings_2 : decode cX12_evenings 2 = .ok (.lconst 1, 1) := by decide +kernel
theorem dX12_evenings_3 : decode cX12_evenings 3 = .ok (.ldc2_w 556, 3) := by decide +kernel
theorem dX12_evenings_6 : decode cX12_evenings 6 = .ok (.invokestatic 222, 3) := by decide +kernel
theorem dX12_evenings_9 : decode cX12_evenings 9 = .ok (.ifCond .ne 5, 3) := by decide +kernel
theorem dX12_evenings_12 : decode cX12_evenings 12 = .ok (.iconst (-1), 1) := by decide +kernel
theorem dX12_evenings_13 : decode cX12_evenings 13 = .ok (.ireturn, 1) := by decide +kernel
theorem dX12_evenings_14 : decode cX12_evenings 14 = .ok (.aload_n 0, 1) := by decide +kernel
theorem dX12_evenings_15 : decode cX12_evenings 15 = .ok (.iload_n 1, 1) := by decide +kernel
theorem dX12_evenings_16 : decode cX12_evenings 16 = .ok (.invokevirtual 558, 3) := by decide +kernel
theorem dX12_evenings_19 : decode cX12_evenings 19 = .ok (.aload_n 0, 1) := by decide +kernel
theorem dX12_evenings_20 : decode cX12_evenings 20 = .ok (.getfield 487, 3) := by decide +kernel
theorem dX12_evenings_23 : decode cX12_evenings 23 = .ok (.ireturn, 1) := by decide +kernel
theorem dX12_laysAside_0 : decode cX12_laysAside 0 = .ok (.iconst 0, 1) := by decide +kernel
theorem dX12_laysAside_1 : decode cX12_laysAside 1 = .ok (.istore_n 2, 1) := by decide +kernel
theorem dX12_laysAside_2 : decode cX12_laysAside 2 = .ok (.iload_n 2, 1) := by decide +kernel
theorem dX12_laysAside_3 : decode cX12_laysAside 3 = .ok (.iconst 4, 1) := by decide +kernel
theorem dX12_laysAside_4 : decode cX12_laysAside 4 = .ok (.if_icmp .ge 75, 3) := by decide +kernel
theorem dX12_laysAside_7 : decode cX12_laysAside 7 = .ok (.iconst 4, 1) := by decide +kernel
theorem dX12_laysAside_8 : decode cX12_laysAside 8 = .ok (.iload_n 1, 1) := by decide +kernel
theorem dX12_laysAside_9 : decode cX12_laysAside 9 = .ok (.imul, 1) := by decide +kernel
theorem dX12_laysAside_10 : decode cX12_laysAside 10 = .ok (.iload_n 2, 1) := by decide +kernel
theorem dX12_laysAside_11 : decode cX12_laysAside 11 = .ok (.iadd, 1) := by decide +kernel
theorem dX12_laysAside_12 : decode cX12_laysAside 12 = .ok (.istore_n 3, 1) := by decide +kernel
theorem dX12_laysAside_13 : decode cX12_laysAside 13 = .ok (.aload_n 0, 1) := by decide +kernel
theorem dX12_laysAside_14 : decode cX12_laysAside 14 = .ok (.getfield 136, 3) := by decide +kernel
theorem dX12_laysAside_17 : decode cX12_laysAside 17 = .ok (.iload_n 3, 1) := by decide +kernel
theorem dX12_laysAside_18 : decode cX12_laysAside 18 = .ok (.aload_n 0, 1) := by decide +kernel
theorem dX12_laysAside_19 : decode cX12_laysAside 19 = .ok (.getfield 103, 3) := by decide +kernel
theorem dX12_laysAside_22 : decode cX12_laysAside 22 = .ok (.iload_n 2, 1) := by decide +kernel
theorem dX12_laysAside_23 : decode cX12_laysAside 23 = .ok (.baload, 1) := by decide +kernel
theorem dX12_laysAside_24 : decode cX12_laysAside 24 = .ok (.bastore, 1) := by decide +kernel
theorem dX12_laysAside_25 : decode cX12_laysAside 25 = .ok (.aload_n 0, 1) := by decide +kernel
theorem dX12_laysAside_26 : decode cX12_laysAside 26 = .ok (.getfield 139, 3) := by decide +kernel
theorem dX12_laysAside_29 : decode cX12_laysAside 29 = .ok (.iload_n 3, 1) := by decide +kernel
theorem dX12_laysAside_30 : decode cX12_laysAside 30 = .ok (.aload_n 0, 1) := by decide +kernel
theorem dX12_laysAside_31 : decode cX12_laysAside 31 = .ok (.getfield 106, 3) := by decide +kernel
theorem dX12_laysAside_34 : decode cX12_laysAside 34 = .ok (.iload_n 2, 1) := by decide +kernel
theorem dX12_laysAside_35 : decode cX12_laysAside 35 = .ok (.iaload, 1) := by decide +kernel
theorem dX12_laysAside_36 : decode cX12_laysAside 36 = .ok (.iastore, 1) := by decide +kernel
theorem dX12_laysAside_37 : decode cX12_laysAside 37 = .ok (.aload_n 0, 1) := by decide +kernel
theorem dX12_laysAside_38 : decode cX12_laysAside 38 = .ok (.getfield 142, 3) := by decide +kernel
theorem dX12_laysAside_41 : decode cX12_laysAside 41 = .ok (.iload_n 3, 1) := by decide +kernel
theorem dX12_laysAside_42 : decode cX12_laysAside 42 = .ok (.aload_n 0, 1) := by decide +kernel
theorem dX12_laysAside_43 : decode cX12_laysAside 43 = .ok (.getfield 109, 3) := by decide +kernel
theorem dX12_laysAside_46 : decode cX12_laysAside 46 = .ok (.iload_n 2, 1) := by decide +kernel
theorem dX12_laysAside_47 : decode cX12_laysAside 47 = .ok (.iaload, 1) := by decide +kernel
theorem dX12_laysAside_48 : decode cX12_laysAside 48 = .ok (.iastore, 1) := by decide +kernel
theorem dX12_laysAside_49 : decode cX12_laysAside 49 = .ok (.aload_n 0, 1) := by decide +kernel
theorem dX12_laysAside_50 : decode cX12_laysAside 50 = .ok (.getfield 145, 3) := by decide +kernel
theorem dX12_laysAside_53 : decode cX12_laysAside 53 = .ok (.iload_n 3, 1) := by decide +kernel
theorem dX12_laysAside_54 : decode cX12_laysAside 54 = .ok (.aload_n 0, 1) := by decide +kernel
theorem dX12_laysAside_55 : decode cX12_laysAside 55 = .ok (.getfield 112, 3) := by decide +kernel
theorem dX12_laysAside_58 : decode cX12_laysAside 58 = .ok (.iload_n 2, 1) := by decide +kernel
theorem dX12_laysAside_59 : decode cX12_laysAside 59 = .ok (.iaload, 1) := by decide +kernel
theorem dX12_laysAside_60 : decode cX12_laysAside 60 = .ok (.iastore, 1) := by decide +kernel
theorem dX12_laysAside_61 : decode cX12_laysAside 61 = .ok (.aload_n 0, 1) := by decide +kernel
theorem dX12_laysAside_62 : decode cX12_laysAside 62 = .ok (.getfield 148, 3) := by decide +kernel
theorem dX12_laysAside_65 : decode cX12_laysAside 65 = .ok (.iload_n 3, 1) := by decide +kernel
theorem dX12_laysAside_66 : decode cX12_laysAside 66 = .ok (.aload_n 0, 1) := by decide +kernel
theorem dX12_laysAside_67 : decode cX12_laysAside 67 = .ok (.getfield 115, 3) := by decide +kernel
theorem dX12_laysAside_70 : decode cX12_laysAside 70 = .ok (.iload_n 2, 1) := by decide +kernel
theorem dX12_laysAside_71 : decode cX12_laysAside 71 = .ok (.iaload, 1) := by decide +kernel
theorem dX12_laysAside_72 : decode cX12_laysAside 72 = .ok (.iastore, 1) := by decide +kernel
theorem dX12_laysAside_73 : decode cX12_laysAside 73 = .ok (.iinc 2 1, 3) := by decide +kernel
theorem dX12_laysAside_76 : decode cX12_laysAside 76 = .ok (.goto (-74), 3) := by decide +kernel
theorem dX12_laysAside_79 : decode cX12_laysAside 79 = .ok (.iconst 0, 1) := by decide +kernel
theorem dX12_laysAside_80 : decode cX12_laysAside 80 = .ok (.istore_n 2, 1) := by decide +kernel
theorem dX12_laysAside_81 : decode cX12_laysAside 81 = .ok (.iload_n 2, 1) := by decide +kernel
theorem dX12_laysAside_82 : decode cX12_laysAside 82 = .ok (.bipush 10, 2) := by decide +kernel
theorem dX12_laysAside_84 : decode cX12_laysAside 84 = .ok (.if_icmp .ge 76, 3) := by decide +kernel
theorem dX12_laysAside_87 : decode cX12_laysAside 87 = .ok (.bipush 10, 2) := by decide +kernel
theorem dX12_laysAside_89 : decode cX12_laysAside 89 = .ok (.iload_n 1, 1) := by decide +kernel
theorem dX12_laysAside_90 : decode cX12_laysAside 90 = .ok (.imul, 1) := by decide +kernel
theorem dX12_laysAside_91 : decode cX12_laysAside 91 = .ok (.iload_n 2, 1) := by decide +kernel
theorem dX12_laysAside_92 : decode cX12_laysAside 92 = .ok (.iadd, 1) := by decide +kernel
theorem dX12_laysAside_93 : decode cX12_laysAside 93 = .ok (.istore_n 3, 1) := by decide +kernel
theorem dX12_laysAside_94 : decode cX12_laysAside 94 = .ok (.aload_n 0, 1) := by decide +kernel
theorem dX12_laysAside_95 : decode cX12_laysAside 95 = .ok (.getfield 151, 3) := by decide +kernel
theorem dX12_laysAside_98 : decode cX12_laysAside 98 = .ok (.iload_n 3, 1) := by decide +kernel
theorem dX12_laysAside_99 : decode cX12_laysAside 99 = .ok (.aload_n 0, 1) := by decide +kernel
theorem dX12_laysAside_100 : decode cX12_laysAside 100 = .ok (.getfield 118, 3) := by decide +kernel
theorem dX12_laysAside_103 : decode cX12_laysAside 103 = .ok (.iload_n 2, 1) := by decide +kernel
theorem dX12_laysAside_104 : decode cX12_laysAside 104 = .ok (.baload, 1) := by decide +kernel
theorem dX12_laysAside_105 : decode cX12_laysAside 105 = .ok (.bastore, 1) := by decide +kernel
theorem dX12_laysAside_106 : decode cX12_laysAside 106 = .ok (.aload_n 0, 1) := by decide +kernel
theorem dX12_laysAside_107 : decode cX12_laysAside 107 = .ok (.getfield 154, 3) := by decide +kernel
theorem dX12_laysAside_110 : decode cX12_laysAside 110 = .ok (.iload_n 3, 1) := by decide +kernel
theorem dX12_laysAside_111 : decode cX12_laysAside 111 = .ok (.aload_n 0, 1) := by decide +kernel
theorem dX12_laysAside_112 : decode cX12_laysAside 112 = .ok (.getfield 121, 3) := by decide +kernel
theorem dX12_laysAside_115 : decode cX12_laysAside 115 = .ok (.iload_n 2, 1) := by decide +kernel
theorem dX12_laysAside_116 : decode cX12_laysAside 116 = .ok (.iaload, 1) := by decide +kernel
theorem dX12_laysAside_117 : decode cX12_laysAside 117 = .ok (.iastore, 1) := by decide +kernel
theorem dX12_laysAside_118 : decode cX12_laysAside 118 = .ok (.aload_n 0, 1) := by decide +kernel
theorem dX12_laysAside_119 : decode cX12_laysAside 119 = .ok (.getfield 157, 3) := by decide +kernel
theorem dX12_laysAside_122 : decode cX12_laysAside 122 = .ok (.iload_n 3, 1) := by decide +kernel
theorem dX12_laysAside_123 : decode cX12_laysAside 123 = .ok (.aload_n 0, 1) := by decide +kernel
theorem dX12_laysAside_124 : decode cX12_laysAside 124 = .ok (.getfield 124, 3) := by decide +kernel
theorem dX12_laysAside_127 : decode cX12_laysAside 127 = .ok (.iload_n 2, 1) := by decide +kernel
theorem dX12_laysAside_128 : decode cX12_laysAside 128 = .ok (.iaload, 1) := by decide +kernel
theorem dX12_laysAside_129 : decode cX12_laysAside 129 = .ok (.iastore, 1) := by decide +kernel
theorem dX12_laysAside_130 : decode cX12_laysAside 130 = .ok (.aload_n 0, 1) := by decide +kernel
theorem dX12_laysAside_131 : decode cX12_laysAside 131 = .ok (.getfield 160, 3) := by decide +kernel
theorem dX12_laysAside_134 : decode cX12_laysAside 134 = .ok (.iload_n 3, 1) := by decide +kernel
theorem dX12_laysAside_135 : decode cX12_laysAside 135 = .ok (.aload_n 0, 1) := by decide +kernel
theorem dX12_laysAside_136 : decode cX12_laysAside 136 = .ok (.getfield 127, 3) := by decide +kernel
theorem dX12_laysAside_139 : decode cX12_laysAside 139 = .ok (.iload_n 2, 1) := by decide +kernel
theorem dX12_laysAside_140 : decode cX12_laysAside 140 = .ok (.iaload, 1) := by decide +kernel
theorem dX12_laysAside_141 : decode cX12_laysAside 141 = .ok (.iastore, 1) := by decide +kernel
theorem dX12_laysAside_142 : decode cX12_laysAside 142 = .ok (.aload_n 0, 1) := by decide +kernel
theorem dX12_laysAside_143 : decode cX12_laysAside 143 = .ok (.getfield 163, 3) := by decide +kernel
theorem dX12_laysAside_146 : decode cX12_laysAside 146 = .ok (.iload_n 3, 1) := by decide +kernel
theorem dX12_laysAside_147 : decode cX12_laysAside 147 = .ok (.aload_n 0, 1) := by decide +kernel
theorem dX12_laysAside_148 : decode cX12_laysAside 148 = .ok (.getfield 97, 3) := by decide +kernel
theorem dX12_laysAside_151 : decode cX12_laysAside 151 = .ok (.iload_n 2, 1) := by decide +kernel
theorem dX12_laysAside_152 : decode cX12_laysAside 152 = .ok (.iaload, 1) := by decide +kernel
theorem dX12_laysAside_153 : decode cX12_laysAside 153 = .ok (.iastore, 1) := by decide +kernel
theorem dX12_laysAside_154 : decode cX12_laysAside 154 = .ok (.iinc 2 1, 3) := by decide +kernel
theorem dX12_laysAside_157 : decode cX12_laysAside 157 = .ok (.goto (-76), 3) := by decide +kernel
theorem dX12_laysAside_160 : decode cX12_laysAside 160 = .ok (.aload_n 0, 1) := by decide +kernel
theorem dX12_laysAside_161 : decode cX12_laysAside 161 = .ok (.getfield 166, 3) := by decide +kernel
theorem dX12_laysAside_164 : decode cX12_laysAside 164 = .ok (.iload_n 1, 1) := by decide +kernel
theorem dX12_laysAside_165 : decode cX12_laysAside 165 = .ok (.aload_n 0, 1) := by decide +kernel
theorem dX12_laysAside_166 : decode cX12_laysAside 166 = .ok (.getfield 424, 3) := by decide +kernel
theorem dX12_laysAside_169 : decode cX12_laysAside 169 = .ok (.iastore, 1) := by decide +kernel
theorem dX12_laysAside_170 : decode cX12_laysAside 170 = .ok (.aload_n 0, 1) := by decide +kernel
theorem dX12_laysAside_171 : decode cX12_laysAside 171 = .ok (.getfield 169, 3) := by decide +kernel
theorem dX12_laysAside_174 : decode cX12_laysAside 174 = .ok (.iload_n 1, 1) := by decide +kernel
theorem dX12_laysAside_175 : decode cX12_laysAside 175 = .ok (.aload_n 0, 1) := by decide +kernel
theorem dX12_laysAside_176 : decode cX12_laysAside 176 = .ok (.getfield 514, 3) := by decide +kernel
theorem dX12_laysAside_179 : decode cX12_laysAside 179 = .ok (.iastore, 1) := by decide +kernel
theorem dX12_laysAside_180 : decode cX12_laysAside 180 = .ok (.aload_n 0, 1) := by decide +kernel
theorem dX12_laysAside_181 : decode cX12_laysAside 181 = .ok (.getfield 172, 3) := by decide +kernel
theorem dX12_laysAside_184 : decode cX12_laysAside 184 = .ok (.iload_n 1, 1) := by decide +kernel
theorem dX12_laysAside_185 : decode cX12_laysAside 185 = .ok (.aload_n 0, 1) := by decide +kernel
theorem dX12_laysAside_186 : decode cX12_laysAside 186 = .ok (.getfield 538, 3) := by decide +kernel
theorem dX12_laysAside_189 : decode cX12_laysAside 189 = .ok (.iastore, 1) := by decide +kernel
theorem dX12_laysAside_190 : decode cX12_laysAside 190 = .ok (.aload_n 0, 1) := by decide +kernel
theorem dX12_laysAside_191 : decode cX12_laysAside 191 = .ok (.getfield 175, 3) := by decide +kernel
theorem dX12_laysAside_194 : decode cX12_laysAside 194 = .ok (.iload_n 1, 1) := by decide +kernel
theorem dX12_laysAside_195 : decode cX12_laysAside 195 = .ok (.aload_n 0, 1) := by decide +kernel
theorem dX12_laysAside_196 : decode cX12_laysAside 196 = .ok (.getfield 13, 3) := by decide +kernel
theorem dX12_laysAside_199 : decode cX12_laysAside 199 = .ok (.iastore, 1) := by decide +kernel
theorem dX12_laysAside_200 : decode cX12_laysAside 200 = .ok (.return_, 1) := by decide +kernel
theorem dX12_bringsBack_0 : decode cX12_bringsBack 0 = .ok (.iconst 0, 1) := by decide +kernel
theorem dX12_bringsBack_1 : decode cX12_bringsBack 1 = .ok (.istore_n 2, 1) := by decide +kernel
theorem dX12_bringsBack_2 : decode cX12_bringsBack 2 = .ok (.iload_n 2, 1) := by decide +kernel
theorem dX12_bringsBack_3 : decode cX12_bringsBack 3 = .ok (.iconst 4, 1) := by decide +kernel
theorem dX12_bringsBack_4 : decode cX12_bringsBack 4 = .ok (.if_icmp .ge 109, 3) := by decide +kernel
theorem dX12_bringsBack_7 : decode cX12_bringsBack 7 = .ok (.iconst 4, 1) := by decide +kernel
theorem dX12_bringsBack_8 : decode cX12_bringsBack 8 = .ok (.iload_n 1, 1) := by decide +kernel
theorem dX12_bringsBack_9 : decode cX12_bringsBack 9 = .ok (.imul, 1) := by decide +kernel
theorem dX12_bringsBack_10 : decode cX12_bringsBack 10 = .ok (.iload_n 2, 1) := by decide +kernel
theorem dX12_bringsBack_11 : decode cX12_bringsBack 11 = .ok (.iadd, 1) := by decide +kernel
theorem dX12_bringsBack_12 : decode cX12_bringsBack 12 = .ok (.istore_n 3, 1) := by decide +kernel
theorem dX12_bringsBack_13 : decode cX12_bringsBack 13 = .ok (.aload_n 0, 1) := by decide +kernel
theorem dX12_bringsBack_14 : decode cX12_bringsBack 14 = .ok (.getfield 103, 3) := by decide +kernel
theorem dX12_bringsBack_17 : decode cX12_bringsBack 17 = .ok (.iload_n 2, 1) := by decide +kernel
theorem dX12_bringsBack_18 : decode cX12_bringsBack 18 = .ok (.aload_n 0, 1) := by decide +kernel
theorem dX12_bringsBack_19 : decode cX12_bringsBack 19 = .ok (.getfield 136, 3) := by decide +kernel
theorem dX12_bringsBack_22 : decode cX12_bringsBack 22 = .ok (.iload_n 3, 1) := by decide +kernel
theorem dX12_bringsBack_23 : decode cX12_bringsBack 23 = .ok (.baload, 1) := by decide +kernel
theorem dX12_bringsBack_24 : decode cX12_bringsBack 24 = .ok (.bastore, 1) := by decide +kernel
theorem dX12_bringsBack_25 : decode cX12_bringsBack 25 = .ok (.aload_n 0, 1) := by decide +kernel
theorem dX12_bringsBack_26 : decode cX12_bringsBack 26 = .ok (.getfield 106, 3) := by decide +kernel
theorem dX12_bringsBack_29 : decode cX12_bringsBack 29 = .ok (.iload_n 2, 1) := by decide +kernel
theorem dX12_bringsBack_30 : decode cX12_bringsBack 30 = .ok (.aload_n 0, 1) := by decide +kernel
theorem dX12_bringsBack_31 : decode cX12_bringsBack 31 = .ok (.getfield 139, 3) := by decide +kernel
theorem dX12_bringsBack_34 : decode cX12_bringsBack 34 = .ok (.iload_n 3, 1) := by decide +kernel
theorem dX12_bringsBack_35 : decode cX12_bringsBack 35 = .ok (.iaload, 1) := by decide +kernel
theorem dX12_bringsBack_36 : decode cX12_bringsBack 36 = .ok (.iastore, 1) := by decide +kernel
theorem dX12_bringsBack_37 : decode cX12_bringsBack 37 = .ok (.aload_n 0, 1) := by decide +kernel
theorem dX12_bringsBack_38 : decode cX12_bringsBack 38 = .ok (.getfield 109, 3) := by decide +kernel
theorem dX12_bringsBack_41 : decode cX12_bringsBack 41 = .ok (.iload_n 2, 1) := by decide +kernel
theorem dX12_bringsBack_42 : decode cX12_bringsBack 42 = .ok (.aload_n 0, 1) := by decide +kernel
theorem dX12_bringsBack_43 : decode cX12_bringsBack 43 = .ok (.getfield 142, 3) := by decide +kernel
theorem dX12_bringsBack_46 : decode cX12_bringsBack 46 = .ok (.iload_n 3, 1) := by decide +kernel
theorem dX12_bringsBack_47 : decode cX12_bringsBack 47 = .ok (.iaload, 1) := by decide +kernel
theorem dX12_bringsBack_48 : decode cX12_bringsBack 48 = .ok (.iastore, 1) := by decide +kernel
theorem dX12_bringsBack_49 : decode cX12_bringsBack 49 = .ok (.aload_n 0, 1) := by decide +kernel
theorem dX12_bringsBack_50 : decode cX12_bringsBack 50 = .ok (.getfield 112, 3) := by decide +kernel
theorem dX12_bringsBack_53 : decode cX12_bringsBack 53 = .ok (.iload_n 2, 1) := by decide +kernel
theorem dX12_bringsBack_54 : decode cX12_bringsBack 54 = .ok (.aload_n 0, 1) := by decide +kernel
theorem dX12_bringsBack_55 : decode cX12_bringsBack 55 = .ok (.getfield 145, 3) := by decide +kernel
theorem dX12_bringsBack_58 : decode cX12_bringsBack 58 = .ok (.iload_n 3, 1) := by decide +kernel
theorem dX12_bringsBack_59 : decode cX12_bringsBack 59 = .ok (.iaload, 1) := by decide +kernel
theorem dX12_bringsBack_60 : decode cX12_bringsBack 60 = .ok (.aload_n 0, 1) := by decide +kernel
theorem dX12_bringsBack_61 : decode cX12_bringsBack 61 = .ok (.getfield 21, 3) := by decide +kernel
theorem dX12_bringsBack_64 : decode cX12_bringsBack 64 = .ok (.aload_n 0, 1) := by decide +kernel
theorem dX12_bringsBack_65 : decode cX12_bringsBack 65 = .ok (.getfield 106, 3) := by decide +kernel
theorem dX12_bringsBack_68 : decode cX12_bringsBack 68 = .ok (.iload_n 2, 1) := by decide +kernel
theorem dX12_bringsBack_69 : decode cX12_bringsBack 69 = .ok (.iaload, 1) := by decide +kernel
theorem dX12_bringsBack_70 : decode cX12_bringsBack 70 = .ok (.iaload, 1) := by decide +kernel
theorem dX12_bringsBack_71 : decode cX12_bringsBack 71 = .ok (.if_icmp .ge 12, 3) := by decide +kernel
theorem dX12_bringsBack_74 : decode cX12_bringsBack 74 = .ok (.aload_n 0, 1) := by decide +kernel
theorem dX12_bringsBack_75 : decode cX12_bringsBack 75 = .ok (.getfield 145, 3) := by decide +kernel
theorem dX12_bringsBack_78 : decode cX12_bringsBack 78 = .ok (.iload_n 3, 1) := by decide +kernel
theorem dX12_bringsBack_79 : decode cX12_bringsBack 79 = .ok (.iaload, 1) := by decide +kernel
theorem dX12_bringsBack_80 : decode cX12_bringsBack 80 = .ok (.goto 14, 3) := by decide +kernel
theorem dX12_bringsBack_83 : decode cX12_bringsBack 83 = .ok (.aload_n 0, 1) := by decide +kernel
theorem dX12_bringsBack_84 : decode cX12_bringsBack 84 = .ok (.getfield 21, 3) := by decide +kernel
theorem dX12_bringsBack_87 : decode cX12_bringsBack 87 = .ok (.aload_n 0, 1) := by decide +kernel
theorem dX12_bringsBack_88 : decode cX12_bringsBack 88 = .ok (.getfield 106, 3) := by decide +kernel
theorem dX12_bringsBack_91 : decode cX12_bringsBack 91 = .ok (.iload_n 2, 1) := by decide +kernel
theorem dX12_bringsBack_92 : decode cX12_bringsBack 92 = .ok (.iaload, 1) := by decide +kernel
theorem dX12_bringsBack_93 : decode cX12_bringsBack 93 = .ok (.iaload, 1) := by decide +kernel
theorem dX12_bringsBack_94 : decode cX12_bringsBack 94 = .ok (.iastore, 1) := by decide +kernel
theorem dX12_bringsBack_95 : decode cX12_bringsBack 95 = .ok (.aload_n 0, 1) := by decide +kernel
theorem dX12_bringsBack_96 : decode cX12_bringsBack 96 = .ok (.getfield 115, 3) := by decide +kernel
theorem dX12_bringsBack_99 : decode cX12_bringsBack 99 = .ok (.iload_n 2, 1) := by decide +kernel
theorem dX12_bringsBack_100 : decode cX12_bringsBack 100 = .ok (.aload_n 0, 1) := by decide +kernel
theorem dX12_bringsBack_101 : decode cX12_bringsBack 101 = .ok (.getfield 148, 3) := by decide +kernel
theorem dX12_bringsBack_104 : decode cX12_bringsBack 104 = .ok (.iload_n 3, 1) := by decide +kernel
theorem dX12_bringsBack_105 : decode cX12_bringsBack 105 = .ok (.iaload, 1) := by decide +kernel
theorem dX12_bringsBack_106 : decode cX12_bringsBack 106 = .ok (.iastore, 1) := by decide +kernel
theorem dX12_bringsBack_107 : decode cX12_bringsBack 107 = .ok (.iinc 2 1, 3) := by decide +kernel
theorem dX12_bringsBack_110 : decode cX12_bringsBack 110 = .ok (.goto (-108), 3) := by decide +kernel
theorem dX12_bringsBack_113 : decode cX12_bringsBack 113 = .ok (.iconst 0, 1) := by decide +kernel
theorem dX12_bringsBack_114 : decode cX12_bringsBack 114 = .ok (.istore_n 2, 1) := by decide +kernel
theorem dX12_bringsBack_115 : decode cX12_bringsBack 115 = .ok (.iload_n 2, 1) := by decide +kernel
theorem dX12_bringsBack_116 : decode cX12_bringsBack 116 = .ok (.bipush 10, 2) := by decide +kernel
theorem dX12_bringsBack_118 : decode cX12_bringsBack 118 = .ok (.if_icmp .ge 76, 3) := by decide +kernel
theorem dX12_bringsBack_121 : decode cX12_bringsBack 121 = .ok (.bipush 10, 2) := by decide +kernel
theorem dX12_bringsBack_123 : decode cX12_bringsBack 123 = .ok (.iload_n 1, 1) := by decide +kernel
theorem dX12_bringsBack_124 : decode cX12_bringsBack 124 = .ok (.imul, 1) := by decide +kernel
theorem dX12_bringsBack_125 : decode cX12_bringsBack 125 = .ok (.iload_n 2, 1) := by decide +kernel
theorem dX12_bringsBack_126 : decode cX12_bringsBack 126 = .ok (.iadd, 1) := by decide +kernel
theorem dX12_bringsBack_127 : decode cX12_bringsBack 127 = .ok (.istore_n 3, 1) := by decide +kernel
theorem dX12_bringsBack_128 : decode cX12_bringsBack 128 = .ok (.aload_n 0, 1) := by decide +kernel
theorem dX12_bringsBack_129 : decode cX12_bringsBack 129 = .ok (.getfield 118, 3) := by decide +kernel
theorem dX12_bringsBack_132 : decode cX12_bringsBack 132 = .ok (.iload_n 2, 1) := by decide +kernel
theorem dX12_bringsBack_133 : decode cX12_bringsBack 133 = .ok (.aload_n 0, 1) := by decide +kernel
theorem dX12_bringsBack_134 : decode cX12_bringsBack 134 = .ok (.getfield 151, 3) := by decide +kernel
theorem dX12_bringsBack_137 : decode cX12_bringsBack 137 = .ok (.iload_n 3, 1) := by decide +kernel
theorem dX12_bringsBack_138 : decode cX12_bringsBack 138 = .ok (.baload, 1) := by decide +kernel
theorem dX12_bringsBack_139 : decode cX12_bringsBack 139 = .ok (.bastore, 1) := by decide +kernel
theorem dX12_bringsBack_140 : decode cX12_bringsBack 140 = .ok (.aload_n 0, 1) := by decide +kernel
theorem dX12_bringsBack_141 : decode cX12_bringsBack 141 = .ok (.getfield 121, 3) := by decide +kernel
theorem dX12_bringsBack_144 : decode cX12_bringsBack 144 = .ok (.iload_n 2, 1) := by decide +kernel
theorem dX12_bringsBack_145 : decode cX12_bringsBack 145 = .ok (.aload_n 0, 1) := by decide +kernel
theorem dX12_bringsBack_146 : decode cX12_bringsBack 146 = .ok (.getfield 154, 3) := by decide +kernel
theorem dX12_bringsBack_149 : decode cX12_bringsBack 149 = .ok (.iload_n 3, 1) := by decide +kernel
theorem dX12_bringsBack_150 : decode cX12_bringsBack 150 = .ok (.iaload, 1) := by decide +kernel
theorem dX12_bringsBack_151 : decode cX12_bringsBack 151 = .ok (.iastore, 1) := by decide +kernel
theorem dX12_bringsBack_152 : decode cX12_bringsBack 152 = .ok (.aload_n 0, 1) := by decide +kernel
theorem dX12_bringsBack_153 : decode cX12_bringsBack 153 = .ok (.getfield 124, 3) := by decide +kernel
theorem dX12_bringsBack_156 : decode cX12_bringsBack 156 = .ok (.iload_n 2, 1) := by decide +kernel
theorem dX12_bringsBack_157 : decode cX12_bringsBack 157 = .ok (.aload_n 0, 1) := by decide +kernel
theorem dX12_bringsBack_158 : decode cX12_bringsBack 158 = .ok (.getfield 157, 3) := by decide +kernel
theorem dX12_bringsBack_161 : decode cX12_bringsBack 161 = .ok (.iload_n 3, 1) := by decide +kernel
theorem dX12_bringsBack_162 : decode cX12_bringsBack 162 = .ok (.iaload, 1) := by decide +kernel
theorem dX12_bringsBack_163 : decode cX12_bringsBack 163 = .ok (.iastore, 1) := by decide +kernel
theorem dX12_bringsBack_164 : decode cX12_bringsBack 164 = .ok (.aload_n 0, 1) := by decide +kernel
theorem dX12_bringsBack_165 : decode cX12_bringsBack 165 = .ok (.getfield 127, 3) := by decide +kernel
theorem dX12_bringsBack_168 : decode cX12_bringsBack 168 = .ok (.iload_n 2, 1) := by decide +kernel
theorem dX12_bringsBack_169 : decode cX12_bringsBack 169 = .ok (.aload_n 0, 1) := by decide +kernel
theorem dX12_bringsBack_170 : decode cX12_bringsBack 170 = .ok (.getfield 160, 3) := by decide +kernel
theorem dX12_bringsBack_173 : decode cX12_bringsBack 173 = .ok (.iload_n 3, 1) := by decide +kernel
theorem dX12_bringsBack_174 : decode cX12_bringsBack 174 = .ok (.iaload, 1) := by decide +kernel
theorem dX12_bringsBack_175 : decode cX12_bringsBack 175 = .ok (.iastore, 1) := by decide +kernel
theorem dX12_bringsBack_176 : decode cX12_bringsBack 176 = .ok (.aload_n 0, 1) := by decide +kernel
theorem dX12_bringsBack_177 : decode cX12_bringsBack 177 = .ok (.getfield 97, 3) := by decide +kernel
theorem dX12_bringsBack_180 : decode cX12_bringsBack 180 = .ok (.iload_n 2, 1) := by decide +kernel
theorem dX12_bringsBack_181 : decode cX12_bringsBack 181 = .ok (.aload_n 0, 1) := by decide +kernel
theorem dX12_bringsBack_182 : decode cX12_bringsBack 182 = .ok (.getfield 163, 3) := by decide +kernel
theorem dX12_bringsBack_185 : decode cX12_bringsBack 185 = .ok (.iload_n 3, 1) := by decide +kernel
theorem dX12_bringsBack_186 : decode cX12_bringsBack 186 = .ok (.iaload, 1) := by decide +kernel
theorem dX12_bringsBack_187 : decode cX12_bringsBack 187 = .ok (.iastore, 1) := by decide +kernel
theorem dX12_bringsBack_188 : decode cX12_bringsBack 188 = .ok (.iinc 2 1, 3) := by decide +kernel
theorem dX12_bringsBack_191 : decode cX12_bringsBack 191 = .ok (.goto (-76), 3) := by decide +kernel
theorem dX12_bringsBack_194 : decode cX12_bringsBack 194 = .ok (.aload_n 0, 1) := by decide +kernel
theorem dX12_bringsBack_195 : decode cX12_bringsBack 195 = .ok (.aload_n 0, 1) := by decide +kernel
theorem dX12_bringsBack_196 : decode cX12_bringsBack 196 = .ok (.getfield 166, 3) := by decide +kernel
theorem dX12_bringsBack_199 : decode cX12_bringsBack 199 = .ok (.iload_n 1, 1) := by decide +kernel
theorem dX12_bringsBack_200 : decode cX12_bringsBack 200 = .ok (.iaload, 1) := by decide +kernel
theorem dX12_bringsBack_201 : decode cX12_bringsBack 201 = .ok (.putfield 424, 3) := by decide +kernel
theorem dX12_bringsBack_204 : decode cX12_bringsBack 204 = .ok (.aload_n 0, 1) := by decide +kernel
theorem dX12_bringsBack_205 : decode cX12_bringsBack 205 = .ok (.aload_n 0, 1) := by decide +kernel
theorem dX12_bringsBack_206 : decode cX12_bringsBack 206 = .ok (.getfield 169, 3) := by decide +kernel
theorem dX12_bringsBack_209 : decode cX12_bringsBack 209 = .ok (.iload_n 1, 1) := by decide +kernel
theorem dX12_bringsBack_210 : decode cX12_bringsBack 210 = .ok (.iaload, 1) := by decide +kernel
theorem dX12_bringsBack_211 : decode cX12_bringsBack 211 = .ok (.putfield 514, 3) := by decide +kernel
theorem dX12_bringsBack_214 : decode cX12_bringsBack 214 = .ok (.aload_n 0, 1) := by decide +kernel
theorem dX12_bringsBack_215 : decode cX12_bringsBack 215 = .ok (.aload_n 0, 1) := by decide +kernel
theorem dX12_bringsBack_216 : decode cX12_bringsBack 216 = .ok (.getfield 172, 3) := by decide +kernel
theorem dX12_bringsBack_219 : decode cX12_bringsBack 219 = .ok (.iload_n 1, 1) := by decide +kernel
theorem dX12_bringsBack_220 : decode cX12_bringsBack 220 = .ok (.iaload, 1) := by decide +kernel
theorem dX12_bringsBack_221 : decode cX12_bringsBack 221 = .ok (.putfield 538, 3) := by decide +kernel
theorem dX12_bringsBack_224 : decode cX12_bringsBack 224 = .ok (.aload_n 0, 1) := by decide +kernel
theorem dX12_bringsBack_225 : decode cX12_bringsBack 225 = .ok (.aload_n 0, 1) := by decide +kernel
theorem dX12_bringsBack_226 : decode cX12_bringsBack 226 = .ok (.getfield 175, 3) := by decide +kernel
theorem dX12_bringsBack_229 : decode cX12_bringsBack 229 = .ok (.iload_n 1, 1) := by decide +kernel
theorem dX12_bringsBack_230 : decode cX12_bringsBack 230 = .ok (.iaload, 1) := by decide +kernel
theorem dX12_bringsBack_231 : decode cX12_bringsBack 231 = .ok (.putfield 13, 3) := by decide +kernel
theorem dX12_bringsBack_234 : decode cX12_bringsBack 234 = .ok (.return_, 1) := by decide +kernel
theorem dX12_triedBy_0 : decode cX12_triedBy 0 = .ok (.iload_n 2, 1) := by decide +kernel
theorem dX12_triedBy_1 : decode cX12_triedBy 1 = .ok (.i2l, 1) := by decide +kernel
theorem dX12_triedBy_2 : decode cX12_triedBy 2 = .ok (.lconst 1, 1) := by decide +kernel
theorem dX12_triedBy_3 : decode cX12_triedBy 3 = .ok (.ldc2_w 556, 3) := by decide +kernel
theorem dX12_triedBy_6 : decode cX12_triedBy 6 = .ok (.invokestatic 222, 3) := by decide +kernel
theorem dX12_triedBy_9 : decode cX12_triedBy 9 = .ok (.ifCond .eq 48, 3) := by decide +kernel
theorem dX12_triedBy_12 : decode cX12_triedBy 12 = .ok (.iload_n 3, 1) := by decide +kernel
theorem dX12_triedBy_13 : decode cX12_triedBy 13 = .ok (.i2l, 1) := by decide +kernel
theorem dX12_triedBy_14 : decode cX12_triedBy 14 = .ok (.lconst 0, 1) := by decide +kernel
theorem dX12_triedBy_15 : decode cX12_triedBy 15 = .ok (.ldc2_w 561, 3) := by decide +kernel
theorem dX12_triedBy_18 : decode cX12_triedBy 18 = .ok (.invokestatic 222, 3) := by decide +kernel
theorem dX12_triedBy_21 : decode cX12_triedBy 21 = .ok (.ifCond .ne 38, 3) := by decide +kernel
theorem dX12_triedBy_24 : decode cX12_triedBy 24 = .ok (.aload_n 0, 1) := by decide +kernel
theorem dX12_triedBy_25 : decode cX12_triedBy 25 = .ok (.iload_n 3, 1) := by decide +kernel
theorem dX12_triedBy_26 : decode cX12_triedBy 26 = .ok (.bipush 10, 2) := by decide +kernel
theorem dX12_triedBy_28 : decode cX12_triedBy 28 = .ok (.isub, 1) := by decide +kernel
theorem dX12_triedBy_29 : decode cX12_triedBy 29 = .ok (.invokevirtual 467, 3) := by decide +kernel
theorem dX12_triedBy_32 : decode cX12_triedBy 32 = .ok (.ifCond .ne 27, 3) := by decide +kernel
theorem dX12_triedBy_35 : decode cX12_triedBy 35 = .ok (.aload_n 0, 1) := by decide +kernel
theorem dX12_triedBy_36 : decode cX12_triedBy 36 = .ok (.iload_n 3, 1) := by decide +kernel
theorem dX12_triedBy_37 : decode cX12_triedBy 37 = .ok (.bipush 20, 2) := by decide +kernel
theorem dX12_triedBy_39 : decode cX12_triedBy 39 = .ok (.isub, 1) := by decide +kernel
theorem dX12_triedBy_40 : decode cX12_triedBy 40 = .ok (.invokevirtual 467, 3) := by decide +kernel
theorem dX12_triedBy_43 : decode cX12_triedBy 43 = .ok (.ifCond .ne 16, 3) := by decide +kernel
theorem dX12_triedBy_46 : decode cX12_triedBy 46 = .ok (.aload_n 0, 1) := by decide +kernel
theorem dX12_triedBy_47 : decode cX12_triedBy 47 = .ok (.iload_n 3, 1) := by decide +kernel
theorem dX12_triedBy_48 : decode cX12_triedBy 48 = .ok (.bipush 30, 2) := by decide +kernel
theorem dX12_triedBy_50 : decode cX12_triedBy 50 = .ok (.isub, 1) := by decide +kernel
theorem dX12_triedBy_51 : decode cX12_triedBy 51 = .ok (.invokevirtual 563, 3) := by decide +kernel
theorem dX12_triedBy_54 : decode cX12_triedBy 54 = .ok (.ifCond .ne 5, 3) := by decide +kernel
theorem dX12_triedBy_57 : decode cX12_triedBy 57 = .ok (.iconst (-1), 1) := by decide +kernel
theorem dX12_triedBy_58 : decode cX12_triedBy 58 = .ok (.ireturn, 1) := by decide +kernel
theorem dX12_triedBy_59 : decode cX12_triedBy 59 = .ok (.aload_n 0, 1) := by decide +kernel
theorem dX12_triedBy_60 : decode cX12_triedBy 60 = .ok (.iconst 0, 1) := by decide +kernel
theorem dX12_triedBy_61 : decode cX12_triedBy 61 = .ok (.invokevirtual 566, 3) := by decide +kernel
theorem dX12_triedBy_64 : decode cX12_triedBy 64 = .ok (.aload_n 0, 1) := by decide +kernel
theorem dX12_triedBy_65 : decode cX12_triedBy 65 = .ok (.iload_n 1, 1) := by decide +kernel
theorem dX12_triedBy_66 : decode cX12_triedBy 66 = .ok (.putfield 439, 3) := by decide +kernel
theorem dX12_triedBy_69 : decode cX12_triedBy 69 = .ok (.aload_n 0, 1) := by decide +kernel
theorem dX12_triedBy_70 : decode cX12_triedBy 70 = .ok (.iload_n 2, 1) := by decide +kernel
theorem dX12_triedBy_71 : decode cX12_triedBy 71 = .ok (.invokevirtual 558, 3) := by decide +kernel
theorem dX12_triedBy_74 : decode cX12_triedBy 74 = .ok (.aload_n 0, 1) := by decide +kernel
theorem dX12_triedBy_75 : decode cX12_triedBy 75 = .ok (.iconst 0, 1) := by decide +kernel
theorem dX12_triedBy_76 : decode cX12_triedBy 76 = .ok (.putfield 439, 3) := by decide +kernel
theorem dX12_triedBy_79 : decode cX12_triedBy 79 = .ok (.iload_n 3, 1) := by decide +kernel
theorem dX12_triedBy_80 : decode cX12_triedBy 80 = .ok (.tableswitch 107 0 6 #[44, 53, 62, 71, 80, 89, 98], 44) := by decide +kernel
theorem dX12_triedBy_124 : decode cX12_triedBy 124 = .ok (.aload_n 0, 1) := by decide +kernel
theorem dX12_triedBy_125 : decode cX12_triedBy 125 = .ok (.getfield 487, 3) := by decide +kernel
theorem dX12_triedBy_128 : decode cX12_triedBy 128 = .ok (.istore 4, 2) := by decide +kernel
theorem dX12_triedBy_130 : decode cX12_triedBy 130 = .ok (.goto 104, 3) := by decide +kernel
theorem dX12_triedBy_133 : decode cX12_triedBy 133 = .ok (.aload_n 0, 1) := by decide +kernel
theorem dX12_triedBy_134 : decode cX12_triedBy 134 = .ok (.getfield 490, 3) := by decide +kernel
theorem dX12_triedBy_137 : decode cX12_triedBy 137 = .ok (.istore 4, 2) := by decide +kernel
theorem dX12_triedBy_139 : decode cX12_triedBy 139 = .ok (.goto 95, 3) := by decide +kernel
theorem dX12_triedBy_142 : decode cX12_triedBy 142 = .ok (.aload_n 0, 1) := by decide +kernel
theorem dX12_triedBy_143 : decode cX12_triedBy 143 = .ok (.getfield 496, 3) := by decide +kernel
theorem dX12_triedBy_146 : decode cX12_triedBy 146 = .ok (.istore 4, 2) := by decide +kernel
theorem dX12_triedBy_148 : decode cX12_triedBy 148 = .ok (.goto 86, 3) := by decide +kernel
theorem dX12_triedBy_151 : decode cX12_triedBy 151 = .ok (.aload_n 0, 1) := by decide +kernel
theorem dX12_triedBy_152 : decode cX12_triedBy 152 = .ok (.getfield 517, 3) := by decide +kernel
theorem dX12_triedBy_155 : decode cX12_triedBy 155 = .ok (.istore 4, 2) := by decide +kernel
theorem dX12_triedBy_157 : decode cX12_triedBy 157 = .ok (.goto 77, 3) := by decide +kernel
theorem dX12_triedBy_160 : decode cX12_triedBy 160 = .ok (.aload_n 0, 1) := by decide +kernel
theorem dX12_triedBy_161 : decode cX12_triedBy 161 = .ok (.getfield 529, 3) := by decide +kernel
theorem dX12_triedBy_164 : decode cX12_triedBy 164 = .ok (.istore 4, 2) := by decide +kernel
theorem dX12_triedBy_166 : decode cX12_triedBy 166 = .ok (.goto 68, 3) := by decide +kernel
theorem dX12_triedBy_169 : decode cX12_triedBy 169 = .ok (.aload_n 0, 1) := by decide +kernel
theorem dX12_triedBy_170 : decode cX12_triedBy 170 = .ok (.getfield 541, 3) := by decide +kernel
theorem dX12_triedBy_173 : decode cX12_triedBy 173 = .ok (.istore 4, 2) := by decide +kernel
theorem dX12_triedBy_175 : decode cX12_triedBy 175 = .ok (.goto 59, 3) := by decide +kernel
theorem dX12_triedBy_178 : decode cX12_triedBy 178 = .ok (.aload_n 0, 1) := by decide +kernel
theorem dX12_triedBy_179 : decode cX12_triedBy 179 = .ok (.getfield 535, 3) := by decide +kernel
theorem dX12_triedBy_182 : decode cX12_triedBy 182 = .ok (.istore 4, 2) := by decide +kernel
theorem dX12_triedBy_184 : decode cX12_triedBy 184 = .ok (.goto 50, 3) := by decide +kernel
theorem dX12_triedBy_187 : decode cX12_triedBy 187 = .ok (.iload_n 3, 1) := by decide +kernel
theorem dX12_triedBy_188 : decode cX12_triedBy 188 = .ok (.bipush 20, 2) := by decide +kernel
theorem dX12_triedBy_190 : decode cX12_triedBy 190 = .ok (.if_icmp .ge 15, 3) := by decide +kernel
theorem dX12_triedBy_193 : decode cX12_triedBy 193 = .ok (.aload_n 0, 1) := by decide +kernel
theorem dX12_triedBy_194 : decode cX12_triedBy 194 = .ok (.getfield 109, 3) := by decide +kernel
theorem dX12_triedBy_197 : decode cX12_triedBy 197 = .ok (.iload_n 3, 1) := by decide +kernel
theorem dX12_triedBy_198 : decode cX12_triedBy 198 = .ok (.bipush 10, 2) := by decide +kernel
theorem dX12_triedBy_200 : decode cX12_triedBy 200 = .ok (.isub, 1) := by decide +kernel
theorem dX12_triedBy_201 : decode cX12_triedBy 201 = .ok (.iaload, 1) := by decide +kernel
theorem dX12_triedBy_202 : decode cX12_triedBy 202 = .ok (.goto 30, 3) := by decide +kernel
theorem dX12_triedBy_205 : decode cX12_triedBy 205 = .ok (.iload_n 3, 1) := by decide +kernel
theorem dX12_triedBy_206 : decode cX12_triedBy 206 = .ok (.bipush 30, 2) := by decide +kernel
theorem dX12_triedBy_208 : decode cX12_triedBy 208 = .ok (.if_icmp .ge 15, 3) := by decide +kernel
theorem dX12_triedBy_211 : decode cX12_triedBy 211 = .ok (.aload_n 0, 1) := by decide +kernel
theorem dX12_triedBy_212 : decode cX12_triedBy 212 = .ok (.getfield 115, 3) := by decide +kernel
theorem dX12_triedBy_215 : decode cX12_triedBy 215 = .ok (.iload_n 3, 1) := by decide +kernel
theorem dX12_triedBy_216 : decode cX12_triedBy 216 = .ok (.bipush 20, 2) := by decide +kernel
theorem dX12_triedBy_218 : decode cX12_triedBy 218 = .ok (.isub, 1) := by decide +kernel
theorem dX12_triedBy_219 : decode cX12_triedBy 219 = .ok (.iaload, 1) := by decide +kernel
theorem dX12_triedBy_220 : decode cX12_triedBy 220 = .ok (.goto 12, 3) := by decide +kernel
theorem dX12_triedBy_223 : decode cX12_triedBy 223 = .ok (.aload_n 0, 1) := by decide +kernel
theorem dX12_triedBy_224 : decode cX12_triedBy 224 = .ok (.getfield 127, 3) := by decide +kernel
theorem dX12_triedBy_227 : decode cX12_triedBy 227 = .ok (.iload_n 3, 1) := by decide +kernel
theorem dX12_triedBy_228 : decode cX12_triedBy 228 = .ok (.bipush 30, 2) := by decide +kernel
theorem dX12_triedBy_230 : decode cX12_triedBy 230 = .ok (.isub, 1) := by decide +kernel
theorem dX12_triedBy_231 : decode cX12_triedBy 231 = .ok (.iaload, 1) := by decide +kernel
theorem dX12_triedBy_232 : decode cX12_triedBy 232 = .ok (.istore 4, 2) := by decide +kernel
theorem dX12_triedBy_234 : decode cX12_triedBy 234 = .ok (.aload_n 0, 1) := by decide +kernel
theorem dX12_triedBy_235 : decode cX12_triedBy 235 = .ok (.iconst 0, 1) := by decide +kernel
theorem dX12_triedBy_236 : decode cX12_triedBy 236 = .ok (.invokevirtual 569, 3) := by decide +kernel
theorem dX12_triedBy_239 : decode cX12_triedBy 239 = .ok (.iload 4, 2) := by decide +kernel
theorem dX12_triedBy_241 : decode cX12_triedBy 241 = .ok (.ireturn, 1) := by decide +kernel
theorem dX12_tried_0 : decode cX12_tried 0 = .ok (.aload_n 0, 1) := by decide +kernel
theorem dX12_tried_1 : decode cX12_tried 1 = .ok (.iconst 0, 1) := by decide +kernel
theorem dX12_tried_2 : decode cX12_tried 2 = .ok (.iload_n 1, 1) := by decide +kernel
theorem dX12_tried_3 : decode cX12_tried 3 = .ok (.iload_n 2, 1) := by decide +kernel
theorem dX12_tried_4 : decode cX12_tried 4 = .ok (.invokevirtual 572, 3) := by decide +kernel
theorem dX12_tried_7 : decode cX12_tried 7 = .ok (.ireturn, 1) := by decide +kernel
theorem dX12_other_0 : decode cX12_other 0 = .ok (.aload_n 0, 1) := by decide +kernel
theorem dX12_other_1 : decode cX12_other 1 = .ok (.iconst 1, 1) := by decide +kernel
theorem dX12_other_2 : decode cX12_other 2 = .ok (.iload_n 1, 1) := by decide +kernel
theorem dX12_other_3 : decode cX12_other 3 = .ok (.iload_n 2, 1) := by decide +kernel
theorem dX12_other_4 : decode cX12_other 4 = .ok (.invokevirtual 572, 3) := by decide +kernel
theorem dX12_other_7 : decode cX12_other 7 = .ok (.ireturn, 1) := by decide +kernel
theorem dX12_first_0 : decode cX12_first 0 = .ok (.iload_n 1, 1) := by decide +kernel
theorem dX12_first_1 : decode cX12_first 1 = .ok (.i2l, 1) := by decide +kernel
theorem dX12_first_2 : decode cX12_first 2 = .ok (.lconst 1, 1) := by decide +kernel
theorem dX12_first_3 : decode cX12_first 3 = .ok (.ldc2_w 556, 3) := by decide +kernel
theorem dX12_first_6 : decode cX12_first 6 = .ok (.invokestatic 222, 3) := by decide +kernel
theorem dX12_first_9 : decode cX12_first 9 = .ok (.ifCond .eq 13, 3) := by decide +kernel
theorem dX12_first_12 : decode cX12_first 12 = .ok (.iload_n 2, 1) := by decide +kernel
theorem dX12_first_13 : decode cX12_first 13 = .ok (.i2l, 1) := by decide +kernel
theorem dX12_first_14 : decode cX12_first 14 = .ok (.lconst 0, 1) := by decide +kernel
theorem dX12_first_15 : decode cX12_first 15 = .ok (.lconst 1, 1) := by decide +kernel
theorem dX12_first_16 : decode cX12_first 16 = .ok (.invokestatic 222, 3) := by decide +kernel
theorem dX12_first_19 : decode cX12_first 19 = .ok (.ifCond .ne 5, 3) := by decide +kernel
theorem dX12_first_22 : decode cX12_first 22 = .ok (.iconst (-1), 1) := by decide +kernel
theorem dX12_first_23 : decode cX12_first 23 = .ok (.ireturn, 1) := by decide +kernel
theorem dX12_first_24 : decode cX12_first 24 = .ok (.aload_n 0, 1) := by decide +kernel
theorem dX12_first_25 : decode cX12_first 25 = .ok (.iconst 0, 1) := by decide +kernel
theorem dX12_first_26 : decode cX12_first 26 = .ok (.invokevirtual 566, 3) := by decide +kernel
theorem dX12_first_29 : decode cX12_first 29 = .ok (.aload_n 0, 1) := by decide +kernel
theorem dX12_first_30 : decode cX12_first 30 = .ok (.iload_n 1, 1) := by decide +kernel
theorem dX12_first_31 : decode cX12_first 31 = .ok (.invokevirtual 558, 3) := by decide +kernel
theorem dX12_first_34 : decode cX12_first 34 = .ok (.aload_n 0, 1) := by decide +kernel
theorem dX12_first_35 : decode cX12_first 35 = .ok (.iconst 0, 1) := by decide +kernel
theorem dX12_first_36 : decode cX12_first 36 = .ok (.invokevirtual 569, 3) := by decide +kernel
theorem dX12_first_39 : decode cX12_first 39 = .ok (.iload_n 2, 1) := by decide +kernel
theorem dX12_first_40 : decode cX12_first 40 = .ok (.ifCond .ne 10, 3) := by decide +kernel
theorem dX12_first_43 : decode cX12_first 43 = .ok (.aload_n 0, 1) := by decide +kernel
theorem dX12_first_44 : decode cX12_first 44 = .ok (.getfield 520, 3) := by decide +kernel
theorem dX12_first_47 : decode cX12_first 47 = .ok (.goto 7, 3) := by decide +kernel
theorem dX12_first_50 : decode cX12_first 50 = .ok (.aload_n 0, 1) := by decide +kernel
theorem dX12_first_51 : decode cX12_first 51 = .ok (.getfield 523, 3) := by decide +kernel
theorem dX12_first_54 : decode cX12_first 54 = .ok (.ireturn, 1) := by decide +kernel
theorem dX12_endIs_0 : decode cX12_endIs 0 = .ok (.aload_n 0, 1) := by decide +kernel
theorem dX12_endIs_1 : decode cX12_endIs 1 = .ok (.iload_n 1, 1) := by decide +kernel
theorem dX12_endIs_2 : decode cX12_endIs 2 = .ok (.invokevirtual 499, 3) := by decide +kernel
theorem dX12_endIs_5 : decode cX12_endIs 5 = .ok (.ifCond .ne 5, 3) := by decide +kernel
theorem dX12_endIs_8 : decode cX12_endIs 8 = .ok (.iconst (-1), 1) := by decide +kernel
theorem dX12_endIs_9 : decode cX12_endIs 9 = .ok (.ireturn, 1) := by decide +kernel
theorem dX12_endIs_10 : decode cX12_endIs 10 = .ok (.iload_n 2, 1) := by decide +kernel
theorem dX12_endIs_11 : decode cX12_endIs 11 = .ok (.tableswitch 77 0 5 #[37, 44, 51, 58, 65, 71], 37) := by decide +kernel
theorem dX12_endIs_48 : decode cX12_endIs 48 = .ok (.aload_n 0, 1) := by decide +kernel
theorem dX12_endIs_49 : decode cX12_endIs 49 = .ok (.getfield 91, 3) := by decide +kernel
theorem dX12_endIs_52 : decode cX12_endIs 52 = .ok (.iload_n 1, 1) := by decide +kernel
theorem dX12_endIs_53 : decode cX12_endIs 53 = .ok (.iaload, 1) := by decide +kernel
theorem dX12_endIs_54 : decode cX12_endIs 54 = .ok (.ireturn, 1) := by decide +kernel
theorem dX12_endIs_55 : decode cX12_endIs 55 = .ok (.aload_n 0, 1) := by decide +kernel
theorem dX12_endIs_56 : decode cX12_endIs 56 = .ok (.getfield 94, 3) := by decide +kernel
theorem dX12_endIs_59 : decode cX12_endIs 59 = .ok (.iload_n 1, 1) := by decide +kernel
theorem dX12_endIs_60 : decode cX12_endIs 60 = .ok (.iaload, 1) := by decide +kernel
theorem dX12_endIs_61 : decode cX12_endIs 61 = .ok (.ireturn, 1) := by decide +kernel
theorem dX12_endIs_62 : decode cX12_endIs 62 = .ok (.aload_n 0, 1) := by decide +kernel
theorem dX12_endIs_63 : decode cX12_endIs 63 = .ok (.getfield 97, 3) := by decide +kernel
theorem dX12_endIs_66 : decode cX12_endIs 66 = .ok (.iload_n 1, 1) := by decide +kernel
theorem dX12_endIs_67 : decode cX12_endIs 67 = .ok (.iaload, 1) := by decide +kernel
theorem dX12_endIs_68 : decode cX12_endIs 68 = .ok (.ireturn, 1) := by decide +kernel
theorem dX12_endIs_69 : decode cX12_endIs 69 = .ok (.aload_n 0, 1) := by decide +kernel
theorem dX12_endIs_70 : decode cX12_endIs 70 = .ok (.getfield 100, 3) := by decide +kernel
theorem dX12_endIs_73 : decode cX12_endIs 73 = .ok (.iload_n 1, 1) := by decide +kernel
theorem dX12_endIs_74 : decode cX12_endIs 74 = .ok (.iaload, 1) := by decide +kernel
theorem dX12_endIs_75 : decode cX12_endIs 75 = .ok (.ireturn, 1) := by decide +kernel
theorem dX12_endIs_76 : decode cX12_endIs 76 = .ok (.aload_n 0, 1) := by decide +kernel
theorem dX12_endIs_77 : decode cX12_endIs 77 = .ok (.iload_n 1, 1) := by decide +kernel
theorem dX12_endIs_78 : decode cX12_endIs 78 = .ok (.invokevirtual 470, 3) := by decide +kernel
theorem dX12_endIs_81 : decode cX12_endIs 81 = .ok (.ireturn, 1) := by decide +kernel
theorem dX12_endIs_82 : decode cX12_endIs 82 = .ok (.aload_n 0, 1) := by decide +kernel
theorem dX12_endIs_83 : decode cX12_endIs 83 = .ok (.iload_n 1, 1) := by decide +kernel
theorem dX12_endIs_84 : decode cX12_endIs 84 = .ok (.invokevirtual 484, 3) := by decide +kernel
theorem dX12_endIs_87 : decode cX12_endIs 87 = .ok (.ireturn, 1) := by decide +kernel
theorem dX12_endIs_88 : decode cX12_endIs 88 = .ok (.iconst (-1), 1) := by decide +kernel
theorem dX12_endIs_89 : decode cX12_endIs 89 = .ok (.ireturn, 1) := by decide +kernel
theorem dX12_boundSet_0 : decode cX12_boundSet 0 = .ok (.iconst 0, 1) := by decide +kernel
theorem dX12_boundSet_1 : decode cX12_boundSet 1 = .ok (.istore_n 2, 1) := by decide +kernel
theorem dX12_boundSet_2 : decode cX12_boundSet 2 = .ok (.iconst 0, 1) := by decide +kernel
theorem dX12_boundSet_3 : decode cX12_boundSet 3 = .ok (.istore_n 3, 1) := by decide +kernel
theorem dX12_boundSet_4 : decode cX12_boundSet 4 = .ok (.iload_n 3, 1) := by decide +kernel
theorem dX12_boundSet_5 : decode cX12_boundSet 5 = .ok (.bipush 10, 2) := by decide +kernel
theorem dX12_boundSet_7 : decode cX12_boundSet 7 = .ok (.if_icmp .ge 28, 3) := by decide +kernel
theorem dX12_boundSet_10 : decode cX12_boundSet 10 = .ok (.iload_n 2, 1) := by decide +kernel
theorem dX12_boundSet_11 : decode cX12_boundSet 11 = .ok (.aload_n 0, 1) := by decide +kernel
theorem dX12_boundSet_12 : decode cX12_boundSet 12 = .ok (.iload_n 3, 1) := by decide +kernel
theorem dX12_boundSet_13 : decode cX12_boundSet 13 = .ok (.iload_n 1, 1) := by decide +kernel
theorem dX12_boundSet_14 : decode cX12_boundSet 14 = .ok (.invokevirtual 532, 3) := by decide +kernel
theorem dX12_boundSet_17 : decode cX12_boundSet 17 = .ok (.ifCond .eq 9, 3) := by decide +kernel
theorem dX12_boundSet_20 : decode cX12_boundSet 20 = .ok (.iconst 1, 1) := by decide +kernel
theorem dX12_boundSet_21 : decode cX12_boundSet 21 = .ok (.iload_n 3, 1) := by decide +kernel
theorem dX12_boundSet_22 : decode cX12_boundSet 22 = .ok (.ishl, 1) := by decide +kernel
theorem dX12_boundSet_23 : decode cX12_boundSet 23 = .ok (.goto 4, 3) := by decide +kernel
theorem dX12_boundSet_26 : decode cX12_boundSet 26 = .ok (.iconst 0, 1) := by decide +kernel
theorem dX12_boundSet_27 : decode cX12_boundSet 27 = .ok (.ior, 1) := by decide +kernel
theorem dX12_boundSet_28 : decode cX12_boundSet 28 = .ok (.istore_n 2, 1) := by decide +kernel
theorem dX12_boundSet_29 : decode cX12_boundSet 29 = .ok (.iinc 3 1, 3) := by decide +kernel
theorem dX12_boundSet_32 : decode cX12_boundSet 32 = .ok (.goto (-28), 3) := by decide +kernel
theorem dX12_boundSet_35 : decode cX12_boundSet 35 = .ok (.iload_n 2, 1) := by decide +kernel
theorem dX12_boundSet_36 : decode cX12_boundSet 36 = .ok (.ireturn, 1) := by decide +kernel
theorem dX12_tellerIs_0 : decode cX12_tellerIs 0 = .ok (.aload_n 0, 1) := by decide +kernel
theorem dX12_tellerIs_1 : decode cX12_tellerIs 1 = .ok (.iload_n 1, 1) := by decide +kernel
theorem dX12_tellerIs_2 : decode cX12_tellerIs 2 = .ok (.invokevirtual 467, 3) := by decide +kernel
theorem dX12_tellerIs_5 : decode cX12_tellerIs 5 = .ok (.ifCond .ne 5, 3) := by decide +kernel
theorem dX12_tellerIs_8 : decode cX12_tellerIs 8 = .ok (.iconst (-1), 1) := by decide +kernel
theorem dX12_tellerIs_9 : decode cX12_tellerIs 9 = .ok (.ireturn, 1) := by decide +kernel
theorem dX12_tellerIs_10 : decode cX12_tellerIs 10 = .ok (.iload_n 2, 1) := by decide +kernel
theorem dX12_tellerIs_11 : decode cX12_tellerIs 11 = .ok (.tableswitch 77 0 5 #[37, 44, 51, 58, 65, 71], 37) := by decide +kernel
theorem dX12_tellerIs_48 : decode cX12_tellerIs 48 = .ok (.aload_n 0, 1) := by decide +kernel
theorem dX12_tellerIs_49 : decode cX12_tellerIs 49 = .ok (.getfield 106, 3) := by decide +kernel
theorem dX12_tellerIs_52 : decode cX12_tellerIs 52 = .ok (.iload_n 1, 1) := by decide +kernel
theorem dX12_tellerIs_53 : decode cX12_tellerIs 53 = .ok (.iaload, 1) := by decide +kernel
theorem dX12_tellerIs_54 : decode cX12_tellerIs 54 = .ok (.ireturn, 1) := by decide +kernel
theorem dX12_tellerIs_55 : decode cX12_tellerIs 55 = .ok (.aload_n 0, 1) := by decide +kernel
theorem dX12_tellerIs_56 : decode cX12_tellerIs 56 = .ok (.getfield 109, 3) := by decide +kernel
theorem dX12_tellerIs_59 : decode cX12_tellerIs 59 = .ok (.iload_n 1, 1) := by decide +kernel
theorem dX12_tellerIs_60 : decode cX12_tellerIs 60 = .ok (.iaload, 1) := by decide +kernel
theorem dX12_tellerIs_61 : decode cX12_tellerIs 61 = .ok (.ireturn, 1) := by decide +kernel
theorem dX12_tellerIs_62 : decode cX12_tellerIs 62 = .ok (.aload_n 0, 1) := by decide +kernel
theorem dX12_tellerIs_63 : decode cX12_tellerIs 63 = .ok (.getfield 112, 3) := by decide +kernel
theorem dX12_tellerIs_66 : decode cX12_tellerIs 66 = .ok (.iload_n 1, 1) := by decide +kernel
theorem dX12_tellerIs_67 : decode cX12_tellerIs 67 = .ok (.iaload, 1) := by decide +kernel
theorem dX12_tellerIs_68 : decode cX12_tellerIs 68 = .ok (.ireturn, 1) := by decide +kernel
theorem dX12_tellerIs_69 : decode cX12_tellerIs 69 = .ok (.aload_n 0, 1) := by decide +kernel
theorem dX12_tellerIs_70 : decode cX12_tellerIs 70 = .ok (.getfield 115, 3) := by decide +kernel
theorem dX12_tellerIs_73 : decode cX12_tellerIs 73 = .ok (.iload_n 1, 1) := by decide +kernel
theorem dX12_tellerIs_74 : decode cX12_tellerIs 74 = .ok (.iaload, 1) := by decide +kernel
theorem dX12_tellerIs_75 : decode cX12_tellerIs 75 = .ok (.ireturn, 1) := by decide +kernel
theorem dX12_tellerIs_76 : decode cX12_tellerIs 76 = .ok (.aload_n 0, 1) := by decide +kernel
theorem dX12_tellerIs_77 : decode cX12_tellerIs 77 = .ok (.iload_n 1, 1) := by decide +kernel
theorem dX12_tellerIs_78 : decode cX12_tellerIs 78 = .ok (.invokevirtual 575, 3) := by decide +kernel
theorem dX12_tellerIs_81 : decode cX12_tellerIs 81 = .ok (.ireturn, 1) := by decide +kernel
theorem dX12_tellerIs_82 : decode cX12_tellerIs 82 = .ok (.aload_n 0, 1) := by decide +kernel
theorem dX12_tellerIs_83 : decode cX12_tellerIs 83 = .ok (.iload_n 1, 1) := by decide +kernel
theorem dX12_tellerIs_84 : decode cX12_tellerIs 84 = .ok (.invokevirtual 505, 3) := by decide +kernel
theorem dX12_tellerIs_87 : decode cX12_tellerIs 87 = .ok (.ireturn, 1) := by decide +kernel
theorem dX12_tellerIs_88 : decode cX12_tellerIs 88 = .ok (.iconst (-1), 1) := by decide +kernel
theorem dX12_tellerIs_89 : decode cX12_tellerIs 89 = .ok (.ireturn, 1) := by decide +kernel
theorem dX12_listenerIs_0 : decode cX12_listenerIs 0 = .ok (.aload_n 0, 1) := by decide +kernel
theorem dX12_listenerIs_1 : decode cX12_listenerIs 1 = .ok (.iload_n 1, 1) := by decide +kernel
theorem dX12_listenerIs_2 : decode cX12_listenerIs 2 = .ok (.invokevirtual 563, 3) := by decide +kernel
theorem dX12_listenerIs_5 : decode cX12_listenerIs 5 = .ok (.ifCond .eq 15, 3) := by decide +kernel
theorem dX12_listenerIs_8 : decode cX12_listenerIs 8 = .ok (.iload_n 2, 1) := by decide +kernel
theorem dX12_listenerIs_9 : decode cX12_listenerIs 9 = .ok (.i2l, 1) := by decide +kernel
theorem dX12_listenerIs_10 : decode cX12_listenerIs 10 = .ok (.lconst 0, 1) := by decide +kernel
theorem dX12_listenerIs_11 : decode cX12_listenerIs 11 = .ok (.ldc2_w 578, 3) := by decide +kernel
theorem dX12_listenerIs_14 : decode cX12_listenerIs 14 = .ok (.invokestatic 222, 3) := by decide +kernel
theorem dX12_listenerIs_17 : decode cX12_listenerIs 17 = .ok (.ifCond .ne 5, 3) := by decide +kernel
theorem dX12_listenerIs_20 : decode cX12_listenerIs 20 = .ok (.iconst (-1), 1) := by decide +kernel
theorem dX12_listenerIs_21 : decode cX12_listenerIs 21 = .ok (.ireturn, 1) := by decide +kernel
theorem dX12_listenerIs_22 : decode cX12_listenerIs 22 = .ok (.iload_n 2, 1) := by decide +kernel
theorem dX12_listenerIs_23 : decode cX12_listenerIs 23 = .ok (.ifCond .ne 27, 3) := by decide +kernel
theorem dX12_listenerIs_26 : decode cX12_listenerIs 26 = .ok (.aload_n 0, 1) := by decide +kernel
theorem dX12_listenerIs_27 : decode cX12_listenerIs 27 = .ok (.getfield 121, 3) := by decide +kernel
theorem dX12_listenerIs_30 : decode cX12_listenerIs 30 = .ok (.iload_n 1, 1) := by decide +kernel
theorem dX12_listenerIs_31 : decode cX12_listenerIs 31 = .ok (.iaload, 1) := by decide +kernel
theorem dX12_listenerIs_32 : decode cX12_listenerIs 32 = .ok (.iconst (-1), 1) := by decide +kernel
theorem dX12_listenerIs_33 : decode cX12_listenerIs 33 = .ok (.if_icmp .ne 8, 3) := by decide +kernel
theorem dX12_listenerIs_36 : decode cX12_listenerIs 36 = .ok (.bipush (-2), 2) := by decide +kernel
theorem dX12_listenerIs_38 : decode cX12_listenerIs 38 = .ok (.goto 32, 3) := by decide +kernel
theorem dX12_listenerIs_41 : decode cX12_listenerIs 41 = .ok (.aload_n 0, 1) := by decide +kernel
theorem dX12_listenerIs_42 : decode cX12_listenerIs 42 = .ok (.getfield 121, 3) := by decide +kernel
theorem dX12_listenerIs_45 : decode cX12_listenerIs 45 = .ok (.iload_n 1, 1) := by decide +kernel
theorem dX12_listenerIs_46 : decode cX12_listenerIs 46 = .ok (.iaload, 1) := by decide +kernel
theorem dX12_listenerIs_47 : decode cX12_listenerIs 47 = .ok (.goto 23, 3) := by decide +kernel
theorem dX12_listenerIs_50 : decode cX12_listenerIs 50 = .ok (.iload_n 2, 1) := by decide +kernel
theorem dX12_listenerIs_51 : decode cX12_listenerIs 51 = .ok (.iconst 1, 1) := by decide +kernel
theorem dX12_listenerIs_52 : decode cX12_listenerIs 52 = .ok (.if_icmp .ne 12, 3) := by decide +kernel
theorem dX12_listenerIs_55 : decode cX12_listenerIs 55 = .ok (.aload_n 0, 1) := by decide +kernel
theorem dX12_listenerIs_56 : decode cX12_listenerIs 56 = .ok (.getfield 124, 3) := by decide +kernel
theorem dX12_listenerIs_59 : decode cX12_listenerIs 59 = .ok (.iload_n 1, 1) := by decide +kernel
theorem dX12_listenerIs_60 : decode cX12_listenerIs 60 = .ok (.iaload, 1) := by decide +kernel
theorem dX12_listenerIs_61 : decode cX12_listenerIs 61 = .ok (.goto 9, 3) := by decide +kernel
theorem dX12_listenerIs_64 : decode cX12_listenerIs 64 = .ok (.aload_n 0, 1) := by decide +kernel
theorem dX12_listenerIs_65 : decode cX12_listenerIs 65 = .ok (.getfield 127, 3) := by decide +kernel
theorem dX12_listenerIs_68 : decode cX12_listenerIs 68 = .ok (.iload_n 1, 1) := by decide +kernel
theorem dX12_listenerIs_69 : decode cX12_listenerIs 69 = .ok (.iaload, 1) := by decide +kernel
theorem dX12_listenerIs_70 : decode cX12_listenerIs 70 = .ok (.ireturn, 1) := by decide +kernel
theorem dX12_laysLeftOut_0 : decode cX12_laysLeftOut 0 = .ok (.aload_n 0, 1) := by decide +kernel
theorem dX12_laysLeftOut_1 : decode cX12_laysLeftOut 1 = .ok (.getfield 21, 3) := by decide +kernel
theorem dX12_laysLeftOut_4 : decode cX12_laysLeftOut 4 = .ok (.iload_n 1, 1) := by decide +kernel
theorem dX12_laysLeftOut_5 : decode cX12_laysLeftOut 5 = .ok (.iaload, 1) := by decide +kernel
theorem dX12_laysLeftOut_6 : decode cX12_laysLeftOut 6 = .ok (.istore_n 3, 1) := by decide +kernel
theorem dX12_laysLeftOut_7 : decode cX12_laysLeftOut 7 = .ok (.iconst 0, 1) := by decide +kernel
theorem dX12_laysLeftOut_8 : decode cX12_laysLeftOut 8 = .ok (.istore 4, 2) := by decide +kernel
theorem dX12_laysLeftOut_10 : decode cX12_laysLeftOut 10 = .ok (.iload 4, 2) := by decide +kernel
theorem dX12_laysLeftOut_12 : decode cX12_laysLeftOut 12 = .ok (.sipush 1023, 3) := by decide +kernel
theorem dX12_laysLeftOut_15 : decode cX12_laysLeftOut 15 = .ok (.if_icmp .gt 38, 3) := by decide +kernel
theorem dX12_laysLeftOut_18 : decode cX12_laysLeftOut 18 = .ok (.aload_n 0, 1) := by decide +kernel
theorem dX12_laysLeftOut_19 : decode cX12_laysLeftOut 19 = .ok (.getfield 179, 3) := by decide +kernel
theorem dX12_laysLeftOut_22 : decode cX12_laysLeftOut 22 = .ok (.sipush 1024, 3) := by decide +kernel
theorem dX12_laysLeftOut_25 : decode cX12_laysLeftOut 25 = .ok (.iload_n 3, 1) := by decide +kernel
theorem dX12_laysLeftOut_26 : decode cX12_laysLeftOut 26 = .ok (.imul, 1) := by decide +kernel
theorem dX12_laysLeftOut_27 : decode cX12_laysLeftOut 27 = .ok (.iload 4, 2) := by decide +kernel
theorem dX12_laysLeftOut_29 : decode cX12_laysLeftOut 29 = .ok (.iadd, 1) := by decide +kernel
theorem dX12_laysLeftOut_30 : decode cX12_laysLeftOut 30 = .ok (.iload 4, 2) := by decide +kernel
theorem dX12_laysLeftOut_32 : decode cX12_laysLeftOut 32 = .ok (.iload_n 2, 1) := by decide +kernel
theorem dX12_laysLeftOut_33 : decode cX12_laysLeftOut 33 = .ok (.iconst (-1), 1) := by decide +kernel
theorem dX12_laysLeftOut_34 : decode cX12_laysLeftOut 34 = .ok (.ixor, 1) := by decide +kernel
theorem dX12_laysLeftOut_35 : decode cX12_laysLeftOut 35 = .ok (.iand, 1) := by decide +kernel
theorem dX12_laysLeftOut_36 : decode cX12_laysLeftOut 36 = .ok (.ifCond .ne 7, 3) := by decide +kernel
theorem dX12_laysLeftOut_39 : decode cX12_laysLeftOut 39 = .ok (.iconst 0, 1) := by decide +kernel
theorem dX12_laysLeftOut_40 : decode cX12_laysLeftOut 40 = .ok (.goto 6, 3) := by decide +kernel
theorem dX12_laysLeftOut_43 : decode cX12_laysLeftOut 43 = .ok (.ldc_w 476, 3) := by decide +kernel
theorem dX12_laysLeftOut_46 : decode cX12_laysLeftOut 46 = .ok (.iastore, 1) := by decide +kernel
theorem dX12_laysLeftOut_47 : decode cX12_laysLeftOut 47 = .ok (.iinc 4 1, 3) := by decide +kernel
theorem dX12_laysLeftOut_50 : decode cX12_laysLeftOut 50 = .ok (.goto (-40), 3) := by decide +kernel
theorem dX12_laysLeftOut_53 : decode cX12_laysLeftOut 53 = .ok (.iload_n 3, 1) := by decide +kernel
theorem dX12_laysLeftOut_54 : decode cX12_laysLeftOut 54 = .ok (.iconst 1, 1) := by decide +kernel
theorem dX12_laysLeftOut_55 : decode cX12_laysLeftOut 55 = .ok (.isub, 1) := by decide +kernel
theorem dX12_laysLeftOut_56 : decode cX12_laysLeftOut 56 = .ok (.istore 4, 2) := by decide +kernel
theorem dX12_laysLeftOut_58 : decode cX12_laysLeftOut 58 = .ok (.iload 4, 2) := by decide +kernel
theorem dX12_laysLeftOut_60 : decode cX12_laysLeftOut 60 = .ok (.ifCond .lt 107, 3) := by decide +kernel
theorem dX12_laysLeftOut_63 : decode cX12_laysLeftOut 63 = .ok (.iconst 0, 1) := by decide +kernel
theorem dX12_laysLeftOut_64 : decode cX12_laysLeftOut 64 = .ok (.istore 5, 2) := by decide +kernel
theorem dX12_laysLeftOut_66 : decode cX12_laysLeftOut 66 = .ok (.iload 5, 2) := by decide +kernel
theorem dX12_laysLeftOut_68 : decode cX12_laysLeftOut 68 = .ok (.sipush 1023, 3) := by decide +kernel
theorem dX12_laysLeftOut_71 : decode cX12_laysLeftOut 71 = .ok (.if_icmp .gt 90, 3) := by decide +kernel
theorem dX12_laysLeftOut_74 : decode cX12_laysLeftOut 74 = .ok (.aload_n 0, 1) := by decide +kernel
theorem dX12_laysLeftOut_75 : decode cX12_laysLeftOut 75 = .ok (.getfield 179, 3) := by decide +kernel
theorem dX12_laysLeftOut_78 : decode cX12_laysLeftOut 78 = .ok (.sipush 1024, 3) := by decide +kernel
theorem dX12_laysLeftOut_81 : decode cX12_laysLeftOut 81 = .ok (.iload 4, 2) := by decide +kernel
theorem dX12_laysLeftOut_83 : decode cX12_laysLeftOut 83 = .ok (.iconst 1, 1) := by decide +kernel
theorem dX12_laysLeftOut_84 : decode cX12_laysLeftOut 84 = .ok (.iadd, 1) := by decide +kernel
theorem dX12_laysLeftOut_85 : decode cX12_laysLeftOut 85 = .ok (.imul, 1) := by decide +kernel
theorem dX12_laysLeftOut_86 : decode cX12_laysLeftOut 86 = .ok (.iload 5, 2) := by decide +kernel
theorem dX12_laysLeftOut_88 : decode cX12_laysLeftOut 88 = .ok (.aload_n 0, 1) := by decide +kernel
theorem dX12_laysLeftOut_89 : decode cX12_laysLeftOut 89 = .ok (.getfield 25, 3) := by decide +kernel
theorem dX12_laysLeftOut_92 : decode cX12_laysLeftOut 92 = .ok (.bipush 72, 2) := by decide +kernel
theorem dX12_laysLeftOut_94 : decode cX12_laysLeftOut 94 = .ok (.iload_n 1, 1) := by decide +kernel
theorem dX12_laysLeftOut_95 : decode cX12_laysLeftOut 95 = .ok (.imul, 1) := by decide +kernel
theorem dX12_laysLeftOut_96 : decode cX12_laysLeftOut 96 = .ok (.iload 4, 2) := by decide +kernel
theorem dX12_laysLeftOut_98 : decode cX12_laysLeftOut 98 = .ok (.iadd, 1) := by decide +kernel
theorem dX12_laysLeftOut_99 : decode cX12_laysLeftOut 99 = .ok (.iaload, 1) := by decide +kernel
theorem dX12_laysLeftOut_100 : decode cX12_laysLeftOut 100 = .ok (.invokestatic 275, 3) := by decide +kernel
theorem dX12_laysLeftOut_103 : decode cX12_laysLeftOut 103 = .ok (.iadd, 1) := by decide +kernel
theorem dX12_laysLeftOut_104 : decode cX12_laysLeftOut 104 = .ok (.iaload, 1) := by decide +kernel
theorem dX12_laysLeftOut_105 : decode cX12_laysLeftOut 105 = .ok (.istore 6, 2) := by decide +kernel
theorem dX12_laysLeftOut_107 : decode cX12_laysLeftOut 107 = .ok (.aload_n 0, 1) := by decide +kernel
theorem dX12_laysLeftOut_108 : decode cX12_laysLeftOut 108 = .ok (.getfield 179, 3) := by decide +kernel
theorem dX12_laysLeftOut_111 : decode cX12_laysLeftOut 111 = .ok (.sipush 1024, 3) := by decide +kernel
theorem dX12_laysLeftOut_114 : decode cX12_laysLeftOut 114 = .ok (.iload 4, 2) := by decide +kernel
theorem dX12_laysLeftOut_116 : decode cX12_laysLeftOut 116 = .ok (.iconst 1, 1) := by decide +kernel
theorem dX12_laysLeftOut_117 : decode cX12_laysLeftOut 117 = .ok (.iadd, 1) := by decide +kernel
theorem dX12_laysLeftOut_118 : decode cX12_laysLeftOut 118 = .ok (.imul, 1) := by decide +kernel
theorem dX12_laysLeftOut_119 : decode cX12_laysLeftOut 119 = .ok (.iload 5, 2) := by decide +kernel
theorem dX12_laysLeftOut_121 : decode cX12_laysLeftOut 121 = .ok (.iadd, 1) := by decide +kernel
theorem dX12_laysLeftOut_122 : decode cX12_laysLeftOut 122 = .ok (.iaload, 1) := by decide +kernel
theorem dX12_laysLeftOut_123 : decode cX12_laysLeftOut 123 = .ok (.iconst 1, 1) := by decide +kernel
theorem dX12_laysLeftOut_124 : decode cX12_laysLeftOut 124 = .ok (.iadd, 1) := by decide +kernel
theorem dX12_laysLeftOut_125 : decode cX12_laysLeftOut 125 = .ok (.istore 7, 2) := by decide +kernel
theorem dX12_laysLeftOut_127 : decode cX12_laysLeftOut 127 = .ok (.aload_n 0, 1) := by decide +kernel
theorem dX12_laysLeftOut_128 : decode cX12_laysLeftOut 128 = .ok (.getfield 179, 3) := by decide +kernel
theorem dX12_laysLeftOut_131 : decode cX12_laysLeftOut 131 = .ok (.sipush 1024, 3) := by decide +kernel
theorem dX12_laysLeftOut_134 : decode cX12_laysLeftOut 134 = .ok (.iload 4, 2) := by decide +kernel
theorem dX12_laysLeftOut_136 : decode cX12_laysLeftOut 136 = .ok (.imul, 1) := by decide +kernel
theorem dX12_laysLeftOut_137 : decode cX12_laysLeftOut 137 = .ok (.iload 5, 2) := by decide +kernel
theorem dX12_laysLeftOut_139 : decode cX12_laysLeftOut 139 = .ok (.iadd, 1) := by decide +kernel
theorem dX12_laysLeftOut_140 : decode cX12_laysLeftOut 140 = .ok (.iload 6, 2) := by decide +kernel
theorem dX12_laysLeftOut_142 : decode cX12_laysLeftOut 142 = .ok (.iload 7, 2) := by decide +kernel
theorem dX12_laysLeftOut_144 : decode cX12_laysLeftOut 144 = .ok (.if_icmp .ge 8, 3) := by decide +kernel
theorem dX12_laysLeftOut_147 : decode cX12_laysLeftOut 147 = .ok (.iload 6, 2) := by decide +kernel
theorem dX12_laysLeftOut_149 : decode cX12_laysLeftOut 149 = .ok (.goto 5, 3) := by decide +kernel
theorem dX12_laysLeftOut_152 : decode cX12_laysLeftOut 152 = .ok (.iload 7, 2) := by decide +kernel
theorem dX12_laysLeftOut_154 : decode cX12_laysLeftOut 154 = .ok (.iastore, 1) := by decide +kernel
theorem dX12_laysLeftOut_155 : decode cX12_laysLeftOut 155 = .ok (.iinc 5 1, 3) := by decide +kernel
theorem dX12_laysLeftOut_158 : decode cX12_laysLeftOut 158 = .ok (.goto (-92), 3) := by decide +kernel
theorem dX12_laysLeftOut_161 : decode cX12_laysLeftOut 161 = .ok (.iinc 4 (-1), 3) := by decide +kernel
theorem dX12_laysLeftOut_164 : decode cX12_laysLeftOut 164 = .ok (.goto (-106), 3) := by decide +kernel
theorem dX12_laysLeftOut_167 : decode cX12_laysLeftOut 167 = .ok (.return_, 1) := by decide +kernel
theorem dX12_fitting_0 : decode cX12_fitting 0 = .ok (.aload_n 0, 1) := by decide +kernel
theorem dX12_fitting_1 : decode cX12_fitting 1 = .ok (.iload_n 1, 1) := by decide +kernel
theorem dX12_fitting_2 : decode cX12_fitting 2 = .ok (.invokevirtual 279, 3) := by decide +kernel
theorem dX12_fitting_5 : decode cX12_fitting 5 = .ok (.ifCond .eq 15, 3) := by decide +kernel
theorem dX12_fitting_8 : decode cX12_fitting 8 = .ok (.iload_n 2, 1) := by decide +kernel
theorem dX12_fitting_9 : decode cX12_fitting 9 = .ok (.i2l, 1) := by decide +kernel
theorem dX12_fitting_10 : decode cX12_fitting 10 = .ok (.lconst 0, 1) := by decide +kernel
theorem dX12_fitting_11 : decode cX12_fitting 11 = .ok (.ldc2_w 283, 3) := by decide +kernel
theorem dX12_fitting_14 : decode cX12_fitting 14 = .ok (.invokestatic 222, 3) := by decide +kernel
theorem dX12_fitting_17 : decode cX12_fitting 17 = .ok (.ifCond .ne 5, 3) := by decide +kernel
theorem dX12_fitting_20 : decode cX12_fitting 20 = .ok (.iconst (-1), 1) := by decide +kernel
theorem dX12_fitting_21 : decode cX12_fitting 21 = .ok (.ireturn, 1) := by decide +kernel
theorem dX12_fitting_22 : decode cX12_fitting 22 = .ok (.aload_n 0, 1) := by decide +kernel
theorem dX12_fitting_23 : decode cX12_fitting 23 = .ok (.iload_n 1, 1) := by decide +kernel
theorem dX12_fitting_24 : decode cX12_fitting 24 = .ok (.iload_n 2, 1) := by decide +kernel
theorem dX12_fitting_25 : decode cX12_fitting 25 = .ok (.invokevirtual 580, 3) := by decide +kernel
theorem dX12_fitting_28 : decode cX12_fitting 28 = .ok (.iload_n 3, 1) := by decide +kernel
theorem dX12_fitting_29 : decode cX12_fitting 29 = .ok (.bipush 100, 2) := by decide +kernel
theorem dX12_fitting_31 : decode cX12_fitting 31 = .ok (.if_icmp .ne 10, 3) := by decide +kernel
theorem dX12_fitting_34 : decode cX12_fitting 34 = .ok (.aload_n 0, 1) := by decide +kernel
theorem dX12_fitting_35 : decode cX12_fitting 35 = .ok (.getfield 179, 3) := by decide +kernel
theorem dX12_fitting_38 : decode cX12_fitting 38 = .ok (.iconst 0, 1) := by decide +kernel
theorem dX12_fitting_39 : decode cX12_fitting 39 = .ok (.iaload, 1) := by decide +kernel
theorem dX12_fitting_40 : decode cX12_fitting 40 = .ok (.ireturn, 1) := by decide +kernel
theorem dX12_fitting_41 : decode cX12_fitting 41 = .ok (.iload_n 3, 1) := by decide +kernel
theorem dX12_fitting_42 : decode cX12_fitting 42 = .ok (.i2l, 1) := by decide +kernel
theorem dX12_fitting_43 : decode cX12_fitting 43 = .ok (.lconst 0, 1) := by decide +kernel
theorem dX12_fitting_44 : decode cX12_fitting 44 = .ok (.aload_n 0, 1) := by decide +kernel
theorem dX12_fitting_45 : decode cX12_fitting 45 = .ok (.getfield 179, 3) := by decide +kernel
theorem dX12_fitting_48 : decode cX12_fitting 48 = .ok (.iconst 0, 1) := by decide +kernel
theorem dX12_fitting_49 : decode cX12_fitting 49 = .ok (.iaload, 1) := by decide +kernel
theorem dX12_fitting_50 : decode cX12_fitting 50 = .ok (.iconst 1, 1) := by decide +kernel
theorem dX12_fitting_51 : decode cX12_fitting 51 = .ok (.isub, 1) := by decide +kernel
theorem dX12_fitting_52 : decode cX12_fitting 52 = .ok (.i2l, 1) := by decide +kernel
theorem dX12_fitting_53 : decode cX12_fitting 53 = .ok (.invokestatic 222, 3) := by decide +kernel
theorem dX12_fitting_56 : decode cX12_fitting 56 = .ok (.ifCond .ne 6, 3) := by decide +kernel
theorem dX12_fitting_59 : decode cX12_fitting 59 = .ok (.bipush (-4), 2) := by decide +kernel
theorem dX12_fitting_61 : decode cX12_fitting 61 = .ok (.ireturn, 1) := by decide +kernel
theorem dX12_fitting_62 : decode cX12_fitting 62 = .ok (.iconst 0, 1) := by decide +kernel
theorem dX12_fitting_63 : decode cX12_fitting 63 = .ok (.istore 4, 2) := by decide +kernel
theorem dX12_fitting_65 : decode cX12_fitting 65 = .ok (.iconst 0, 1) := by decide +kernel
theorem dX12_fitting_66 : decode cX12_fitting 66 = .ok (.istore 5, 2) := by decide +kernel
theorem dX12_fitting_68 : decode cX12_fitting 68 = .ok (.iconst 0, 1) := by decide +kernel
theorem dX12_fitting_69 : decode cX12_fitting 69 = .ok (.istore 6, 2) := by decide +kernel
theorem dX12_fitting_71 : decode cX12_fitting 71 = .ok (.iload 6, 2) := by decide +kernel
theorem dX12_fitting_73 : decode cX12_fitting 73 = .ok (.aload_n 0, 1) := by decide +kernel
theorem dX12_fitting_74 : decode cX12_fitting 74 = .ok (.getfield 21, 3) := by decide +kernel
theorem dX12_fitting_77 : decode cX12_fitting 77 = .ok (.iload_n 1, 1) := by decide +kernel
theorem dX12_fitting_78 : decode cX12_fitting 78 = .ok (.iaload, 1) := by decide +kernel
theorem dX12_fitting_79 : decode cX12_fitting 79 = .ok (.if_icmp .ge 78, 3) := by decide +kernel
theorem dX12_fitting_82 : decode cX12_fitting 82 = .ok (.aload_n 0, 1) := by decide +kernel
theorem dX12_fitting_83 : decode cX12_fitting 83 = .ok (.getfield 179, 3) := by decide +kernel
theorem dX12_fitting_86 : decode cX12_fitting 86 = .ok (.sipush 1024, 3) := by decide +kernel
theorem dX12_fitting_89 : decode cX12_fitting 89 = .ok (.iload 6, 2) := by decide +kernel
theorem dX12_fitting_91 : decode cX12_fitting 91 = .ok (.iconst 1, 1) := by decide +kernel
theorem dX12_fitting_92 : decode cX12_fitting 92 = .ok (.iadd, 1) := by decide +kernel
theorem dX12_fitting_93 : decode cX12_fitting 93 = .ok (.imul, 1) := by decide +kernel
theorem dX12_fitting_94 : decode cX12_fitting 94 = .ok (.iload 4, 2) := by decide +kernel
theorem dX12_fitting_96 : decode cX12_fitting 96 = .ok (.iadd, 1) := by decide +kernel
theorem dX12_fitting_97 : decode cX12_fitting 97 = .ok (.iaload, 1) := by decide +kernel
theorem dX12_fitting_98 : decode cX12_fitting 98 = .ok (.iconst 1, 1) := by decide +kernel
theorem dX12_fitting_99 : decode cX12_fitting 99 = .ok (.iadd, 1) := by decide +kernel
theorem dX12_fitting_100 : decode cX12_fitting 100 = .ok (.aload_n 0, 1) := by decide +kernel
theorem dX12_fitting_101 : decode cX12_fitting 101 = .ok (.getfield 179, 3) := by decide +kernel
theorem dX12_fitting_104 : decode cX12_fitting 104 = .ok (.sipush 1024, 3) := by decide +kernel
theorem dX12_fitting_107 : decode cX12_fitting 107 = .ok (.iload 6, 2) := by decide +kernel
theorem dX12_fitting_109 : decode cX12_fitting 109 = .ok (.imul, 1) := by decide +kernel
theorem dX12_fitting_110 : decode cX12_fitting 110 = .ok (.iload 4, 2) := by decide +kernel
theorem dX12_fitting_112 : decode cX12_fitting 112 = .ok (.iadd, 1) := by decide +kernel
theorem dX12_fitting_113 : decode cX12_fitting 113 = .ok (.iaload, 1) := by decide +kernel
theorem dX12_fitting_114 : decode cX12_fitting 114 = .ok (.if_icmp .ne 18, 3) := by decide +kernel
theorem dX12_fitting_117 : decode cX12_fitting 117 = .ok (.iload 5, 2) := by decide +kernel
theorem dX12_fitting_119 : decode cX12_fitting 119 = .ok (.iload_n 3, 1) := by decide +kernel
theorem dX12_fitting_120 : decode cX12_fitting 120 = .ok (.if_icmp .ne 6, 3) := by decide +kernel
theorem dX12_fitting_123 : decode cX12_fitting 123 = .ok (.iload 6, 2) := by decide +kernel
theorem dX12_fitting_125 : decode cX12_fitting 125 = .ok (.ireturn, 1) := by decide +kernel
theorem dX12_fitting_126 : decode cX12_fitting 126 = .ok (.iinc 5 1, 3) := by decide +kernel
theorem dX12_fitting_129 : decode cX12_fitting 129 = .ok (.goto 22, 3) := by decide +kernel
theorem dX12_fitting_132 : decode cX12_fitting 132 = .ok (.iload 4, 2) := by decide +kernel
theorem dX12_fitting_134 : decode cX12_fitting 134 = .ok (.aload_n 0, 1) := by decide +kernel
theorem dX12_fitting_135 : decode cX12_fitting 135 = .ok (.getfield 25, 3) := by decide +kernel
theorem dX12_fitting_138 : decode cX12_fitting 138 = .ok (.bipush 72, 2) := by decide +kernel
theorem dX12_fitting_140 : decode cX12_fitting 140 = .ok (.iload_n 1, 1) := by decide +kernel
theorem dX12_fitting_141 : decode cX12_fitting 141 = .ok (.imul, 1) := by decide +kernel
theorem dX12_fitting_142 : decode cX12_fitting 142 = .ok (.iload 6, 2) := by decide +kernel
theorem dX12_fitting_144 : decode cX12_fitting 144 = .ok (.iadd, 1) := by decide +kernel
theorem dX12_fitting_145 : decode cX12_fitting 145 = .ok (.iaload, 1) := by decide +kernel
theorem dX12_fitting_146 : decode cX12_fitting 146 = .ok (.invokestatic 275, 3) := by decide +kernel
theorem dX12_fitting_149 : decode cX12_fitting 149 = .ok (.istore 4, 2) := by decide +kernel
theorem dX12_fitting_151 : decode cX12_fitting 151 = .ok (.iinc 6 1, 3) := by decide +kernel
theorem dX12_fitting_154 : decode cX12_fitting 154 = .ok (.goto (-83), 3) := by decide +kernel
theorem dX12_fitting_157 : decode cX12_fitting 157 = .ok (.bipush (-4), 2) := by decide +kernel
theorem dX12_fitting_159 : decode cX12_fitting 159 = .ok (.ireturn, 1) := by decide +kernel
theorem dX12_wouldDo_0 : decode cX12_wouldDo 0 = .ok (.aload_n 0, 1) := by decide +kernel
theorem dX12_wouldDo_1 : decode cX12_wouldDo 1 = .ok (.iload_n 1, 1) := by decide +kernel
theorem dX12_wouldDo_2 : decode cX12_wouldDo 2 = .ok (.invokevirtual 279, 3) := by decide +kernel
theorem dX12_wouldDo_5 : decode cX12_wouldDo 5 = .ok (.ifCond .eq 23, 3) := by decide +kernel
theorem dX12_wouldDo_8 : decode cX12_wouldDo 8 = .ok (.aload_n 0, 1) := by decide +kernel
theorem dX12_wouldDo_9 : decode cX12_wouldDo 9 = .ok (.iload_n 2, 1) := by decide +kernel
theorem dX12_wouldDo_10 : decode cX12_wouldDo 10 = .ok (.invokevirtual 499, 3) := by decide +kernel
theorem dX12_wouldDo_13 : decode cX12_wouldDo 13 = .ok (.ifCond .eq 15, 3) := by decide +kernel
theorem dX12_wouldDo_16 : decode cX12_wouldDo 16 = .ok (.iload_n 3, 1) := by decide +kernel
theorem dX12_wouldDo_17 : decode cX12_wouldDo 17 = .ok (.i2l, 1) := by decide +kernel
theorem dX12_wouldDo_18 : decode cX12_wouldDo 18 = .ok (.lconst 0, 1) := by decide +kernel
theorem dX12_wouldDo_19 : decode cX12_wouldDo 19 = .ok (.ldc2_w 578, 3) := by decide +kernel
theorem dX12_wouldDo_22 : decode cX12_wouldDo 22 = .ok (.invokestatic 222, 3) := by decide +kernel
theorem dX12_wouldDo_25 : decode cX12_wouldDo 25 = .ok (.ifCond .ne 5, 3) := by decide +kernel
theorem dX12_wouldDo_28 : decode cX12_wouldDo 28 = .ok (.iconst (-1), 1) := by decide +kernel
theorem dX12_wouldDo_29 : decode cX12_wouldDo 29 = .ok (.ireturn, 1) := by decide +kernel
theorem dX12_wouldDo_30 : decode cX12_wouldDo 30 = .ok (.iconst 0, 1) := by decide +kernel
theorem dX12_wouldDo_31 : decode cX12_wouldDo 31 = .ok (.istore 4, 2) := by decide +kernel
theorem dX12_wouldDo_33 : decode cX12_wouldDo 33 = .ok (.bipush (-2), 2) := by decide +kernel
theorem dX12_wouldDo_35 : decode cX12_wouldDo 35 = .ok (.istore 5, 2) := by decide +kernel
theorem dX12_wouldDo_37 : decode cX12_wouldDo 37 = .ok (.bipush (-2), 2) := by decide +kernel
theorem dX12_wouldDo_39 : decode cX12_wouldDo 39 = .ok (.istore 6, 2) := by decide +kernel
theorem dX12_wouldDo_41 : decode cX12_wouldDo 41 = .ok (.iconst 0, 1) := by decide +kernel
theorem dX12_wouldDo_42 : decode cX12_wouldDo 42 = .ok (.istore 7, 2) := by decide +kernel
theorem dX12_wouldDo_44 : decode cX12_wouldDo 44 = .ok (.iload 7, 2) := by decide +kernel
theorem dX12_wouldDo_46 : decode cX12_wouldDo 46 = .ok (.aload_n 0, 1) := by decide +kernel
theorem dX12_wouldDo_47 : decode cX12_wouldDo 47 = .ok (.getfield 21, 3) := by decide +kernel
theorem dX12_wouldDo_50 : decode cX12_wouldDo 50 = .ok (.iload_n 1, 1) := by decide +kernel
theorem dX12_wouldDo_51 : decode cX12_wouldDo 51 = .ok (.iaload, 1) := by decide +kernel
theorem dX12_wouldDo_52 : decode cX12_wouldDo 52 = .ok (.if_icmp .gt 64, 3) := by decide +kernel
theorem dX12_wouldDo_55 : decode cX12_wouldDo 55 = .ok (.aload_n 0, 1) := by decide +kernel
theorem dX12_wouldDo_56 : decode cX12_wouldDo 56 = .ok (.iload_n 1, 1) := by decide +kernel
theorem dX12_wouldDo_57 : decode cX12_wouldDo 57 = .ok (.iload 7, 2) := by decide +kernel
theorem dX12_wouldDo_59 : decode cX12_wouldDo 59 = .ok (.iconst 0, 1) := by decide +kernel
theorem dX12_wouldDo_60 : decode cX12_wouldDo 60 = .ok (.invokevirtual 285, 3) := by decide +kernel
theorem dX12_wouldDo_63 : decode cX12_wouldDo 63 = .ok (.istore 8, 2) := by decide +kernel
theorem dX12_wouldDo_65 : decode cX12_wouldDo 65 = .ok (.iload 8, 2) := by decide +kernel
theorem dX12_wouldDo_67 : decode cX12_wouldDo 67 = .ok (.ifCond .eq 43, 3) := by decide +kernel
theorem dX12_wouldDo_70 : decode cX12_wouldDo 70 = .ok (.iload 8, 2) := by decide +kernel
theorem dX12_wouldDo_72 : decode cX12_wouldDo 72 = .ok (.aload_n 0, 1) := by decide +kernel
theorem dX12_wouldDo_73 : decode cX12_wouldDo 73 = .ok (.getfield 91, 3) := by decide +kernel
theorem dX12_wouldDo_76 : decode cX12_wouldDo 76 = .ok (.iload_n 2, 1) := by decide +kernel
theorem dX12_wouldDo_77 : decode cX12_wouldDo 77 = .ok (.iaload, 1) := by decide +kernel
theorem dX12_wouldDo_78 : decode cX12_wouldDo 78 = .ok (.iconst (-1), 1) := by decide +kernel
theorem dX12_wouldDo_79 : decode cX12_wouldDo 79 = .ok (.ixor, 1) := by decide +kernel
theorem dX12_wouldDo_80 : decode cX12_wouldDo 80 = .ok (.iand, 1) := by decide +kernel
theorem dX12_wouldDo_81 : decode cX12_wouldDo 81 = .ok (.ifCond .eq 6, 3) := by decide +kernel
theorem dX12_wouldDo_84 : decode cX12_wouldDo 84 = .ok (.goto 26, 3) := by decide +kernel
theorem dX12_wouldDo_87 : decode cX12_wouldDo 87 = .ok (.iinc 4 1, 3) := by decide +kernel
theorem dX12_wouldDo_90 : decode cX12_wouldDo 90 = .ok (.iload 5, 2) := by decide +kernel
theorem dX12_wouldDo_92 : decode cX12_wouldDo 92 = .ok (.bipush (-2), 2) := by decide +kernel
theorem dX12_wouldDo_94 : decode cX12_wouldDo 94 = .ok (.if_icmp .ne 8, 3) := by decide +kernel
theorem dX12_wouldDo_97 : decode cX12_wouldDo 97 = .ok (.iload 7, 2) := by decide +kernel
theorem dX12_wouldDo_99 : decode cX12_wouldDo 99 = .ok (.goto 5, 3) := by decide +kernel
theorem dX12_wouldDo_102 : decode cX12_wouldDo 102 = .ok (.iload 5, 2) := by decide +kernel
theorem dX12_wouldDo_104 : decode cX12_wouldDo 104 = .ok (.istore 5, 2) := by decide +kernel
theorem dX12_wouldDo_106 : decode cX12_wouldDo 106 = .ok (.iload 7, 2) := by decide +kernel
theorem dX12_wouldDo_108 : decode cX12_wouldDo 108 = .ok (.istore 6, 2) := by decide +kernel
theorem dX12_wouldDo_110 : decode cX12_wouldDo 110 = .ok (.iinc 7 1, 3) := by decide +kernel
theorem dX12_wouldDo_113 : decode cX12_wouldDo 113 = .ok (.goto (-69), 3) := by decide +kernel
theorem dX12_wouldDo_116 : decode cX12_wouldDo 116 = .ok (.iload_n 3, 1) := by decide +kernel
theorem dX12_wouldDo_117 : decode cX12_wouldDo 117 = .ok (.ifCond .ne 8, 3) := by decide +kernel
theorem dX12_wouldDo_120 : decode cX12_wouldDo 120 = .ok (.iload 4, 2) := by decide +kernel
theorem dX12_wouldDo_122 : decode cX12_wouldDo 122 = .ok (.goto 15, 3) := by decide +kernel
theorem dX12_wouldDo_125 : decode cX12_wouldDo 125 = .ok (.iload_n 3, 1) := by decide +kernel
theorem dX12_wouldDo_126 : decode cX12_wouldDo 126 = .ok (.iconst 1, 1) := by decide +kernel
theorem dX12_wouldDo_127 : decode cX12_wouldDo 127 = .ok (.if_icmp .ne 8, 3) := by decide +kernel
theorem dX12_wouldDo_130 : decode cX12_wouldDo 130 = .ok (.iload 5, 2) := by decide +kernel
theorem dX12_wouldDo_132 : decode cX12_wouldDo 132 = .ok (.goto 5, 3) := by decide +kernel
theorem dX12_wouldDo_135 : decode cX12_wouldDo 135 = .ok (.iload 6, 2) := by decide +kernel
theorem dX12_wouldDo_137 : decode cX12_wouldDo 137 = .ok (.ireturn, 1) := by decide +kernel
theorem dX12_takesSome_0 : decode cX12_takesSome 0 = .ok (.iconst 0, 1) := by decide +kernel
theorem dX12_takesSome_1 : decode cX12_takesSome 1 = .ok (.istore_n 2, 1) := by decide +kernel
theorem dX12_takesSome_2 : decode cX12_takesSome 2 = .ok (.iconst 0, 1) := by decide +kernel
theorem dX12_takesSome_3 : decode cX12_takesSome 3 = .ok (.istore_n 3, 1) := by decide +kernel
theorem dX12_takesSome_4 : decode cX12_takesSome 4 = .ok (.iload_n 3, 1) := by decide +kernel
theorem dX12_takesSome_5 : decode cX12_takesSome 5 = .ok (.bipush 10, 2) := by decide +kernel
theorem dX12_takesSome_7 : decode cX12_takesSome 7 = .ok (.if_icmp .ge 30, 3) := by decide +kernel
theorem dX12_takesSome_10 : decode cX12_takesSome 10 = .ok (.iload_n 1, 1) := by decide +kernel
theorem dX12_takesSome_11 : decode cX12_takesSome 11 = .ok (.iload_n 3, 1) := by decide +kernel
theorem dX12_takesSome_12 : decode cX12_takesSome 12 = .ok (.invokestatic 194, 3) := by decide +kernel
theorem dX12_takesSome_15 : decode cX12_takesSome 15 = .ok (.ifCond .ne 6, 3) := by decide +kernel
theorem dX12_takesSome_18 : decode cX12_takesSome 18 = .ok (.goto 13, 3) := by decide +kernel
theorem dX12_takesSome_21 : decode cX12_takesSome 21 = .ok (.aload_n 0, 1) := by decide +kernel
theorem dX12_takesSome_22 : decode cX12_takesSome 22 = .ok (.getfield 182, 3) := by decide +kernel
theorem dX12_takesSome_25 : decode cX12_takesSome 25 = .ok (.iload_n 2, 1) := by decide +kernel
theorem dX12_takesSome_26 : decode cX12_takesSome 26 = .ok (.iload_n 3, 1) := by decide +kernel
theorem dX12_takesSome_27 : decode cX12_takesSome 27 = .ok (.iastore, 1) := by decide +kernel
theorem dX12_takesSome_28 : decode cX12_takesSome 28 = .ok (.iinc 2 1, 3) := by decide +kernel
theorem dX12_takesSome_31 : decode cX12_takesSome 31 = .ok (.iinc 3 1, 3) := by decide +kernel
theorem dX12_takesSome_34 : decode cX12_takesSome 34 = .ok (.goto (-30), 3) := by decide +kernel
theorem dX12_takesSome_37 : decode cX12_takesSome 37 = .ok (.iload_n 2, 1) := by decide +kernel
theorem dX12_takesSome_38 : decode cX12_takesSome 38 = .ok (.ireturn, 1) := by decide +kernel
theorem dX12_areStories_0 : decode cX12_areStories 0 = .ok (.iload_n 1, 1) := by decide +kernel
theorem dX12_areStories_1 : decode cX12_areStories 1 = .ok (.i2l, 1) := by decide +kernel
theorem dX12_areStories_2 : decode cX12_areStories 2 = .ok (.lconst 1, 1) := by decide +kernel
theorem dX12_areStories_3 : decode cX12_areStories 3 = .ok (.ldc2_w 583, 3) := by decide +kernel
theorem dX12_areStories_6 : decode cX12_areStories 6 = .ok (.invokestatic 222, 3) := by decide +kernel
theorem dX12_areStories_9 : decode cX12_areStories 9 = .ok (.ifCond .eq 18, 3) := by decide +kernel
theorem dX12_areStories_12 : decode cX12_areStories 12 = .ok (.iload_n 1, 1) := by decide +kernel
theorem dX12_areStories_13 : decode cX12_areStories 13 = .ok (.invokestatic 289, 3) := by decide +kernel
theorem dX12_areStories_16 : decode cX12_areStories 16 = .ok (.i2l, 1) := by decide +kernel
theorem dX12_areStories_17 : decode cX12_areStories 17 = .ok (.iload_n 2, 1) := by decide +kernel
theorem dX12_areStories_18 : decode cX12_areStories 18 = .ok (.i2l, 1) := by decide +kernel
theorem dX12_areStories_19 : decode cX12_areStories 19 = .ok (.iload_n 3, 1) := by decide +kernel
theorem dX12_areStories_20 : decode cX12_areStories 20 = .ok (.i2l, 1) := by decide +kernel
theorem dX12_areStories_21 : decode cX12_areStories 21 = .ok (.invokestatic 222, 3) := by decide +kernel
theorem dX12_areStories_24 : decode cX12_areStories 24 = .ok (.ifCond .ne 5, 3) := by decide +kernel
theorem dX12_areStories_27 : decode cX12_areStories 27 = .ok (.iconst 0, 1) := by decide +kernel
theorem dX12_areStories_28 : decode cX12_areStories 28 = .ok (.ireturn, 1) := by decide +kernel
theorem dX12_areStories_29 : decode cX12_areStories 29 = .ok (.iconst 0, 1) := by decide +kernel
theorem dX12_areStories_30 : decode cX12_areStories 30 = .ok (.istore 4, 2) := by decide +kernel
theorem dX12_areStories_32 : decode cX12_areStories 32 = .ok (.iload 4, 2) := by decide +kernel
theorem dX12_areStories_34 : decode cX12_areStories 34 = .ok (.bipush 6, 2) := by decide +kernel
theorem dX12_areStories_36 : decode cX12_areStories 36 = .ok (.if_icmp .ge 30, 3) := by decide +kernel
theorem dX12_areStories_39 : decode cX12_areStories 39 = .ok (.iload_n 1, 1) := by decide +kernel
theorem dX12_areStories_40 : decode cX12_areStories 40 = .ok (.iload 4, 2) := by decide +kernel
theorem dX12_areStories_42 : decode cX12_areStories 42 = .ok (.invokestatic 194, 3) := by decide +kernel
theorem dX12_areStories_45 : decode cX12_areStories 45 = .ok (.ifCond .eq 15, 3) := by decide +kernel
theorem dX12_areStories_48 : decode cX12_areStories 48 = .ok (.aload_n 0, 1) := by decide +kernel
theorem dX12_areStories_49 : decode cX12_areStories 49 = .ok (.getfield 17, 3) := by decide +kernel
theorem dX12_areStories_52 : decode cX12_areStories 52 = .ok (.iload 4, 2) := by decide +kernel
theorem dX12_areStories_54 : decode cX12_areStories 54 = .ok (.baload, 1) := by decide +kernel
theorem dX12_areStories_55 : decode cX12_areStories 55 = .ok (.ifCond .ne 5, 3) := by decide +kernel
theorem dX12_areStories_58 : decode cX12_areStories 58 = .ok (.iconst 0, 1) := by decide +kernel
theorem dX12_areStories_59 : decode cX12_areStories 59 = .ok (.ireturn, 1) := by decide +kernel
theorem dX12_areStories_60 : decode cX12_areStories 60 = .ok (.iinc 4 1, 3) := by decide +kernel
theorem dX12_areStories_63 : decode cX12_areStories 63 = .ok (.goto (-31), 3) := by decide +kernel
theorem dX12_areStories_66 : decode cX12_areStories 66 = .ok (.iconst 1, 1) := by decide +kernel
theorem dX12_areStories_67 : decode cX12_areStories 67 = .ok (.ireturn, 1) := by decide +kernel
theorem dX12_powerOf_0 : decode cX12_powerOf 0 = .ok (.iconst 1, 1) := by decide +kernel
theorem dX12_powerOf_1 : decode cX12_powerOf 1 = .ok (.istore_n 2, 1) := by decide +kernel
theorem dX12_powerOf_2 : decode cX12_powerOf 2 = .ok (.iconst 0, 1) := by decide +kernel
theorem dX12_powerOf_3 : decode cX12_powerOf 3 = .ok (.istore_n 3, 1) := by decide +kernel
theorem dX12_powerOf_4 : decode cX12_powerOf 4 = .ok (.iload_n 3, 1) := by decide +kernel
theorem dX12_powerOf_5 : decode cX12_powerOf 5 = .ok (.iload_n 1, 1) := by decide +kernel
theorem dX12_powerOf_6 : decode cX12_powerOf 6 = .ok (.if_icmp .ge 13, 3) := by decide +kernel
theorem dX12_powerOf_9 : decode cX12_powerOf 9 = .ok (.iload_n 2, 1) := by decide +kernel
theorem dX12_powerOf_10 : decode cX12_powerOf 10 = .ok (.iload_n 0, 1) := by decide +kernel
theorem dX12_powerOf_11 : decode cX12_powerOf 11 = .ok (.imul, 1) := by decide +kernel
theorem dX12_powerOf_12 : decode cX12_powerOf 12 = .ok (.istore_n 2, 1) := by decide +kernel
theorem dX12_powerOf_13 : decode cX12_powerOf 13 = .ok (.iinc 3 1, 3) := by decide +kernel
theorem dX12_powerOf_16 : decode cX12_powerOf 16 = .ok (.goto (-12), 3) := by decide +kernel
theorem dX12_powerOf_19 : decode cX12_powerOf 19 = .ok (.iload_n 2, 1) := by decide +kernel
theorem dX12_powerOf_20 : decode cX12_powerOf 20 = .ok (.ireturn, 1) := by decide +kernel
theorem dX12_opensRow_0 : decode cX12_opensRow 0 = .ok (.iload_n 1, 1) := by decide +kernel
theorem dX12_opensRow_1 : decode cX12_opensRow 1 = .ok (.istore 4, 2) := by decide +kernel
theorem dX12_opensRow_3 : decode cX12_opensRow 3 = .ok (.iload_n 2, 1) := by decide +kernel
theorem dX12_opensRow_4 : decode cX12_opensRow 4 = .ok (.iconst 1, 1) := by decide +kernel
theorem dX12_opensRow_5 : decode cX12_opensRow 5 = .ok (.isub, 1) := by decide +kernel
theorem dX12_opensRow_6 : decode cX12_opensRow 6 = .ok (.istore 5, 2) := by decide +kernel
theorem dX12_opensRow_8 : decode cX12_opensRow 8 = .ok (.iload 5, 2) := by decide +kernel
theorem dX12_opensRow_10 : decode cX12_opensRow 10 = .ok (.ifCond .lt 26, 3) := by decide +kernel
theorem dX12_opensRow_13 : decode cX12_opensRow 13 = .ok (.aload_n 0, 1) := by decide +kernel
theorem dX12_opensRow_14 : decode cX12_opensRow 14 = .ok (.getfield 185, 3) := by decide +kernel
theorem dX12_opensRow_17 : decode cX12_opensRow 17 = .ok (.iload 5, 2) := by decide +kernel
theorem dX12_opensRow_19 : decode cX12_opensRow 19 = .ok (.iload 4, 2) := by decide +kernel
theorem dX12_opensRow_21 : decode cX12_opensRow 21 = .ok (.iload_n 3, 1) := by decide +kernel
theorem dX12_opensRow_22 : decode cX12_opensRow 22 = .ok (.irem, 1) := by decide +kernel
theorem dX12_opensRow_23 : decode cX12_opensRow 23 = .ok (.iastore, 1) := by decide +kernel
theorem dX12_opensRow_24 : decode cX12_opensRow 24 = .ok (.iload 4, 2) := by decide +kernel
theorem dX12_opensRow_26 : decode cX12_opensRow 26 = .ok (.iload_n 3, 1) := by decide +kernel
theorem dX12_opensRow_27 : decode cX12_opensRow 27 = .ok (.idiv, 1) := by decide +kernel
theorem dX12_opensRow_28 : decode cX12_opensRow 28 = .ok (.istore 4, 2) := by decide +kernel
theorem dX12_opensRow_30 : decode cX12_opensRow 30 = .ok (.iinc 5 (-1), 3) := by decide +kernel
theorem dX12_opensRow_33 : decode cX12_opensRow 33 = .ok (.goto (-25), 3) := by decide +kernel
theorem dX12_opensRow_36 : decode cX12_opensRow 36 = .ok (.return_, 1) := by decide +kernel
theorem dX12_isOrder_0 : decode cX12_isOrder 0 = .ok (.iconst 0, 1) := by decide +kernel
theorem dX12_isOrder_1 : decode cX12_isOrder 1 = .ok (.istore_n 2, 1) := by decide +kernel
theorem dX12_isOrder_2 : decode cX12_isOrder 2 = .ok (.iconst 0, 1) := by decide +kernel
theorem dX12_isOrder_3 : decode cX12_isOrder 3 = .ok (.istore_n 3, 1) := by decide +kernel
theorem dX12_isOrder_4 : decode cX12_isOrder 4 = .ok (.iload_n 3, 1) := by decide +kernel
theorem dX12_isOrder_5 : decode cX12_isOrder 5 = .ok (.iload_n 1, 1) := by decide +kernel
theorem dX12_isOrder_6 : decode cX12_isOrder 6 = .ok (.if_icmp .ge 20, 3) := by decide +kernel
theorem dX12_isOrder_9 : decode cX12_isOrder 9 = .ok (.iload_n 2, 1) := by decide +kernel
theorem dX12_isOrder_10 : decode cX12_isOrder 10 = .ok (.iconst 1, 1) := by decide +kernel
theorem dX12_isOrder_11 : decode cX12_isOrder 11 = .ok (.aload_n 0, 1) := by decide +kernel
theorem dX12_isOrder_12 : decode cX12_isOrder 12 = .ok (.getfield 185, 3) := by decide +kernel
theorem dX12_isOrder_15 : decode cX12_isOrder 15 = .ok (.iload_n 3, 1) := by decide +kernel
theorem dX12_isOrder_16 : decode cX12_isOrder 16 = .ok (.iaload, 1) := by decide +kernel
theorem dX12_isOrder_17 : decode cX12_isOrder 17 = .ok (.ishl, 1) := by decide +kernel
theorem dX12_isOrder_18 : decode cX12_isOrder 18 = .ok (.ior, 1) := by decide +kernel
theorem dX12_isOrder_19 : decode cX12_isOrder 19 = .ok (.istore_n 2, 1) := by decide +kernel
theorem dX12_isOrder_20 : decode cX12_isOrder 20 = .ok (.iinc 3 1, 3) := by decide +kernel
theorem dX12_isOrder_23 : decode cX12_isOrder 23 = .ok (.goto (-19), 3) := by decide +kernel
theorem dX12_isOrder_26 : decode cX12_isOrder 26 = .ok (.iload_n 2, 1) := by decide +kernel
theorem dX12_isOrder_27 : decode cX12_isOrder 27 = .ok (.iconst 1, 1) := by decide +kernel
theorem dX12_isOrder_28 : decode cX12_isOrder 28 = .ok (.iload_n 1, 1) := by decide +kernel
theorem dX12_isOrder_29 : decode cX12_isOrder 29 = .ok (.ishl, 1) := by decide +kernel
theorem dX12_isOrder_30 : decode cX12_isOrder 30 = .ok (.iconst 1, 1) := by decide +kernel
theorem dX12_isOrder_31 : decode cX12_isOrder 31 = .ok (.isub, 1) := by decide +kernel
theorem dX12_isOrder_32 : decode cX12_isOrder 32 = .ok (.if_icmp .ne 7, 3) := by decide +kernel
theorem dX12_isOrder_35 : decode cX12_isOrder 35 = .ok (.iconst 1, 1) := by decide +kernel
theorem dX12_isOrder_36 : decode cX12_isOrder 36 = .ok (.goto 4, 3) := by decide +kernel
theorem dX12_isOrder_39 : decode cX12_isOrder 39 = .ok (.iconst 0, 1) := by decide +kernel
theorem dX12_isOrder_40 : decode cX12_isOrder 40 = .ok (.ireturn, 1) := by decide +kernel
theorem dX12_opennessOf_0 : decode cX12_opennessOf 0 = .ok (.iconst 0, 1) := by decide +kernel
theorem dX12_opennessOf_1 : decode cX12_opennessOf 1 = .ok (.istore_n 2, 1) := by decide +kernel
theorem dX12_opennessOf_2 : decode cX12_opennessOf 2 = .ok (.iconst 0, 1) := by decide +kernel
theorem dX12_opennessOf_3 : decode cX12_opennessOf 3 = .ok (.istore_n 3, 1) := by decide +kernel
theorem dX12_opennessOf_4 : decode cX12_opennessOf 4 = .ok (.iconst 0, 1) := by decide +kernel
theorem dX12_opennessOf_5 : decode cX12_opennessOf 5 = .ok (.istore 4, 2) := by decide +kernel
theorem dX12_opennessOf_7 : decode cX12_opennessOf 7 = .ok (.iload 4, 2) := by decide +kernel
theorem dX12_opennessOf_9 : decode cX12_opennessOf 9 = .ok (.iload_n 1, 1) := by decide +kernel
theorem dX12_opennessOf_10 : decode cX12_opennessOf 10 = .ok (.if_icmp .ge 79, 3) := by decide +kernel
theorem dX12_opennessOf_13 : decode cX12_opennessOf 13 = .ok (.aload_n 0, 1) := by decide +kernel
theorem dX12_opennessOf_14 : decode cX12_opennessOf 14 = .ok (.getfield 182, 3) := by decide +kernel
theorem dX12_opennessOf_17 : decode cX12_opennessOf 17 = .ok (.aload_n 0, 1) := by decide +kernel
theorem dX12_opennessOf_18 : decode cX12_opennessOf 18 = .ok (.getfield 185, 3) := by decide +kernel
theorem dX12_opennessOf_21 : decode cX12_opennessOf 21 = .ok (.iload 4, 2) := by decide +kernel
theorem dX12_opennessOf_23 : decode cX12_opennessOf 23 = .ok (.iaload, 1) := by decide +kernel
theorem dX12_opennessOf_24 : decode cX12_opennessOf 24 = .ok (.iaload, 1) := by decide +kernel
theorem dX12_opennessOf_25 : decode cX12_opennessOf 25 = .ok (.istore 5, 2) := by decide +kernel
theorem dX12_opennessOf_27 : decode cX12_opennessOf 27 = .ok (.iconst 0, 1) := by decide +kernel
theorem dX12_opennessOf_28 : decode cX12_opennessOf 28 = .ok (.istore 6, 2) := by decide +kernel
theorem dX12_opennessOf_30 : decode cX12_opennessOf 30 = .ok (.iload 6, 2) := by decide +kernel
theorem dX12_opennessOf_32 : decode cX12_opennessOf 32 = .ok (.aload_n 0, 1) := by decide +kernel
theorem dX12_opennessOf_33 : decode cX12_opennessOf 33 = .ok (.getfield 21, 3) := by decide +kernel
theorem dX12_opennessOf_36 : decode cX12_opennessOf 36 = .ok (.iload 5, 2) := by decide +kernel
theorem dX12_opennessOf_38 : decode cX12_opennessOf 38 = .ok (.iaload, 1) := by decide +kernel
theorem dX12_opennessOf_39 : decode cX12_opennessOf 39 = .ok (.if_icmp .ge 44, 3) := by decide +kernel
theorem dX12_opennessOf_42 : decode cX12_opennessOf 42 = .ok (.iload_n 2, 1) := by decide +kernel
theorem dX12_opennessOf_43 : decode cX12_opennessOf 43 = .ok (.aload_n 0, 1) := by decide +kernel
theorem dX12_opennessOf_44 : decode cX12_opennessOf 44 = .ok (.getfield 25, 3) := by decide +kernel
theorem dX12_opennessOf_47 : decode cX12_opennessOf 47 = .ok (.bipush 72, 2) := by decide +kernel
theorem dX12_opennessOf_49 : decode cX12_opennessOf 49 = .ok (.iload 5, 2) := by decide +kernel
theorem dX12_opennessOf_51 : decode cX12_opennessOf 51 = .ok (.imul, 1) := by decide +kernel
theorem dX12_opennessOf_52 : decode cX12_opennessOf 52 = .ok (.iload 6, 2) := by decide +kernel
theorem dX12_opennessOf_54 : decode cX12_opennessOf 54 = .ok (.iadd, 1) := by decide +kernel
theorem dX12_opennessOf_55 : decode cX12_opennessOf 55 = .ok (.iaload, 1) := by decide +kernel
theorem dX12_opennessOf_56 : decode cX12_opennessOf 56 = .ok (.invokestatic 275, 3) := by decide +kernel
theorem dX12_opennessOf_59 : decode cX12_opennessOf 59 = .ok (.istore_n 2, 1) := by decide +kernel
theorem dX12_opennessOf_60 : decode cX12_opennessOf 60 = .ok (.iload_n 2, 1) := by decide +kernel
theorem dX12_opennessOf_61 : decode cX12_opennessOf 61 = .ok (.invokestatic 289, 3) := by decide +kernel
theorem dX12_opennessOf_64 : decode cX12_opennessOf 64 = .ok (.iload_n 3, 1) := by decide +kernel
theorem dX12_opennessOf_65 : decode cX12_opennessOf 65 = .ok (.if_icmp .le 10, 3) := by decide +kernel
theorem dX12_opennessOf_68 : decode cX12_opennessOf 68 = .ok (.iload_n 2, 1) := by decide +kernel
theorem dX12_opennessOf_69 : decode cX12_opennessOf 69 = .ok (.invokestatic 289, 3) := by decide +kernel
theorem dX12_opennessOf_72 : decode cX12_opennessOf 72 = .ok (.goto 4, 3) := by decide +kernel
theorem dX12_opennessOf_75 : decode cX12_opennessOf 75 = .ok (.iload_n 3, 1) := by decide +kernel
theorem dX12_opennessOf_76 : decode cX12_opennessOf 76 = .ok (.istore_n 3, 1) := by decide +kernel
theorem dX12_opennessOf_77 : decode cX12_opennessOf 77 = .ok (.iinc 6 1, 3) := by decide +kernel
theorem dX12_opennessOf_80 : decode cX12_opennessOf 80 = .ok (.goto (-50), 3) := by decide +kernel
theorem dX12_opennessOf_83 : decode cX12_opennessOf 83 = .ok (.iinc 4 1, 3) := by decide +kernel
theorem dX12_opennessOf_86 : decode cX12_opennessOf 86 = .ok (.goto (-79), 3) := by decide +kernel
theorem dX12_opennessOf_89 : decode cX12_opennessOf 89 = .ok (.bipush 100, 2) := by decide +kernel
theorem dX12_opennessOf_91 : decode cX12_opennessOf 91 = .ok (.iload_n 3, 1) := by decide +kernel
theorem dX12_opennessOf_92 : decode cX12_opennessOf 92 = .ok (.imul, 1) := by decide +kernel
theorem dX12_opennessOf_93 : decode cX12_opennessOf 93 = .ok (.iload_n 2, 1) := by decide +kernel
theorem dX12_opennessOf_94 : decode cX12_opennessOf 94 = .ok (.invokestatic 289, 3) := by decide +kernel
theorem dX12_opennessOf_97 : decode cX12_opennessOf 97 = .ok (.iadd, 1) := by decide +kernel
theorem dX12_opennessOf_98 : decode cX12_opennessOf 98 = .ok (.ireturn, 1) := by decide +kernel
theorem dX12_series_0 : decode cX12_series 0 = .ok (.aload_n 0, 1) := by decide +kernel
theorem dX12_series_1 : decode cX12_series 1 = .ok (.iload_n 1, 1) := by decide +kernel
theorem dX12_series_2 : decode cX12_series 2 = .ok (.iconst 2, 1) := by decide +kernel
theorem dX12_series_3 : decode cX12_series 3 = .ok (.iconst 5, 1) := by decide +kernel
theorem dX12_series_4 : decode cX12_series 4 = .ok (.invokevirtual 585, 3) := by decide +kernel
theorem dX12_series_7 : decode cX12_series 7 = .ok (.ifCond .eq 31, 3) := by decide +kernel
theorem dX12_series_10 : decode cX12_series 10 = .ok (.iload_n 2, 1) := by decide +kernel
theorem dX12_series_11 : decode cX12_series 11 = .ok (.bipush 20, 2) := by decide +kernel
theorem dX12_series_13 : decode cX12_series 13 = .ok (.if_icmp .eq 27, 3) := by decide +kernel
theorem dX12_series_16 : decode cX12_series 16 = .ok (.iload_n 2, 1) := by decide +kernel
theorem dX12_series_17 : decode cX12_series 17 = .ok (.bipush 21, 2) := by decide +kernel
theorem dX12_series_19 : decode cX12_series 19 = .ok (.if_icmp .eq 21, 3) := by decide +kernel
theorem dX12_series_22 : decode cX12_series 22 = .ok (.iload_n 2, 1) := by decide +kernel
theorem dX12_series_23 : decode cX12_series 23 = .ok (.i2l, 1) := by decide +kernel
theorem dX12_series_24 : decode cX12_series 24 = .ok (.lconst 0, 1) := by decide +kernel
theorem dX12_series_25 : decode cX12_series 25 = .ok (.iload_n 1, 1) := by decide +kernel
theorem dX12_series_26 : decode cX12_series 26 = .ok (.invokestatic 289, 3) := by decide +kernel
theorem dX12_series_29 : decode cX12_series 29 = .ok (.iconst 1, 1) := by decide +kernel
theorem dX12_series_30 : decode cX12_series 30 = .ok (.isub, 1) := by decide +kernel
theorem dX12_series_31 : decode cX12_series 31 = .ok (.i2l, 1) := by decide +kernel
theorem dX12_series_32 : decode cX12_series 32 = .ok (.invokestatic 222, 3) := by decide +kernel
theorem dX12_series_35 : decode cX12_series 35 = .ok (.ifCond .ne 5, 3) := by decide +kernel
theorem dX12_series_38 : decode cX12_series 38 = .ok (.iconst (-1), 1) := by decide +kernel
theorem dX12_series_39 : decode cX12_series 39 = .ok (.ireturn, 1) := by decide +kernel
theorem dX12_series_40 : decode cX12_series 40 = .ok (.aload_n 0, 1) := by decide +kernel
theorem dX12_series_41 : decode cX12_series 41 = .ok (.iload_n 1, 1) := by decide +kernel
theorem dX12_series_42 : decode cX12_series 42 = .ok (.invokevirtual 589, 3) := by decide +kernel
theorem dX12_series_45 : decode cX12_series 45 = .ok (.istore_n 3, 1) := by decide +kernel
theorem dX12_series_46 : decode cX12_series 46 = .ok (.ldc_w 476, 3) := by decide +kernel
theorem dX12_series_49 : decode cX12_series 49 = .ok (.istore 4, 2) := by decide +kernel
theorem dX12_series_51 : decode cX12_series 51 = .ok (.iconst 0, 1) := by decide +kernel
theorem dX12_series_52 : decode cX12_series 52 = .ok (.istore 5, 2) := by decide +kernel
theorem dX12_series_54 : decode cX12_series 54 = .ok (.iload 5, 2) := by decide +kernel
theorem dX12_series_56 : decode cX12_series 56 = .ok (.iload_n 3, 1) := by decide +kernel
theorem dX12_series_57 : decode cX12_series 57 = .ok (.iload_n 3, 1) := by decide +kernel
theorem dX12_series_58 : decode cX12_series 58 = .ok (.invokestatic 592, 3) := by decide +kernel
theorem dX12_series_61 : decode cX12_series 61 = .ok (.if_icmp .ge 74, 3) := by decide +kernel
theorem dX12_series_64 : decode cX12_series 64 = .ok (.aload_n 0, 1) := by decide +kernel
theorem dX12_series_65 : decode cX12_series 65 = .ok (.iload 5, 2) := by decide +kernel
theorem dX12_series_67 : decode cX12_series 67 = .ok (.iload_n 3, 1) := by decide +kernel
theorem dX12_series_68 : decode cX12_series 68 = .ok (.iload_n 3, 1) := by decide +kernel
theorem dX12_series_69 : decode cX12_series 69 = .ok (.invokevirtual 595, 3) := by decide +kernel
theorem dX12_series_72 : decode cX12_series 72 = .ok (.aload_n 0, 1) := by decide +kernel
theorem dX12_series_73 : decode cX12_series 73 = .ok (.iload_n 3, 1) := by decide +kernel
theorem dX12_series_74 : decode cX12_series 74 = .ok (.invokevirtual 598, 3) := by decide +kernel
theorem dX12_series_77 : decode cX12_series 77 = .ok (.ifCond .eq 52, 3) := by decide +kernel
theorem dX12_series_80 : decode cX12_series 80 = .ok (.aload_n 0, 1) := by decide +kernel
theorem dX12_series_81 : decode cX12_series 81 = .ok (.iload_n 3, 1) := by decide +kernel
theorem dX12_series_82 : decode cX12_series 82 = .ok (.invokevirtual 601, 3) := by decide +kernel
theorem dX12_series_85 : decode cX12_series 85 = .ok (.iload 4, 2) := by decide +kernel
theorem dX12_series_87 : decode cX12_series 87 = .ok (.if_icmp .lt 6, 3) := by decide +kernel
theorem dX12_series_90 : decode cX12_series 90 = .ok (.goto 39, 3) := by decide +kernel
theorem dX12_series_93 : decode cX12_series 93 = .ok (.aload_n 0, 1) := by decide +kernel
theorem dX12_series_94 : decode cX12_series 94 = .ok (.iload_n 3, 1) := by decide +kernel
theorem dX12_series_95 : decode cX12_series 95 = .ok (.invokevirtual 601, 3) := by decide +kernel
theorem dX12_series_98 : decode cX12_series 98 = .ok (.istore 4, 2) := by decide +kernel
theorem dX12_series_100 : decode cX12_series 100 = .ok (.iconst 0, 1) := by decide +kernel
theorem dX12_series_101 : decode cX12_series 101 = .ok (.istore 6, 2) := by decide +kernel
theorem dX12_series_103 : decode cX12_series 103 = .ok (.iload 6, 2) := by decide +kernel
theorem dX12_series_105 : decode cX12_series 105 = .ok (.iload_n 3, 1) := by decide +kernel
theorem dX12_series_106 : decode cX12_series 106 = .ok (.if_icmp .ge 23, 3) := by decide +kernel
theorem dX12_series_109 : decode cX12_series 109 = .ok (.aload_n 0, 1) := by decide +kernel
theorem dX12_series_110 : decode cX12_series 110 = .ok (.getfield 188, 3) := by decide +kernel
theorem dX12_series_113 : decode cX12_series 113 = .ok (.iload 6, 2) := by decide +kernel
theorem dX12_series_115 : decode cX12_series 115 = .ok (.aload_n 0, 1) := by decide +kernel
theorem dX12_series_116 : decode cX12_series 116 = .ok (.getfield 185, 3) := by decide +kernel
theorem dX12_series_119 : decode cX12_series 119 = .ok (.iload 6, 2) := by decide +kernel
theorem dX12_series_121 : decode cX12_series 121 = .ok (.iaload, 1) := by decide +kernel
theorem dX12_series_122 : decode cX12_series 122 = .ok (.iastore, 1) := by decide +kernel
theorem dX12_series_123 : decode cX12_series 123 = .ok (.iinc 6 1, 3) := by decide +kernel
theorem dX12_series_126 : decode cX12_series 126 = .ok (.goto (-23), 3) := by decide +kernel
theorem dX12_series_129 : decode cX12_series 129 = .ok (.iinc 5 1, 3) := by decide +kernel
theorem dX12_series_132 : decode cX12_series 132 = .ok (.goto (-78), 3) := by decide +kernel
theorem dX12_series_135 : decode cX12_series 135 = .ok (.iload_n 2, 1) := by decide +kernel
theorem dX12_series_136 : decode cX12_series 136 = .ok (.bipush 20, 2) := by decide +kernel
theorem dX12_series_138 : decode cX12_series 138 = .ok (.if_icmp .ne 11, 3) := by decide +kernel
theorem dX12_series_141 : decode cX12_series 141 = .ok (.iload 4, 2) := by decide +kernel
theorem dX12_series_143 : decode cX12_series 143 = .ok (.bipush 100, 2) := by decide +kernel
theorem dX12_series_145 : decode cX12_series 145 = .ok (.idiv, 1) := by decide +kernel
theorem dX12_series_146 : decode cX12_series 146 = .ok (.goto 28, 3) := by decide +kernel
theorem dX12_series_149 : decode cX12_series 149 = .ok (.iload_n 2, 1) := by decide +kernel
theorem dX12_series_150 : decode cX12_series 150 = .ok (.bipush 21, 2) := by decide +kernel
theorem dX12_series_152 : decode cX12_series 152 = .ok (.if_icmp .ne 11, 3) := by decide +kernel
theorem dX12_series_155 : decode cX12_series 155 = .ok (.iload 4, 2) := by decide +kernel
theorem dX12_series_157 : decode cX12_series 157 = .ok (.bipush 100, 2) := by decide +kernel
theorem dX12_series_159 : decode cX12_series 159 = .ok (.irem, 1) := by decide +kernel
theorem dX12_series_160 : decode cX12_series 160 = .ok (.goto 14, 3) := by decide +kernel
theorem dX12_series_163 : decode cX12_series 163 = .ok (.aload_n 0, 1) := by decide +kernel
theorem dX12_series_164 : decode cX12_series 164 = .ok (.getfield 182, 3) := by decide +kernel
theorem dX12_series_167 : decode cX12_series 167 = .ok (.aload_n 0, 1) := by decide +kernel
theorem dX12_series_168 : decode cX12_series 168 = .ok (.getfield 188, 3) := by decide +kernel
theorem dX12_series_171 : decode cX12_series 171 = .ok (.iload_n 2, 1) := by decide +kernel
theorem dX12_series_172 : decode cX12_series 172 = .ok (.iaload, 1) := by decide +kernel
theorem dX12_series_173 : decode cX12_series 173 = .ok (.iaload, 1) := by decide +kernel
theorem dX12_series_174 : decode cX12_series 174 = .ok (.ireturn, 1) := by decide +kernel
theorem dX12_pagesOf_0 : decode cX12_pagesOf 0 = .ok (.iconst 0, 1) := by decide +kernel
theorem dX12_pagesOf_1 : decode cX12_pagesOf 1 = .ok (.istore_n 3, 1) := by decide +kernel
theorem dX12_pagesOf_2 : decode cX12_pagesOf 2 = .ok (.iload_n 1, 1) := by decide +kernel
theorem dX12_pagesOf_3 : decode cX12_pagesOf 3 = .ok (.istore 4, 2) := by decide +kernel
theorem dX12_pagesOf_5 : decode cX12_pagesOf 5 = .ok (.iload 4, 2) := by decide +kernel
theorem dX12_pagesOf_7 : decode cX12_pagesOf 7 = .ok (.iload_n 2, 1) := by decide +kernel
theorem dX12_pagesOf_8 : decode cX12_pagesOf 8 = .ok (.if_icmp .ge 24, 3) := by decide +kernel
theorem dX12_pagesOf_11 : decode cX12_pagesOf 11 = .ok (.iload_n 3, 1) := by decide +kernel
theorem dX12_pagesOf_12 : decode cX12_pagesOf 12 = .ok (.aload_n 0, 1) := by decide +kernel
theorem dX12_pagesOf_13 : decode cX12_pagesOf 13 = .ok (.getfield 21, 3) := by decide +kernel
theorem dX12_pagesOf_16 : decode cX12_pagesOf 16 = .ok (.aload_n 0, 1) := by decide +kernel
theorem dX12_pagesOf_17 : decode cX12_pagesOf 17 = .ok (.getfield 182, 3) := by decide +kernel
theorem dX12_pagesOf_20 : decode cX12_pagesOf 20 = .ok (.iload 4, 2) := by decide +kernel
theorem dX12_pagesOf_22 : decode cX12_pagesOf 22 = .ok (.iaload, 1) := by decide +kernel
theorem dX12_pagesOf_23 : decode cX12_pagesOf 23 = .ok (.iaload, 1) := by decide +kernel
theorem dX12_pagesOf_24 : decode cX12_pagesOf 24 = .ok (.iadd, 1) := by decide +kernel
theorem dX12_pagesOf_25 : decode cX12_pagesOf 25 = .ok (.istore_n 3, 1) := by decide +kernel
theorem dX12_pagesOf_26 : decode cX12_pagesOf 26 = .ok (.iinc 4 1, 3) := by decide +kernel
theorem dX12_pagesOf_29 : decode cX12_pagesOf 29 = .ok (.goto (-24), 3) := by decide +kernel
theorem dX12_pagesOf_32 : decode cX12_pagesOf 32 = .ok (.iload_n 3, 1) := by decide +kernel
theorem dX12_pagesOf_33 : decode cX12_pagesOf 33 = .ok (.ireturn, 1) := by decide +kernel
theorem dX12_higher_0 : decode cX12_higher 0 = .ok (.iload_n 0, 1) := by decide +kernel
theorem dX12_higher_1 : decode cX12_higher 1 = .ok (.iload_n 1, 1) := by decide +kernel
theorem dX12_higher_2 : decode cX12_higher 2 = .ok (.if_icmp .le 7, 3) := by decide +kernel
theorem dX12_higher_5 : decode cX12_higher 5 = .ok (.iload_n 0, 1) := by decide +kernel
theorem dX12_higher_6 : decode cX12_higher 6 = .ok (.goto 4, 3) := by decide +kernel
theorem dX12_higher_9 : decode cX12_higher 9 = .ok (.iload_n 1, 1) := by decide +kernel
theorem dX12_higher_10 : decode cX12_higher 10 = .ok (.ireturn, 1) := by decide +kernel
theorem dX12_book_0 : decode cX12_book 0 = .ok (.aload_n 0, 1) := by decide +kernel
theorem dX12_book_1 : decode cX12_book 1 = .ok (.iload_n 1, 1) := by decide +kernel
theorem dX12_book_2 : decode cX12_book 2 = .ok (.iconst 1, 1) := by decide +kernel
theorem dX12_book_3 : decode cX12_book 3 = .ok (.bipush 6, 2) := by decide +kernel
theorem dX12_book_5 : decode cX12_book 5 = .ok (.invokevirtual 585, 3) := by decide +kernel
theorem dX12_book_8 : decode cX12_book 8 = .ok (.ifCond .eq 35, 3) := by decide +kernel
theorem dX12_book_11 : decode cX12_book 11 = .ok (.iload_n 2, 1) := by decide +kernel
theorem dX12_book_12 : decode cX12_book 12 = .ok (.i2l, 1) := by decide +kernel
theorem dX12_book_13 : decode cX12_book 13 = .ok (.lconst 1, 1) := by decide +kernel
theorem dX12_book_14 : decode cX12_book 14 = .ok (.ldc2_w 459, 3) := by decide +kernel
theorem dX12_book_17 : decode cX12_book 17 = .ok (.invokestatic 222, 3) := by decide +kernel
theorem dX12_book_20 : decode cX12_book 20 = .ok (.ifCond .eq 23, 3) := by decide +kernel
theorem dX12_book_23 : decode cX12_book 23 = .ok (.iload_n 2, 1) := by decide +kernel
theorem dX12_book_24 : decode cX12_book 24 = .ok (.iload_n 1, 1) := by decide +kernel
theorem dX12_book_25 : decode cX12_book 25 = .ok (.invokestatic 289, 3) := by decide +kernel
theorem dX12_book_28 : decode cX12_book 28 = .ok (.if_icmp .gt 15, 3) := by decide +kernel
theorem dX12_book_31 : decode cX12_book 31 = .ok (.iload_n 3, 1) := by decide +kernel
theorem dX12_book_32 : decode cX12_book 32 = .ok (.i2l, 1) := by decide +kernel
theorem dX12_book_33 : decode cX12_book 33 = .ok (.lconst 0, 1) := by decide +kernel
theorem dX12_book_34 : decode cX12_book 34 = .ok (.ldc2_w 578, 3) := by decide +kernel
theorem dX12_book_37 : decode cX12_book 37 = .ok (.invokestatic 222, 3) := by decide +kernel
theorem dX12_book_40 : decode cX12_book 40 = .ok (.ifCond .ne 5, 3) := by decide +kernel
theorem dX12_book_43 : decode cX12_book 43 = .ok (.iconst (-1), 1) := by decide +kernel
theorem dX12_book_44 : decode cX12_book 44 = .ok (.ireturn, 1) := by decide +kernel
theorem dX12_book_45 : decode cX12_book 45 = .ok (.aload_n 0, 1) := by decide +kernel
theorem dX12_book_46 : decode cX12_book 46 = .ok (.iload_n 1, 1) := by decide +kernel
theorem dX12_book_47 : decode cX12_book 47 = .ok (.invokevirtual 589, 3) := by decide +kernel
theorem dX12_book_50 : decode cX12_book 50 = .ok (.istore 4, 2) := by decide +kernel
theorem dX12_book_52 : decode cX12_book 52 = .ok (.ldc_w 476, 3) := by decide +kernel
theorem dX12_book_55 : decode cX12_book 55 = .ok (.istore 5, 2) := by decide +kernel
theorem dX12_book_57 : decode cX12_book 57 = .ok (.iload 4, 2) := by decide +kernel
theorem dX12_book_59 : decode cX12_book 59 = .ok (.istore 6, 2) := by decide +kernel
theorem dX12_book_61 : decode cX12_book 61 = .ok (.iload 4, 2) := by decide +kernel
theorem dX12_book_63 : decode cX12_book 63 = .ok (.istore 7, 2) := by decide +kernel
theorem dX12_book_65 : decode cX12_book 65 = .ok (.iconst 1, 1) := by decide +kernel
theorem dX12_book_66 : decode cX12_book 66 = .ok (.istore 8, 2) := by decide +kernel
theorem dX12_book_68 : decode cX12_book 68 = .ok (.iload 8, 2) := by decide +kernel
theorem dX12_book_70 : decode cX12_book 70 = .ok (.iload 4, 2) := by decide +kernel
theorem dX12_book_72 : decode cX12_book 72 = .ok (.if_icmp .gt 159, 3) := by decide +kernel
theorem dX12_book_75 : decode cX12_book 75 = .ok (.iload 8, 2) := by decide +kernel
theorem dX12_book_77 : decode cX12_book 77 = .ok (.istore 9, 2) := by decide +kernel
theorem dX12_book_79 : decode cX12_book 79 = .ok (.iload 9, 2) := by decide +kernel
theorem dX12_book_81 : decode cX12_book 81 = .ok (.iload 4, 2) := by decide +kernel
theorem dX12_book_83 : decode cX12_book 83 = .ok (.if_icmp .gt 142, 3) := by decide +kernel
theorem dX12_book_86 : decode cX12_book 86 = .ok (.iload_n 2, 1) := by decide +kernel
theorem dX12_book_87 : decode cX12_book 87 = .ok (.iconst 1, 1) := by decide +kernel
theorem dX12_book_88 : decode cX12_book 88 = .ok (.if_icmp .ne 25, 3) := by decide +kernel
theorem dX12_book_91 : decode cX12_book 91 = .ok (.iload 8, 2) := by decide +kernel
theorem dX12_book_93 : decode cX12_book 93 = .ok (.iload 4, 2) := by decide +kernel
theorem dX12_book_95 : decode cX12_book 95 = .ok (.if_icmp .ne 14, 3) := by decide +kernel
theorem dX12_book_98 : decode cX12_book 98 = .ok (.iload 9, 2) := by decide +kernel
theorem dX12_book_100 : decode cX12_book 100 = .ok (.iload 4, 2) := by decide +kernel
theorem dX12_book_102 : decode cX12_book 102 = .ok (.if_icmp .ne 7, 3) := by decide +kernel
theorem dX12_book_105 : decode cX12_book 105 = .ok (.iconst 1, 1) := by decide +kernel
theorem dX12_book_106 : decode cX12_book 106 = .ok (.goto 53, 3) := by decide +kernel
theorem dX12_book_109 : decode cX12_book 109 = .ok (.iconst 0, 1) := by decide +kernel
theorem dX12_book_110 : decode cX12_book 110 = .ok (.goto 49, 3) := by decide +kernel
theorem dX12_book_113 : decode cX12_book 113 = .ok (.iload_n 2, 1) := by decide +kernel
theorem dX12_book_114 : decode cX12_book 114 = .ok (.iconst 2, 1) := by decide +kernel
theorem dX12_book_115 : decode cX12_book 115 = .ok (.if_icmp .ne 25, 3) := by decide +kernel
theorem dX12_book_118 : decode cX12_book 118 = .ok (.iload 8, 2) := by decide +kernel
theorem dX12_book_120 : decode cX12_book 120 = .ok (.iload 4, 2) := by decide +kernel
theorem dX12_book_122 : decode cX12_book 122 = .ok (.if_icmp .ge 14, 3) := by decide +kernel
theorem dX12_book_125 : decode cX12_book 125 = .ok (.iload 9, 2) := by decide +kernel
theorem dX12_book_127 : decode cX12_book 127 = .ok (.iload 4, 2) := by decide +kernel
theorem dX12_book_129 : decode cX12_book 129 = .ok (.if_icmp .ne 7, 3) := by decide +kernel
theorem dX12_book_132 : decode cX12_book 132 = .ok (.iconst 1, 1) := by decide +kernel
theorem dX12_book_133 : decode cX12_book 133 = .ok (.goto 26, 3) := by decide +kernel
theorem dX12_book_136 : decode cX12_book 136 = .ok (.iconst 0, 1) := by decide +kernel
theorem dX12_book_137 : decode cX12_book 137 = .ok (.goto 22, 3) := by decide +kernel
theorem dX12_book_140 : decode cX12_book 140 = .ok (.iload 8, 2) := by decide +kernel
theorem dX12_book_142 : decode cX12_book 142 = .ok (.iload 9, 2) := by decide +kernel
theorem dX12_book_144 : decode cX12_book 144 = .ok (.if_icmp .ge 14, 3) := by decide +kernel
theorem dX12_book_147 : decode cX12_book 147 = .ok (.iload 9, 2) := by decide +kernel
theorem dX12_book_149 : decode cX12_book 149 = .ok (.iload 4, 2) := by decide +kernel
theorem dX12_book_151 : decode cX12_book 151 = .ok (.if_icmp .ge 7, 3) := by decide +kernel
theorem dX12_book_154 : decode cX12_book 154 = .ok (.iconst 1, 1) := by decide +kernel
theorem dX12_book_155 : decode cX12_book 155 = .ok (.goto 4, 3) := by decide +kernel
theorem dX12_book_158 : decode cX12_book 158 = .ok (.iconst 0, 1) := by decide +kernel
theorem dX12_book_159 : decode cX12_book 159 = .ok (.istore 10, 2) := by decide +kernel
theorem dX12_book_161 : decode cX12_book 161 = .ok (.aload_n 0, 1) := by decide +kernel
theorem dX12_book_162 : decode cX12_book 162 = .ok (.iconst 0, 1) := by decide +kernel
theorem dX12_book_163 : decode cX12_book 163 = .ok (.iload 8, 2) := by decide +kernel
theorem dX12_book_165 : decode cX12_book 165 = .ok (.invokevirtual 604, 3) := by decide +kernel
theorem dX12_book_168 : decode cX12_book 168 = .ok (.aload_n 0, 1) := by decide +kernel
theorem dX12_book_169 : decode cX12_book 169 = .ok (.iload 8, 2) := by decide +kernel
theorem dX12_book_171 : decode cX12_book 171 = .ok (.iload 9, 2) := by decide +kernel
theorem dX12_book_173 : decode cX12_book 173 = .ok (.invokevirtual 604, 3) := by decide +kernel
theorem dX12_book_176 : decode cX12_book 176 = .ok (.aload_n 0, 1) := by decide +kernel
theorem dX12_book_177 : decode cX12_book 177 = .ok (.iload 9, 2) := by decide +kernel
theorem dX12_book_179 : decode cX12_book 179 = .ok (.iload 4, 2) := by decide +kernel
theorem dX12_book_181 : decode cX12_book 181 = .ok (.invokevirtual 604, 3) := by decide +kernel
theorem dX12_book_184 : decode cX12_book 184 = .ok (.invokestatic 607, 3) := by decide +kernel
theorem dX12_book_187 : decode cX12_book 187 = .ok (.invokestatic 607, 3) := by decide +kernel
theorem dX12_book_190 : decode cX12_book 190 = .ok (.istore 11, 2) := by decide +kernel
theorem dX12_book_192 : decode cX12_book 192 = .ok (.iload 10, 2) := by decide +kernel
theorem dX12_book_194 : decode cX12_book 194 = .ok (.ifCond .eq 25, 3) := by decide +kernel
theorem dX12_book_197 : decode cX12_book 197 = .ok (.iload 11, 2) := by decide +kernel
theorem dX12_book_199 : decode cX12_book 199 = .ok (.iload 5, 2) := by decide +kernel
theorem dX12_book_201 : decode cX12_book 201 = .ok (.if_icmp .lt 6, 3) := by decide +kernel
theorem dX12_book_204 : decode cX12_book 204 = .ok (.goto 15, 3) := by decide +kernel
theorem dX12_book_207 : decode cX12_book 207 = .ok (.iload 11, 2) := by decide +kernel
theorem dX12_book_209 : decode cX12_book 209 = .ok (.istore 5, 2) := by decide +kernel
theorem dX12_book_211 : decode cX12_book 211 = .ok (.iload 8, 2) := by decide +kernel
theorem dX12_book_213 : decode cX12_book 213 = .ok (.istore 6, 2) := by decide +kernel
theorem dX12_book_215 : decode cX12_book 215 = .ok (.iload 9, 2) := by decide +kernel
theorem dX12_book_217 : decode cX12_book 217 = .ok (.istore 7, 2) := by decide +kernel
theorem dX12_book_219 : decode cX12_book 219 = .ok (.iinc 9 1, 3) := by decide +kernel
theorem dX12_book_222 : decode cX12_book 222 = .ok (.goto (-143), 3) := by decide +kernel
theorem dX12_book_225 : decode cX12_book 225 = .ok (.iinc 8 1, 3) := by decide +kernel
theorem dX12_book_228 : decode cX12_book 228 = .ok (.goto (-160), 3) := by decide +kernel
theorem dX12_book_231 : decode cX12_book 231 = .ok (.iload_n 3, 1) := by decide +kernel
theorem dX12_book_232 : decode cX12_book 232 = .ok (.ifCond .ne 6, 3) := by decide +kernel
theorem dX12_book_235 : decode cX12_book 235 = .ok (.iload 5, 2) := by decide +kernel
theorem dX12_book_237 : decode cX12_book 237 = .ok (.ireturn, 1) := by decide +kernel
theorem dX12_book_238 : decode cX12_book 238 = .ok (.iload_n 3, 1) := by decide +kernel
theorem dX12_book_239 : decode cX12_book 239 = .ok (.iconst 1, 1) := by decide +kernel
theorem dX12_book_240 : decode cX12_book 240 = .ok (.if_icmp .ne 8, 3) := by decide +kernel
theorem dX12_book_243 : decode cX12_book 243 = .ok (.iload 6, 2) := by decide +kernel
theorem dX12_book_245 : decode cX12_book 245 = .ok (.goto 5, 3) := by decide +kernel
theorem dX12_book_248 : decode cX12_book 248 = .ok (.iload 7, 2) := by decide +kernel
theorem dX12_book_250 : decode cX12_book 250 = .ok (.istore 8, 2) := by decide +kernel
theorem dX12_book_252 : decode cX12_book 252 = .ok (.iload 8, 2) := by decide +kernel
theorem dX12_book_254 : decode cX12_book 254 = .ok (.iload 4, 2) := by decide +kernel
theorem dX12_book_256 : decode cX12_book 256 = .ok (.if_icmp .ge 13, 3) := by decide +kernel
theorem dX12_book_259 : decode cX12_book 259 = .ok (.aload_n 0, 1) := by decide +kernel
theorem dX12_book_260 : decode cX12_book 260 = .ok (.getfield 182, 3) := by decide +kernel
theorem dX12_book_263 : decode cX12_book 263 = .ok (.iload 8, 2) := by decide +kernel
theorem dX12_book_265 : decode cX12_book 265 = .ok (.iaload, 1) := by decide +kernel
theorem dX12_book_266 : decode cX12_book 266 = .ok (.goto 5, 3) := by decide +kernel
theorem dX12_book_269 : decode cX12_book 269 = .ok (.bipush (-2), 2) := by decide +kernel
theorem dX12_book_271 : decode cX12_book 271 = .ok (.ireturn, 1) := by decide +kernel
theorem dX12_winter_0 : decode cX12_winter 0 = .ok (.iconst 0, 1) := by decide +kernel
theorem dX12_winter_1 : decode cX12_winter 1 = .ok (.istore 4, 2) := by decide +kernel
theorem dX12_winter_3 : decode cX12_winter 3 = .ok (.iconst 0, 1) := by decide +kernel
theorem dX12_winter_4 : decode cX12_winter 4 = .ok (.istore 5, 2) := by decide +kernel
theorem dX12_winter_6 : decode cX12_winter 6 = .ok (.iload 5, 2) := by decide +kernel
theorem dX12_winter_8 : decode cX12_winter 8 = .ok (.bipush 10, 2) := by decide +kernel
theorem dX12_winter_10 : decode cX12_winter 10 = .ok (.if_icmp .ge 32, 3) := by decide +kernel
theorem dX12_winter_13 : decode cX12_winter 13 = .ok (.iload 4, 2) := by decide +kernel
theorem dX12_winter_15 : decode cX12_winter 15 = .ok (.aload_n 0, 1) := by decide +kernel
theorem dX12_winter_16 : decode cX12_winter 16 = .ok (.getfield 88, 3) := by decide +kernel
theorem dX12_winter_19 : decode cX12_winter 19 = .ok (.iload 5, 2) := by decide +kernel
theorem dX12_winter_21 : decode cX12_winter 21 = .ok (.baload, 1) := by decide +kernel
theorem dX12_winter_22 : decode cX12_winter 22 = .ok (.ifCond .eq 10, 3) := by decide +kernel
theorem dX12_winter_25 : decode cX12_winter 25 = .ok (.iconst 1, 1) := by decide +kernel
theorem dX12_winter_26 : decode cX12_winter 26 = .ok (.iload 5, 2) := by decide +kernel
theorem dX12_winter_28 : decode cX12_winter 28 = .ok (.ishl, 1) := by decide +kernel
theorem dX12_winter_29 : decode cX12_winter 29 = .ok (.goto 4, 3) := by decide +kernel
theorem dX12_winter_32 : decode cX12_winter 32 = .ok (.iconst 0, 1) := by decide +kernel
theorem dX12_winter_33 : decode cX12_winter 33 = .ok (.ior, 1) := by decide +kernel
theorem dX12_winter_34 : decode cX12_winter 34 = .ok (.istore 4, 2) := by decide +kernel
theorem dX12_winter_36 : decode cX12_winter 36 = .ok (.iinc 5 1, 3) := by decide +kernel
theorem dX12_winter_39 : decode cX12_winter 39 = .ok (.goto (-33), 3) := by decide +kernel
theorem dX12_winter_42 : decode cX12_winter 42 = .ok (.iload_n 1, 1) := by decide +kernel
theorem dX12_winter_43 : decode cX12_winter 43 = .ok (.i2l, 1) := by decide +kernel
theorem dX12_winter_44 : decode cX12_winter 44 = .ok (.lconst 0, 1) := by decide +kernel
theorem dX12_winter_45 : decode cX12_winter 45 = .ok (.ldc2_w 610, 3) := by decide +kernel
theorem dX12_winter_48 : decode cX12_winter 48 = .ok (.invokestatic 222, 3) := by decide +kernel
theorem dX12_winter_51 : decode cX12_winter 51 = .ok (.ifCond .eq 37, 3) := by decide +kernel
theorem dX12_winter_54 : decode cX12_winter 54 = .ok (.iload_n 2, 1) := by decide +kernel
theorem dX12_winter_55 : decode cX12_winter 55 = .ok (.iconst 1, 1) := by decide +kernel
theorem dX12_winter_56 : decode cX12_winter 56 = .ok (.if_icmp .lt 32, 3) := by decide +kernel
theorem dX12_winter_59 : decode cX12_winter 59 = .ok (.iload_n 2, 1) := by decide +kernel
theorem dX12_winter_60 : decode cX12_winter 60 = .ok (.iload 4, 2) := by decide +kernel
theorem dX12_winter_62 : decode cX12_winter 62 = .ok (.invokestatic 289, 3) := by decide +kernel
theorem dX12_winter_65 : decode cX12_winter 65 = .ok (.if_icmp .ne 23, 3) := by decide +kernel
theorem dX12_winter_68 : decode cX12_winter 68 = .ok (.iload_n 3, 1) := by decide +kernel
theorem dX12_winter_69 : decode cX12_winter 69 = .ok (.i2l, 1) := by decide +kernel
theorem dX12_winter_70 : decode cX12_winter 70 = .ok (.lconst 0, 1) := by decide +kernel
theorem dX12_winter_71 : decode cX12_winter 71 = .ok (.ldc2_w 578, 3) := by decide +kernel
theorem dX12_winter_74 : decode cX12_winter 74 = .ok (.invokestatic 222, 3) := by decide +kernel
theorem dX12_winter_77 : decode cX12_winter 77 = .ok (.ifCond .eq 11, 3) := by decide +kernel
theorem dX12_winter_80 : decode cX12_winter 80 = .ok (.iload_n 2, 1) := by decide +kernel
theorem dX12_winter_81 : decode cX12_winter 81 = .ok (.aload_n 0, 1) := by decide +kernel
theorem dX12_winter_82 : decode cX12_winter 82 = .ok (.getfield 198, 3) := by decide +kernel
theorem dX12_winter_85 : decode cX12_winter 85 = .ok (.if_icmp .le 5, 3) := by decide +kernel
theorem dX12_winter_88 : decode cX12_winter 88 = .ok (.iconst (-1), 1) := by decide +kernel
theorem dX12_winter_89 : decode cX12_winter 89 = .ok (.ireturn, 1) := by decide +kernel
theorem dX12_winter_90 : decode cX12_winter 90 = .ok (.aload_n 0, 1) := by decide +kernel
theorem dX12_winter_91 : decode cX12_winter 91 = .ok (.iconst 0, 1) := by decide +kernel
theorem dX12_winter_92 : decode cX12_winter 92 = .ok (.putfield 198, 3) := by decide +kernel
theorem dX12_winter_95 : decode cX12_winter 95 = .ok (.iconst 0, 1) := by decide +kernel
theorem dX12_winter_96 : decode cX12_winter 96 = .ok (.istore 5, 2) := by decide +kernel
theorem dX12_winter_98 : decode cX12_winter 98 = .ok (.iload 5, 2) := by decide +kernel
theorem dX12_winter_100 : decode cX12_winter 100 = .ok (.iload_n 2, 1) := by decide +kernel
theorem dX12_winter_101 : decode cX12_winter 101 = .ok (.if_icmp .ge 23, 3) := by decide +kernel
theorem dX12_winter_104 : decode cX12_winter 104 = .ok (.aload_n 0, 1) := by decide +kernel
theorem dX12_winter_105 : decode cX12_winter 105 = .ok (.iload 5, 2) := by decide +kernel
theorem dX12_winter_107 : decode cX12_winter 107 = .ok (.invokevirtual 612, 3) := by decide +kernel
theorem dX12_winter_110 : decode cX12_winter 110 = .ok (.bipush 10, 2) := by decide +kernel
theorem dX12_winter_112 : decode cX12_winter 112 = .ok (.if_icmp .le 6, 3) := by decide +kernel
theorem dX12_winter_115 : decode cX12_winter 115 = .ok (.bipush (-2), 2) := by decide +kernel
theorem dX12_winter_117 : decode cX12_winter 117 = .ok (.ireturn, 1) := by decide +kernel
theorem dX12_winter_118 : decode cX12_winter 118 = .ok (.iinc 5 1, 3) := by decide +kernel
theorem dX12_winter_121 : decode cX12_winter 121 = .ok (.goto (-23), 3) := by decide +kernel
theorem dX12_winter_124 : decode cX12_winter 124 = .ok (.aload_n 0, 1) := by decide +kernel
theorem dX12_winter_125 : decode cX12_winter 125 = .ok (.iload 4, 2) := by decide +kernel
theorem dX12_winter_127 : decode cX12_winter 127 = .ok (.invokevirtual 589, 3) := by decide +kernel
theorem dX12_winter_130 : decode cX12_winter 130 = .ok (.istore 5, 2) := by decide +kernel
theorem dX12_winter_132 : decode cX12_winter 132 = .ok (.iconst 0, 1) := by decide +kernel
theorem dX12_winter_133 : decode cX12_winter 133 = .ok (.istore 6, 2) := by decide +kernel
theorem dX12_winter_135 : decode cX12_winter 135 = .ok (.iconst (-1), 1) := by decide +kernel
theorem dX12_winter_136 : decode cX12_winter 136 = .ok (.istore 7, 2) := by decide +kernel
theorem dX12_winter_138 : decode cX12_winter 138 = .ok (.iconst 0, 1) := by decide +kernel
theorem dX12_winter_139 : decode cX12_winter 139 = .ok (.istore 8, 2) := by decide +kernel
theorem dX12_winter_141 : decode cX12_winter 141 = .ok (.iconst 0, 1) := by decide +kernel
theorem dX12_winter_142 : decode cX12_winter 142 = .ok (.istore 9, 2) := by decide +kernel
theorem dX12_winter_144 : decode cX12_winter 144 = .ok (.iload 9, 2) := by decide +kernel
theorem dX12_winter_146 : decode cX12_winter 146 = .ok (.iconst 1, 1) := by decide +kernel
theorem dX12_winter_147 : decode cX12_winter 147 = .ok (.iload 5, 2) := by decide +kernel
theorem dX12_winter_149 : decode cX12_winter 149 = .ok (.ishl, 1) := by decide +kernel
theorem dX12_winter_150 : decode cX12_winter 150 = .ok (.if_icmp .ge 144, 3) := by decide +kernel
theorem dX12_winter_153 : decode cX12_winter 153 = .ok (.iconst 0, 1) := by decide +kernel
theorem dX12_winter_154 : decode cX12_winter 154 = .ok (.istore 10, 2) := by decide +kernel
theorem dX12_winter_156 : decode cX12_winter 156 = .ok (.iconst 0, 1) := by decide +kernel
theorem dX12_winter_157 : decode cX12_winter 157 = .ok (.istore 11, 2) := by decide +kernel
theorem dX12_winter_159 : decode cX12_winter 159 = .ok (.iconst 0, 1) := by decide +kernel
theorem dX12_winter_160 : decode cX12_winter 160 = .ok (.istore 12, 2) := by decide +kernel
theorem dX12_winter_162 : decode cX12_winter 162 = .ok (.iconst 0, 1) := by decide +kernel
theorem dX12_winter_163 : decode cX12_winter 163 = .ok (.istore 13, 2) := by decide +kernel
theorem dX12_winter_165 : decode cX12_winter 165 = .ok (.iload 13, 2) := by decide +kernel
theorem dX12_winter_167 : decode cX12_winter 167 = .ok (.iload 5, 2) := by decide +kernel
theorem dX12_winter_169 : decode cX12_winter 169 = .ok (.if_icmp .ge 77, 3) := by decide +kernel
theorem dX12_winter_172 : decode cX12_winter 172 = .ok (.iload 9, 2) := by decide +kernel
theorem dX12_winter_174 : decode cX12_winter 174 = .ok (.iload 13, 2) := by decide +kernel
theorem dX12_winter_176 : decode cX12_winter 176 = .ok (.invokestatic 194, 3) := by decide +kernel
theorem dX12_winter_179 : decode cX12_winter 179 = .ok (.ifCond .ne 6, 3) := by decide +kernel
theorem dX12_winter_182 : decode cX12_winter 182 = .ok (.goto 58, 3) := by decide +kernel
theorem dX12_winter_185 : decode cX12_winter 185 = .ok (.iload 10, 2) := by decide +kernel
theorem dX12_winter_187 : decode cX12_winter 187 = .ok (.aload_n 0, 1) := by decide +kernel
theorem dX12_winter_188 : decode cX12_winter 188 = .ok (.iload 13, 2) := by decide +kernel
theorem dX12_winter_190 : decode cX12_winter 190 = .ok (.invokevirtual 612, 3) := by decide +kernel
theorem dX12_winter_193 : decode cX12_winter 193 = .ok (.aload_n 0, 1) := by decide +kernel
theorem dX12_winter_194 : decode cX12_winter 194 = .ok (.getfield 94, 3) := by decide +kernel
theorem dX12_winter_197 : decode cX12_winter 197 = .ok (.aload_n 0, 1) := by decide +kernel
theorem dX12_winter_198 : decode cX12_winter 198 = .ok (.getfield 182, 3) := by decide +kernel
theorem dX12_winter_201 : decode cX12_winter 201 = .ok (.iload 13, 2) := by decide +kernel
theorem dX12_winter_203 : decode cX12_winter 203 = .ok (.iaload, 1) := by decide +kernel
theorem dX12_winter_204 : decode cX12_winter 204 = .ok (.iaload, 1) := by decide +kernel
theorem dX12_winter_205 : decode cX12_winter 205 = .ok (.imul, 1) := by decide +kernel
theorem dX12_winter_206 : decode cX12_winter 206 = .ok (.iadd, 1) := by decide +kernel
theorem dX12_winter_207 : decode cX12_winter 207 = .ok (.istore 10, 2) := by decide +kernel
theorem dX12_winter_209 : decode cX12_winter 209 = .ok (.iload 11, 2) := by decide +kernel
theorem dX12_winter_211 : decode cX12_winter 211 = .ok (.aload_n 0, 1) := by decide +kernel
theorem dX12_winter_212 : decode cX12_winter 212 = .ok (.getfield 100, 3) := by decide +kernel
theorem dX12_winter_215 : decode cX12_winter 215 = .ok (.aload_n 0, 1) := by decide +kernel
theorem dX12_winter_216 : decode cX12_winter 216 = .ok (.getfield 182, 3) := by decide +kernel
theorem dX12_winter_219 : decode cX12_winter 219 = .ok (.iload 13, 2) := by decide +kernel
theorem dX12_winter_221 : decode cX12_winter 221 = .ok (.iaload, 1) := by decide +kernel
theorem dX12_winter_222 : decode cX12_winter 222 = .ok (.iaload, 1) := by decide +kernel
theorem dX12_winter_223 : decode cX12_winter 223 = .ok (.iadd, 1) := by decide +kernel
theorem dX12_winter_224 : decode cX12_winter 224 = .ok (.istore 11, 2) := by decide +kernel
theorem dX12_winter_226 : decode cX12_winter 226 = .ok (.iload 12, 2) := by decide +kernel
theorem dX12_winter_228 : decode cX12_winter 228 = .ok (.iconst 1, 1) := by decide +kernel
theorem dX12_winter_229 : decode cX12_winter 229 = .ok (.aload_n 0, 1) := by decide +kernel
theorem dX12_winter_230 : decode cX12_winter 230 = .ok (.getfield 182, 3) := by decide +kernel
theorem dX12_winter_233 : decode cX12_winter 233 = .ok (.iload 13, 2) := by decide +kernel
theorem dX12_winter_235 : decode cX12_winter 235 = .ok (.iaload, 1) := by decide +kernel
theorem dX12_winter_236 : decode cX12_winter 236 = .ok (.ishl, 1) := by decide +kernel
theorem dX12_winter_237 : decode cX12_winter 237 = .ok (.ior, 1) := by decide +kernel
theorem dX12_winter_238 : decode cX12_winter 238 = .ok (.istore 12, 2) := by decide +kernel
theorem dX12_winter_240 : decode cX12_winter 240 = .ok (.iinc 13 1, 3) := by decide +kernel
theorem dX12_winter_243 : decode cX12_winter 243 = .ok (.goto (-78), 3) := by decide +kernel
theorem dX12_winter_246 : decode cX12_winter 246 = .ok (.iload 11, 2) := by decide +kernel
theorem dX12_winter_248 : decode cX12_winter 248 = .ok (.iload_n 1, 1) := by decide +kernel
theorem dX12_winter_249 : decode cX12_winter 249 = .ok (.if_icmp .gt 39, 3) := by decide +kernel
theorem dX12_winter_252 : decode cX12_winter 252 = .ok (.iload 10, 2) := by decide +kernel
theorem dX12_winter_254 : decode cX12_winter 254 = .ok (.iload 7, 2) := by decide +kernel
theorem dX12_winter_256 : decode cX12_winter 256 = .ok (.if_icmp .lt 32, 3) := by decide +kernel
theorem dX12_winter_259 : decode cX12_winter 259 = .ok (.iload 10, 2) := by decide +kernel
theorem dX12_winter_261 : decode cX12_winter 261 = .ok (.iload 7, 2) := by decide +kernel
theorem dX12_winter_263 : decode cX12_winter 263 = .ok (.if_icmp .ne 13, 3) := by decide +kernel
theorem dX12_winter_266 : decode cX12_winter 266 = .ok (.iload 11, 2) := by decide +kernel
theorem dX12_winter_268 : decode cX12_winter 268 = .ok (.iload 8, 2) := by decide +kernel
theorem dX12_winter_270 : decode cX12_winter 270 = .ok (.if_icmp .lt 6, 3) := by decide +kernel
theorem dX12_winter_273 : decode cX12_winter 273 = .ok (.goto 15, 3) := by decide +kernel
theorem dX12_winter_276 : decode cX12_winter 276 = .ok (.iload 12, 2) := by decide +kernel
theorem dX12_winter_278 : decode cX12_winter 278 = .ok (.istore 6, 2) := by decide +kernel
theorem dX12_winter_280 : decode cX12_winter 280 = .ok (.iload 10, 2) := by decide +kernel
theorem dX12_winter_282 : decode cX12_winter 282 = .ok (.istore 7, 2) := by decide +kernel
theorem dX12_winter_284 : decode cX12_winter 284 = .ok (.iload 11, 2) := by decide +kernel
theorem dX12_winter_286 : decode cX12_winter 286 = .ok (.istore 8, 2) := by decide +kernel
theorem dX12_winter_288 : decode cX12_winter 288 = .ok (.iinc 9 1, 3) := by decide +kernel
theorem dX12_winter_291 : decode cX12_winter 291 = .ok (.goto (-147), 3) := by decide +kernel
theorem dX12_winter_294 : decode cX12_winter 294 = .ok (.iload_n 3, 1) := by decide +kernel
theorem dX12_winter_295 : decode cX12_winter 295 = .ok (.ifCond .ne 8, 3) := by decide +kernel
theorem dX12_winter_298 : decode cX12_winter 298 = .ok (.iload 7, 2) := by decide +kernel
theorem dX12_winter_300 : decode cX12_winter 300 = .ok (.goto 15, 3) := by decide +kernel
theorem dX12_winter_303 : decode cX12_winter 303 = .ok (.iload_n 3, 1) := by decide +kernel
theorem dX12_winter_304 : decode cX12_winter 304 = .ok (.iconst 1, 1) := by decide +kernel
theorem dX12_winter_305 : decode cX12_winter 305 = .ok (.if_icmp .ne 8, 3) := by decide +kernel
theorem dX12_winter_308 : decode cX12_winter 308 = .ok (.iload 6, 2) := by decide +kernel
theorem dX12_winter_310 : decode cX12_winter 310 = .ok (.goto 5, 3) := by decide +kernel
theorem dX12_winter_313 : decode cX12_winter 313 = .ok (.iload 8, 2) := by decide +kernel
theorem dX12_winter_315 : decode cX12_winter 315 = .ok (.ireturn, 1) := by decide +kernel
theorem dX12_canHave_0 : decode cX12_canHave 0 = .ok (.iconst 0, 1) := by decide +kernel
theorem dX12_canHave_1 : decode cX12_canHave 1 = .ok (.istore_n 3, 1) := by decide +kernel
theorem dX12_canHave_2 : decode cX12_canHave 2 = .ok (.iconst 0, 1) := by decide +kernel
theorem dX12_canHave_3 : decode cX12_canHave 3 = .ok (.istore 4, 2) := by decide +kernel
theorem dX12_canHave_5 : decode cX12_canHave 5 = .ok (.iconst 0, 1) := by decide +kernel
theorem dX12_canHave_6 : decode cX12_canHave 6 = .ok (.istore 5, 2) := by decide +kernel
theorem dX12_canHave_8 : decode cX12_canHave 8 = .ok (.iload 5, 2) := by decide +kernel
theorem dX12_canHave_10 : decode cX12_canHave 10 = .ok (.bipush 100, 2) := by decide +kernel
theorem dX12_canHave_12 : decode cX12_canHave 12 = .ok (.if_icmp .ge 133, 3) := by decide +kernel
theorem dX12_canHave_15 : decode cX12_canHave 15 = .ok (.aload_n 0, 1) := by decide +kernel
theorem dX12_canHave_16 : decode cX12_canHave 16 = .ok (.getfield 191, 3) := by decide +kernel
theorem dX12_canHave_19 : decode cX12_canHave 19 = .ok (.iload 5, 2) := by decide +kernel
theorem dX12_canHave_21 : decode cX12_canHave 21 = .ok (.baload, 1) := by decide +kernel
theorem dX12_canHave_22 : decode cX12_canHave 22 = .ok (.ifCond .eq 6, 3) := by decide +kernel
theorem dX12_canHave_25 : decode cX12_canHave 25 = .ok (.goto 114, 3) := by decide +kernel
theorem dX12_canHave_28 : decode cX12_canHave 28 = .ok (.iconst (-1), 1) := by decide +kernel
theorem dX12_canHave_29 : decode cX12_canHave 29 = .ok (.istore 6, 2) := by decide +kernel
theorem dX12_canHave_31 : decode cX12_canHave 31 = .ok (.iload_n 1, 1) := by decide +kernel
theorem dX12_canHave_32 : decode cX12_canHave 32 = .ok (.istore 7, 2) := by decide +kernel
theorem dX12_canHave_34 : decode cX12_canHave 34 = .ok (.iload 7, 2) := by decide +kernel
theorem dX12_canHave_36 : decode cX12_canHave 36 = .ok (.iload_n 2, 1) := by decide +kernel
theorem dX12_canHave_37 : decode cX12_canHave 37 = .ok (.if_icmp .ge 83, 3) := by decide +kernel
theorem dX12_canHave_40 : decode cX12_canHave 40 = .ok (.iload_n 3, 1) := by decide +kernel
theorem dX12_canHave_41 : decode cX12_canHave 41 = .ok (.iload 7, 2) := by decide +kernel
theorem dX12_canHave_43 : decode cX12_canHave 43 = .ok (.invokestatic 194, 3) := by decide +kernel
theorem dX12_canHave_46 : decode cX12_canHave 46 = .ok (.ifCond .ne 68, 3) := by decide +kernel
theorem dX12_canHave_49 : decode cX12_canHave 49 = .ok (.iload 5, 2) := by decide +kernel
theorem dX12_canHave_51 : decode cX12_canHave 51 = .ok (.i2l, 1) := by decide +kernel
theorem dX12_canHave_52 : decode cX12_canHave 52 = .ok (.aload_n 0, 1) := by decide +kernel
theorem dX12_canHave_53 : decode cX12_canHave 53 = .ok (.iconst 2, 1) := by decide +kernel
theorem dX12_canHave_54 : decode cX12_canHave 54 = .ok (.iload 7, 2) := by decide +kernel
theorem dX12_canHave_56 : decode cX12_canHave 56 = .ok (.imul, 1) := by decide +kernel
theorem dX12_canHave_57 : decode cX12_canHave 57 = .ok (.invokevirtual 612, 3) := by decide +kernel
theorem dX12_canHave_60 : decode cX12_canHave 60 = .ok (.i2l, 1) := by decide +kernel
theorem dX12_canHave_61 : decode cX12_canHave 61 = .ok (.aload_n 0, 1) := by decide +kernel
theorem dX12_canHave_62 : decode cX12_canHave 62 = .ok (.iconst 2, 1) := by decide +kernel
theorem dX12_canHave_63 : decode cX12_canHave 63 = .ok (.iload 7, 2) := by decide +kernel
theorem dX12_canHave_65 : decode cX12_canHave 65 = .ok (.imul, 1) := by decide +kernel
theorem dX12_canHave_66 : decode cX12_canHave 66 = .ok (.iconst 1, 1) := by decide +kernel
theorem dX12_canHave_67 : decode cX12_canHave 67 = .ok (.iadd, 1) := by decide +kernel
theorem dX12_canHave_68 : decode cX12_canHave 68 = .ok (.invokevirtual 612, 3) := by decide +kernel
theorem dX12_canHave_71 : decode cX12_canHave 71 = .ok (.i2l, 1) := by decide +kernel
theorem dX12_canHave_72 : decode cX12_canHave 72 = .ok (.invokestatic 222, 3) := by decide +kernel
theorem dX12_canHave_75 : decode cX12_canHave 75 = .ok (.ifCond .ne 6, 3) := by decide +kernel
theorem dX12_canHave_78 : decode cX12_canHave 78 = .ok (.goto 36, 3) := by decide +kernel
theorem dX12_canHave_81 : decode cX12_canHave 81 = .ok (.iload 6, 2) := by decide +kernel
theorem dX12_canHave_83 : decode cX12_canHave 83 = .ok (.iconst (-1), 1) := by decide +kernel
theorem dX12_canHave_84 : decode cX12_canHave 84 = .ok (.if_icmp .eq 26, 3) := by decide +kernel
theorem dX12_canHave_87 : decode cX12_canHave 87 = .ok (.aload_n 0, 1) := by decide +kernel
theorem dX12_canHave_88 : decode cX12_canHave 88 = .ok (.iconst 2, 1) := by decide +kernel
theorem dX12_canHave_89 : decode cX12_canHave 89 = .ok (.iload 7, 2) := by decide +kernel
theorem dX12_canHave_91 : decode cX12_canHave 91 = .ok (.imul, 1) := by decide +kernel
theorem dX12_canHave_92 : decode cX12_canHave 92 = .ok (.iconst 1, 1) := by decide +kernel
theorem dX12_canHave_93 : decode cX12_canHave 93 = .ok (.iadd, 1) := by decide +kernel
theorem dX12_canHave_94 : decode cX12_canHave 94 = .ok (.invokevirtual 612, 3) := by decide +kernel
theorem dX12_canHave_97 : decode cX12_canHave 97 = .ok (.aload_n 0, 1) := by decide +kernel
theorem dX12_canHave_98 : decode cX12_canHave 98 = .ok (.iconst 2, 1) := by decide +kernel
theorem dX12_canHave_99 : decode cX12_canHave 99 = .ok (.iload 6, 2) := by decide +kernel
theorem dX12_canHave_101 : decode cX12_canHave 101 = .ok (.imul, 1) := by decide +kernel
theorem dX12_canHave_102 : decode cX12_canHave 102 = .ok (.iconst 1, 1) := by decide +kernel
theorem dX12_canHave_103 : decode cX12_canHave 103 = .ok (.iadd, 1) := by decide +kernel
theorem dX12_canHave_104 : decode cX12_canHave 104 = .ok (.invokevirtual 612, 3) := by decide +kernel
theorem dX12_canHave_107 : decode cX12_canHave 107 = .ok (.if_icmp .ge 7, 3) := by decide +kernel
theorem dX12_canHave_110 : decode cX12_canHave 110 = .ok (.iload 7, 2) := by decide +kernel
theorem dX12_canHave_112 : decode cX12_canHave 112 = .ok (.istore 6, 2) := by decide +kernel
theorem dX12_canHave_114 : decode cX12_canHave 114 = .ok (.iinc 7 1, 3) := by decide +kernel
theorem dX12_canHave_117 : decode cX12_canHave 117 = .ok (.goto (-83), 3) := by decide +kernel
theorem dX12_canHave_120 : decode cX12_canHave 120 = .ok (.iload 6, 2) := by decide +kernel
theorem dX12_canHave_122 : decode cX12_canHave 122 = .ok (.iconst (-1), 1) := by decide +kernel
theorem dX12_canHave_123 : decode cX12_canHave 123 = .ok (.if_icmp .ne 6, 3) := by decide +kernel
theorem dX12_canHave_126 : decode cX12_canHave 126 = .ok (.goto 13, 3) := by decide +kernel
theorem dX12_canHave_129 : decode cX12_canHave 129 = .ok (.iload_n 3, 1) := by decide +kernel
theorem dX12_canHave_130 : decode cX12_canHave 130 = .ok (.iconst 1, 1) := by decide +kernel
theorem dX12_canHave_131 : decode cX12_canHave 131 = .ok (.iload 6, 2) := by decide +kernel
theorem dX12_canHave_133 : decode cX12_canHave 133 = .ok (.ishl, 1) := by decide +kernel
theorem dX12_canHave_134 : decode cX12_canHave 134 = .ok (.ior, 1) := by decide +kernel
theorem dX12_canHave_135 : decode cX12_canHave 135 = .ok (.istore_n 3, 1) := by decide +kernel
theorem dX12_canHave_136 : decode cX12_canHave 136 = .ok (.iinc 4 1, 3) := by decide +kernel
theorem dX12_canHave_139 : decode cX12_canHave 139 = .ok (.iinc 5 1, 3) := by decide +kernel
theorem dX12_canHave_142 : decode cX12_canHave 142 = .ok (.goto (-134), 3) := by decide +kernel
theorem dX12_canHave_145 : decode cX12_canHave 145 = .ok (.iload 4, 2) := by decide +kernel
theorem dX12_canHave_147 : decode cX12_canHave 147 = .ok (.ireturn, 1) := by decide +kernel
theorem dX12_nightFor_0 : decode cX12_nightFor 0 = .ok (.aload_n 0, 1) := by decide +kernel
theorem dX12_nightFor_1 : decode cX12_nightFor 1 = .ok (.iload_n 1, 1) := by decide +kernel
theorem dX12_nightFor_2 : decode cX12_nightFor 2 = .ok (.iload_n 2, 1) := by decide +kernel
theorem dX12_nightFor_3 : decode cX12_nightFor 3 = .ok (.invokevirtual 615, 3) := by decide +kernel
theorem dX12_nightFor_6 : decode cX12_nightFor 6 = .ok (.istore_n 3, 1) := by decide +kernel
theorem dX12_nightFor_7 : decode cX12_nightFor 7 = .ok (.aload_n 0, 1) := by decide +kernel
theorem dX12_nightFor_8 : decode cX12_nightFor 8 = .ok (.iconst 2, 1) := by decide +kernel
theorem dX12_nightFor_9 : decode cX12_nightFor 9 = .ok (.iload_n 1, 1) := by decide +kernel
theorem dX12_nightFor_10 : decode cX12_nightFor 10 = .ok (.imul, 1) := by decide +kernel
theorem dX12_nightFor_11 : decode cX12_nightFor 11 = .ok (.invokevirtual 612, 3) := by decide +kernel
theorem dX12_nightFor_14 : decode cX12_nightFor 14 = .ok (.istore 4, 2) := by decide +kernel
theorem dX12_nightFor_16 : decode cX12_nightFor 16 = .ok (.iload 4, 2) := by decide +kernel
theorem dX12_nightFor_18 : decode cX12_nightFor 18 = .ok (.aload_n 0, 1) := by decide +kernel
theorem dX12_nightFor_19 : decode cX12_nightFor 19 = .ok (.iconst 2, 1) := by decide +kernel
theorem dX12_nightFor_20 : decode cX12_nightFor 20 = .ok (.iload_n 1, 1) := by decide +kernel
theorem dX12_nightFor_21 : decode cX12_nightFor 21 = .ok (.imul, 1) := by decide +kernel
theorem dX12_nightFor_22 : decode cX12_nightFor 22 = .ok (.iconst 1, 1) := by decide +kernel
theorem dX12_nightFor_23 : decode cX12_nightFor 23 = .ok (.iadd, 1) := by decide +kernel
theorem dX12_nightFor_24 : decode cX12_nightFor 24 = .ok (.invokevirtual 612, 3) := by decide +kernel
theorem dX12_nightFor_27 : decode cX12_nightFor 27 = .ok (.if_icmp .gt 55, 3) := by decide +kernel
theorem dX12_nightFor_30 : decode cX12_nightFor 30 = .ok (.aload_n 0, 1) := by decide +kernel
theorem dX12_nightFor_31 : decode cX12_nightFor 31 = .ok (.getfield 191, 3) := by decide +kernel
theorem dX12_nightFor_34 : decode cX12_nightFor 34 = .ok (.iload 4, 2) := by decide +kernel
theorem dX12_nightFor_36 : decode cX12_nightFor 36 = .ok (.baload, 1) := by decide +kernel
theorem dX12_nightFor_37 : decode cX12_nightFor 37 = .ok (.ifCond .eq 6, 3) := by decide +kernel
theorem dX12_nightFor_40 : decode cX12_nightFor 40 = .ok (.goto 36, 3) := by decide +kernel
theorem dX12_nightFor_43 : decode cX12_nightFor 43 = .ok (.aload_n 0, 1) := by decide +kernel
theorem dX12_nightFor_44 : decode cX12_nightFor 44 = .ok (.getfield 191, 3) := by decide +kernel
theorem dX12_nightFor_47 : decode cX12_nightFor 47 = .ok (.iload 4, 2) := by decide +kernel
theorem dX12_nightFor_49 : decode cX12_nightFor 49 = .ok (.iconst 1, 1) := by decide +kernel
theorem dX12_nightFor_50 : decode cX12_nightFor 50 = .ok (.bastore, 1) := by decide +kernel
theorem dX12_nightFor_51 : decode cX12_nightFor 51 = .ok (.aload_n 0, 1) := by decide +kernel
theorem dX12_nightFor_52 : decode cX12_nightFor 52 = .ok (.iload_n 1, 1) := by decide +kernel
theorem dX12_nightFor_53 : decode cX12_nightFor 53 = .ok (.iconst 1, 1) := by decide +kernel
theorem dX12_nightFor_54 : decode cX12_nightFor 54 = .ok (.iadd, 1) := by decide +kernel
theorem dX12_nightFor_55 : decode cX12_nightFor 55 = .ok (.iload_n 2, 1) := by decide +kernel
theorem dX12_nightFor_56 : decode cX12_nightFor 56 = .ok (.invokevirtual 615, 3) := by decide +kernel
theorem dX12_nightFor_59 : decode cX12_nightFor 59 = .ok (.iconst 1, 1) := by decide +kernel
theorem dX12_nightFor_60 : decode cX12_nightFor 60 = .ok (.iadd, 1) := by decide +kernel
theorem dX12_nightFor_61 : decode cX12_nightFor 61 = .ok (.iload_n 3, 1) := by decide +kernel
theorem dX12_nightFor_62 : decode cX12_nightFor 62 = .ok (.if_icmp .ne 6, 3) := by decide +kernel
theorem dX12_nightFor_65 : decode cX12_nightFor 65 = .ok (.iload 4, 2) := by decide +kernel
theorem dX12_nightFor_67 : decode cX12_nightFor 67 = .ok (.ireturn, 1) := by decide +kernel
theorem dX12_nightFor_68 : decode cX12_nightFor 68 = .ok (.aload_n 0, 1) := by decide +kernel
theorem dX12_nightFor_69 : decode cX12_nightFor 69 = .ok (.getfield 191, 3) := by decide +kernel
theorem dX12_nightFor_72 : decode cX12_nightFor 72 = .ok (.iload 4, 2) := by decide +kernel
theorem dX12_nightFor_74 : decode cX12_nightFor 74 = .ok (.iconst 0, 1) := by decide +kernel
theorem dX12_nightFor_75 : decode cX12_nightFor 75 = .ok (.bastore, 1) := by decide +kernel
theorem dX12_nightFor_76 : decode cX12_nightFor 76 = .ok (.iinc 4 1, 3) := by decide +kernel
theorem dX12_nightFor_79 : decode cX12_nightFor 79 = .ok (.goto (-63), 3) := by decide +kernel
theorem dX12_nightFor_82 : decode cX12_nightFor 82 = .ok (.bipush 100, 2) := by decide +kernel
theorem dX12_nightFor_84 : decode cX12_nightFor 84 = .ok (.ireturn, 1) := by decide +kernel
theorem dX12_lent_0 : decode cX12_lent 0 = .ok (.iload_n 1, 1) := by decide +kernel
theorem dX12_lent_1 : decode cX12_lent 1 = .ok (.i2l, 1) := by decide +kernel
theorem dX12_lent_2 : decode cX12_lent 2 = .ok (.lconst 1, 1) := by decide +kernel
theorem dX12_lent_3 : decode cX12_lent 3 = .ok (.ldc2_w 618, 3) := by decide +kernel
theorem dX12_lent_6 : decode cX12_lent 6 = .ok (.invokestatic 222, 3) := by decide +kernel
theorem dX12_lent_9 : decode cX12_lent 9 = .ok (.ifCond .eq 13, 3) := by decide +kernel
theorem dX12_lent_12 : decode cX12_lent 12 = .ok (.iconst 2, 1) := by decide +kernel
theorem dX12_lent_13 : decode cX12_lent 13 = .ok (.iload_n 1, 1) := by decide +kernel
theorem dX12_lent_14 : decode cX12_lent 14 = .ok (.imul, 1) := by decide +kernel
theorem dX12_lent_15 : decode cX12_lent 15 = .ok (.aload_n 0, 1) := by decide +kernel
theorem dX12_lent_16 : decode cX12_lent 16 = .ok (.getfield 198, 3) := by decide +kernel
theorem dX12_lent_19 : decode cX12_lent 19 = .ok (.if_icmp .le 5, 3) := by decide +kernel
theorem dX12_lent_22 : decode cX12_lent 22 = .ok (.iconst (-1), 1) := by decide +kernel
theorem dX12_lent_23 : decode cX12_lent 23 = .ok (.ireturn, 1) := by decide +kernel
theorem dX12_lent_24 : decode cX12_lent 24 = .ok (.aload_n 0, 1) := by decide +kernel
theorem dX12_lent_25 : decode cX12_lent 25 = .ok (.iconst 0, 1) := by decide +kernel
theorem dX12_lent_26 : decode cX12_lent 26 = .ok (.putfield 198, 3) := by decide +kernel
theorem dX12_lent_29 : decode cX12_lent 29 = .ok (.iconst 0, 1) := by decide +kernel
theorem dX12_lent_30 : decode cX12_lent 30 = .ok (.istore_n 3, 1) := by decide +kernel
theorem dX12_lent_31 : decode cX12_lent 31 = .ok (.iload_n 3, 1) := by decide +kernel
theorem dX12_lent_32 : decode cX12_lent 32 = .ok (.iload_n 1, 1) := by decide +kernel
theorem dX12_lent_33 : decode cX12_lent 33 = .ok (.if_icmp .ge 45, 3) := by decide +kernel
theorem dX12_lent_36 : decode cX12_lent 36 = .ok (.aload_n 0, 1) := by decide +kernel
theorem dX12_lent_37 : decode cX12_lent 37 = .ok (.iconst 2, 1) := by decide +kernel
theorem dX12_lent_38 : decode cX12_lent 38 = .ok (.iload_n 3, 1) := by decide +kernel
theorem dX12_lent_39 : decode cX12_lent 39 = .ok (.imul, 1) := by decide +kernel
theorem dX12_lent_40 : decode cX12_lent 40 = .ok (.iconst 1, 1) := by decide +kernel
theorem dX12_lent_41 : decode cX12_lent 41 = .ok (.iadd, 1) := by decide +kernel
theorem dX12_lent_42 : decode cX12_lent 42 = .ok (.invokevirtual 612, 3) := by decide +kernel
theorem dX12_lent_45 : decode cX12_lent 45 = .ok (.bipush 100, 2) := by decide +kernel
theorem dX12_lent_47 : decode cX12_lent 47 = .ok (.if_icmp .ge 22, 3) := by decide +kernel
theorem dX12_lent_50 : decode cX12_lent 50 = .ok (.aload_n 0, 1) := by decide +kernel
theorem dX12_lent_51 : decode cX12_lent 51 = .ok (.iconst 2, 1) := by decide +kernel
theorem dX12_lent_52 : decode cX12_lent 52 = .ok (.iload_n 3, 1) := by decide +kernel
theorem dX12_lent_53 : decode cX12_lent 53 = .ok (.imul, 1) := by decide +kernel
theorem dX12_lent_54 : decode cX12_lent 54 = .ok (.invokevirtual 612, 3) := by decide +kernel
theorem dX12_lent_57 : decode cX12_lent 57 = .ok (.aload_n 0, 1) := by decide +kernel
theorem dX12_lent_58 : decode cX12_lent 58 = .ok (.iconst 2, 1) := by decide +kernel
theorem dX12_lent_59 : decode cX12_lent 59 = .ok (.iload_n 3, 1) := by decide +kernel
theorem dX12_lent_60 : decode cX12_lent 60 = .ok (.imul, 1) := by decide +kernel
theorem dX12_lent_61 : decode cX12_lent 61 = .ok (.iconst 1, 1) := by decide +kernel
theorem dX12_lent_62 : decode cX12_lent 62 = .ok (.iadd, 1) := by decide +kernel
theorem dX12_lent_63 : decode cX12_lent 63 = .ok (.invokevirtual 612, 3) := by decide +kernel
theorem dX12_lent_66 : decode cX12_lent 66 = .ok (.if_icmp .le 6, 3) := by decide +kernel
theorem dX12_lent_69 : decode cX12_lent 69 = .ok (.bipush (-2), 2) := by decide +kernel
theorem dX12_lent_71 : decode cX12_lent 71 = .ok (.ireturn, 1) := by decide +kernel
theorem dX12_lent_72 : decode cX12_lent 72 = .ok (.iinc 3 1, 3) := by decide +kernel
theorem dX12_lent_75 : decode cX12_lent 75 = .ok (.goto (-44), 3) := by decide +kernel
theorem dX12_lent_78 : decode cX12_lent 78 = .ok (.iload_n 2, 1) := by decide +kernel
theorem dX12_lent_79 : decode cX12_lent 79 = .ok (.bipush 20, 2) := by decide +kernel
theorem dX12_lent_81 : decode cX12_lent 81 = .ok (.if_icmp .eq 19, 3) := by decide +kernel
theorem dX12_lent_84 : decode cX12_lent 84 = .ok (.iload_n 2, 1) := by decide +kernel
theorem dX12_lent_85 : decode cX12_lent 85 = .ok (.i2l, 1) := by decide +kernel
theorem dX12_lent_86 : decode cX12_lent 86 = .ok (.lconst 0, 1) := by decide +kernel
theorem dX12_lent_87 : decode cX12_lent 87 = .ok (.iload_n 1, 1) := by decide +kernel
theorem dX12_lent_88 : decode cX12_lent 88 = .ok (.iconst 1, 1) := by decide +kernel
theorem dX12_lent_89 : decode cX12_lent 89 = .ok (.isub, 1) := by decide +kernel
theorem dX12_lent_90 : decode cX12_lent 90 = .ok (.i2l, 1) := by decide +kernel
theorem dX12_lent_91 : decode cX12_lent 91 = .ok (.invokestatic 222, 3) := by decide +kernel
theorem dX12_lent_94 : decode cX12_lent 94 = .ok (.ifCond .ne 6, 3) := by decide +kernel
theorem dX12_lent_97 : decode cX12_lent 97 = .ok (.bipush (-4), 2) := by decide +kernel
theorem dX12_lent_99 : decode cX12_lent 99 = .ok (.ireturn, 1) := by decide +kernel
theorem dX12_lent_100 : decode cX12_lent 100 = .ok (.iconst 0, 1) := by decide +kernel
theorem dX12_lent_101 : decode cX12_lent 101 = .ok (.istore_n 3, 1) := by decide +kernel
theorem dX12_lent_102 : decode cX12_lent 102 = .ok (.iload_n 3, 1) := by decide +kernel
theorem dX12_lent_103 : decode cX12_lent 103 = .ok (.bipush 100, 2) := by decide +kernel
theorem dX12_lent_105 : decode cX12_lent 105 = .ok (.if_icmp .ge 16, 3) := by decide +kernel
theorem dX12_lent_108 : decode cX12_lent 108 = .ok (.aload_n 0, 1) := by decide +kernel
theorem dX12_lent_109 : decode cX12_lent 109 = .ok (.getfield 191, 3) := by decide +kernel
theorem dX12_lent_112 : decode cX12_lent 112 = .ok (.iload_n 3, 1) := by decide +kernel
theorem dX12_lent_113 : decode cX12_lent 113 = .ok (.iconst 0, 1) := by decide +kernel
theorem dX12_lent_114 : decode cX12_lent 114 = .ok (.bastore, 1) := by decide +kernel
theorem dX12_lent_115 : decode cX12_lent 115 = .ok (.iinc 3 1, 3) := by decide +kernel
theorem dX12_lent_118 : decode cX12_lent 118 = .ok (.goto (-16), 3) := by decide +kernel
theorem dX12_lent_121 : decode cX12_lent 121 = .ok (.iload_n 2, 1) := by decide +kernel
theorem dX12_lent_122 : decode cX12_lent 122 = .ok (.bipush 20, 2) := by decide +kernel
theorem dX12_lent_124 : decode cX12_lent 124 = .ok (.if_icmp .ne 10, 3) := by decide +kernel
theorem dX12_lent_127 : decode cX12_lent 127 = .ok (.aload_n 0, 1) := by decide +kernel
theorem dX12_lent_128 : decode cX12_lent 128 = .ok (.iconst 0, 1) := by decide +kernel
theorem dX12_lent_129 : decode cX12_lent 129 = .ok (.iload_n 1, 1) := by decide +kernel
theorem dX12_lent_130 : decode cX12_lent 130 = .ok (.invokevirtual 615, 3) := by decide +kernel
theorem dX12_lent_133 : decode cX12_lent 133 = .ok (.ireturn, 1) := by decide +kernel
theorem dX12_lent_134 : decode cX12_lent 134 = .ok (.bipush 100, 2) := by decide +kernel
theorem dX12_lent_136 : decode cX12_lent 136 = .ok (.istore_n 3, 1) := by decide +kernel
theorem dX12_lent_137 : decode cX12_lent 137 = .ok (.iconst 0, 1) := by decide +kernel
theorem dX12_lent_138 : decode cX12_lent 138 = .ok (.istore 4, 2) := by decide +kernel
theorem dX12_lent_140 : decode cX12_lent 140 = .ok (.iload 4, 2) := by decide +kernel
theorem dX12_lent_142 : decode cX12_lent 142 = .ok (.iload_n 2, 1) := by decide +kernel
theorem dX12_lent_143 : decode cX12_lent 143 = .ok (.if_icmp .gt 17, 3) := by decide +kernel
theorem dX12_lent_146 : decode cX12_lent 146 = .ok (.aload_n 0, 1) := by decide +kernel
theorem dX12_lent_147 : decode cX12_lent 147 = .ok (.iload 4, 2) := by decide +kernel
theorem dX12_lent_149 : decode cX12_lent 149 = .ok (.iload_n 1, 1) := by decide +kernel
theorem dX12_lent_150 : decode cX12_lent 150 = .ok (.invokevirtual 620, 3) := by decide +kernel
theorem dX12_lent_153 : decode cX12_lent 153 = .ok (.istore_n 3, 1) := by decide +kernel
theorem dX12_lent_154 : decode cX12_lent 154 = .ok (.iinc 4 1, 3) := by decide +kernel
theorem dX12_lent_157 : decode cX12_lent 157 = .ok (.goto (-17), 3) := by decide +kernel
theorem dX12_lent_160 : decode cX12_lent 160 = .ok (.iload_n 3, 1) := by decide +kernel
theorem dX12_lent_161 : decode cX12_lent 161 = .ok (.ireturn, 1) := by decide +kernel
theorem dX12_leftBy_0 : decode cX12_leftBy 0 = .ok (.iconst 0, 1) := by decide +kernel
theorem dX12_leftBy_1 : decode cX12_leftBy 1 = .ok (.istore 4, 2) := by decide +kernel
theorem dX12_leftBy_3 : decode cX12_leftBy 3 = .ok (.iconst 0, 1) := by decide +kernel
theorem dX12_leftBy_4 : decode cX12_leftBy 4 = .ok (.istore 5, 2) := by decide +kernel
theorem dX12_leftBy_6 : decode cX12_leftBy 6 = .ok (.iload 5, 2) := by decide +kernel
theorem dX12_leftBy_8 : decode cX12_leftBy 8 = .ok (.bipush 10, 2) := by decide +kernel
theorem dX12_leftBy_10 : decode cX12_leftBy 10 = .ok (.if_icmp .ge 65, 3) := by decide +kernel
theorem dX12_leftBy_13 : decode cX12_leftBy 13 = .ok (.iload_n 1, 1) := by decide +kernel
theorem dX12_leftBy_14 : decode cX12_leftBy 14 = .ok (.iload 5, 2) := by decide +kernel
theorem dX12_leftBy_16 : decode cX12_leftBy 16 = .ok (.invokestatic 194, 3) := by decide +kernel
theorem dX12_leftBy_19 : decode cX12_leftBy 19 = .ok (.ifCond .ne 6, 3) := by decide +kernel
theorem dX12_leftBy_22 : decode cX12_leftBy 22 = .ok (.goto 47, 3) := by decide +kernel
theorem dX12_leftBy_25 : decode cX12_leftBy 25 = .ok (.aload_n 0, 1) := by decide +kernel
theorem dX12_leftBy_26 : decode cX12_leftBy 26 = .ok (.getfield 91, 3) := by decide +kernel
theorem dX12_leftBy_29 : decode cX12_leftBy 29 = .ok (.iload 5, 2) := by decide +kernel
theorem dX12_leftBy_31 : decode cX12_leftBy 31 = .ok (.iaload, 1) := by decide +kernel
theorem dX12_leftBy_32 : decode cX12_leftBy 32 = .ok (.invokestatic 301, 3) := by decide +kernel
theorem dX12_leftBy_35 : decode cX12_leftBy 35 = .ok (.istore 6, 2) := by decide +kernel
theorem dX12_leftBy_37 : decode cX12_leftBy 37 = .ok (.iload_n 3, 1) := by decide +kernel
theorem dX12_leftBy_38 : decode cX12_leftBy 38 = .ok (.iconst (-1), 1) := by decide +kernel
theorem dX12_leftBy_39 : decode cX12_leftBy 39 = .ok (.if_icmp .ne 15, 3) := by decide +kernel
theorem dX12_leftBy_42 : decode cX12_leftBy 42 = .ok (.iload_n 2, 1) := by decide +kernel
theorem dX12_leftBy_43 : decode cX12_leftBy 43 = .ok (.iload 6, 2) := by decide +kernel
theorem dX12_leftBy_45 : decode cX12_leftBy 45 = .ok (.invokestatic 194, 3) := by decide +kernel
theorem dX12_leftBy_48 : decode cX12_leftBy 48 = .ok (.ifCond .ne 21, 3) := by decide +kernel
theorem dX12_leftBy_51 : decode cX12_leftBy 51 = .ok (.goto 9, 3) := by decide +kernel
theorem dX12_leftBy_54 : decode cX12_leftBy 54 = .ok (.iload 6, 2) := by decide +kernel
theorem dX12_leftBy_56 : decode cX12_leftBy 56 = .ok (.iload_n 3, 1) := by decide +kernel
theorem dX12_leftBy_57 : decode cX12_leftBy 57 = .ok (.if_icmp .ne 12, 3) := by decide +kernel
theorem dX12_leftBy_60 : decode cX12_leftBy 60 = .ok (.iload 4, 2) := by decide +kernel
theorem dX12_leftBy_62 : decode cX12_leftBy 62 = .ok (.iconst 1, 1) := by decide +kernel
theorem dX12_leftBy_63 : decode cX12_leftBy 63 = .ok (.iload 5, 2) := by decide +kernel
theorem dX12_leftBy_65 : decode cX12_leftBy 65 = .ok (.ishl, 1) := by decide +kernel
theorem dX12_leftBy_66 : decode cX12_leftBy 66 = .ok (.ior, 1) := by decide +kernel
theorem dX12_leftBy_67 : decode cX12_leftBy 67 = .ok (.istore 4, 2) := by decide +kernel
theorem dX12_leftBy_69 : decode cX12_leftBy 69 = .ok (.iinc 5 1, 3) := by decide +kernel
theorem dX12_leftBy_72 : decode cX12_leftBy 72 = .ok (.goto (-66), 3) := by decide +kernel
theorem dX12_leftBy_75 : decode cX12_leftBy 75 = .ok (.iload 4, 2) := by decide +kernel
theorem dX12_leftBy_77 : decode cX12_leftBy 77 = .ok (.ireturn, 1) := by decide +kernel
theorem dX12_nextThread_0 : decode cX12_nextThread 0 = .ok (.bipush (-2), 2) := by decide +kernel
theorem dX12_nextThread_2 : decode cX12_nextThread 2 = .ok (.istore_n 3, 1) := by decide +kernel
theorem dX12_nextThread_3 : decode cX12_nextThread 3 = .ok (.iload_n 1, 1) := by decide +kernel
theorem dX12_nextThread_4 : decode cX12_nextThread 4 = .ok (.invokestatic 289, 3) := by decide +kernel
theorem dX12_nextThread_7 : decode cX12_nextThread 7 = .ok (.istore 4, 2) := by decide +kernel
theorem dX12_nextThread_9 : decode cX12_nextThread 9 = .ok (.iconst 0, 1) := by decide +kernel
theorem dX12_nextThread_10 : decode cX12_nextThread 10 = .ok (.istore 5, 2) := by decide +kernel
theorem dX12_nextThread_12 : decode cX12_nextThread 12 = .ok (.iload 5, 2) := by decide +kernel
theorem dX12_nextThread_14 : decode cX12_nextThread 14 = .ok (.bipush 10, 2) := by decide +kernel
theorem dX12_nextThread_16 : decode cX12_nextThread 16 = .ok (.if_icmp .ge 102, 3) := by decide +kernel
theorem dX12_nextThread_19 : decode cX12_nextThread 19 = .ok (.iconst 0, 1) := by decide +kernel
theorem dX12_nextThread_20 : decode cX12_nextThread 20 = .ok (.istore 6, 2) := by decide +kernel
theorem dX12_nextThread_22 : decode cX12_nextThread 22 = .ok (.iconst 0, 1) := by decide +kernel
theorem dX12_nextThread_23 : decode cX12_nextThread 23 = .ok (.istore 7, 2) := by decide +kernel
theorem dX12_nextThread_25 : decode cX12_nextThread 25 = .ok (.iload 7, 2) := by decide +kernel
theorem dX12_nextThread_27 : decode cX12_nextThread 27 = .ok (.bipush 10, 2) := by decide +kernel
theorem dX12_nextThread_29 : decode cX12_nextThread 29 = .ok (.if_icmp .ge 43, 3) := by decide +kernel
theorem dX12_nextThread_32 : decode cX12_nextThread 32 = .ok (.iload 6, 2) := by decide +kernel
theorem dX12_nextThread_34 : decode cX12_nextThread 34 = .ok (.iload_n 1, 1) := by decide +kernel
theorem dX12_nextThread_35 : decode cX12_nextThread 35 = .ok (.iload 7, 2) := by decide +kernel
theorem dX12_nextThread_37 : decode cX12_nextThread 37 = .ok (.invokestatic 194, 3) := by decide +kernel
theorem dX12_nextThread_40 : decode cX12_nextThread 40 = .ok (.ifCond .eq 22, 3) := by decide +kernel
theorem dX12_nextThread_43 : decode cX12_nextThread 43 = .ok (.aload_n 0, 1) := by decide +kernel
theorem dX12_nextThread_44 : decode cX12_nextThread 44 = .ok (.getfield 91, 3) := by decide +kernel
theorem dX12_nextThread_47 : decode cX12_nextThread 47 = .ok (.iload 7, 2) := by decide +kernel
theorem dX12_nextThread_49 : decode cX12_nextThread 49 = .ok (.iaload, 1) := by decide +kernel
theorem dX12_nextThread_50 : decode cX12_nextThread 50 = .ok (.invokestatic 301, 3) := by decide +kernel
theorem dX12_nextThread_53 : decode cX12_nextThread 53 = .ok (.iload 5, 2) := by decide +kernel
theorem dX12_nextThread_55 : decode cX12_nextThread 55 = .ok (.if_icmp .ne 7, 3) := by decide +kernel
theorem dX12_nextThread_58 : decode cX12_nextThread 58 = .ok (.iconst 1, 1) := by decide +kernel
theorem dX12_nextThread_59 : decode cX12_nextThread 59 = .ok (.goto 4, 3) := by decide +kernel
theorem dX12_nextThread_62 : decode cX12_nextThread 62 = .ok (.iconst 0, 1) := by decide +kernel
theorem dX12_nextThread_63 : decode cX12_nextThread 63 = .ok (.iadd, 1) := by decide +kernel
theorem dX12_nextThread_64 : decode cX12_nextThread 64 = .ok (.istore 6, 2) := by decide +kernel
theorem dX12_nextThread_66 : decode cX12_nextThread 66 = .ok (.iinc 7 1, 3) := by decide +kernel
theorem dX12_nextThread_69 : decode cX12_nextThread 69 = .ok (.goto (-44), 3) := by decide +kernel
theorem dX12_nextThread_72 : decode cX12_nextThread 72 = .ok (.iload 6, 2) := by decide +kernel
theorem dX12_nextThread_74 : decode cX12_nextThread 74 = .ok (.iload_n 1, 1) := by decide +kernel
theorem dX12_nextThread_75 : decode cX12_nextThread 75 = .ok (.invokestatic 289, 3) := by decide +kernel
theorem dX12_nextThread_78 : decode cX12_nextThread 78 = .ok (.iload 6, 2) := by decide +kernel
theorem dX12_nextThread_80 : decode cX12_nextThread 80 = .ok (.isub, 1) := by decide +kernel
theorem dX12_nextThread_81 : decode cX12_nextThread 81 = .ok (.invokestatic 607, 3) := by decide +kernel
theorem dX12_nextThread_84 : decode cX12_nextThread 84 = .ok (.istore 7, 2) := by decide +kernel
theorem dX12_nextThread_86 : decode cX12_nextThread 86 = .ok (.iload_n 2, 1) := by decide +kernel
theorem dX12_nextThread_87 : decode cX12_nextThread 87 = .ok (.iload 5, 2) := by decide +kernel
theorem dX12_nextThread_89 : decode cX12_nextThread 89 = .ok (.invokestatic 194, 3) := by decide +kernel
theorem dX12_nextThread_92 : decode cX12_nextThread 92 = .ok (.ifCond .ne 20, 3) := by decide +kernel
theorem dX12_nextThread_95 : decode cX12_nextThread 95 = .ok (.iload 7, 2) := by decide +kernel
theorem dX12_nextThread_97 : decode cX12_nextThread 97 = .ok (.iload 4, 2) := by decide +kernel
theorem dX12_nextThread_99 : decode cX12_nextThread 99 = .ok (.if_icmp .lt 6, 3) := by decide +kernel
theorem dX12_nextThread_102 : decode cX12_nextThread 102 = .ok (.goto 10, 3) := by decide +kernel
theorem dX12_nextThread_105 : decode cX12_nextThread 105 = .ok (.iload 5, 2) := by decide +kernel
theorem dX12_nextThread_107 : decode cX12_nextThread 107 = .ok (.istore_n 3, 1) := by decide +kernel
theorem dX12_nextThread_108 : decode cX12_nextThread 108 = .ok (.iload 7, 2) := by decide +kernel
theorem dX12_nextThread_110 : decode cX12_nextThread 110 = .ok (.istore 4, 2) := by decide +kernel
theorem dX12_nextThread_112 : decode cX12_nextThread 112 = .ok (.iinc 5 1, 3) := by decide +kernel
theorem dX12_nextThread_115 : decode cX12_nextThread 115 = .ok (.goto (-103), 3) := by decide +kernel
theorem dX12_nextThread_118 : decode cX12_nextThread 118 = .ok (.iload_n 3, 1) := by decide +kernel
theorem dX12_nextThread_119 : decode cX12_nextThread 119 = .ok (.ireturn, 1) := by decide +kernel
theorem dX12_forged_0 : decode cX12_forged 0 = .ok (.iload_n 1, 1) := by decide +kernel
theorem dX12_forged_1 : decode cX12_forged 1 = .ok (.i2l, 1) := by decide +kernel
theorem dX12_forged_2 : decode cX12_forged 2 = .ok (.lconst 1, 1) := by decide +kernel
theorem dX12_forged_3 : decode cX12_forged 3 = .ok (.ldc2_w 283, 3) := by decide +kernel
theorem dX12_forged_6 : decode cX12_forged 6 = .ok (.invokestatic 222, 3) := by decide +kernel
theorem dX12_forged_9 : decode cX12_forged 9 = .ok (.ifCond .eq 53, 3) := by decide +kernel
theorem dX12_forged_12 : decode cX12_forged 12 = .ok (.iload_n 2, 1) := by decide +kernel
theorem dX12_forged_13 : decode cX12_forged 13 = .ok (.i2l, 1) := by decide +kernel
theorem dX12_forged_14 : decode cX12_forged 14 = .ok (.lconst 0, 1) := by decide +kernel
theorem dX12_forged_15 : decode cX12_forged 15 = .ok (.ldc2_w 283, 3) := by decide +kernel
theorem dX12_forged_18 : decode cX12_forged 18 = .ok (.invokestatic 222, 3) := by decide +kernel
theorem dX12_forged_21 : decode cX12_forged 21 = .ok (.ifCond .eq 41, 3) := by decide +kernel
theorem dX12_forged_24 : decode cX12_forged 24 = .ok (.iload_n 3, 1) := by decide +kernel
theorem dX12_forged_25 : decode cX12_forged 25 = .ok (.i2l, 1) := by decide +kernel
theorem dX12_forged_26 : decode cX12_forged 26 = .ok (.ldc2_w 623, 3) := by decide +kernel
theorem dX12_forged_29 : decode cX12_forged 29 = .ok (.ldc2_w 457, 3) := by decide +kernel
theorem dX12_forged_32 : decode cX12_forged 32 = .ok (.invokestatic 222, 3) := by decide +kernel
theorem dX12_forged_35 : decode cX12_forged 35 = .ok (.ifCond .eq 27, 3) := by decide +kernel
theorem dX12_forged_38 : decode cX12_forged 38 = .ok (.iload_n 3, 1) := by decide +kernel
theorem dX12_forged_39 : decode cX12_forged 39 = .ok (.iconst (-1), 1) := by decide +kernel
theorem dX12_forged_40 : decode cX12_forged 40 = .ok (.if_icmp .eq 11, 3) := by decide +kernel
theorem dX12_forged_43 : decode cX12_forged 43 = .ok (.iload_n 2, 1) := by decide +kernel
theorem dX12_forged_44 : decode cX12_forged 44 = .ok (.iload_n 3, 1) := by decide +kernel
theorem dX12_forged_45 : decode cX12_forged 45 = .ok (.invokestatic 194, 3) := by decide +kernel
theorem dX12_forged_48 : decode cX12_forged 48 = .ok (.ifCond .eq 14, 3) := by decide +kernel
theorem dX12_forged_51 : decode cX12_forged 51 = .ok (.iload 4, 2) := by decide +kernel
theorem dX12_forged_53 : decode cX12_forged 53 = .ok (.i2l, 1) := by decide +kernel
theorem dX12_forged_54 : decode cX12_forged 54 = .ok (.lconst 0, 1) := by decide +kernel
theorem dX12_forged_55 : decode cX12_forged 55 = .ok (.lconst 1, 1) := by decide +kernel
theorem dX12_forged_56 : decode cX12_forged 56 = .ok (.invokestatic 222, 3) := by decide +kernel
theorem dX12_forged_59 : decode cX12_forged 59 = .ok (.ifCond .ne 5, 3) := by decide +kernel
theorem dX12_forged_62 : decode cX12_forged 62 = .ok (.iconst (-1), 1) := by decide +kernel
theorem dX12_forged_63 : decode cX12_forged 63 = .ok (.ireturn, 1) := by decide +kernel
theorem dX12_forged_64 : decode cX12_forged 64 = .ok (.iconst 0, 1) := by decide +kernel
theorem dX12_forged_65 : decode cX12_forged 65 = .ok (.istore 5, 2) := by decide +kernel
theorem dX12_forged_67 : decode cX12_forged 67 = .ok (.iload 5, 2) := by decide +kernel
theorem dX12_forged_69 : decode cX12_forged 69 = .ok (.bipush 10, 2) := by decide +kernel
theorem dX12_forged_71 : decode cX12_forged 71 = .ok (.if_icmp .ge 30, 3) := by decide +kernel
theorem dX12_forged_74 : decode cX12_forged 74 = .ok (.iload_n 1, 1) := by decide +kernel
theorem dX12_forged_75 : decode cX12_forged 75 = .ok (.iload 5, 2) := by decide +kernel
theorem dX12_forged_77 : decode cX12_forged 77 = .ok (.invokestatic 194, 3) := by decide +kernel
theorem dX12_forged_80 : decode cX12_forged 80 = .ok (.ifCond .eq 15, 3) := by decide +kernel
theorem dX12_forged_83 : decode cX12_forged 83 = .ok (.aload_n 0, 1) := by decide +kernel
theorem dX12_forged_84 : decode cX12_forged 84 = .ok (.getfield 88, 3) := by decide +kernel
theorem dX12_forged_87 : decode cX12_forged 87 = .ok (.iload 5, 2) := by decide +kernel
theorem dX12_forged_89 : decode cX12_forged 89 = .ok (.baload, 1) := by decide +kernel
theorem dX12_forged_90 : decode cX12_forged 90 = .ok (.ifCond .ne 5, 3) := by decide +kernel
theorem dX12_forged_93 : decode cX12_forged 93 = .ok (.iconst (-1), 1) := by decide +kernel
theorem dX12_forged_94 : decode cX12_forged 94 = .ok (.ireturn, 1) := by decide +kernel
theorem dX12_forged_95 : decode cX12_forged 95 = .ok (.iinc 5 1, 3) := by decide +kernel
theorem dX12_forged_98 : decode cX12_forged 98 = .ok (.goto (-31), 3) := by decide +kernel
theorem dX12_forged_101 : decode cX12_forged 101 = .ok (.aload_n 0, 1) := by decide +kernel
theorem dX12_forged_102 : decode cX12_forged 102 = .ok (.iload_n 1, 1) := by decide +kernel
theorem dX12_forged_103 : decode cX12_forged 103 = .ok (.iload_n 2, 1) := by decide +kernel
theorem dX12_forged_104 : decode cX12_forged 104 = .ok (.iload_n 3, 1) := by decide +kernel
theorem dX12_forged_105 : decode cX12_forged 105 = .ok (.invokevirtual 625, 3) := by decide +kernel
theorem dX12_forged_108 : decode cX12_forged 108 = .ok (.istore 5, 2) := by decide +kernel
theorem dX12_forged_110 : decode cX12_forged 110 = .ok (.iload 4, 2) := by decide +kernel
theorem dX12_forged_112 : decode cX12_forged 112 = .ok (.ifCond .ne 8, 3) := by decide +kernel
theorem dX12_forged_115 : decode cX12_forged 115 = .ok (.iload 5, 2) := by decide +kernel
theorem dX12_forged_117 : decode cX12_forged 117 = .ok (.goto 10, 3) := by decide +kernel
theorem dX12_forged_120 : decode cX12_forged 120 = .ok (.aload_n 0, 1) := by decide +kernel
theorem dX12_forged_121 : decode cX12_forged 121 = .ok (.iload 5, 2) := by decide +kernel
theorem dX12_forged_123 : decode cX12_forged 123 = .ok (.iload_n 2, 1) := by decide +kernel
theorem dX12_forged_124 : decode cX12_forged 124 = .ok (.invokevirtual 628, 3) := by decide +kernel
theorem dX12_forged_127 : decode cX12_forged 127 = .ok (.ireturn, 1) := by decide +kernel
theorem dX12_isYawned_0 : decode cX12_isYawned 0 = .ok (.iconst 0, 1) := by decide +kernel
theorem dX12_isYawned_1 : decode cX12_isYawned 1 = .ok (.istore 5, 2) := by decide +kernel
theorem dX12_isYawned_3 : decode cX12_isYawned 3 = .ok (.aload_n 0, 1) := by decide +kernel
theorem dX12_isYawned_4 : decode cX12_isYawned 4 = .ok (.getfield 21, 3) := by decide +kernel
theorem dX12_isYawned_7 : decode cX12_isYawned 7 = .ok (.iload_n 1, 1) := by decide +kernel
theorem dX12_isYawned_8 : decode cX12_isYawned 8 = .ok (.iaload, 1) := by decide +kernel
theorem dX12_isYawned_9 : decode cX12_isYawned 9 = .ok (.istore 6, 2) := by decide +kernel
theorem dX12_isYawned_11 : decode cX12_isYawned 11 = .ok (.iconst 1, 1) := by decide +kernel
theorem dX12_isYawned_12 : decode cX12_isYawned 12 = .ok (.istore 7, 2) := by decide +kernel
theorem dX12_isYawned_14 : decode cX12_isYawned 14 = .ok (.iload 7, 2) := by decide +kernel
theorem dX12_isYawned_16 : decode cX12_isYawned 16 = .ok (.iload 6, 2) := by decide +kernel
theorem dX12_isYawned_18 : decode cX12_isYawned 18 = .ok (.if_icmp .gt 82, 3) := by decide +kernel
theorem dX12_isYawned_21 : decode cX12_isYawned 21 = .ok (.iload 5, 2) := by decide +kernel
theorem dX12_isYawned_23 : decode cX12_isYawned 23 = .ok (.aload_n 0, 1) := by decide +kernel
theorem dX12_isYawned_24 : decode cX12_isYawned 24 = .ok (.getfield 25, 3) := by decide +kernel
theorem dX12_isYawned_27 : decode cX12_isYawned 27 = .ok (.bipush 72, 2) := by decide +kernel
theorem dX12_isYawned_29 : decode cX12_isYawned 29 = .ok (.iload_n 1, 1) := by decide +kernel
theorem dX12_isYawned_30 : decode cX12_isYawned 30 = .ok (.imul, 1) := by decide +kernel
theorem dX12_isYawned_31 : decode cX12_isYawned 31 = .ok (.iload 7, 2) := by decide +kernel
theorem dX12_isYawned_33 : decode cX12_isYawned 33 = .ok (.iadd, 1) := by decide +kernel
theorem dX12_isYawned_34 : decode cX12_isYawned 34 = .ok (.iconst 1, 1) := by decide +kernel
theorem dX12_isYawned_35 : decode cX12_isYawned 35 = .ok (.isub, 1) := by decide +kernel
theorem dX12_isYawned_36 : decode cX12_isYawned 36 = .ok (.iaload, 1) := by decide +kernel
theorem dX12_isYawned_37 : decode cX12_isYawned 37 = .ok (.invokestatic 275, 3) := by decide +kernel
theorem dX12_isYawned_40 : decode cX12_isYawned 40 = .ok (.istore 5, 2) := by decide +kernel
theorem dX12_isYawned_42 : decode cX12_isYawned 42 = .ok (.iload 7, 2) := by decide +kernel
theorem dX12_isYawned_44 : decode cX12_isYawned 44 = .ok (.iload 4, 2) := by decide +kernel
theorem dX12_isYawned_46 : decode cX12_isYawned 46 = .ok (.if_icmp .ne 16, 3) := by decide +kernel
theorem dX12_isYawned_49 : decode cX12_isYawned 49 = .ok (.iload 5, 2) := by decide +kernel
theorem dX12_isYawned_51 : decode cX12_isYawned 51 = .ok (.aload_n 0, 1) := by decide +kernel
theorem dX12_isYawned_52 : decode cX12_isYawned 52 = .ok (.getfield 91, 3) := by decide +kernel
theorem dX12_isYawned_55 : decode cX12_isYawned 55 = .ok (.iload_n 3, 1) := by decide +kernel
theorem dX12_isYawned_56 : decode cX12_isYawned 56 = .ok (.iaload, 1) := by decide +kernel
theorem dX12_isYawned_57 : decode cX12_isYawned 57 = .ok (.iconst (-1), 1) := by decide +kernel
theorem dX12_isYawned_58 : decode cX12_isYawned 58 = .ok (.ixor, 1) := by decide +kernel
theorem dX12_isYawned_59 : decode cX12_isYawned 59 = .ok (.iand, 1) := by decide +kernel
theorem dX12_isYawned_60 : decode cX12_isYawned 60 = .ok (.istore 5, 2) := by decide +kernel
theorem dX12_isYawned_62 : decode cX12_isYawned 62 = .ok (.iload 7, 2) := by decide +kernel
theorem dX12_isYawned_64 : decode cX12_isYawned 64 = .ok (.iload 6, 2) := by decide +kernel
theorem dX12_isYawned_66 : decode cX12_isYawned 66 = .ok (.iload_n 2, 1) := by decide +kernel
theorem dX12_isYawned_67 : decode cX12_isYawned 67 = .ok (.isub, 1) := by decide +kernel
theorem dX12_isYawned_68 : decode cX12_isYawned 68 = .ok (.if_icmp .le 26, 3) := by decide +kernel
theorem dX12_isYawned_71 : decode cX12_isYawned 71 = .ok (.aload_n 0, 1) := by decide +kernel
theorem dX12_isYawned_72 : decode cX12_isYawned 72 = .ok (.iload 7, 2) := by decide +kernel
theorem dX12_isYawned_74 : decode cX12_isYawned 74 = .ok (.iload 6, 2) := by decide +kernel
theorem dX12_isYawned_76 : decode cX12_isYawned 76 = .ok (.isub, 1) := by decide +kernel
theorem dX12_isYawned_77 : decode cX12_isYawned 77 = .ok (.iload_n 2, 1) := by decide +kernel
theorem dX12_isYawned_78 : decode cX12_isYawned 78 = .ok (.iadd, 1) := by decide +kernel
theorem dX12_isYawned_79 : decode cX12_isYawned 79 = .ok (.iconst 1, 1) := by decide +kernel
theorem dX12_isYawned_80 : decode cX12_isYawned 80 = .ok (.isub, 1) := by decide +kernel
theorem dX12_isYawned_81 : decode cX12_isYawned 81 = .ok (.invokevirtual 612, 3) := by decide +kernel
theorem dX12_isYawned_84 : decode cX12_isYawned 84 = .ok (.iload 5, 2) := by decide +kernel
theorem dX12_isYawned_86 : decode cX12_isYawned 86 = .ok (.invokestatic 289, 3) := by decide +kernel
theorem dX12_isYawned_89 : decode cX12_isYawned 89 = .ok (.if_icmp .eq 5, 3) := by decide +kernel
theorem dX12_isYawned_92 : decode cX12_isYawned 92 = .ok (.iconst 0, 1) := by decide +kernel
theorem dX12_isYawned_93 : decode cX12_isYawned 93 = .ok (.ireturn, 1) := by decide +kernel
theorem dX12_isYawned_94 : decode cX12_isYawned 94 = .ok (.iinc 7 1, 3) := by decide +kernel
theorem dX12_isYawned_97 : decode cX12_isYawned 97 = .ok (.goto (-83), 3) := by decide +kernel
theorem dX12_isYawned_100 : decode cX12_isYawned 100 = .ok (.iconst 1, 1) := by decide +kernel
theorem dX12_isYawned_101 : decode cX12_isYawned 101 = .ok (.ireturn, 1) := by decide +kernel
theorem dX12_yawns_0 : decode cX12_yawns 0 = .ok (.aload_n 0, 1) := by decide +kernel
theorem dX12_yawns_1 : decode cX12_yawns 1 = .ok (.iload_n 1, 1) := by decide +kernel
theorem dX12_yawns_2 : decode cX12_yawns 2 = .ok (.invokevirtual 279, 3) := by decide +kernel
theorem dX12_yawns_5 : decode cX12_yawns 5 = .ok (.ifCond .eq 33, 3) := by decide +kernel
theorem dX12_yawns_8 : decode cX12_yawns 8 = .ok (.iload_n 2, 1) := by decide +kernel
theorem dX12_yawns_9 : decode cX12_yawns 9 = .ok (.i2l, 1) := by decide +kernel
theorem dX12_yawns_10 : decode cX12_yawns 10 = .ok (.lconst 1, 1) := by decide +kernel
theorem dX12_yawns_11 : decode cX12_yawns 11 = .ok (.ldc2_w 631, 3) := by decide +kernel
theorem dX12_yawns_14 : decode cX12_yawns 14 = .ok (.invokestatic 222, 3) := by decide +kernel
theorem dX12_yawns_17 : decode cX12_yawns 17 = .ok (.ifCond .eq 21, 3) := by decide +kernel
theorem dX12_yawns_20 : decode cX12_yawns 20 = .ok (.iload_n 3, 1) := by decide +kernel
theorem dX12_yawns_21 : decode cX12_yawns 21 = .ok (.i2l, 1) := by decide +kernel
theorem dX12_yawns_22 : decode cX12_yawns 22 = .ok (.lconst 0, 1) := by decide +kernel
theorem dX12_yawns_23 : decode cX12_yawns 23 = .ok (.lconst 1, 1) := by decide +kernel
theorem dX12_yawns_24 : decode cX12_yawns 24 = .ok (.invokestatic 222, 3) := by decide +kernel
theorem dX12_yawns_27 : decode cX12_yawns 27 = .ok (.ifCond .eq 11, 3) := by decide +kernel
theorem dX12_yawns_30 : decode cX12_yawns 30 = .ok (.iload_n 2, 1) := by decide +kernel
theorem dX12_yawns_31 : decode cX12_yawns 31 = .ok (.aload_n 0, 1) := by decide +kernel
theorem dX12_yawns_32 : decode cX12_yawns 32 = .ok (.getfield 198, 3) := by decide +kernel
theorem dX12_yawns_35 : decode cX12_yawns 35 = .ok (.if_icmp .le 5, 3) := by decide +kernel
theorem dX12_yawns_38 : decode cX12_yawns 38 = .ok (.iconst (-1), 1) := by decide +kernel
theorem dX12_yawns_39 : decode cX12_yawns 39 = .ok (.ireturn, 1) := by decide +kernel
theorem dX12_yawns_40 : decode cX12_yawns 40 = .ok (.aload_n 0, 1) := by decide +kernel
theorem dX12_yawns_41 : decode cX12_yawns 41 = .ok (.iconst 0, 1) := by decide +kernel
theorem dX12_yawns_42 : decode cX12_yawns 42 = .ok (.putfield 198, 3) := by decide +kernel
theorem dX12_yawns_45 : decode cX12_yawns 45 = .ok (.iload_n 2, 1) := by decide +kernel
theorem dX12_yawns_46 : decode cX12_yawns 46 = .ok (.aload_n 0, 1) := by decide +kernel
theorem dX12_yawns_47 : decode cX12_yawns 47 = .ok (.getfield 21, 3) := by decide +kernel
theorem dX12_yawns_50 : decode cX12_yawns 50 = .ok (.iload_n 1, 1) := by decide +kernel
theorem dX12_yawns_51 : decode cX12_yawns 51 = .ok (.iaload, 1) := by decide +kernel
theorem dX12_yawns_52 : decode cX12_yawns 52 = .ok (.if_icmp .le 6, 3) := by decide +kernel
theorem dX12_yawns_55 : decode cX12_yawns 55 = .ok (.bipush (-2), 2) := by decide +kernel
theorem dX12_yawns_57 : decode cX12_yawns 57 = .ok (.ireturn, 1) := by decide +kernel
theorem dX12_yawns_58 : decode cX12_yawns 58 = .ok (.iconst 0, 1) := by decide +kernel
theorem dX12_yawns_59 : decode cX12_yawns 59 = .ok (.istore 4, 2) := by decide +kernel
theorem dX12_yawns_61 : decode cX12_yawns 61 = .ok (.iconst 0, 1) := by decide +kernel
theorem dX12_yawns_62 : decode cX12_yawns 62 = .ok (.istore 5, 2) := by decide +kernel
theorem dX12_yawns_64 : decode cX12_yawns 64 = .ok (.iconst 0, 1) := by decide +kernel
theorem dX12_yawns_65 : decode cX12_yawns 65 = .ok (.istore 6, 2) := by decide +kernel
theorem dX12_yawns_67 : decode cX12_yawns 67 = .ok (.iload 6, 2) := by decide +kernel
theorem dX12_yawns_69 : decode cX12_yawns 69 = .ok (.bipush 10, 2) := by decide +kernel
theorem dX12_yawns_71 : decode cX12_yawns 71 = .ok (.if_icmp .ge 67, 3) := by decide +kernel
theorem dX12_yawns_74 : decode cX12_yawns 74 = .ok (.iconst 1, 1) := by decide +kernel
theorem dX12_yawns_75 : decode cX12_yawns 75 = .ok (.istore 7, 2) := by decide +kernel
theorem dX12_yawns_77 : decode cX12_yawns 77 = .ok (.iload 7, 2) := by decide +kernel
theorem dX12_yawns_79 : decode cX12_yawns 79 = .ok (.aload_n 0, 1) := by decide +kernel
theorem dX12_yawns_80 : decode cX12_yawns 80 = .ok (.getfield 21, 3) := by decide +kernel
theorem dX12_yawns_83 : decode cX12_yawns 83 = .ok (.iload_n 1, 1) := by decide +kernel
theorem dX12_yawns_84 : decode cX12_yawns 84 = .ok (.iaload, 1) := by decide +kernel
theorem dX12_yawns_85 : decode cX12_yawns 85 = .ok (.if_icmp .gt 47, 3) := by decide +kernel
theorem dX12_yawns_88 : decode cX12_yawns 88 = .ok (.aload_n 0, 1) := by decide +kernel
theorem dX12_yawns_89 : decode cX12_yawns 89 = .ok (.getfield 88, 3) := by decide +kernel
theorem dX12_yawns_92 : decode cX12_yawns 92 = .ok (.iload 6, 2) := by decide +kernel
theorem dX12_yawns_94 : decode cX12_yawns 94 = .ok (.baload, 1) := by decide +kernel
theorem dX12_yawns_95 : decode cX12_yawns 95 = .ok (.ifCond .eq 31, 3) := by decide +kernel
theorem dX12_yawns_98 : decode cX12_yawns 98 = .ok (.aload_n 0, 1) := by decide +kernel
theorem dX12_yawns_99 : decode cX12_yawns 99 = .ok (.iload_n 1, 1) := by decide +kernel
theorem dX12_yawns_100 : decode cX12_yawns 100 = .ok (.iload_n 2, 1) := by decide +kernel
theorem dX12_yawns_101 : decode cX12_yawns 101 = .ok (.iload 6, 2) := by decide +kernel
theorem dX12_yawns_103 : decode cX12_yawns 103 = .ok (.iload 7, 2) := by decide +kernel
theorem dX12_yawns_105 : decode cX12_yawns 105 = .ok (.invokevirtual 633, 3) := by decide +kernel
theorem dX12_yawns_108 : decode cX12_yawns 108 = .ok (.ifCond .ne 6, 3) := by decide +kernel
theorem dX12_yawns_111 : decode cX12_yawns 111 = .ok (.goto 15, 3) := by decide +kernel
theorem dX12_yawns_114 : decode cX12_yawns 114 = .ok (.iload 4, 2) := by decide +kernel
theorem dX12_yawns_116 : decode cX12_yawns 116 = .ok (.iconst 1, 1) := by decide +kernel
theorem dX12_yawns_117 : decode cX12_yawns 117 = .ok (.iload 6, 2) := by decide +kernel
theorem dX12_yawns_119 : decode cX12_yawns 119 = .ok (.ishl, 1) := by decide +kernel
theorem dX12_yawns_120 : decode cX12_yawns 120 = .ok (.ior, 1) := by decide +kernel
theorem dX12_yawns_121 : decode cX12_yawns 121 = .ok (.istore 4, 2) := by decide +kernel
theorem dX12_yawns_123 : decode cX12_yawns 123 = .ok (.iinc 5 1, 3) := by decide +kernel
theorem dX12_yawns_126 : decode cX12_yawns 126 = .ok (.iinc 7 1, 3) := by decide +kernel
theorem dX12_yawns_129 : decode cX12_yawns 129 = .ok (.goto (-52), 3) := by decide +kernel
theorem dX12_yawns_132 : decode cX12_yawns 132 = .ok (.iinc 6 1, 3) := by decide +kernel
theorem dX12_yawns_135 : decode cX12_yawns 135 = .ok (.goto (-68), 3) := by decide +kernel
theorem dX12_yawns_138 : decode cX12_yawns 138 = .ok (.iload_n 3, 1) := by decide +kernel
theorem dX12_yawns_139 : decode cX12_yawns 139 = .ok (.ifCond .ne 8, 3) := by decide +kernel
theorem dX12_yawns_142 : decode cX12_yawns 142 = .ok (.iload 4, 2) := by decide +kernel
theorem dX12_yawns_144 : decode cX12_yawns 144 = .ok (.goto 5, 3) := by decide +kernel
theorem dX12_yawns_147 : decode cX12_yawns 147 = .ok (.iload 5, 2) := by decide +kernel
theorem dX12_yawns_149 : decode cX12_yawns 149 = .ok (.ireturn, 1) := by decide +kernel
theorem dX12_seed_0 : decode cX12_seed 0 = .ok (.iload_n 1, 1) := by decide +kernel
theorem dX12_seed_1 : decode cX12_seed 1 = .ok (.i2l, 1) := by decide +kernel
theorem dX12_seed_2 : decode cX12_seed 2 = .ok (.lconst 0, 1) := by decide +kernel
theorem dX12_seed_3 : decode cX12_seed 3 = .ok (.ldc2_w 637, 3) := by decide +kernel
theorem dX12_seed_6 : decode cX12_seed 6 = .ok (.invokestatic 222, 3) := by decide +kernel
theorem dX12_seed_9 : decode cX12_seed 9 = .ok (.ifCond .ne 5, 3) := by decide +kernel
theorem dX12_seed_12 : decode cX12_seed 12 = .ok (.iconst 0, 1) := by decide +kernel
theorem dX12_seed_13 : decode cX12_seed 13 = .ok (.ireturn, 1) := by decide +kernel
theorem dX12_seed_14 : decode cX12_seed 14 = .ok (.aload_n 0, 1) := by decide +kernel
theorem dX12_seed_15 : decode cX12_seed 15 = .ok (.iload_n 1, 1) := by decide +kernel
theorem dX12_seed_16 : decode cX12_seed 16 = .ok (.putfield 13, 3) := by decide +kernel
theorem dX12_seed_19 : decode cX12_seed 19 = .ok (.iconst 1, 1) := by decide +kernel
theorem dX12_seed_20 : decode cX12_seed 20 = .ok (.ireturn, 1) := by decide +kernel
theorem dX12_keep_0 : decode cX12_keep 0 = .ok (.aload_n 0, 1) := by decide +kernel
theorem dX12_keep_1 : decode cX12_keep 1 = .ok (.iconst 1, 1) := by decide +kernel
theorem dX12_keep_2 : decode cX12_keep 2 = .ok (.putfield 639, 3) := by decide +kernel
theorem dX12_keep_5 : decode cX12_keep 5 = .ok (.aload_n 0, 1) := by decide +kernel
theorem dX12_keep_6 : decode cX12_keep 6 = .ok (.iconst 1, 1) := by decide +kernel
theorem dX12_keep_7 : decode cX12_keep 7 = .ok (.invokevirtual 566, 3) := by decide +kernel
theorem dX12_keep_10 : decode cX12_keep 10 = .ok (.aload_n 0, 1) := by decide +kernel
theorem dX12_keep_11 : decode cX12_keep 11 = .ok (.getfield 424, 3) := by decide +kernel
theorem dX12_keep_14 : decode cX12_keep 14 = .ok (.ireturn, 1) := by decide +kernel
theorem dX12_undo_0 : decode cX12_undo 0 = .ok (.aload_n 0, 1) := by decide +kernel
theorem dX12_undo_1 : decode cX12_undo 1 = .ok (.getfield 639, 3) := by decide +kernel
theorem dX12_undo_4 : decode cX12_undo 4 = .ok (.ifCond .ne 5, 3) := by decide +kernel
theorem dX12_undo_7 : decode cX12_undo 7 = .ok (.iconst 0, 1) := by decide +kernel
theorem dX12_undo_8 : decode cX12_undo 8 = .ok (.ireturn, 1) := by decide +kernel
theorem dX12_undo_9 : decode cX12_undo 9 = .ok (.aload_n 0, 1) := by decide +kernel
theorem dX12_undo_10 : decode cX12_undo 10 = .ok (.iconst 1, 1) := by decide +kernel
theorem dX12_undo_11 : decode cX12_undo 11 = .ok (.invokevirtual 569, 3) := by decide +kernel
theorem dX12_undo_14 : decode cX12_undo 14 = .ok (.iconst 1, 1) := by decide +kernel
theorem dX12_undo_15 : decode cX12_undo 15 = .ok (.ireturn, 1) := by decide +kernel
theorem dX12_check_0 : decode cX12_check 0 = .ok (.iload_n 1, 1) := by decide +kernel
theorem dX12_check_1 : decode cX12_check 1 = .ok (.i2l, 1) := by decide +kernel
theorem dX12_check_2 : decode cX12_check 2 = .ok (.lconst 0, 1) := by decide +kernel
theorem dX12_check_3 : decode cX12_check 3 = .ok (.ldc2_w 642, 3) := by decide +kernel
theorem dX12_check_6 : decode cX12_check 6 = .ok (.invokestatic 222, 3) := by decide +kernel
theorem dX12_check_9 : decode cX12_check 9 = .ok (.ifCond .eq 11, 3) := by decide +kernel
theorem dX12_check_12 : decode cX12_check 12 = .ok (.iload_n 1, 1) := by decide +kernel
theorem dX12_check_13 : decode cX12_check 13 = .ok (.aload_n 0, 1) := by decide +kernel
theorem dX12_check_14 : decode cX12_check 14 = .ok (.getfield 198, 3) := by decide +kernel
theorem dX12_check_17 : decode cX12_check 17 = .ok (.if_icmp .le 6, 3) := by decide +kernel
theorem dX12_check_20 : decode cX12_check 20 = .ok (.bipush (-2), 2) := by decide +kernel
theorem dX12_check_22 : decode cX12_check 22 = .ok (.ireturn, 1) := by decide +kernel
theorem dX12_check_23 : decode cX12_check 23 = .ok (.aload_n 0, 1) := by decide +kernel
theorem dX12_check_24 : decode cX12_check 24 = .ok (.iconst 0, 1) := by decide +kernel
theorem dX12_check_25 : decode cX12_check 25 = .ok (.putfield 198, 3) := by decide +kernel
theorem dX12_check_28 : decode cX12_check 28 = .ok (.iconst 0, 1) := by decide +kernel
theorem dX12_check_29 : decode cX12_check 29 = .ok (.istore_n 2, 1) := by decide +kernel
theorem dX12_check_30 : decode cX12_check 30 = .ok (.iload_n 2, 1) := by decide +kernel
theorem dX12_check_31 : decode cX12_check 31 = .ok (.iload_n 1, 1) := by decide +kernel
theorem dX12_check_32 : decode cX12_check 32 = .ok (.if_icmp .ge 38, 3) := by decide +kernel
theorem dX12_check_35 : decode cX12_check 35 = .ok (.aload_n 0, 1) := by decide +kernel
theorem dX12_check_36 : decode cX12_check 36 = .ok (.iload_n 2, 1) := by decide +kernel
theorem dX12_check_37 : decode cX12_check 37 = .ok (.invokevirtual 612, 3) := by decide +kernel
theorem dX12_check_40 : decode cX12_check 40 = .ok (.aload_n 0, 1) := by decide +kernel
theorem dX12_check_41 : decode cX12_check 41 = .ok (.getfield 118, 3) := by decide +kernel
theorem dX12_check_44 : decode cX12_check 44 = .ok (.iload_n 2, 1) := by decide +kernel
theorem dX12_check_45 : decode cX12_check 45 = .ok (.baload, 1) := by decide +kernel
theorem dX12_check_46 : decode cX12_check 46 = .ok (.ifCond .eq 12, 3) := by decide +kernel
theorem dX12_check_49 : decode cX12_check 49 = .ok (.aload_n 0, 1) := by decide +kernel
theorem dX12_check_50 : decode cX12_check 50 = .ok (.getfield 127, 3) := by decide +kernel
theorem dX12_check_53 : decode cX12_check 53 = .ok (.iload_n 2, 1) := by decide +kernel
theorem dX12_check_54 : decode cX12_check 54 = .ok (.iaload, 1) := by decide +kernel
theorem dX12_check_55 : decode cX12_check 55 = .ok (.goto 4, 3) := by decide +kernel
theorem dX12_check_58 : decode cX12_check 58 = .ok (.iconst 0, 1) := by decide +kernel
theorem dX12_check_59 : decode cX12_check 59 = .ok (.if_icmp .eq 5, 3) := by decide +kernel
theorem dX12_check_62 : decode cX12_check 62 = .ok (.iload_n 2, 1) := by decide +kernel
theorem dX12_check_63 : decode cX12_check 63 = .ok (.ireturn, 1) := by decide +kernel
theorem dX12_check_64 : decode cX12_check 64 = .ok (.iinc 2 1, 3) := by decide +kernel
theorem dX12_check_67 : decode cX12_check 67 = .ok (.goto (-37), 3) := by decide +kernel
theorem dX12_check_70 : decode cX12_check 70 = .ok (.iconst (-1), 1) := by decide +kernel
theorem dX12_check_71 : decode cX12_check 71 = .ok (.ireturn, 1) := by decide +kernel
theorem dX12_isToldOf_0 : decode cX12_isToldOf 0 = .ok (.iload_n 1, 1) := by decide +kernel
theorem dX12_isToldOf_1 : decode cX12_isToldOf 1 = .ok (.tableswitch 45 3 5 #[27, 33, 39], 27) := by decide +kernel
theorem dX12_isToldOf_28 : decode cX12_isToldOf 28 = .ok (.aload_n 0, 1) := by decide +kernel
theorem dX12_isToldOf_29 : decode cX12_isToldOf 29 = .ok (.iload_n 2, 1) := by decide +kernel
theorem dX12_isToldOf_30 : decode cX12_isToldOf 30 = .ok (.invokevirtual 279, 3) := by decide +kernel
theorem dX12_isToldOf_33 : decode cX12_isToldOf 33 = .ok (.ireturn, 1) := by decide +kernel
theorem dX12_isToldOf_34 : decode cX12_isToldOf 34 = .ok (.aload_n 0, 1) := by decide +kernel
theorem dX12_isToldOf_35 : decode cX12_isToldOf 35 = .ok (.iload_n 2, 1) := by decide +kernel
theorem dX12_isToldOf_36 : decode cX12_isToldOf 36 = .ok (.invokevirtual 499, 3) := by decide +kernel
theorem dX12_isToldOf_39 : decode cX12_isToldOf 39 = .ok (.ireturn, 1) := by decide +kernel
theorem dX12_isToldOf_40 : decode cX12_isToldOf 40 = .ok (.aload_n 0, 1) := by decide +kernel
theorem dX12_isToldOf_41 : decode cX12_isToldOf 41 = .ok (.iload_n 2, 1) := by decide +kernel
theorem dX12_isToldOf_42 : decode cX12_isToldOf 42 = .ok (.invokevirtual 467, 3) := by decide +kernel
theorem dX12_isToldOf_45 : decode cX12_isToldOf 45 = .ok (.ireturn, 1) := by decide +kernel
theorem dX12_isToldOf_46 : decode cX12_isToldOf 46 = .ok (.aload_n 0, 1) := by decide +kernel
theorem dX12_isToldOf_47 : decode cX12_isToldOf 47 = .ok (.iload_n 2, 1) := by decide +kernel
theorem dX12_isToldOf_48 : decode cX12_isToldOf 48 = .ok (.invokevirtual 563, 3) := by decide +kernel
theorem dX12_isToldOf_51 : decode cX12_isToldOf 51 = .ok (.ireturn, 1) := by decide +kernel
theorem dX12_toldOf_0 : decode cX12_toldOf 0 = .ok (.iconst 0, 1) := by decide +kernel
theorem dX12_toldOf_1 : decode cX12_toldOf 1 = .ok (.istore_n 2, 1) := by decide +kernel
theorem dX12_toldOf_2 : decode cX12_toldOf 2 = .ok (.iconst 0, 1) := by decide +kernel
theorem dX12_toldOf_3 : decode cX12_toldOf 3 = .ok (.istore_n 3, 1) := by decide +kernel
theorem dX12_toldOf_4 : decode cX12_toldOf 4 = .ok (.iload_n 3, 1) := by decide +kernel
theorem dX12_toldOf_5 : decode cX12_toldOf 5 = .ok (.bipush 10, 2) := by decide +kernel
theorem dX12_toldOf_7 : decode cX12_toldOf 7 = .ok (.if_icmp .ge 28, 3) := by decide +kernel
theorem dX12_toldOf_10 : decode cX12_toldOf 10 = .ok (.iload_n 2, 1) := by decide +kernel
theorem dX12_toldOf_11 : decode cX12_toldOf 11 = .ok (.aload_n 0, 1) := by decide +kernel
theorem dX12_toldOf_12 : decode cX12_toldOf 12 = .ok (.iload_n 1, 1) := by decide +kernel
theorem dX12_toldOf_13 : decode cX12_toldOf 13 = .ok (.iload_n 3, 1) := by decide +kernel
theorem dX12_toldOf_14 : decode cX12_toldOf 14 = .ok (.invokevirtual 644, 3) := by decide +kernel
theorem dX12_toldOf_17 : decode cX12_toldOf 17 = .ok (.ifCond .eq 9, 3) := by decide +kernel
theorem dX12_toldOf_20 : decode cX12_toldOf 20 = .ok (.iconst 1, 1) := by decide +kernel
theorem dX12_toldOf_21 : decode cX12_toldOf 21 = .ok (.iload_n 3, 1) := by decide +kernel
theorem dX12_toldOf_22 : decode cX12_toldOf 22 = .ok (.ishl, 1) := by decide +kernel
theorem dX12_toldOf_23 : decode cX12_toldOf 23 = .ok (.goto 4, 3) := by decide +kernel
theorem dX12_toldOf_26 : decode cX12_toldOf 26 = .ok (.iconst 0, 1) := by decide +kernel
theorem dX12_toldOf_27 : decode cX12_toldOf 27 = .ok (.ior, 1) := by decide +kernel
theorem dX12_toldOf_28 : decode cX12_toldOf 28 = .ok (.istore_n 2, 1) := by decide +kernel
theorem dX12_toldOf_29 : decode cX12_toldOf 29 = .ok (.iinc 3 1, 3) := by decide +kernel
theorem dX12_toldOf_32 : decode cX12_toldOf 32 = .ok (.goto (-28), 3) := by decide +kernel
theorem dX12_toldOf_35 : decode cX12_toldOf 35 = .ok (.iload_n 2, 1) := by decide +kernel
theorem dX12_toldOf_36 : decode cX12_toldOf 36 = .ok (.ireturn, 1) := by decide +kernel
theorem dX12_count_0 : decode cX12_count 0 = .ok (.iload_n 1, 1) := by decide +kernel
theorem dX12_count_1 : decode cX12_count 1 = .ok (.i2l, 1) := by decide +kernel
theorem dX12_count_2 : decode cX12_count 2 = .ok (.ldc2_w 459, 3) := by decide +kernel
theorem dX12_count_5 : decode cX12_count 5 = .ok (.ldc2_w 561, 3) := by decide +kernel
theorem dX12_count_8 : decode cX12_count 8 = .ok (.invokestatic 222, 3) := by decide +kernel
theorem dX12_count_11 : decode cX12_count 11 = .ok (.ifCond .eq 9, 3) := by decide +kernel
theorem dX12_count_14 : decode cX12_count 14 = .ok (.aload_n 0, 1) := by decide +kernel
theorem dX12_count_15 : decode cX12_count 15 = .ok (.iload_n 1, 1) := by decide +kernel
theorem dX12_count_16 : decode cX12_count 16 = .ok (.invokevirtual 647, 3) := by decide +kernel
theorem dX12_count_19 : decode cX12_count 19 = .ok (.ireturn, 1) := by decide +kernel
theorem dX12_count_20 : decode cX12_count 20 = .ok (.iload_n 1, 1) := by decide +kernel
theorem dX12_count_21 : decode cX12_count 21 = .ok (.tableswitch 87 0 9 #[55, 60, 65, 87, 87, 87, 87, 70, 77, 82], 55) := by decide +kernel
theorem dX12_count_76 : decode cX12_count 76 = .ok (.aload_n 0, 1) := by decide +kernel
theorem dX12_count_77 : decode cX12_count 77 = .ok (.getfield 424, 3) := by decide +kernel
theorem dX12_count_80 : decode cX12_count 80 = .ok (.ireturn, 1) := by decide +kernel
theorem dX12_count_81 : decode cX12_count 81 = .ok (.aload_n 0, 1) := by decide +kernel
theorem dX12_count_82 : decode cX12_count 82 = .ok (.getfield 514, 3) := by decide +kernel
theorem dX12_count_85 : decode cX12_count 85 = .ok (.ireturn, 1) := by decide +kernel
theorem dX12_count_86 : decode cX12_count 86 = .ok (.aload_n 0, 1) := by decide +kernel
theorem dX12_count_87 : decode cX12_count 87 = .ok (.getfield 538, 3) := by decide +kernel
theorem dX12_count_90 : decode cX12_count 90 = .ok (.ireturn, 1) := by decide +kernel
theorem dX12_count_91 : decode cX12_count 91 = .ok (.aload_n 0, 1) := by decide +kernel
theorem dX12_count_92 : decode cX12_count 92 = .ok (.getfield 58, 3) := by decide +kernel
theorem dX12_count_95 : decode cX12_count 95 = .ok (.iconst 0, 1) := by decide +kernel
theorem dX12_count_96 : decode cX12_count 96 = .ok (.iaload, 1) := by decide +kernel
theorem dX12_count_97 : decode cX12_count 97 = .ok (.ireturn, 1) := by decide +kernel
theorem dX12_count_98 : decode cX12_count 98 = .ok (.aload_n 0, 1) := by decide +kernel
theorem dX12_count_99 : decode cX12_count 99 = .ok (.getfield 198, 3) := by decide +kernel
theorem dX12_count_102 : decode cX12_count 102 = .ok (.ireturn, 1) := by decide +kernel
theorem dX12_count_103 : decode cX12_count 103 = .ok (.aload_n 0, 1) := by decide +kernel
theorem dX12_count_104 : decode cX12_count 104 = .ok (.getfield 13, 3) := by decide +kernel
theorem dX12_count_107 : decode cX12_count 107 = .ok (.ireturn, 1) := by decide +kernel
theorem dX12_count_108 : decode cX12_count 108 = .ok (.iconst (-1), 1) := by decide +kernel
theorem dX12_count_109 : decode cX12_count 109 = .ok (.ireturn, 1) := by decide +kernel
