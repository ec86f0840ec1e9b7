theorem dX11_init_12 : decode cX11_init 12 = .ok (.aload_n 0, 1) := by decide +kernel
theorem dX11_init_13 : decode cX11_init 13 = .ok (.bipush 24, 2) := by decide +kernel
theorem dX11_init_15 : decode cX11_init 15 = .ok (.newarray .int, 2) := by decide +kernel
theorem dX11_init_17 : decode cX11_init 17 = .ok (.putfield 13, 3) := by decide +kernel
theorem dX11_init_20 : decode cX11_init 20 = .ok (.aload_n 0, 1) := by decide +kernel
theorem dX11_init_21 : decode cX11_init 21 = .ok (.bipush 24, 2) := by decide +kernel
theorem dX11_init_23 : decode cX11_init 23 = .ok (.newarray .boolean, 2) := by decide +kernel
theorem dX11_init_25 : decode cX11_init 25 = .ok (.putfield 16, 3) := by decide +kernel
theorem dX11_init_28 : decode cX11_init 28 = .ok (.aload_n 0, 1) := by decide +kernel
theorem dX11_init_29 : decode cX11_init 29 = .ok (.bipush 24, 2) := by decide +kernel
theorem dX11_init_31 : decode cX11_init 31 = .ok (.newarray .int, 2) := by decide +kernel
theorem dX11_init_33 : decode cX11_init 33 = .ok (.putfield 20, 3) := by decide +kernel
theorem dX11_init_36 : decode cX11_init 36 = .ok (.aload_n 0, 1) := by decide +kernel
theorem dX11_init_37 : decode cX11_init 37 = .ok (.bipush 24, 2) := by decide +kernel
theorem dX11_init_39 : decode cX11_init 39 = .ok (.newarray .int, 2) := by decide +kernel
theorem dX11_init_41 : decode cX11_init 41 = .ok (.putfield 23, 3) := by decide +kernel
theorem dX11_init_44 : decode cX11_init 44 = .ok (.aload_n 0, 1) := by decide +kernel
theorem dX11_init_45 : decode cX11_init 45 = .ok (.bipush 24, 2) := by decide +kernel
theorem dX11_init_47 : decode cX11_init 47 = .ok (.newarray .int, 2) := by decide +kernel
theorem dX11_init_49 : decode cX11_init 49 = .ok (.putfield 26, 3) := by decide +kernel
theorem dX11_init_52 : decode cX11_init 52 = .ok (.aload_n 0, 1) := by decide +kernel
theorem dX11_init_53 : decode cX11_init 53 = .ok (.bipush 24, 2) := by decide +kernel
theorem dX11_init_55 : decode cX11_init 55 = .ok (.newarray .boolean, 2) := by decide +kernel
theorem dX11_init_57 : decode cX11_init 57 = .ok (.putfield 29, 3) := by decide +kernel
theorem dX11_init_60 : decode cX11_init 60 = .ok (.aload_n 0, 1) := by decide +kernel
theorem dX11_init_61 : decode cX11_init 61 = .ok (.bipush 24, 2) := by decide +kernel
theorem dX11_init_63 : decode cX11_init 63 = .ok (.newarray .int, 2) := by decide +kernel
theorem dX11_init_65 : decode cX11_init 65 = .ok (.putfield 32, 3) := by decide +kernel
theorem dX11_init_68 : decode cX11_init 68 = .ok (.aload_n 0, 1) := by decide +kernel
theorem dX11_init_69 : decode cX11_init 69 = .ok (.bipush 10, 2) := by decide +kernel
theorem dX11_init_71 : decode cX11_init 71 = .ok (.newarray .int, 2) := by decide +kernel
theorem dX11_init_73 : decode cX11_init 73 = .ok (.putfield 35, 3) := by decide +kernel
theorem dX11_init_76 : decode cX11_init 76 = .ok (.aload_n 0, 1) := by decide +kernel
theorem dX11_init_77 : decode cX11_init 77 = .ok (.bipush 10, 2) := by decide +kernel
theorem dX11_init_79 : decode cX11_init 79 = .ok (.newarray .int, 2) := by decide +kernel
theorem dX11_init_81 : decode cX11_init 81 = .ok (.putfield 38, 3) := by decide +kernel
theorem dX11_init_84 : decode cX11_init 84 = .ok (.aload_n 0, 1) := by decide +kernel
theorem dX11_init_85 : decode cX11_init 85 = .ok (.bipush 10, 2) := by decide +kernel
theorem dX11_init_87 : decode cX11_init 87 = .ok (.newarray .int, 2) := by decide +kernel
theorem dX11_init_89 : decode cX11_init 89 = .ok (.putfield 41, 3) := by decide +kernel
theorem dX11_init_92 : decode cX11_init 92 = .ok (.aload_n 0, 1) := by decide +kernel
theorem dX11_init_93 : decode cX11_init 93 = .ok (.bipush 10, 2) := by decide +kernel
theorem dX11_init_95 : decode cX11_init 95 = .ok (.newarray .boolean, 2) := by decide +kernel
theorem dX11_init_97 : decode cX11_init 97 = .ok (.putfield 44, 3) := by decide +kernel
theorem dX11_init_100 : decode cX11_init 100 = .ok (.aload_n 0, 1) := by decide +kernel
theorem dX11_init_101 : decode cX11_init 101 = .ok (.bipush 10, 2) := by decide +kernel
theorem dX11_init_103 : decode cX11_init 103 = .ok (.newarray .int, 2) := by decide +kernel
theorem dX11_init_105 : decode cX11_init 105 = .ok (.putfield 47, 3) := by decide +kernel
theorem dX11_init_108 : decode cX11_init 108 = .ok (.aload_n 0, 1) := by decide +kernel
theorem dX11_init_109 : decode cX11_init 109 = .ok (.bipush 10, 2) := by decide +kernel
theorem dX11_init_111 : decode cX11_init 111 = .ok (.newarray .int, 2) := by decide +kernel
theorem dX11_init_113 : decode cX11_init 113 = .ok (.putfield 50, 3) := by decide +kernel
theorem dX11_init_116 : decode cX11_init 116 = .ok (.aload_n 0, 1) := by decide +kernel
theorem dX11_init_117 : decode cX11_init 117 = .ok (.iconst 5, 1) := by decide +kernel
theorem dX11_init_118 : decode cX11_init 118 = .ok (.putfield 53, 3) := by decide +kernel
theorem dX11_init_121 : decode cX11_init 121 = .ok (.aload_n 0, 1) := by decide +kernel
theorem dX11_init_122 : decode cX11_init 122 = .ok (.bipush 10, 2) := by decide +kernel
theorem dX11_init_124 : decode cX11_init 124 = .ok (.newarray .int, 2) := by decide +kernel
theorem dX11_init_126 : decode cX11_init 126 = .ok (.putfield 57, 3) := by decide +kernel
theorem dX11_init_129 : decode cX11_init 129 = .ok (.aload_n 0, 1) := by decide +kernel
theorem dX11_init_130 : decode cX11_init 130 = .ok (.bipush 10, 2) := by decide +kernel
theorem dX11_init_132 : decode cX11_init 132 = .ok (.newarray .int, 2) := by decide +kernel
theorem dX11_init_134 : decode cX11_init 134 = .ok (.putfield 60, 3) := by decide +kernel
theorem dX11_init_137 : decode cX11_init 137 = .ok (.aload_n 0, 1) := by decide +kernel
theorem dX11_init_138 : decode cX11_init 138 = .ok (.bipush 31, 2) := by decide +kernel
theorem dX11_init_140 : decode cX11_init 140 = .ok (.newarray .boolean, 2) := by decide +kernel
theorem dX11_init_142 : decode cX11_init 142 = .ok (.putfield 63, 3) := by decide +kernel
theorem dX11_init_145 : decode cX11_init 145 = .ok (.aload_n 0, 1) := by decide +kernel
theorem dX11_init_146 : decode cX11_init 146 = .ok (.bipush 24, 2) := by decide +kernel
theorem dX11_init_148 : decode cX11_init 148 = .ok (.newarray .int, 2) := by decide +kernel
theorem dX11_init_150 : decode cX11_init 150 = .ok (.putfield 66, 3) := by decide +kernel
theorem dX11_init_153 : decode cX11_init 153 = .ok (.aload_n 0, 1) := by decide +kernel
theorem dX11_init_154 : decode cX11_init 154 = .ok (.bipush 24, 2) := by decide +kernel
theorem dX11_init_156 : decode cX11_init 156 = .ok (.newarray .boolean, 2) := by decide +kernel
theorem dX11_init_158 : decode cX11_init 158 = .ok (.putfield 69, 3) := by decide +kernel
theorem dX11_init_161 : decode cX11_init 161 = .ok (.aload_n 0, 1) := by decide +kernel
theorem dX11_init_162 : decode cX11_init 162 = .ok (.bipush 6, 2) := by decide +kernel
theorem dX11_init_164 : decode cX11_init 164 = .ok (.newarray .int, 2) := by decide +kernel
theorem dX11_init_166 : decode cX11_init 166 = .ok (.putfield 72, 3) := by decide +kernel
theorem dX11_init_169 : decode cX11_init 169 = .ok (.aload_n 0, 1) := by decide +kernel
theorem dX11_init_170 : decode cX11_init 170 = .ok (.bipush 64, 2) := by decide +kernel
theorem dX11_init_172 : decode cX11_init 172 = .ok (.newarray .int, 2) := by decide +kernel
theorem dX11_init_174 : decode cX11_init 174 = .ok (.putfield 75, 3) := by decide +kernel
theorem dX11_init_177 : decode cX11_init 177 = .ok (.aload_n 0, 1) := by decide +kernel
theorem dX11_init_178 : decode cX11_init 178 = .ok (.sipush 384, 3) := by decide +kernel
theorem dX11_init_181 : decode cX11_init 181 = .ok (.newarray .int, 2) := by decide +kernel
theorem dX11_init_183 : decode cX11_init 183 = .ok (.putfield 78, 3) := by decide +kernel
theorem dX11_init_186 : decode cX11_init 186 = .ok (.aload_n 0, 1) := by decide +kernel
theorem dX11_init_187 : decode cX11_init 187 = .ok (.bipush 10, 2) := by decide +kernel
theorem dX11_init_189 : decode cX11_init 189 = .ok (.newarray .int, 2) := by decide +kernel
theorem dX11_init_191 : decode cX11_init 191 = .ok (.putfield 81, 3) := by decide +kernel
theorem dX11_init_194 : decode cX11_init 194 = .ok (.aload_n 0, 1) := by decide +kernel
theorem dX11_init_195 : decode cX11_init 195 = .ok (.bipush 10, 2) := by decide +kernel
theorem dX11_init_197 : decode cX11_init 197 = .ok (.newarray .int, 2) := by decide +kernel
theorem dX11_init_199 : decode cX11_init 199 = .ok (.putfield 84, 3) := by decide +kernel
theorem dX11_init_202 : decode cX11_init 202 = .ok (.aload_n 0, 1) := by decide +kernel
theorem dX11_init_203 : decode cX11_init 203 = .ok (.bipush 10, 2) := by decide +kernel
theorem dX11_init_205 : decode cX11_init 205 = .ok (.newarray .int, 2) := by decide +kernel
theorem dX11_init_207 : decode cX11_init 207 = .ok (.putfield 87, 3) := by decide +kernel
theorem dX11_init_210 : decode cX11_init 210 = .ok (.aload_n 0, 1) := by decide +kernel
theorem dX11_init_211 : decode cX11_init 211 = .ok (.bipush 10, 2) := by decide +kernel
theorem dX11_init_213 : decode cX11_init 213 = .ok (.newarray .int, 2) := by decide +kernel
theorem dX11_init_215 : decode cX11_init 215 = .ok (.putfield 90, 3) := by decide +kernel
theorem dX11_init_218 : decode cX11_init 218 = .ok (.aload_n 0, 1) := by decide +kernel
theorem dX11_init_219 : decode cX11_init 219 = .ok (.bipush 8, 2) := by decide +kernel
theorem dX11_init_221 : decode cX11_init 221 = .ok (.newarray .int, 2) := by decide +kernel
theorem dX11_init_223 : decode cX11_init 223 = .ok (.putfield 93, 3) := by decide +kernel
theorem dX11_init_226 : decode cX11_init 226 = .ok (.aload_n 0, 1) := by decide +kernel
theorem dX11_init_227 : decode cX11_init 227 = .ok (.bipush 8, 2) := by decide +kernel
theorem dX11_init_229 : decode cX11_init 229 = .ok (.newarray .int, 2) := by decide +kernel
theorem dX11_init_231 : decode cX11_init 231 = .ok (.putfield 96, 3) := by decide +kernel
theorem dX11_init_234 : decode cX11_init 234 = .ok (.aload_n 0, 1) := by decide +kernel
theorem dX11_init_235 : decode cX11_init 235 = .ok (.bipush 8, 2) := by decide +kernel
theorem dX11_init_237 : decode cX11_init 237 = .ok (.newarray .int, 2) := by decide +kernel
theorem dX11_init_239 : decode cX11_init 239 = .ok (.putfield 99, 3) := by decide +kernel
theorem dX11_init_242 : decode cX11_init 242 = .ok (.aload_n 0, 1) := by decide +kernel
theorem dX11_init_243 : decode cX11_init 243 = .ok (.bipush 8, 2) := by decide +kernel
theorem dX11_init_245 : decode cX11_init 245 = .ok (.newarray .int, 2) := by decide +kernel
theorem dX11_init_247 : decode cX11_init 247 = .ok (.putfield 102, 3) := by decide +kernel
theorem dX11_init_250 : decode cX11_init 250 = .ok (.aload_n 0, 1) := by decide +kernel
theorem dX11_init_251 : decode cX11_init 251 = .ok (.bipush 8, 2) := by decide +kernel
theorem dX11_init_253 : decode cX11_init 253 = .ok (.newarray .int, 2) := by decide +kernel
theorem dX11_init_255 : decode cX11_init 255 = .ok (.putfield 105, 3) := by decide +kernel
theorem dX11_init_258 : decode cX11_init 258 = .ok (.aload_n 0, 1) := by decide +kernel
theorem dX11_init_259 : decode cX11_init 259 = .ok (.sipush 480, 3) := by decide +kernel
theorem dX11_init_262 : decode cX11_init 262 = .ok (.newarray .int, 2) := by decide +kernel
theorem dX11_init_264 : decode cX11_init 264 = .ok (.putfield 108, 3) := by decide +kernel
theorem dX11_init_267 : decode cX11_init 267 = .ok (.return_, 1) := by decide +kernel
theorem dX11_thrown_0 : decode cX11_thrown 0 = .ok (.aload_n 0, 1) := by decide +kernel
theorem dX11_thrown_1 : decode cX11_thrown 1 = .ok (.getfield 111, 3) := by decide +kernel
theorem dX11_thrown_4 : decode cX11_thrown 4 = .ok (.ireturn, 1) := by decide +kernel
theorem dX11_in_0 : decode cX11_in 0 = .ok (.iload_n 0, 1) := by decide +kernel
theorem dX11_in_1 : decode cX11_in 1 = .ok (.iload_n 1, 1) := by decide +kernel
theorem dX11_in_2 : decode cX11_in 2 = .ok (.if_icmp .lt 12, 3) := by decide +kernel
theorem dX11_in_5 : decode cX11_in 5 = .ok (.iload_n 0, 1) := by decide +kernel
theorem dX11_in_6 : decode cX11_in 6 = .ok (.iload_n 2, 1) := by decide +kernel
theorem dX11_in_7 : decode cX11_in 7 = .ok (.if_icmp .gt 7, 3) := by decide +kernel
theorem dX11_in_10 : decode cX11_in 10 = .ok (.iconst 1, 1) := by decide +kernel
theorem dX11_in_11 : decode cX11_in 11 = .ok (.goto 4, 3) := by decide +kernel
theorem dX11_in_14 : decode cX11_in 14 = .ok (.iconst 0, 1) := by decide +kernel
theorem dX11_in_15 : decode cX11_in 15 = .ok (.ireturn, 1) := by decide +kernel
theorem dX11_isPlot_0 : decode cX11_isPlot 0 = .ok (.iload_n 0, 1) := by decide +kernel
theorem dX11_isPlot_1 : decode cX11_isPlot 1 = .ok (.iconst 0, 1) := by decide +kernel
theorem dX11_isPlot_2 : decode cX11_isPlot 2 = .ok (.bipush 23, 2) := by decide +kernel
theorem dX11_isPlot_4 : decode cX11_isPlot 4 = .ok (.invokestatic 114, 3) := by decide +kernel
theorem dX11_isPlot_7 : decode cX11_isPlot 7 = .ok (.ireturn, 1) := by decide +kernel
theorem dX11_isBuyer_0 : decode cX11_isBuyer 0 = .ok (.iload_n 1, 1) := by decide +kernel
theorem dX11_isBuyer_1 : decode cX11_isBuyer 1 = .ok (.iconst 0, 1) := by decide +kernel
theorem dX11_isBuyer_2 : decode cX11_isBuyer 2 = .ok (.aload_n 0, 1) := by decide +kernel
theorem dX11_isBuyer_3 : decode cX11_isBuyer 3 = .ok (.getfield 118, 3) := by decide +kernel
theorem dX11_isBuyer_6 : decode cX11_isBuyer 6 = .ok (.iconst 1, 1) := by decide +kernel
theorem dX11_isBuyer_7 : decode cX11_isBuyer 7 = .ok (.isub, 1) := by decide +kernel
theorem dX11_isBuyer_8 : decode cX11_isBuyer 8 = .ok (.invokestatic 114, 3) := by decide +kernel
theorem dX11_isBuyer_11 : decode cX11_isBuyer 11 = .ok (.ireturn, 1) := by decide +kernel
theorem dX11_plot_0 : decode cX11_plot 0 = .ok (.iload_n 1, 1) := by decide +kernel
theorem dX11_plot_1 : decode cX11_plot 1 = .ok (.invokestatic 121, 3) := by decide +kernel
theorem dX11_plot_4 : decode cX11_plot 4 = .ok (.ifCond .eq 23, 3) := by decide +kernel
theorem dX11_plot_7 : decode cX11_plot 7 = .ok (.iload_n 2, 1) := by decide +kernel
theorem dX11_plot_8 : decode cX11_plot 8 = .ok (.iconst 0, 1) := by decide +kernel
theorem dX11_plot_9 : decode cX11_plot 9 = .ok (.iconst 3, 1) := by decide +kernel
theorem dX11_plot_10 : decode cX11_plot 10 = .ok (.invokestatic 114, 3) := by decide +kernel
theorem dX11_plot_13 : decode cX11_plot 13 = .ok (.ifCond .eq 14, 3) := by decide +kernel
theorem dX11_plot_16 : decode cX11_plot 16 = .ok (.iload_n 3, 1) := by decide +kernel
theorem dX11_plot_17 : decode cX11_plot 17 = .ok (.iconst 0, 1) := by decide +kernel
theorem dX11_plot_18 : decode cX11_plot 18 = .ok (.sipush 200, 3) := by decide +kernel
theorem dX11_plot_21 : decode cX11_plot 21 = .ok (.invokestatic 114, 3) := by decide +kernel
theorem dX11_plot_24 : decode cX11_plot 24 = .ok (.ifCond .ne 5, 3) := by decide +kernel
theorem dX11_plot_27 : decode cX11_plot 27 = .ok (.iconst (-1), 1) := by decide +kernel
theorem dX11_plot_28 : decode cX11_plot 28 = .ok (.ireturn, 1) := by decide +kernel
theorem dX11_plot_29 : decode cX11_plot 29 = .ok (.aload_n 0, 1) := by decide +kernel
theorem dX11_plot_30 : decode cX11_plot 30 = .ok (.getfield 16, 3) := by decide +kernel
theorem dX11_plot_33 : decode cX11_plot 33 = .ok (.iload_n 1, 1) := by decide +kernel
theorem dX11_plot_34 : decode cX11_plot 34 = .ok (.baload, 1) := by decide +kernel
theorem dX11_plot_35 : decode cX11_plot 35 = .ok (.ifCond .eq 6, 3) := by decide +kernel
theorem dX11_plot_38 : decode cX11_plot 38 = .ok (.bipush (-3), 2) := by decide +kernel
theorem dX11_plot_40 : decode cX11_plot 40 = .ok (.ireturn, 1) := by decide +kernel
theorem dX11_plot_41 : decode cX11_plot 41 = .ok (.aload_n 0, 1) := by decide +kernel
theorem dX11_plot_42 : decode cX11_plot 42 = .ok (.getfield 13, 3) := by decide +kernel
theorem dX11_plot_45 : decode cX11_plot 45 = .ok (.iload_n 1, 1) := by decide +kernel
theorem dX11_plot_46 : decode cX11_plot 46 = .ok (.iaload, 1) := by decide +kernel
theorem dX11_plot_47 : decode cX11_plot 47 = .ok (.istore 4, 2) := by decide +kernel
theorem dX11_plot_49 : decode cX11_plot 49 = .ok (.aload_n 0, 1) := by decide +kernel
theorem dX11_plot_50 : decode cX11_plot 50 = .ok (.getfield 7, 3) := by decide +kernel
theorem dX11_plot_53 : decode cX11_plot 53 = .ok (.iload_n 1, 1) := by decide +kernel
theorem dX11_plot_54 : decode cX11_plot 54 = .ok (.iload_n 2, 1) := by decide +kernel
theorem dX11_plot_55 : decode cX11_plot 55 = .ok (.iastore, 1) := by decide +kernel
theorem dX11_plot_56 : decode cX11_plot 56 = .ok (.aload_n 0, 1) := by decide +kernel
theorem dX11_plot_57 : decode cX11_plot 57 = .ok (.getfield 13, 3) := by decide +kernel
theorem dX11_plot_60 : decode cX11_plot 60 = .ok (.iload_n 1, 1) := by decide +kernel
theorem dX11_plot_61 : decode cX11_plot 61 = .ok (.iload_n 3, 1) := by decide +kernel
theorem dX11_plot_62 : decode cX11_plot 62 = .ok (.iastore, 1) := by decide +kernel
theorem dX11_plot_63 : decode cX11_plot 63 = .ok (.iload 4, 2) := by decide +kernel
theorem dX11_plot_65 : decode cX11_plot 65 = .ok (.ireturn, 1) := by decide +kernel
theorem dX11_buyer_0 : decode cX11_buyer 0 = .ok (.iload_n 1, 1) := by decide +kernel
theorem dX11_buyer_1 : decode cX11_buyer 1 = .ok (.iconst 0, 1) := by decide +kernel
theorem dX11_buyer_2 : decode cX11_buyer 2 = .ok (.bipush 50, 2) := by decide +kernel
theorem dX11_buyer_4 : decode cX11_buyer 4 = .ok (.invokestatic 114, 3) := by decide +kernel
theorem dX11_buyer_7 : decode cX11_buyer 7 = .ok (.ifCond .eq 20, 3) := by decide +kernel
theorem dX11_buyer_10 : decode cX11_buyer 10 = .ok (.iload_n 2, 1) := by decide +kernel
theorem dX11_buyer_11 : decode cX11_buyer 11 = .ok (.iconst 0, 1) := by decide +kernel
theorem dX11_buyer_12 : decode cX11_buyer 12 = .ok (.ldc 125, 2) := by decide +kernel
theorem dX11_buyer_14 : decode cX11_buyer 14 = .ok (.invokestatic 114, 3) := by decide +kernel
theorem dX11_buyer_17 : decode cX11_buyer 17 = .ok (.ifCond .eq 10, 3) := by decide +kernel
theorem dX11_buyer_20 : decode cX11_buyer 20 = .ok (.iload_n 3, 1) := by decide +kernel
theorem dX11_buyer_21 : decode cX11_buyer 21 = .ok (.invokestatic 121, 3) := by decide +kernel
theorem dX11_buyer_24 : decode cX11_buyer 24 = .ok (.ifCond .ne 5, 3) := by decide +kernel
theorem dX11_buyer_27 : decode cX11_buyer 27 = .ok (.iconst (-1), 1) := by decide +kernel
theorem dX11_buyer_28 : decode cX11_buyer 28 = .ok (.ireturn, 1) := by decide +kernel
theorem dX11_buyer_29 : decode cX11_buyer 29 = .ok (.aload_n 0, 1) := by decide +kernel
theorem dX11_buyer_30 : decode cX11_buyer 30 = .ok (.getfield 118, 3) := by decide +kernel
theorem dX11_buyer_33 : decode cX11_buyer 33 = .ok (.bipush 10, 2) := by decide +kernel
theorem dX11_buyer_35 : decode cX11_buyer 35 = .ok (.if_icmp .ne 6, 3) := by decide +kernel
theorem dX11_buyer_38 : decode cX11_buyer 38 = .ok (.bipush (-2), 2) := by decide +kernel
theorem dX11_buyer_40 : decode cX11_buyer 40 = .ok (.ireturn, 1) := by decide +kernel
theorem dX11_buyer_41 : decode cX11_buyer 41 = .ok (.aload_n 0, 1) := by decide +kernel
theorem dX11_buyer_42 : decode cX11_buyer 42 = .ok (.getfield 35, 3) := by decide +kernel
theorem dX11_buyer_45 : decode cX11_buyer 45 = .ok (.aload_n 0, 1) := by decide +kernel
theorem dX11_buyer_46 : decode cX11_buyer 46 = .ok (.getfield 118, 3) := by decide +kernel
theorem dX11_buyer_49 : decode cX11_buyer 49 = .ok (.iload_n 1, 1) := by decide +kernel
theorem dX11_buyer_50 : decode cX11_buyer 50 = .ok (.iastore, 1) := by decide +kernel
theorem dX11_buyer_51 : decode cX11_buyer 51 = .ok (.aload_n 0, 1) := by decide +kernel
theorem dX11_buyer_52 : decode cX11_buyer 52 = .ok (.getfield 38, 3) := by decide +kernel
theorem dX11_buyer_55 : decode cX11_buyer 55 = .ok (.aload_n 0, 1) := by decide +kernel
theorem dX11_buyer_56 : decode cX11_buyer 56 = .ok (.getfield 118, 3) := by decide +kernel
theorem dX11_buyer_59 : decode cX11_buyer 59 = .ok (.iload_n 2, 1) := by decide +kernel
theorem dX11_buyer_60 : decode cX11_buyer 60 = .ok (.iastore, 1) := by decide +kernel
theorem dX11_buyer_61 : decode cX11_buyer 61 = .ok (.aload_n 0, 1) := by decide +kernel
theorem dX11_buyer_62 : decode cX11_buyer 62 = .ok (.getfield 41, 3) := by decide +kernel
theorem dX11_buyer_65 : decode cX11_buyer 65 = .ok (.aload_n 0, 1) := by decide +kernel
theorem dX11_buyer_66 : decode cX11_buyer 66 = .ok (.getfield 118, 3) := by decide +kernel
theorem dX11_buyer_69 : decode cX11_buyer 69 = .ok (.iload_n 3, 1) := by decide +kernel
theorem dX11_buyer_70 : decode cX11_buyer 70 = .ok (.iastore, 1) := by decide +kernel
theorem dX11_buyer_71 : decode cX11_buyer 71 = .ok (.aload_n 0, 1) := by decide +kernel
theorem dX11_buyer_72 : decode cX11_buyer 72 = .ok (.getfield 44, 3) := by decide +kernel
theorem dX11_buyer_75 : decode cX11_buyer 75 = .ok (.aload_n 0, 1) := by decide +kernel
theorem dX11_buyer_76 : decode cX11_buyer 76 = .ok (.getfield 118, 3) := by decide +kernel
theorem dX11_buyer_79 : decode cX11_buyer 79 = .ok (.iconst 0, 1) := by decide +kernel
theorem dX11_buyer_80 : decode cX11_buyer 80 = .ok (.bastore, 1) := by decide +kernel
theorem dX11_buyer_81 : decode cX11_buyer 81 = .ok (.aload_n 0, 1) := by decide +kernel
theorem dX11_buyer_82 : decode cX11_buyer 82 = .ok (.getfield 47, 3) := by decide +kernel
theorem dX11_buyer_85 : decode cX11_buyer 85 = .ok (.aload_n 0, 1) := by decide +kernel
theorem dX11_buyer_86 : decode cX11_buyer 86 = .ok (.getfield 118, 3) := by decide +kernel
theorem dX11_buyer_89 : decode cX11_buyer 89 = .ok (.bipush (-2), 2) := by decide +kernel
theorem dX11_buyer_91 : decode cX11_buyer 91 = .ok (.iastore, 1) := by decide +kernel
theorem dX11_buyer_92 : decode cX11_buyer 92 = .ok (.aload_n 0, 1) := by decide +kernel
theorem dX11_buyer_93 : decode cX11_buyer 93 = .ok (.getfield 50, 3) := by decide +kernel
theorem dX11_buyer_96 : decode cX11_buyer 96 = .ok (.aload_n 0, 1) := by decide +kernel
theorem dX11_buyer_97 : decode cX11_buyer 97 = .ok (.getfield 118, 3) := by decide +kernel
theorem dX11_buyer_100 : decode cX11_buyer 100 = .ok (.iconst 0, 1) := by decide +kernel
theorem dX11_buyer_101 : decode cX11_buyer 101 = .ok (.iastore, 1) := by decide +kernel
theorem dX11_buyer_102 : decode cX11_buyer 102 = .ok (.aload_n 0, 1) := by decide +kernel
theorem dX11_buyer_103 : decode cX11_buyer 103 = .ok (.dup, 1) := by decide +kernel
theorem dX11_buyer_104 : decode cX11_buyer 104 = .ok (.getfield 118, 3) := by decide +kernel
theorem dX11_buyer_107 : decode cX11_buyer 107 = .ok (.iconst 1, 1) := by decide +kernel
theorem dX11_buyer_108 : decode cX11_buyer 108 = .ok (.iadd, 1) := by decide +kernel
theorem dX11_buyer_109 : decode cX11_buyer 109 = .ok (.putfield 118, 3) := by decide +kernel
theorem dX11_buyer_112 : decode cX11_buyer 112 = .ok (.aload_n 0, 1) := by decide +kernel
theorem dX11_buyer_113 : decode cX11_buyer 113 = .ok (.getfield 118, 3) := by decide +kernel
theorem dX11_buyer_116 : decode cX11_buyer 116 = .ok (.iconst 1, 1) := by decide +kernel
theorem dX11_buyer_117 : decode cX11_buyer 117 = .ok (.isub, 1) := by decide +kernel
theorem dX11_buyer_118 : decode cX11_buyer 118 = .ok (.ireturn, 1) := by decide +kernel
theorem dX11_purse_0 : decode cX11_purse 0 = .ok (.aload_n 0, 1) := by decide +kernel
theorem dX11_purse_1 : decode cX11_purse 1 = .ok (.iload_n 1, 1) := by decide +kernel
theorem dX11_purse_2 : decode cX11_purse 2 = .ok (.invokevirtual 126, 3) := by decide +kernel
theorem dX11_purse_5 : decode cX11_purse 5 = .ok (.ifCond .eq 13, 3) := by decide +kernel
theorem dX11_purse_8 : decode cX11_purse 8 = .ok (.iload_n 2, 1) := by decide +kernel
theorem dX11_purse_9 : decode cX11_purse 9 = .ok (.iconst 0, 1) := by decide +kernel
theorem dX11_purse_10 : decode cX11_purse 10 = .ok (.ldc 125, 2) := by decide +kernel
theorem dX11_purse_12 : decode cX11_purse 12 = .ok (.invokestatic 114, 3) := by decide +kernel
theorem dX11_purse_15 : decode cX11_purse 15 = .ok (.ifCond .ne 5, 3) := by decide +kernel
theorem dX11_purse_18 : decode cX11_purse 18 = .ok (.iconst (-1), 1) := by decide +kernel
theorem dX11_purse_19 : decode cX11_purse 19 = .ok (.ireturn, 1) := by decide +kernel
theorem dX11_purse_20 : decode cX11_purse 20 = .ok (.aload_n 0, 1) := by decide +kernel
theorem dX11_purse_21 : decode cX11_purse 21 = .ok (.getfield 38, 3) := by decide +kernel
theorem dX11_purse_24 : decode cX11_purse 24 = .ok (.iload_n 1, 1) := by decide +kernel
theorem dX11_purse_25 : decode cX11_purse 25 = .ok (.iaload, 1) := by decide +kernel
theorem dX11_purse_26 : decode cX11_purse 26 = .ok (.istore_n 3, 1) := by decide +kernel
theorem dX11_purse_27 : decode cX11_purse 27 = .ok (.aload_n 0, 1) := by decide +kernel
theorem dX11_purse_28 : decode cX11_purse 28 = .ok (.getfield 38, 3) := by decide +kernel
theorem dX11_purse_31 : decode cX11_purse 31 = .ok (.iload_n 1, 1) := by decide +kernel
theorem dX11_purse_32 : decode cX11_purse 32 = .ok (.iload_n 2, 1) := by decide +kernel
theorem dX11_purse_33 : decode cX11_purse 33 = .ok (.iastore, 1) := by decide +kernel
theorem dX11_purse_34 : decode cX11_purse 34 = .ok (.iload_n 3, 1) := by decide +kernel
theorem dX11_purse_35 : decode cX11_purse 35 = .ok (.ireturn, 1) := by decide +kernel
theorem dX11_waits_0 : decode cX11_waits 0 = .ok (.aload_n 0, 1) := by decide +kernel
theorem dX11_waits_1 : decode cX11_waits 1 = .ok (.iload_n 1, 1) := by decide +kernel
theorem dX11_waits_2 : decode cX11_waits 2 = .ok (.invokevirtual 126, 3) := by decide +kernel
theorem dX11_waits_5 : decode cX11_waits 5 = .ok (.ifCond .ne 5, 3) := by decide +kernel
theorem dX11_waits_8 : decode cX11_waits 8 = .ok (.iconst (-1), 1) := by decide +kernel
theorem dX11_waits_9 : decode cX11_waits 9 = .ok (.ireturn, 1) := by decide +kernel
theorem dX11_waits_10 : decode cX11_waits 10 = .ok (.aload_n 0, 1) := by decide +kernel
theorem dX11_waits_11 : decode cX11_waits 11 = .ok (.getfield 44, 3) := by decide +kernel
theorem dX11_waits_14 : decode cX11_waits 14 = .ok (.iload_n 1, 1) := by decide +kernel
theorem dX11_waits_15 : decode cX11_waits 15 = .ok (.baload, 1) := by decide +kernel
theorem dX11_waits_16 : decode cX11_waits 16 = .ok (.iload_n 2, 1) := by decide +kernel
theorem dX11_waits_17 : decode cX11_waits 17 = .ok (.if_icmp .eq 7, 3) := by decide +kernel
theorem dX11_waits_20 : decode cX11_waits 20 = .ok (.iconst 1, 1) := by decide +kernel
theorem dX11_waits_21 : decode cX11_waits 21 = .ok (.goto 4, 3) := by decide +kernel
theorem dX11_waits_24 : decode cX11_waits 24 = .ok (.iconst 0, 1) := by decide +kernel
theorem dX11_waits_25 : decode cX11_waits 25 = .ok (.istore_n 3, 1) := by decide +kernel
theorem dX11_waits_26 : decode cX11_waits 26 = .ok (.aload_n 0, 1) := by decide +kernel
theorem dX11_waits_27 : decode cX11_waits 27 = .ok (.getfield 44, 3) := by decide +kernel
theorem dX11_waits_30 : decode cX11_waits 30 = .ok (.iload_n 1, 1) := by decide +kernel
theorem dX11_waits_31 : decode cX11_waits 31 = .ok (.iload_n 2, 1) := by decide +kernel
theorem dX11_waits_32 : decode cX11_waits 32 = .ok (.bastore, 1) := by decide +kernel
theorem dX11_waits_33 : decode cX11_waits 33 = .ok (.iload_n 3, 1) := by decide +kernel
theorem dX11_waits_34 : decode cX11_waits 34 = .ok (.ireturn, 1) := by decide +kernel
theorem dX11_surety_0 : decode cX11_surety 0 = .ok (.aload_n 0, 1) := by decide +kernel
theorem dX11_surety_1 : decode cX11_surety 1 = .ok (.iload_n 1, 1) := by decide +kernel
theorem dX11_surety_2 : decode cX11_surety 2 = .ok (.invokevirtual 126, 3) := by decide +kernel
theorem dX11_surety_5 : decode cX11_surety 5 = .ok (.ifCond .eq 21, 3) := by decide +kernel
theorem dX11_surety_8 : decode cX11_surety 8 = .ok (.iload_n 2, 1) := by decide +kernel
theorem dX11_surety_9 : decode cX11_surety 9 = .ok (.iload_n 1, 1) := by decide +kernel
theorem dX11_surety_10 : decode cX11_surety 10 = .ok (.if_icmp .eq 16, 3) := by decide +kernel
theorem dX11_surety_13 : decode cX11_surety 13 = .ok (.iload_n 2, 1) := by decide +kernel
theorem dX11_surety_14 : decode cX11_surety 14 = .ok (.iconst (-1), 1) := by decide +kernel
theorem dX11_surety_15 : decode cX11_surety 15 = .ok (.if_icmp .eq 13, 3) := by decide +kernel
theorem dX11_surety_18 : decode cX11_surety 18 = .ok (.aload_n 0, 1) := by decide +kernel
theorem dX11_surety_19 : decode cX11_surety 19 = .ok (.iload_n 2, 1) := by decide +kernel
theorem dX11_surety_20 : decode cX11_surety 20 = .ok (.invokevirtual 126, 3) := by decide +kernel
theorem dX11_surety_23 : decode cX11_surety 23 = .ok (.ifCond .ne 5, 3) := by decide +kernel
theorem dX11_surety_26 : decode cX11_surety 26 = .ok (.iconst (-1), 1) := by decide +kernel
theorem dX11_surety_27 : decode cX11_surety 27 = .ok (.ireturn, 1) := by decide +kernel
theorem dX11_surety_28 : decode cX11_surety 28 = .ok (.aload_n 0, 1) := by decide +kernel
theorem dX11_surety_29 : decode cX11_surety 29 = .ok (.getfield 47, 3) := by decide +kernel
theorem dX11_surety_32 : decode cX11_surety 32 = .ok (.iload_n 1, 1) := by decide +kernel
theorem dX11_surety_33 : decode cX11_surety 33 = .ok (.iaload, 1) := by decide +kernel
theorem dX11_surety_34 : decode cX11_surety 34 = .ok (.istore_n 3, 1) := by decide +kernel
theorem dX11_surety_35 : decode cX11_surety 35 = .ok (.aload_n 0, 1) := by decide +kernel
theorem dX11_surety_36 : decode cX11_surety 36 = .ok (.getfield 47, 3) := by decide +kernel
theorem dX11_surety_39 : decode cX11_surety 39 = .ok (.iload_n 1, 1) := by decide +kernel
theorem dX11_surety_40 : decode cX11_surety 40 = .ok (.iload_n 2, 1) := by decide +kernel
theorem dX11_surety_41 : decode cX11_surety 41 = .ok (.iconst (-1), 1) := by decide +kernel
theorem dX11_surety_42 : decode cX11_surety 42 = .ok (.if_icmp .ne 8, 3) := by decide +kernel
theorem dX11_surety_45 : decode cX11_surety 45 = .ok (.bipush (-2), 2) := by decide +kernel
theorem dX11_surety_47 : decode cX11_surety 47 = .ok (.goto 4, 3) := by decide +kernel
theorem dX11_surety_50 : decode cX11_surety 50 = .ok (.iload_n 2, 1) := by decide +kernel
theorem dX11_surety_51 : decode cX11_surety 51 = .ok (.iastore, 1) := by decide +kernel
theorem dX11_surety_52 : decode cX11_surety 52 = .ok (.iload_n 3, 1) := by decide +kernel
theorem dX11_surety_53 : decode cX11_surety 53 = .ok (.ireturn, 1) := by decide +kernel
theorem dX11_step_0 : decode cX11_step 0 = .ok (.iload_n 1, 1) := by decide +kernel
theorem dX11_step_1 : decode cX11_step 1 = .ok (.iconst 1, 1) := by decide +kernel
theorem dX11_step_2 : decode cX11_step 2 = .ok (.bipush 100, 2) := by decide +kernel
theorem dX11_step_4 : decode cX11_step 4 = .ok (.invokestatic 114, 3) := by decide +kernel
theorem dX11_step_7 : decode cX11_step 7 = .ok (.ifCond .ne 5, 3) := by decide +kernel
theorem dX11_step_10 : decode cX11_step 10 = .ok (.iconst (-1), 1) := by decide +kernel
theorem dX11_step_11 : decode cX11_step 11 = .ok (.ireturn, 1) := by decide +kernel
theorem dX11_step_12 : decode cX11_step 12 = .ok (.aload_n 0, 1) := by decide +kernel
theorem dX11_step_13 : decode cX11_step 13 = .ok (.getfield 53, 3) := by decide +kernel
theorem dX11_step_16 : decode cX11_step 16 = .ok (.istore_n 2, 1) := by decide +kernel
theorem dX11_step_17 : decode cX11_step 17 = .ok (.aload_n 0, 1) := by decide +kernel
theorem dX11_step_18 : decode cX11_step 18 = .ok (.iload_n 1, 1) := by decide +kernel
theorem dX11_step_19 : decode cX11_step 19 = .ok (.putfield 53, 3) := by decide +kernel
theorem dX11_step_22 : decode cX11_step 22 = .ok (.iload_n 2, 1) := by decide +kernel
theorem dX11_step_23 : decode cX11_step 23 = .ok (.ireturn, 1) := by decide +kernel
theorem dX11_chanceOf_0 : decode cX11_chanceOf 0 = .ok (.iload_n 0, 1) := by decide +kernel
theorem dX11_chanceOf_1 : decode cX11_chanceOf 1 = .ok (.ifCond .ne 8, 3) := by decide +kernel
theorem dX11_chanceOf_4 : decode cX11_chanceOf 4 = .ok (.bipush 80, 2) := by decide +kernel
theorem dX11_chanceOf_6 : decode cX11_chanceOf 6 = .ok (.goto 25, 3) := by decide +kernel
theorem dX11_chanceOf_9 : decode cX11_chanceOf 9 = .ok (.iload_n 0, 1) := by decide +kernel
theorem dX11_chanceOf_10 : decode cX11_chanceOf 10 = .ok (.iconst 1, 1) := by decide +kernel
theorem dX11_chanceOf_11 : decode cX11_chanceOf 11 = .ok (.if_icmp .ne 8, 3) := by decide +kernel
theorem dX11_chanceOf_14 : decode cX11_chanceOf 14 = .ok (.bipush 50, 2) := by decide +kernel
theorem dX11_chanceOf_16 : decode cX11_chanceOf 16 = .ok (.goto 15, 3) := by decide +kernel
theorem dX11_chanceOf_19 : decode cX11_chanceOf 19 = .ok (.iload_n 0, 1) := by decide +kernel
theorem dX11_chanceOf_20 : decode cX11_chanceOf 20 = .ok (.iconst 2, 1) := by decide +kernel
theorem dX11_chanceOf_21 : decode cX11_chanceOf 21 = .ok (.if_icmp .ne 8, 3) := by decide +kernel
theorem dX11_chanceOf_24 : decode cX11_chanceOf 24 = .ok (.bipush 25, 2) := by decide +kernel
theorem dX11_chanceOf_26 : decode cX11_chanceOf 26 = .ok (.goto 5, 3) := by decide +kernel
theorem dX11_chanceOf_29 : decode cX11_chanceOf 29 = .ok (.bipush 95, 2) := by decide +kernel
theorem dX11_chanceOf_31 : decode cX11_chanceOf 31 = .ok (.ireturn, 1) := by decide +kernel
theorem dX11_hayOf_0 : decode cX11_hayOf 0 = .ok (.aload_n 0, 1) := by decide +kernel
theorem dX11_hayOf_1 : decode cX11_hayOf 1 = .ok (.getfield 13, 3) := by decide +kernel
theorem dX11_hayOf_4 : decode cX11_hayOf 4 = .ok (.iload_n 1, 1) := by decide +kernel
theorem dX11_hayOf_5 : decode cX11_hayOf 5 = .ok (.iaload, 1) := by decide +kernel
theorem dX11_hayOf_6 : decode cX11_hayOf 6 = .ok (.aload_n 0, 1) := by decide +kernel
theorem dX11_hayOf_7 : decode cX11_hayOf 7 = .ok (.getfield 7, 3) := by decide +kernel
theorem dX11_hayOf_10 : decode cX11_hayOf 10 = .ok (.iload_n 1, 1) := by decide +kernel
theorem dX11_hayOf_11 : decode cX11_hayOf 11 = .ok (.iaload, 1) := by decide +kernel
theorem dX11_hayOf_12 : decode cX11_hayOf 12 = .ok (.invokestatic 129, 3) := by decide +kernel
theorem dX11_hayOf_15 : decode cX11_hayOf 15 = .ok (.imul, 1) := by decide +kernel
theorem dX11_hayOf_16 : decode cX11_hayOf 16 = .ok (.bipush 100, 2) := by decide +kernel
theorem dX11_hayOf_18 : decode cX11_hayOf 18 = .ok (.idiv, 1) := by decide +kernel
theorem dX11_hayOf_19 : decode cX11_hayOf 19 = .ok (.ireturn, 1) := by decide +kernel
theorem dX11_stands_0 : decode cX11_stands 0 = .ok (.aload_n 0, 1) := by decide +kernel
theorem dX11_stands_1 : decode cX11_stands 1 = .ok (.getfield 16, 3) := by decide +kernel
theorem dX11_stands_4 : decode cX11_stands 4 = .ok (.iload_n 1, 1) := by decide +kernel
theorem dX11_stands_5 : decode cX11_stands 5 = .ok (.baload, 1) := by decide +kernel
theorem dX11_stands_6 : decode cX11_stands 6 = .ok (.ifCond .eq 25, 3) := by decide +kernel
theorem dX11_stands_9 : decode cX11_stands 9 = .ok (.aload_n 0, 1) := by decide +kernel
theorem dX11_stands_10 : decode cX11_stands 10 = .ok (.getfield 29, 3) := by decide +kernel
theorem dX11_stands_13 : decode cX11_stands 13 = .ok (.iload_n 1, 1) := by decide +kernel
theorem dX11_stands_14 : decode cX11_stands 14 = .ok (.baload, 1) := by decide +kernel
theorem dX11_stands_15 : decode cX11_stands 15 = .ok (.ifCond .ne 16, 3) := by decide +kernel
theorem dX11_stands_18 : decode cX11_stands 18 = .ok (.aload_n 0, 1) := by decide +kernel
theorem dX11_stands_19 : decode cX11_stands 19 = .ok (.getfield 13, 3) := by decide +kernel
theorem dX11_stands_22 : decode cX11_stands 22 = .ok (.iload_n 1, 1) := by decide +kernel
theorem dX11_stands_23 : decode cX11_stands 23 = .ok (.iaload, 1) := by decide +kernel
theorem dX11_stands_24 : decode cX11_stands 24 = .ok (.ifCond .le 7, 3) := by decide +kernel
theorem dX11_stands_27 : decode cX11_stands 27 = .ok (.iconst 1, 1) := by decide +kernel
theorem dX11_stands_28 : decode cX11_stands 28 = .ok (.goto 4, 3) := by decide +kernel
theorem dX11_stands_31 : decode cX11_stands 31 = .ok (.iconst 0, 1) := by decide +kernel
theorem dX11_stands_32 : decode cX11_stands 32 = .ok (.ireturn, 1) := by decide +kernel
theorem dX11_look_0 : decode cX11_look 0 = .ok (.iload_n 1, 1) := by decide +kernel
theorem dX11_look_1 : decode cX11_look 1 = .ok (.invokestatic 121, 3) := by decide +kernel
theorem dX11_look_4 : decode cX11_look 4 = .ok (.ifCond .ne 5, 3) := by decide +kernel
theorem dX11_look_7 : decode cX11_look 7 = .ok (.iconst (-1), 1) := by decide +kernel
theorem dX11_look_8 : decode cX11_look 8 = .ok (.ireturn, 1) := by decide +kernel
theorem dX11_look_9 : decode cX11_look 9 = .ok (.iload_n 2, 1) := by decide +kernel
theorem dX11_look_10 : decode cX11_look 10 = .ok (.tableswitch 153 0 7 #[46, 53, 60, 70, 76, 97, 118, 139], 46) := by decide +kernel
theorem dX11_look_56 : decode cX11_look 56 = .ok (.aload_n 0, 1) := by decide +kernel
theorem dX11_look_57 : decode cX11_look 57 = .ok (.getfield 7, 3) := by decide +kernel
theorem dX11_look_60 : decode cX11_look 60 = .ok (.iload_n 1, 1) := by decide +kernel
theorem dX11_look_61 : decode cX11_look 61 = .ok (.iaload, 1) := by decide +kernel
theorem dX11_look_62 : decode cX11_look 62 = .ok (.ireturn, 1) := by decide +kernel
theorem dX11_look_63 : decode cX11_look 63 = .ok (.aload_n 0, 1) := by decide +kernel
theorem dX11_look_64 : decode cX11_look 64 = .ok (.getfield 13, 3) := by decide +kernel
theorem dX11_look_67 : decode cX11_look 67 = .ok (.iload_n 1, 1) := by decide +kernel
theorem dX11_look_68 : decode cX11_look 68 = .ok (.iaload, 1) := by decide +kernel
theorem dX11_look_69 : decode cX11_look 69 = .ok (.ireturn, 1) := by decide +kernel
theorem dX11_look_70 : decode cX11_look 70 = .ok (.aload_n 0, 1) := by decide +kernel
theorem dX11_look_71 : decode cX11_look 71 = .ok (.getfield 7, 3) := by decide +kernel
theorem dX11_look_74 : decode cX11_look 74 = .ok (.iload_n 1, 1) := by decide +kernel
theorem dX11_look_75 : decode cX11_look 75 = .ok (.iaload, 1) := by decide +kernel
theorem dX11_look_76 : decode cX11_look 76 = .ok (.invokestatic 129, 3) := by decide +kernel
theorem dX11_look_79 : decode cX11_look 79 = .ok (.ireturn, 1) := by decide +kernel
theorem dX11_look_80 : decode cX11_look 80 = .ok (.aload_n 0, 1) := by decide +kernel
theorem dX11_look_81 : decode cX11_look 81 = .ok (.iload_n 1, 1) := by decide +kernel
theorem dX11_look_82 : decode cX11_look 82 = .ok (.invokevirtual 133, 3) := by decide +kernel
theorem dX11_look_85 : decode cX11_look 85 = .ok (.ireturn, 1) := by decide +kernel
theorem dX11_look_86 : decode cX11_look 86 = .ok (.aload_n 0, 1) := by decide +kernel
theorem dX11_look_87 : decode cX11_look 87 = .ok (.getfield 16, 3) := by decide +kernel
theorem dX11_look_90 : decode cX11_look 90 = .ok (.iload_n 1, 1) := by decide +kernel
theorem dX11_look_91 : decode cX11_look 91 = .ok (.baload, 1) := by decide +kernel
theorem dX11_look_92 : decode cX11_look 92 = .ok (.ifCond .eq 12, 3) := by decide +kernel
theorem dX11_look_95 : decode cX11_look 95 = .ok (.aload_n 0, 1) := by decide +kernel
theorem dX11_look_96 : decode cX11_look 96 = .ok (.getfield 20, 3) := by decide +kernel
theorem dX11_look_99 : decode cX11_look 99 = .ok (.iload_n 1, 1) := by decide +kernel
theorem dX11_look_100 : decode cX11_look 100 = .ok (.iaload, 1) := by decide +kernel
theorem dX11_look_101 : decode cX11_look 101 = .ok (.goto 5, 3) := by decide +kernel
theorem dX11_look_104 : decode cX11_look 104 = .ok (.bipush (-2), 2) := by decide +kernel
theorem dX11_look_106 : decode cX11_look 106 = .ok (.ireturn, 1) := by decide +kernel
theorem dX11_look_107 : decode cX11_look 107 = .ok (.aload_n 0, 1) := by decide +kernel
theorem dX11_look_108 : decode cX11_look 108 = .ok (.getfield 16, 3) := by decide +kernel
theorem dX11_look_111 : decode cX11_look 111 = .ok (.iload_n 1, 1) := by decide +kernel
theorem dX11_look_112 : decode cX11_look 112 = .ok (.baload, 1) := by decide +kernel
theorem dX11_look_113 : decode cX11_look 113 = .ok (.ifCond .eq 12, 3) := by decide +kernel
theorem dX11_look_116 : decode cX11_look 116 = .ok (.aload_n 0, 1) := by decide +kernel
theorem dX11_look_117 : decode cX11_look 117 = .ok (.getfield 23, 3) := by decide +kernel
theorem dX11_look_120 : decode cX11_look 120 = .ok (.iload_n 1, 1) := by decide +kernel
theorem dX11_look_121 : decode cX11_look 121 = .ok (.iaload, 1) := by decide +kernel
theorem dX11_look_122 : decode cX11_look 122 = .ok (.goto 5, 3) := by decide +kernel
theorem dX11_look_125 : decode cX11_look 125 = .ok (.bipush (-2), 2) := by decide +kernel
theorem dX11_look_127 : decode cX11_look 127 = .ok (.ireturn, 1) := by decide +kernel
theorem dX11_look_128 : decode cX11_look 128 = .ok (.aload_n 0, 1) := by decide +kernel
theorem dX11_look_129 : decode cX11_look 129 = .ok (.getfield 29, 3) := by decide +kernel
theorem dX11_look_132 : decode cX11_look 132 = .ok (.iload_n 1, 1) := by decide +kernel
theorem dX11_look_133 : decode cX11_look 133 = .ok (.baload, 1) := by decide +kernel
theorem dX11_look_134 : decode cX11_look 134 = .ok (.ifCond .eq 12, 3) := by decide +kernel
theorem dX11_look_137 : decode cX11_look 137 = .ok (.aload_n 0, 1) := by decide +kernel
theorem dX11_look_138 : decode cX11_look 138 = .ok (.getfield 32, 3) := by decide +kernel
theorem dX11_look_141 : decode cX11_look 141 = .ok (.iload_n 1, 1) := by decide +kernel
theorem dX11_look_142 : decode cX11_look 142 = .ok (.iaload, 1) := by decide +kernel
theorem dX11_look_143 : decode cX11_look 143 = .ok (.goto 5, 3) := by decide +kernel
theorem dX11_look_146 : decode cX11_look 146 = .ok (.bipush (-2), 2) := by decide +kernel
theorem dX11_look_148 : decode cX11_look 148 = .ok (.ireturn, 1) := by decide +kernel
theorem dX11_look_149 : decode cX11_look 149 = .ok (.aload_n 0, 1) := by decide +kernel
theorem dX11_look_150 : decode cX11_look 150 = .ok (.iload_n 1, 1) := by decide +kernel
theorem dX11_look_151 : decode cX11_look 151 = .ok (.invokevirtual 136, 3) := by decide +kernel
theorem dX11_look_154 : decode cX11_look 154 = .ok (.ifCond .eq 7, 3) := by decide +kernel
theorem dX11_look_157 : decode cX11_look 157 = .ok (.iconst 1, 1) := by decide +kernel
theorem dX11_look_158 : decode cX11_look 158 = .ok (.goto 4, 3) := by decide +kernel
theorem dX11_look_161 : decode cX11_look 161 = .ok (.iconst 0, 1) := by decide +kernel
theorem dX11_look_162 : decode cX11_look 162 = .ok (.ireturn, 1) := by decide +kernel
theorem dX11_look_163 : decode cX11_look 163 = .ok (.iconst (-1), 1) := by decide +kernel
theorem dX11_look_164 : decode cX11_look 164 = .ok (.ireturn, 1) := by decide +kernel
theorem dX11_has_0 : decode cX11_has 0 = .ok (.aload_n 0, 1) := by decide +kernel
theorem dX11_has_1 : decode cX11_has 1 = .ok (.getfield 16, 3) := by decide +kernel
theorem dX11_has_4 : decode cX11_has 4 = .ok (.iload_n 2, 1) := by decide +kernel
theorem dX11_has_5 : decode cX11_has 5 = .ok (.baload, 1) := by decide +kernel
theorem dX11_has_6 : decode cX11_has 6 = .ok (.ifCond .eq 17, 3) := by decide +kernel
theorem dX11_has_9 : decode cX11_has 9 = .ok (.aload_n 0, 1) := by decide +kernel
theorem dX11_has_10 : decode cX11_has 10 = .ok (.getfield 20, 3) := by decide +kernel
theorem dX11_has_13 : decode cX11_has 13 = .ok (.iload_n 2, 1) := by decide +kernel
theorem dX11_has_14 : decode cX11_has 14 = .ok (.iaload, 1) := by decide +kernel
theorem dX11_has_15 : decode cX11_has 15 = .ok (.iload_n 1, 1) := by decide +kernel
theorem dX11_has_16 : decode cX11_has 16 = .ok (.if_icmp .ne 7, 3) := by decide +kernel
theorem dX11_has_19 : decode cX11_has 19 = .ok (.iconst 1, 1) := by decide +kernel
theorem dX11_has_20 : decode cX11_has 20 = .ok (.goto 4, 3) := by decide +kernel
theorem dX11_has_23 : decode cX11_has 23 = .ok (.iconst 0, 1) := by decide +kernel
theorem dX11_has_24 : decode cX11_has 24 = .ok (.ireturn, 1) := by decide +kernel
theorem dX11_hayHeld_0 : decode cX11_hayHeld 0 = .ok (.iconst 0, 1) := by decide +kernel
theorem dX11_hayHeld_1 : decode cX11_hayHeld 1 = .ok (.istore_n 2, 1) := by decide +kernel
theorem dX11_hayHeld_2 : decode cX11_hayHeld 2 = .ok (.iconst 0, 1) := by decide +kernel
theorem dX11_hayHeld_3 : decode cX11_hayHeld 3 = .ok (.istore_n 3, 1) := by decide +kernel
theorem dX11_hayHeld_4 : decode cX11_hayHeld 4 = .ok (.iload_n 3, 1) := by decide +kernel
theorem dX11_hayHeld_5 : decode cX11_hayHeld 5 = .ok (.bipush 24, 2) := by decide +kernel
theorem dX11_hayHeld_7 : decode cX11_hayHeld 7 = .ok (.if_icmp .ge 30, 3) := by decide +kernel
theorem dX11_hayHeld_10 : decode cX11_hayHeld 10 = .ok (.iload_n 2, 1) := by decide +kernel
theorem dX11_hayHeld_11 : decode cX11_hayHeld 11 = .ok (.aload_n 0, 1) := by decide +kernel
theorem dX11_hayHeld_12 : decode cX11_hayHeld 12 = .ok (.iload_n 1, 1) := by decide +kernel
theorem dX11_hayHeld_13 : decode cX11_hayHeld 13 = .ok (.iload_n 3, 1) := by decide +kernel
theorem dX11_hayHeld_14 : decode cX11_hayHeld 14 = .ok (.invokevirtual 139, 3) := by decide +kernel
theorem dX11_hayHeld_17 : decode cX11_hayHeld 17 = .ok (.ifCond .eq 11, 3) := by decide +kernel
theorem dX11_hayHeld_20 : decode cX11_hayHeld 20 = .ok (.aload_n 0, 1) := by decide +kernel
theorem dX11_hayHeld_21 : decode cX11_hayHeld 21 = .ok (.iload_n 3, 1) := by decide +kernel
theorem dX11_hayHeld_22 : decode cX11_hayHeld 22 = .ok (.invokevirtual 133, 3) := by decide +kernel
theorem dX11_hayHeld_25 : decode cX11_hayHeld 25 = .ok (.goto 4, 3) := by decide +kernel
theorem dX11_hayHeld_28 : decode cX11_hayHeld 28 = .ok (.iconst 0, 1) := by decide +kernel
theorem dX11_hayHeld_29 : decode cX11_hayHeld 29 = .ok (.iadd, 1) := by decide +kernel
theorem dX11_hayHeld_30 : decode cX11_hayHeld 30 = .ok (.istore_n 2, 1) := by decide +kernel
theorem dX11_hayHeld_31 : decode cX11_hayHeld 31 = .ok (.iinc 3 1, 3) := by decide +kernel
theorem dX11_hayHeld_34 : decode cX11_hayHeld 34 = .ok (.goto (-30), 3) := by decide +kernel
theorem dX11_hayHeld_37 : decode cX11_hayHeld 37 = .ok (.iload_n 2, 1) := by decide +kernel
theorem dX11_hayHeld_38 : decode cX11_hayHeld 38 = .ok (.ireturn, 1) := by decide +kernel
theorem dX11_debt_0 : decode cX11_debt 0 = .ok (.iconst 0, 1) := by decide +kernel
theorem dX11_debt_1 : decode cX11_debt 1 = .ok (.istore_n 2, 1) := by decide +kernel
theorem dX11_debt_2 : decode cX11_debt 2 = .ok (.iconst 0, 1) := by decide +kernel
theorem dX11_debt_3 : decode cX11_debt 3 = .ok (.istore_n 3, 1) := by decide +kernel
theorem dX11_debt_4 : decode cX11_debt 4 = .ok (.iload_n 3, 1) := by decide +kernel
theorem dX11_debt_5 : decode cX11_debt 5 = .ok (.bipush 24, 2) := by decide +kernel
theorem dX11_debt_7 : decode cX11_debt 7 = .ok (.if_icmp .ge 31, 3) := by decide +kernel
theorem dX11_debt_10 : decode cX11_debt 10 = .ok (.iload_n 2, 1) := by decide +kernel
theorem dX11_debt_11 : decode cX11_debt 11 = .ok (.aload_n 0, 1) := by decide +kernel
theorem dX11_debt_12 : decode cX11_debt 12 = .ok (.iload_n 1, 1) := by decide +kernel
theorem dX11_debt_13 : decode cX11_debt 13 = .ok (.iload_n 3, 1) := by decide +kernel
theorem dX11_debt_14 : decode cX11_debt 14 = .ok (.invokevirtual 139, 3) := by decide +kernel
theorem dX11_debt_17 : decode cX11_debt 17 = .ok (.ifCond .eq 12, 3) := by decide +kernel
theorem dX11_debt_20 : decode cX11_debt 20 = .ok (.aload_n 0, 1) := by decide +kernel
theorem dX11_debt_21 : decode cX11_debt 21 = .ok (.getfield 23, 3) := by decide +kernel
theorem dX11_debt_24 : decode cX11_debt 24 = .ok (.iload_n 3, 1) := by decide +kernel
theorem dX11_debt_25 : decode cX11_debt 25 = .ok (.iaload, 1) := by decide +kernel
theorem dX11_debt_26 : decode cX11_debt 26 = .ok (.goto 4, 3) := by decide +kernel
theorem dX11_debt_29 : decode cX11_debt 29 = .ok (.iconst 0, 1) := by decide +kernel
theorem dX11_debt_30 : decode cX11_debt 30 = .ok (.iadd, 1) := by decide +kernel
theorem dX11_debt_31 : decode cX11_debt 31 = .ok (.istore_n 2, 1) := by decide +kernel
theorem dX11_debt_32 : decode cX11_debt 32 = .ok (.iinc 3 1, 3) := by decide +kernel
theorem dX11_debt_35 : decode cX11_debt 35 = .ok (.goto (-31), 3) := by decide +kernel
theorem dX11_debt_38 : decode cX11_debt 38 = .ok (.iload_n 2, 1) := by decide +kernel
theorem dX11_debt_39 : decode cX11_debt 39 = .ok (.ireturn, 1) := by decide +kernel
theorem dX11_about_0 : decode cX11_about 0 = .ok (.aload_n 0, 1) := by decide +kernel
theorem dX11_about_1 : decode cX11_about 1 = .ok (.iload_n 1, 1) := by decide +kernel
theorem dX11_about_2 : decode cX11_about 2 = .ok (.invokevirtual 126, 3) := by decide +kernel
theorem dX11_about_5 : decode cX11_about 5 = .ok (.ifCond .ne 5, 3) := by decide +kernel
theorem dX11_about_8 : decode cX11_about 8 = .ok (.iconst (-1), 1) := by decide +kernel
theorem dX11_about_9 : decode cX11_about 9 = .ok (.ireturn, 1) := by decide +kernel
theorem dX11_about_10 : decode cX11_about 10 = .ok (.iload_n 2, 1) := by decide +kernel
theorem dX11_about_11 : decode cX11_about 11 = .ok (.tableswitch 110 0 7 #[45, 52, 59, 66, 76, 82, 88, 95], 45) := by decide +kernel
theorem dX11_about_56 : decode cX11_about 56 = .ok (.aload_n 0, 1) := by decide +kernel
theorem dX11_about_57 : decode cX11_about 57 = .ok (.getfield 35, 3) := by decide +kernel
theorem dX11_about_60 : decode cX11_about 60 = .ok (.iload_n 1, 1) := by decide +kernel
theorem dX11_about_61 : decode cX11_about 61 = .ok (.iaload, 1) := by decide +kernel
theorem dX11_about_62 : decode cX11_about 62 = .ok (.ireturn, 1) := by decide +kernel
theorem dX11_about_63 : decode cX11_about 63 = .ok (.aload_n 0, 1) := by decide +kernel
theorem dX11_about_64 : decode cX11_about 64 = .ok (.getfield 38, 3) := by decide +kernel
theorem dX11_about_67 : decode cX11_about 67 = .ok (.iload_n 1, 1) := by decide +kernel
theorem dX11_about_68 : decode cX11_about 68 = .ok (.iaload, 1) := by decide +kernel
theorem dX11_about_69 : decode cX11_about 69 = .ok (.ireturn, 1) := by decide +kernel
theorem dX11_about_70 : decode cX11_about 70 = .ok (.aload_n 0, 1) := by decide +kernel
theorem dX11_about_71 : decode cX11_about 71 = .ok (.getfield 41, 3) := by decide +kernel
theorem dX11_about_74 : decode cX11_about 74 = .ok (.iload_n 1, 1) := by decide +kernel
theorem dX11_about_75 : decode cX11_about 75 = .ok (.iaload, 1) := by decide +kernel
theorem dX11_about_76 : decode cX11_about 76 = .ok (.ireturn, 1) := by decide +kernel
theorem dX11_about_77 : decode cX11_about 77 = .ok (.bipush 12, 2) := by decide +kernel
theorem dX11_about_79 : decode cX11_about 79 = .ok (.aload_n 0, 1) := by decide +kernel
theorem dX11_about_80 : decode cX11_about 80 = .ok (.getfield 35, 3) := by decide +kernel
theorem dX11_about_83 : decode cX11_about 83 = .ok (.iload_n 1, 1) := by decide +kernel
theorem dX11_about_84 : decode cX11_about 84 = .ok (.iaload, 1) := by decide +kernel
theorem dX11_about_85 : decode cX11_about 85 = .ok (.imul, 1) := by decide +kernel
theorem dX11_about_86 : decode cX11_about 86 = .ok (.ireturn, 1) := by decide +kernel
theorem dX11_about_87 : decode cX11_about 87 = .ok (.aload_n 0, 1) := by decide +kernel
theorem dX11_about_88 : decode cX11_about 88 = .ok (.iload_n 1, 1) := by decide +kernel
theorem dX11_about_89 : decode cX11_about 89 = .ok (.invokevirtual 143, 3) := by decide +kernel
theorem dX11_about_92 : decode cX11_about 92 = .ok (.ireturn, 1) := by decide +kernel
theorem dX11_about_93 : decode cX11_about 93 = .ok (.aload_n 0, 1) := by decide +kernel
theorem dX11_about_94 : decode cX11_about 94 = .ok (.iload_n 1, 1) := by decide +kernel
theorem dX11_about_95 : decode cX11_about 95 = .ok (.invokevirtual 146, 3) := by decide +kernel
theorem dX11_about_98 : decode cX11_about 98 = .ok (.ireturn, 1) := by decide +kernel
theorem dX11_about_99 : decode cX11_about 99 = .ok (.aload_n 0, 1) := by decide +kernel
theorem dX11_about_100 : decode cX11_about 100 = .ok (.getfield 50, 3) := by decide +kernel
theorem dX11_about_103 : decode cX11_about 103 = .ok (.iload_n 1, 1) := by decide +kernel
theorem dX11_about_104 : decode cX11_about 104 = .ok (.iaload, 1) := by decide +kernel
theorem dX11_about_105 : decode cX11_about 105 = .ok (.ireturn, 1) := by decide +kernel
theorem dX11_about_106 : decode cX11_about 106 = .ok (.aload_n 0, 1) := by decide +kernel
theorem dX11_about_107 : decode cX11_about 107 = .ok (.getfield 44, 3) := by decide +kernel
theorem dX11_about_110 : decode cX11_about 110 = .ok (.iload_n 1, 1) := by decide +kernel
theorem dX11_about_111 : decode cX11_about 111 = .ok (.baload, 1) := by decide +kernel
theorem dX11_about_112 : decode cX11_about 112 = .ok (.ifCond .eq 7, 3) := by decide +kernel
theorem dX11_about_115 : decode cX11_about 115 = .ok (.iconst 1, 1) := by decide +kernel
theorem dX11_about_116 : decode cX11_about 116 = .ok (.goto 4, 3) := by decide +kernel
theorem dX11_about_119 : decode cX11_about 119 = .ok (.iconst 0, 1) := by decide +kernel
theorem dX11_about_120 : decode cX11_about 120 = .ok (.ireturn, 1) := by decide +kernel
theorem dX11_about_121 : decode cX11_about 121 = .ok (.iconst (-1), 1) := by decide +kernel
theorem dX11_about_122 : decode cX11_about 122 = .ok (.ireturn, 1) := by decide +kernel
theorem dX11_apart_0 : decode cX11_apart 0 = .ok (.iload_n 0, 1) := by decide +kernel
theorem dX11_apart_1 : decode cX11_apart 1 = .ok (.iload_n 1, 1) := by decide +kernel
theorem dX11_apart_2 : decode cX11_apart 2 = .ok (.if_icmp .le 9, 3) := by decide +kernel
theorem dX11_apart_5 : decode cX11_apart 5 = .ok (.iload_n 0, 1) := by decide +kernel
theorem dX11_apart_6 : decode cX11_apart 6 = .ok (.iload_n 1, 1) := by decide +kernel
theorem dX11_apart_7 : decode cX11_apart 7 = .ok (.isub, 1) := by decide +kernel
theorem dX11_apart_8 : decode cX11_apart 8 = .ok (.goto 6, 3) := by decide +kernel
theorem dX11_apart_11 : decode cX11_apart 11 = .ok (.iload_n 1, 1) := by decide +kernel
theorem dX11_apart_12 : decode cX11_apart 12 = .ok (.iload_n 0, 1) := by decide +kernel
theorem dX11_apart_13 : decode cX11_apart 13 = .ok (.isub, 1) := by decide +kernel
theorem dX11_apart_14 : decode cX11_apart 14 = .ok (.ireturn, 1) := by decide +kernel
theorem dX11_steps_0 : decode cX11_steps 0 = .ok (.iload_n 0, 1) := by decide +kernel
theorem dX11_steps_1 : decode cX11_steps 1 = .ok (.bipush 6, 2) := by decide +kernel
theorem dX11_steps_3 : decode cX11_steps 3 = .ok (.irem, 1) := by decide +kernel
theorem dX11_steps_4 : decode cX11_steps 4 = .ok (.iload_n 1, 1) := by decide +kernel
theorem dX11_steps_5 : decode cX11_steps 5 = .ok (.bipush 6, 2) := by decide +kernel
theorem dX11_steps_7 : decode cX11_steps 7 = .ok (.irem, 1) := by decide +kernel
theorem dX11_steps_8 : decode cX11_steps 8 = .ok (.invokestatic 149, 3) := by decide +kernel
theorem dX11_steps_11 : decode cX11_steps 11 = .ok (.iload_n 0, 1) := by decide +kernel
theorem dX11_steps_12 : decode cX11_steps 12 = .ok (.bipush 6, 2) := by decide +kernel
theorem dX11_steps_14 : decode cX11_steps 14 = .ok (.idiv, 1) := by decide +kernel
theorem dX11_steps_15 : decode cX11_steps 15 = .ok (.iload_n 1, 1) := by decide +kernel
theorem dX11_steps_16 : decode cX11_steps 16 = .ok (.bipush 6, 2) := by decide +kernel
theorem dX11_steps_18 : decode cX11_steps 18 = .ok (.idiv, 1) := by decide +kernel
theorem dX11_steps_19 : decode cX11_steps 19 = .ok (.invokestatic 149, 3) := by decide +kernel
theorem dX11_steps_22 : decode cX11_steps 22 = .ok (.iadd, 1) := by decide +kernel
theorem dX11_steps_23 : decode cX11_steps 23 = .ok (.ireturn, 1) := by decide +kernel
theorem dX11_worthOf_0 : decode cX11_worthOf 0 = .ok (.bipush 10, 2) := by decide +kernel
theorem dX11_worthOf_2 : decode cX11_worthOf 2 = .ok (.aload_n 0, 1) := by decide +kernel
theorem dX11_worthOf_3 : decode cX11_worthOf 3 = .ok (.iload_n 1, 1) := by decide +kernel
theorem dX11_worthOf_4 : decode cX11_worthOf 4 = .ok (.invokevirtual 133, 3) := by decide +kernel
theorem dX11_worthOf_7 : decode cX11_worthOf 7 = .ok (.imul, 1) := by decide +kernel
theorem dX11_worthOf_8 : decode cX11_worthOf 8 = .ok (.iconst 5, 1) := by decide +kernel
theorem dX11_worthOf_9 : decode cX11_worthOf 9 = .ok (.iload_n 1, 1) := by decide +kernel
theorem dX11_worthOf_10 : decode cX11_worthOf 10 = .ok (.aload_n 0, 1) := by decide +kernel
theorem dX11_worthOf_11 : decode cX11_worthOf 11 = .ok (.getfield 41, 3) := by decide +kernel
theorem dX11_worthOf_14 : decode cX11_worthOf 14 = .ok (.iload_n 2, 1) := by decide +kernel
theorem dX11_worthOf_15 : decode cX11_worthOf 15 = .ok (.iaload, 1) := by decide +kernel
theorem dX11_worthOf_16 : decode cX11_worthOf 16 = .ok (.invokestatic 153, 3) := by decide +kernel
theorem dX11_worthOf_19 : decode cX11_worthOf 19 = .ok (.imul, 1) := by decide +kernel
theorem dX11_worthOf_20 : decode cX11_worthOf 20 = .ok (.isub, 1) := by decide +kernel
theorem dX11_worthOf_21 : decode cX11_worthOf 21 = .ok (.istore_n 3, 1) := by decide +kernel
theorem dX11_worthOf_22 : decode cX11_worthOf 22 = .ok (.iconst 0, 1) := by decide +kernel
theorem dX11_worthOf_23 : decode cX11_worthOf 23 = .ok (.istore 4, 2) := by decide +kernel
theorem dX11_worthOf_25 : decode cX11_worthOf 25 = .ok (.iconst 0, 1) := by decide +kernel
theorem dX11_worthOf_26 : decode cX11_worthOf 26 = .ok (.istore 5, 2) := by decide +kernel
theorem dX11_worthOf_28 : decode cX11_worthOf 28 = .ok (.iload 5, 2) := by decide +kernel
theorem dX11_worthOf_30 : decode cX11_worthOf 30 = .ok (.bipush 24, 2) := by decide +kernel
theorem dX11_worthOf_32 : decode cX11_worthOf 32 = .ok (.if_icmp .ge 41, 3) := by decide +kernel
theorem dX11_worthOf_35 : decode cX11_worthOf 35 = .ok (.iload 4, 2) := by decide +kernel
theorem dX11_worthOf_37 : decode cX11_worthOf 37 = .ok (.ifCond .ne 23, 3) := by decide +kernel
theorem dX11_worthOf_40 : decode cX11_worthOf 40 = .ok (.iload_n 1, 1) := by decide +kernel
theorem dX11_worthOf_41 : decode cX11_worthOf 41 = .ok (.iload 5, 2) := by decide +kernel
theorem dX11_worthOf_43 : decode cX11_worthOf 43 = .ok (.invokestatic 153, 3) := by decide +kernel
theorem dX11_worthOf_46 : decode cX11_worthOf 46 = .ok (.iconst 1, 1) := by decide +kernel
theorem dX11_worthOf_47 : decode cX11_worthOf 47 = .ok (.if_icmp .ne 17, 3) := by decide +kernel
theorem dX11_worthOf_50 : decode cX11_worthOf 50 = .ok (.aload_n 0, 1) := by decide +kernel
theorem dX11_worthOf_51 : decode cX11_worthOf 51 = .ok (.iload_n 2, 1) := by decide +kernel
theorem dX11_worthOf_52 : decode cX11_worthOf 52 = .ok (.iload 5, 2) := by decide +kernel
theorem dX11_worthOf_54 : decode cX11_worthOf 54 = .ok (.invokevirtual 139, 3) := by decide +kernel
theorem dX11_worthOf_57 : decode cX11_worthOf 57 = .ok (.ifCond .eq 7, 3) := by decide +kernel
theorem dX11_worthOf_60 : decode cX11_worthOf 60 = .ok (.iconst 1, 1) := by decide +kernel
theorem dX11_worthOf_61 : decode cX11_worthOf 61 = .ok (.goto 4, 3) := by decide +kernel
theorem dX11_worthOf_64 : decode cX11_worthOf 64 = .ok (.iconst 0, 1) := by decide +kernel
theorem dX11_worthOf_65 : decode cX11_worthOf 65 = .ok (.istore 4, 2) := by decide +kernel
theorem dX11_worthOf_67 : decode cX11_worthOf 67 = .ok (.iinc 5 1, 3) := by decide +kernel
theorem dX11_worthOf_70 : decode cX11_worthOf 70 = .ok (.goto (-42), 3) := by decide +kernel
theorem dX11_worthOf_73 : decode cX11_worthOf 73 = .ok (.iload 4, 2) := by decide +kernel
theorem dX11_worthOf_75 : decode cX11_worthOf 75 = .ok (.ifCond .eq 6, 3) := by decide +kernel
theorem dX11_worthOf_78 : decode cX11_worthOf 78 = .ok (.iinc 3 20, 3) := by decide +kernel
theorem dX11_worthOf_81 : decode cX11_worthOf 81 = .ok (.aload_n 0, 1) := by decide +kernel
theorem dX11_worthOf_82 : decode cX11_worthOf 82 = .ok (.iload_n 2, 1) := by decide +kernel
theorem dX11_worthOf_83 : decode cX11_worthOf 83 = .ok (.invokevirtual 143, 3) := by decide +kernel
theorem dX11_worthOf_86 : decode cX11_worthOf 86 = .ok (.bipush 12, 2) := by decide +kernel
theorem dX11_worthOf_88 : decode cX11_worthOf 88 = .ok (.aload_n 0, 1) := by decide +kernel
theorem dX11_worthOf_89 : decode cX11_worthOf 89 = .ok (.getfield 35, 3) := by decide +kernel
theorem dX11_worthOf_92 : decode cX11_worthOf 92 = .ok (.iload_n 2, 1) := by decide +kernel
theorem dX11_worthOf_93 : decode cX11_worthOf 93 = .ok (.iaload, 1) := by decide +kernel
theorem dX11_worthOf_94 : decode cX11_worthOf 94 = .ok (.imul, 1) := by decide +kernel
theorem dX11_worthOf_95 : decode cX11_worthOf 95 = .ok (.if_icmp .ge 7, 3) := by decide +kernel
theorem dX11_worthOf_98 : decode cX11_worthOf 98 = .ok (.iload_n 3, 1) := by decide +kernel
theorem dX11_worthOf_99 : decode cX11_worthOf 99 = .ok (.iconst 2, 1) := by decide +kernel
theorem dX11_worthOf_100 : decode cX11_worthOf 100 = .ok (.imul, 1) := by decide +kernel
theorem dX11_worthOf_101 : decode cX11_worthOf 101 = .ok (.istore_n 3, 1) := by decide +kernel
theorem dX11_worthOf_102 : decode cX11_worthOf 102 = .ok (.iload_n 3, 1) := by decide +kernel
theorem dX11_worthOf_103 : decode cX11_worthOf 103 = .ok (.ifCond .ge 7, 3) := by decide +kernel
theorem dX11_worthOf_106 : decode cX11_worthOf 106 = .ok (.iconst 0, 1) := by decide +kernel
theorem dX11_worthOf_107 : decode cX11_worthOf 107 = .ok (.goto 4, 3) := by decide +kernel
theorem dX11_worthOf_110 : decode cX11_worthOf 110 = .ok (.iload_n 3, 1) := by decide +kernel
theorem dX11_worthOf_111 : decode cX11_worthOf 111 = .ok (.ireturn, 1) := by decide +kernel
theorem dX11_worth_0 : decode cX11_worth 0 = .ok (.iload_n 1, 1) := by decide +kernel
theorem dX11_worth_1 : decode cX11_worth 1 = .ok (.invokestatic 121, 3) := by decide +kernel
theorem dX11_worth_4 : decode cX11_worth 4 = .ok (.ifCond .eq 20, 3) := by decide +kernel
theorem dX11_worth_7 : decode cX11_worth 7 = .ok (.aload_n 0, 1) := by decide +kernel
theorem dX11_worth_8 : decode cX11_worth 8 = .ok (.iload_n 2, 1) := by decide +kernel
theorem dX11_worth_9 : decode cX11_worth 9 = .ok (.invokevirtual 126, 3) := by decide +kernel
theorem dX11_worth_12 : decode cX11_worth 12 = .ok (.ifCond .eq 12, 3) := by decide +kernel
theorem dX11_worth_15 : decode cX11_worth 15 = .ok (.aload_n 0, 1) := by decide +kernel
theorem dX11_worth_16 : decode cX11_worth 16 = .ok (.iload_n 1, 1) := by decide +kernel
theorem dX11_worth_17 : decode cX11_worth 17 = .ok (.iload_n 2, 1) := by decide +kernel
theorem dX11_worth_18 : decode cX11_worth 18 = .ok (.invokevirtual 156, 3) := by decide +kernel
theorem dX11_worth_21 : decode cX11_worth 21 = .ok (.goto 4, 3) := by decide +kernel
theorem dX11_worth_24 : decode cX11_worth 24 = .ok (.iconst (-1), 1) := by decide +kernel
theorem dX11_worth_25 : decode cX11_worth 25 = .ok (.ireturn, 1) := by decide +kernel
theorem dX11_value_0 : decode cX11_value 0 = .ok (.iconst 0, 1) := by decide +kernel
theorem dX11_value_1 : decode cX11_value 1 = .ok (.istore_n 2, 1) := by decide +kernel
theorem dX11_value_2 : decode cX11_value 2 = .ok (.iload_n 2, 1) := by decide +kernel
theorem dX11_value_3 : decode cX11_value 3 = .ok (.aload_n 0, 1) := by decide +kernel
theorem dX11_value_4 : decode cX11_value 4 = .ok (.getfield 118, 3) := by decide +kernel
theorem dX11_value_7 : decode cX11_value 7 = .ok (.if_icmp .ge 39, 3) := by decide +kernel
theorem dX11_value_10 : decode cX11_value 10 = .ok (.aload_n 0, 1) := by decide +kernel
theorem dX11_value_11 : decode cX11_value 11 = .ok (.getfield 57, 3) := by decide +kernel
theorem dX11_value_14 : decode cX11_value 14 = .ok (.iload_n 2, 1) := by decide +kernel
theorem dX11_value_15 : decode cX11_value 15 = .ok (.aload_n 0, 1) := by decide +kernel
theorem dX11_value_16 : decode cX11_value 16 = .ok (.iload_n 1, 1) := by decide +kernel
theorem dX11_value_17 : decode cX11_value 17 = .ok (.iload_n 2, 1) := by decide +kernel
theorem dX11_value_18 : decode cX11_value 18 = .ok (.invokevirtual 156, 3) := by decide +kernel
theorem dX11_value_21 : decode cX11_value 21 = .ok (.iastore, 1) := by decide +kernel
theorem dX11_value_22 : decode cX11_value 22 = .ok (.aload_n 0, 1) := by decide +kernel
theorem dX11_value_23 : decode cX11_value 23 = .ok (.getfield 60, 3) := by decide +kernel
theorem dX11_value_26 : decode cX11_value 26 = .ok (.iload_n 2, 1) := by decide +kernel
theorem dX11_value_27 : decode cX11_value 27 = .ok (.aload_n 0, 1) := by decide +kernel
theorem dX11_value_28 : decode cX11_value 28 = .ok (.getfield 38, 3) := by decide +kernel
theorem dX11_value_31 : decode cX11_value 31 = .ok (.iload_n 2, 1) := by decide +kernel
theorem dX11_value_32 : decode cX11_value 32 = .ok (.iaload, 1) := by decide +kernel
theorem dX11_value_33 : decode cX11_value 33 = .ok (.aload_n 0, 1) := by decide +kernel
theorem dX11_value_34 : decode cX11_value 34 = .ok (.iload_n 2, 1) := by decide +kernel
theorem dX11_value_35 : decode cX11_value 35 = .ok (.invokevirtual 146, 3) := by decide +kernel
theorem dX11_value_38 : decode cX11_value 38 = .ok (.isub, 1) := by decide +kernel
theorem dX11_value_39 : decode cX11_value 39 = .ok (.iastore, 1) := by decide +kernel
theorem dX11_value_40 : decode cX11_value 40 = .ok (.iinc 2 1, 3) := by decide +kernel
theorem dX11_value_43 : decode cX11_value 43 = .ok (.goto (-41), 3) := by decide +kernel
theorem dX11_value_46 : decode cX11_value 46 = .ok (.return_, 1) := by decide +kernel
theorem dX11_burn_0 : decode cX11_burn 0 = .ok (.bipush (-4), 2) := by decide +kernel
theorem dX11_burn_2 : decode cX11_burn 2 = .ok (.istore_n 3, 1) := by decide +kernel
theorem dX11_burn_3 : decode cX11_burn 3 = .ok (.aload_n 0, 1) := by decide +kernel
theorem dX11_burn_4 : decode cX11_burn 4 = .ok (.iconst 0, 1) := by decide +kernel
theorem dX11_burn_5 : decode cX11_burn 5 = .ok (.putfield 159, 3) := by decide +kernel
theorem dX11_burn_8 : decode cX11_burn 8 = .ok (.iconst 0, 1) := by decide +kernel
theorem dX11_burn_9 : decode cX11_burn 9 = .ok (.istore 4, 2) := by decide +kernel
theorem dX11_burn_11 : decode cX11_burn 11 = .ok (.iload 4, 2) := by decide +kernel
theorem dX11_burn_13 : decode cX11_burn 13 = .ok (.iload_n 1, 1) := by decide +kernel
theorem dX11_burn_14 : decode cX11_burn 14 = .ok (.if_icmp .ge 96, 3) := by decide +kernel
theorem dX11_burn_17 : decode cX11_burn 17 = .ok (.iload_n 2, 1) := by decide +kernel
theorem dX11_burn_18 : decode cX11_burn 18 = .ok (.iload 4, 2) := by decide +kernel
theorem dX11_burn_20 : decode cX11_burn 20 = .ok (.iadd, 1) := by decide +kernel
theorem dX11_burn_21 : decode cX11_burn 21 = .ok (.aload_n 0, 1) := by decide +kernel
theorem dX11_burn_22 : decode cX11_burn 22 = .ok (.getfield 118, 3) := by decide +kernel
theorem dX11_burn_25 : decode cX11_burn 25 = .ok (.irem, 1) := by decide +kernel
theorem dX11_burn_26 : decode cX11_burn 26 = .ok (.istore 5, 2) := by decide +kernel
theorem dX11_burn_28 : decode cX11_burn 28 = .ok (.aload_n 0, 1) := by decide +kernel
theorem dX11_burn_29 : decode cX11_burn 29 = .ok (.getfield 159, 3) := by decide +kernel
theorem dX11_burn_32 : decode cX11_burn 32 = .ok (.aload_n 0, 1) := by decide +kernel
theorem dX11_burn_33 : decode cX11_burn 33 = .ok (.getfield 53, 3) := by decide +kernel
theorem dX11_burn_36 : decode cX11_burn 36 = .ok (.iadd, 1) := by decide +kernel
theorem dX11_burn_37 : decode cX11_burn 37 = .ok (.istore 6, 2) := by decide +kernel
theorem dX11_burn_39 : decode cX11_burn 39 = .ok (.iload 5, 2) := by decide +kernel
theorem dX11_burn_41 : decode cX11_burn 41 = .ok (.iload_n 3, 1) := by decide +kernel
theorem dX11_burn_42 : decode cX11_burn 42 = .ok (.if_icmp .eq 62, 3) := by decide +kernel
theorem dX11_burn_45 : decode cX11_burn 45 = .ok (.iload 6, 2) := by decide +kernel
theorem dX11_burn_47 : decode cX11_burn 47 = .ok (.aload_n 0, 1) := by decide +kernel
theorem dX11_burn_48 : decode cX11_burn 48 = .ok (.getfield 57, 3) := by decide +kernel
theorem dX11_burn_51 : decode cX11_burn 51 = .ok (.iload 5, 2) := by decide +kernel
theorem dX11_burn_53 : decode cX11_burn 53 = .ok (.iaload, 1) := by decide +kernel
theorem dX11_burn_54 : decode cX11_burn 54 = .ok (.if_icmp .gt 50, 3) := by decide +kernel
theorem dX11_burn_57 : decode cX11_burn 57 = .ok (.iload 6, 2) := by decide +kernel
theorem dX11_burn_59 : decode cX11_burn 59 = .ok (.aload_n 0, 1) := by decide +kernel
theorem dX11_burn_60 : decode cX11_burn 60 = .ok (.getfield 60, 3) := by decide +kernel
theorem dX11_burn_63 : decode cX11_burn 63 = .ok (.iload 5, 2) := by decide +kernel
theorem dX11_burn_65 : decode cX11_burn 65 = .ok (.iaload, 1) := by decide +kernel
theorem dX11_burn_66 : decode cX11_burn 66 = .ok (.if_icmp .gt 38, 3) := by decide +kernel
theorem dX11_burn_69 : decode cX11_burn 69 = .ok (.aload_n 0, 1) := by decide +kernel
theorem dX11_burn_70 : decode cX11_burn 70 = .ok (.getfield 44, 3) := by decide +kernel
theorem dX11_burn_73 : decode cX11_burn 73 = .ok (.iload 5, 2) := by decide +kernel
theorem dX11_burn_75 : decode cX11_burn 75 = .ok (.baload, 1) := by decide +kernel
theorem dX11_burn_76 : decode cX11_burn 76 = .ok (.ifCond .eq 19, 3) := by decide +kernel
theorem dX11_burn_79 : decode cX11_burn 79 = .ok (.iload_n 1, 1) := by decide +kernel
theorem dX11_burn_80 : decode cX11_burn 80 = .ok (.iload 4, 2) := by decide +kernel
theorem dX11_burn_82 : decode cX11_burn 82 = .ok (.isub, 1) := by decide +kernel
theorem dX11_burn_83 : decode cX11_burn 83 = .ok (.iconst 3, 1) := by decide +kernel
theorem dX11_burn_84 : decode cX11_burn 84 = .ok (.aload_n 0, 1) := by decide +kernel
theorem dX11_burn_85 : decode cX11_burn 85 = .ok (.getfield 118, 3) := by decide +kernel
theorem dX11_burn_88 : decode cX11_burn 88 = .ok (.imul, 1) := by decide +kernel
theorem dX11_burn_89 : decode cX11_burn 89 = .ok (.if_icmp .le 6, 3) := by decide +kernel
theorem dX11_burn_92 : decode cX11_burn 92 = .ok (.goto 12, 3) := by decide +kernel
theorem dX11_burn_95 : decode cX11_burn 95 = .ok (.iload 5, 2) := by decide +kernel
theorem dX11_burn_97 : decode cX11_burn 97 = .ok (.istore_n 3, 1) := by decide +kernel
theorem dX11_burn_98 : decode cX11_burn 98 = .ok (.aload_n 0, 1) := by decide +kernel
theorem dX11_burn_99 : decode cX11_burn 99 = .ok (.iload 6, 2) := by decide +kernel
theorem dX11_burn_101 : decode cX11_burn 101 = .ok (.putfield 159, 3) := by decide +kernel
theorem dX11_burn_104 : decode cX11_burn 104 = .ok (.iinc 4 1, 3) := by decide +kernel
theorem dX11_burn_107 : decode cX11_burn 107 = .ok (.goto (-96), 3) := by decide +kernel
theorem dX11_burn_110 : decode cX11_burn 110 = .ok (.iload_n 3, 1) := by decide +kernel
theorem dX11_burn_111 : decode cX11_burn 111 = .ok (.ireturn, 1) := by decide +kernel
theorem dX11_capOf_0 : decode cX11_capOf 0 = .ok (.aload_n 0, 1) := by decide +kernel
theorem dX11_capOf_1 : decode cX11_capOf 1 = .ok (.getfield 57, 3) := by decide +kernel
theorem dX11_capOf_4 : decode cX11_capOf 4 = .ok (.iload_n 1, 1) := by decide +kernel
theorem dX11_capOf_5 : decode cX11_capOf 5 = .ok (.iaload, 1) := by decide +kernel
theorem dX11_capOf_6 : decode cX11_capOf 6 = .ok (.aload_n 0, 1) := by decide +kernel
theorem dX11_capOf_7 : decode cX11_capOf 7 = .ok (.getfield 60, 3) := by decide +kernel
theorem dX11_capOf_10 : decode cX11_capOf 10 = .ok (.iload_n 1, 1) := by decide +kernel
theorem dX11_capOf_11 : decode cX11_capOf 11 = .ok (.iaload, 1) := by decide +kernel
theorem dX11_capOf_12 : decode cX11_capOf 12 = .ok (.if_icmp .ge 12, 3) := by decide +kernel
theorem dX11_capOf_15 : decode cX11_capOf 15 = .ok (.aload_n 0, 1) := by decide +kernel
theorem dX11_capOf_16 : decode cX11_capOf 16 = .ok (.getfield 57, 3) := by decide +kernel
theorem dX11_capOf_19 : decode cX11_capOf 19 = .ok (.iload_n 1, 1) := by decide +kernel
theorem dX11_capOf_20 : decode cX11_capOf 20 = .ok (.iaload, 1) := by decide +kernel
theorem dX11_capOf_21 : decode cX11_capOf 21 = .ok (.goto 9, 3) := by decide +kernel
theorem dX11_capOf_24 : decode cX11_capOf 24 = .ok (.aload_n 0, 1) := by decide +kernel
theorem dX11_capOf_25 : decode cX11_capOf 25 = .ok (.getfield 60, 3) := by decide +kernel
theorem dX11_capOf_28 : decode cX11_capOf 28 = .ok (.iload_n 1, 1) := by decide +kernel
theorem dX11_capOf_29 : decode cX11_capOf 29 = .ok (.iaload, 1) := by decide +kernel
theorem dX11_capOf_30 : decode cX11_capOf 30 = .ok (.ireturn, 1) := by decide +kernel
theorem dX11_lotFor_0 : decode cX11_lotFor 0 = .ok (.aload_n 0, 1) := by decide +kernel
theorem dX11_lotFor_1 : decode cX11_lotFor 1 = .ok (.bipush (-4), 2) := by decide +kernel
theorem dX11_lotFor_3 : decode cX11_lotFor 3 = .ok (.putfield 162, 3) := by decide +kernel
theorem dX11_lotFor_6 : decode cX11_lotFor 6 = .ok (.iconst 0, 1) := by decide +kernel
theorem dX11_lotFor_7 : decode cX11_lotFor 7 = .ok (.istore_n 1, 1) := by decide +kernel
theorem dX11_lotFor_8 : decode cX11_lotFor 8 = .ok (.iload_n 1, 1) := by decide +kernel
theorem dX11_lotFor_9 : decode cX11_lotFor 9 = .ok (.aload_n 0, 1) := by decide +kernel
theorem dX11_lotFor_10 : decode cX11_lotFor 10 = .ok (.getfield 118, 3) := by decide +kernel
theorem dX11_lotFor_13 : decode cX11_lotFor 13 = .ok (.if_icmp .ge 51, 3) := by decide +kernel
theorem dX11_lotFor_16 : decode cX11_lotFor 16 = .ok (.aload_n 0, 1) := by decide +kernel
theorem dX11_lotFor_17 : decode cX11_lotFor 17 = .ok (.iload_n 1, 1) := by decide +kernel
theorem dX11_lotFor_18 : decode cX11_lotFor 18 = .ok (.invokevirtual 165, 3) := by decide +kernel
theorem dX11_lotFor_21 : decode cX11_lotFor 21 = .ok (.aload_n 0, 1) := by decide +kernel
theorem dX11_lotFor_22 : decode cX11_lotFor 22 = .ok (.getfield 53, 3) := by decide +kernel
theorem dX11_lotFor_25 : decode cX11_lotFor 25 = .ok (.if_icmp .lt 33, 3) := by decide +kernel
theorem dX11_lotFor_28 : decode cX11_lotFor 28 = .ok (.aload_n 0, 1) := by decide +kernel
theorem dX11_lotFor_29 : decode cX11_lotFor 29 = .ok (.getfield 162, 3) := by decide +kernel
theorem dX11_lotFor_32 : decode cX11_lotFor 32 = .ok (.bipush (-4), 2) := by decide +kernel
theorem dX11_lotFor_34 : decode cX11_lotFor 34 = .ok (.if_icmp .eq 19, 3) := by decide +kernel
theorem dX11_lotFor_37 : decode cX11_lotFor 37 = .ok (.aload_n 0, 1) := by decide +kernel
theorem dX11_lotFor_38 : decode cX11_lotFor 38 = .ok (.iload_n 1, 1) := by decide +kernel
theorem dX11_lotFor_39 : decode cX11_lotFor 39 = .ok (.invokevirtual 165, 3) := by decide +kernel
theorem dX11_lotFor_42 : decode cX11_lotFor 42 = .ok (.aload_n 0, 1) := by decide +kernel
theorem dX11_lotFor_43 : decode cX11_lotFor 43 = .ok (.aload_n 0, 1) := by decide +kernel
theorem dX11_lotFor_44 : decode cX11_lotFor 44 = .ok (.getfield 162, 3) := by decide +kernel
theorem dX11_lotFor_47 : decode cX11_lotFor 47 = .ok (.invokevirtual 165, 3) := by decide +kernel
theorem dX11_lotFor_50 : decode cX11_lotFor 50 = .ok (.if_icmp .le 8, 3) := by decide +kernel
theorem dX11_lotFor_53 : decode cX11_lotFor 53 = .ok (.aload_n 0, 1) := by decide +kernel
theorem dX11_lotFor_54 : decode cX11_lotFor 54 = .ok (.iload_n 1, 1) := by decide +kernel
theorem dX11_lotFor_55 : decode cX11_lotFor 55 = .ok (.putfield 162, 3) := by decide +kernel
theorem dX11_lotFor_58 : decode cX11_lotFor 58 = .ok (.iinc 1 1, 3) := by decide +kernel
theorem dX11_lotFor_61 : decode cX11_lotFor 61 = .ok (.goto (-53), 3) := by decide +kernel
theorem dX11_lotFor_64 : decode cX11_lotFor 64 = .ok (.aload_n 0, 1) := by decide +kernel
theorem dX11_lotFor_65 : decode cX11_lotFor 65 = .ok (.getfield 162, 3) := by decide +kernel
theorem dX11_lotFor_68 : decode cX11_lotFor 68 = .ok (.bipush (-4), 2) := by decide +kernel
theorem dX11_lotFor_70 : decode cX11_lotFor 70 = .ok (.if_icmp .ne 6, 3) := by decide +kernel
theorem dX11_lotFor_73 : decode cX11_lotFor 73 = .ok (.bipush (-4), 2) := by decide +kernel
theorem dX11_lotFor_75 : decode cX11_lotFor 75 = .ok (.ireturn, 1) := by decide +kernel
theorem dX11_lotFor_76 : decode cX11_lotFor 76 = .ok (.iconst 0, 1) := by decide +kernel
theorem dX11_lotFor_77 : decode cX11_lotFor 77 = .ok (.istore_n 1, 1) := by decide +kernel
theorem dX11_lotFor_78 : decode cX11_lotFor 78 = .ok (.iconst 0, 1) := by decide +kernel
theorem dX11_lotFor_79 : decode cX11_lotFor 79 = .ok (.istore_n 2, 1) := by decide +kernel
theorem dX11_lotFor_80 : decode cX11_lotFor 80 = .ok (.iload_n 2, 1) := by decide +kernel
theorem dX11_lotFor_81 : decode cX11_lotFor 81 = .ok (.aload_n 0, 1) := by decide +kernel
theorem dX11_lotFor_82 : decode cX11_lotFor 82 = .ok (.getfield 118, 3) := by decide +kernel
theorem dX11_lotFor_85 : decode cX11_lotFor 85 = .ok (.if_icmp .ge 44, 3) := by decide +kernel
theorem dX11_lotFor_88 : decode cX11_lotFor 88 = .ok (.iload_n 2, 1) := by decide +kernel
theorem dX11_lotFor_89 : decode cX11_lotFor 89 = .ok (.aload_n 0, 1) := by decide +kernel
theorem dX11_lotFor_90 : decode cX11_lotFor 90 = .ok (.getfield 162, 3) := by decide +kernel
theorem dX11_lotFor_93 : decode cX11_lotFor 93 = .ok (.if_icmp .eq 30, 3) := by decide +kernel
theorem dX11_lotFor_96 : decode cX11_lotFor 96 = .ok (.aload_n 0, 1) := by decide +kernel
theorem dX11_lotFor_97 : decode cX11_lotFor 97 = .ok (.iload_n 2, 1) := by decide +kernel
theorem dX11_lotFor_98 : decode cX11_lotFor 98 = .ok (.invokevirtual 165, 3) := by decide +kernel
theorem dX11_lotFor_101 : decode cX11_lotFor 101 = .ok (.aload_n 0, 1) := by decide +kernel
theorem dX11_lotFor_102 : decode cX11_lotFor 102 = .ok (.getfield 53, 3) := by decide +kernel
theorem dX11_lotFor_105 : decode cX11_lotFor 105 = .ok (.if_icmp .lt 18, 3) := by decide +kernel
theorem dX11_lotFor_108 : decode cX11_lotFor 108 = .ok (.aload_n 0, 1) := by decide +kernel
theorem dX11_lotFor_109 : decode cX11_lotFor 109 = .ok (.iload_n 2, 1) := by decide +kernel
theorem dX11_lotFor_110 : decode cX11_lotFor 110 = .ok (.invokevirtual 165, 3) := by decide +kernel
theorem dX11_lotFor_113 : decode cX11_lotFor 113 = .ok (.iload_n 1, 1) := by decide +kernel
theorem dX11_lotFor_114 : decode cX11_lotFor 114 = .ok (.if_icmp .le 9, 3) := by decide +kernel
theorem dX11_lotFor_117 : decode cX11_lotFor 117 = .ok (.aload_n 0, 1) := by decide +kernel
theorem dX11_lotFor_118 : decode cX11_lotFor 118 = .ok (.iload_n 2, 1) := by decide +kernel
theorem dX11_lotFor_119 : decode cX11_lotFor 119 = .ok (.invokevirtual 165, 3) := by decide +kernel
theorem dX11_lotFor_122 : decode cX11_lotFor 122 = .ok (.istore_n 1, 1) := by decide +kernel
theorem dX11_lotFor_123 : decode cX11_lotFor 123 = .ok (.iinc 2 1, 3) := by decide +kernel
theorem dX11_lotFor_126 : decode cX11_lotFor 126 = .ok (.goto (-46), 3) := by decide +kernel
theorem dX11_lotFor_129 : decode cX11_lotFor 129 = .ok (.iload_n 1, 1) := by decide +kernel
theorem dX11_lotFor_130 : decode cX11_lotFor 130 = .ok (.aload_n 0, 1) := by decide +kernel
theorem dX11_lotFor_131 : decode cX11_lotFor 131 = .ok (.getfield 53, 3) := by decide +kernel
theorem dX11_lotFor_134 : decode cX11_lotFor 134 = .ok (.iadd, 1) := by decide +kernel
theorem dX11_lotFor_135 : decode cX11_lotFor 135 = .ok (.istore_n 2, 1) := by decide +kernel
theorem dX11_lotFor_136 : decode cX11_lotFor 136 = .ok (.iload_n 2, 1) := by decide +kernel
theorem dX11_lotFor_137 : decode cX11_lotFor 137 = .ok (.aload_n 0, 1) := by decide +kernel
theorem dX11_lotFor_138 : decode cX11_lotFor 138 = .ok (.aload_n 0, 1) := by decide +kernel
theorem dX11_lotFor_139 : decode cX11_lotFor 139 = .ok (.getfield 162, 3) := by decide +kernel
theorem dX11_lotFor_142 : decode cX11_lotFor 142 = .ok (.invokevirtual 165, 3) := by decide +kernel
theorem dX11_lotFor_145 : decode cX11_lotFor 145 = .ok (.if_icmp .ge 7, 3) := by decide +kernel
theorem dX11_lotFor_148 : decode cX11_lotFor 148 = .ok (.iload_n 2, 1) := by decide +kernel
theorem dX11_lotFor_149 : decode cX11_lotFor 149 = .ok (.goto 11, 3) := by decide +kernel
theorem dX11_lotFor_152 : decode cX11_lotFor 152 = .ok (.aload_n 0, 1) := by decide +kernel
theorem dX11_lotFor_153 : decode cX11_lotFor 153 = .ok (.aload_n 0, 1) := by decide +kernel
theorem dX11_lotFor_154 : decode cX11_lotFor 154 = .ok (.getfield 162, 3) := by decide +kernel
theorem dX11_lotFor_157 : decode cX11_lotFor 157 = .ok (.invokevirtual 165, 3) := by decide +kernel
theorem dX11_lotFor_160 : decode cX11_lotFor 160 = .ok (.ireturn, 1) := by decide +kernel
theorem dX11_candle_0 : decode cX11_candle 0 = .ok (.iload_n 1, 1) := by decide +kernel
theorem dX11_candle_1 : decode cX11_candle 1 = .ok (.invokestatic 121, 3) := by decide +kernel
theorem dX11_candle_4 : decode cX11_candle 4 = .ok (.ifCond .eq 21, 3) := by decide +kernel
theorem dX11_candle_7 : decode cX11_candle 7 = .ok (.iload_n 2, 1) := by decide +kernel
theorem dX11_candle_8 : decode cX11_candle 8 = .ok (.iconst 1, 1) := by decide +kernel
theorem dX11_candle_9 : decode cX11_candle 9 = .ok (.bipush 60, 2) := by decide +kernel
theorem dX11_candle_11 : decode cX11_candle 11 = .ok (.invokestatic 114, 3) := by decide +kernel
theorem dX11_candle_14 : decode cX11_candle 14 = .ok (.ifCond .eq 11, 3) := by decide +kernel
theorem dX11_candle_17 : decode cX11_candle 17 = .ok (.aload_n 0, 1) := by decide +kernel
theorem dX11_candle_18 : decode cX11_candle 18 = .ok (.iload_n 3, 1) := by decide +kernel
theorem dX11_candle_19 : decode cX11_candle 19 = .ok (.invokevirtual 126, 3) := by decide +kernel
theorem dX11_candle_22 : decode cX11_candle 22 = .ok (.ifCond .ne 5, 3) := by decide +kernel
theorem dX11_candle_25 : decode cX11_candle 25 = .ok (.iconst (-1), 1) := by decide +kernel
theorem dX11_candle_26 : decode cX11_candle 26 = .ok (.ireturn, 1) := by decide +kernel
theorem dX11_candle_27 : decode cX11_candle 27 = .ok (.aload_n 0, 1) := by decide +kernel
theorem dX11_candle_28 : decode cX11_candle 28 = .ok (.getfield 16, 3) := by decide +kernel
theorem dX11_candle_31 : decode cX11_candle 31 = .ok (.iload_n 1, 1) := by decide +kernel
theorem dX11_candle_32 : decode cX11_candle 32 = .ok (.baload, 1) := by decide +kernel
theorem dX11_candle_33 : decode cX11_candle 33 = .ok (.ifCond .eq 6, 3) := by decide +kernel
theorem dX11_candle_36 : decode cX11_candle 36 = .ok (.bipush (-3), 2) := by decide +kernel
theorem dX11_candle_38 : decode cX11_candle 38 = .ok (.ireturn, 1) := by decide +kernel
theorem dX11_candle_39 : decode cX11_candle 39 = .ok (.aload_n 0, 1) := by decide +kernel
theorem dX11_candle_40 : decode cX11_candle 40 = .ok (.iload_n 1, 1) := by decide +kernel
theorem dX11_candle_41 : decode cX11_candle 41 = .ok (.invokevirtual 168, 3) := by decide +kernel
theorem dX11_candle_44 : decode cX11_candle 44 = .ok (.aload_n 0, 1) := by decide +kernel
theorem dX11_candle_45 : decode cX11_candle 45 = .ok (.iload_n 2, 1) := by decide +kernel
theorem dX11_candle_46 : decode cX11_candle 46 = .ok (.iload_n 3, 1) := by decide +kernel
theorem dX11_candle_47 : decode cX11_candle 47 = .ok (.invokevirtual 172, 3) := by decide +kernel
theorem dX11_candle_50 : decode cX11_candle 50 = .ok (.istore 4, 2) := by decide +kernel
theorem dX11_candle_52 : decode cX11_candle 52 = .ok (.iload 4, 2) := by decide +kernel
theorem dX11_candle_54 : decode cX11_candle 54 = .ok (.bipush (-4), 2) := by decide +kernel
theorem dX11_candle_56 : decode cX11_candle 56 = .ok (.if_icmp .ne 6, 3) := by decide +kernel
theorem dX11_candle_59 : decode cX11_candle 59 = .ok (.bipush (-4), 2) := by decide +kernel
theorem dX11_candle_61 : decode cX11_candle 61 = .ok (.ireturn, 1) := by decide +kernel
theorem dX11_candle_62 : decode cX11_candle 62 = .ok (.aload_n 0, 1) := by decide +kernel
theorem dX11_candle_63 : decode cX11_candle 63 = .ok (.invokevirtual 175, 3) := by decide +kernel
theorem dX11_candle_66 : decode cX11_candle 66 = .ok (.istore 5, 2) := by decide +kernel
theorem dX11_candle_68 : decode cX11_candle 68 = .ok (.aload_n 0, 1) := by decide +kernel
theorem dX11_candle_69 : decode cX11_candle 69 = .ok (.getfield 16, 3) := by decide +kernel
theorem dX11_candle_72 : decode cX11_candle 72 = .ok (.iload_n 1, 1) := by decide +kernel
theorem dX11_candle_73 : decode cX11_candle 73 = .ok (.iconst 1, 1) := by decide +kernel
theorem dX11_candle_74 : decode cX11_candle 74 = .ok (.bastore, 1) := by decide +kernel
theorem dX11_candle_75 : decode cX11_candle 75 = .ok (.aload_n 0, 1) := by decide +kernel
theorem dX11_candle_76 : decode cX11_candle 76 = .ok (.getfield 20, 3) := by decide +kernel
theorem dX11_candle_79 : decode cX11_candle 79 = .ok (.iload_n 1, 1) := by decide +kernel
theorem dX11_candle_80 : decode cX11_candle 80 = .ok (.iload 4, 2) := by decide +kernel
theorem dX11_candle_82 : decode cX11_candle 82 = .ok (.iastore, 1) := by decide +kernel
theorem dX11_candle_83 : decode cX11_candle 83 = .ok (.aload_n 0, 1) := by decide +kernel
theorem dX11_candle_84 : decode cX11_candle 84 = .ok (.getfield 23, 3) := by decide +kernel
theorem dX11_candle_87 : decode cX11_candle 87 = .ok (.iload_n 1, 1) := by decide +kernel
theorem dX11_candle_88 : decode cX11_candle 88 = .ok (.aload_n 0, 1) := by decide +kernel
theorem dX11_candle_89 : decode cX11_candle 89 = .ok (.getfield 159, 3) := by decide +kernel
theorem dX11_candle_92 : decode cX11_candle 92 = .ok (.iastore, 1) := by decide +kernel
theorem dX11_candle_93 : decode cX11_candle 93 = .ok (.aload_n 0, 1) := by decide +kernel
theorem dX11_candle_94 : decode cX11_candle 94 = .ok (.getfield 26, 3) := by decide +kernel
theorem dX11_candle_97 : decode cX11_candle 97 = .ok (.iload_n 1, 1) := by decide +kernel
theorem dX11_candle_98 : decode cX11_candle 98 = .ok (.iload 5, 2) := by decide +kernel
theorem dX11_candle_100 : decode cX11_candle 100 = .ok (.ifCond .ge 7, 3) := by decide +kernel
theorem dX11_candle_103 : decode cX11_candle 103 = .ok (.iconst 0, 1) := by decide +kernel
theorem dX11_candle_104 : decode cX11_candle 104 = .ok (.goto 5, 3) := by decide +kernel
theorem dX11_candle_107 : decode cX11_candle 107 = .ok (.iload 5, 2) := by decide +kernel
theorem dX11_candle_109 : decode cX11_candle 109 = .ok (.iastore, 1) := by decide +kernel
theorem dX11_candle_110 : decode cX11_candle 110 = .ok (.aload_n 0, 1) := by decide +kernel
theorem dX11_candle_111 : decode cX11_candle 111 = .ok (.getfield 159, 3) := by decide +kernel
theorem dX11_candle_114 : decode cX11_candle 114 = .ok (.ireturn, 1) := by decide +kernel
theorem dX11_wins_0 : decode cX11_wins 0 = .ok (.iload_n 1, 1) := by decide +kernel
theorem dX11_wins_1 : decode cX11_wins 1 = .ok (.invokestatic 121, 3) := by decide +kernel
theorem dX11_wins_4 : decode cX11_wins 4 = .ok (.ifCond .eq 19, 3) := by decide +kernel
theorem dX11_wins_7 : decode cX11_wins 7 = .ok (.aload_n 0, 1) := by decide +kernel
theorem dX11_wins_8 : decode cX11_wins 8 = .ok (.iload_n 2, 1) := by decide +kernel
theorem dX11_wins_9 : decode cX11_wins 9 = .ok (.invokevirtual 126, 3) := by decide +kernel
theorem dX11_wins_12 : decode cX11_wins 12 = .ok (.ifCond .eq 11, 3) := by decide +kernel
theorem dX11_wins_15 : decode cX11_wins 15 = .ok (.aload_n 0, 1) := by decide +kernel
theorem dX11_wins_16 : decode cX11_wins 16 = .ok (.iload_n 3, 1) := by decide +kernel
theorem dX11_wins_17 : decode cX11_wins 17 = .ok (.invokevirtual 126, 3) := by decide +kernel
theorem dX11_wins_20 : decode cX11_wins 20 = .ok (.ifCond .ne 5, 3) := by decide +kernel
theorem dX11_wins_23 : decode cX11_wins 23 = .ok (.iconst (-1), 1) := by decide +kernel
theorem dX11_wins_24 : decode cX11_wins 24 = .ok (.ireturn, 1) := by decide +kernel
theorem dX11_wins_25 : decode cX11_wins 25 = .ok (.aload_n 0, 1) := by decide +kernel
theorem dX11_wins_26 : decode cX11_wins 26 = .ok (.getfield 16, 3) := by decide +kernel
theorem dX11_wins_29 : decode cX11_wins 29 = .ok (.iload_n 1, 1) := by decide +kernel
theorem dX11_wins_30 : decode cX11_wins 30 = .ok (.baload, 1) := by decide +kernel
theorem dX11_wins_31 : decode cX11_wins 31 = .ok (.ifCond .eq 6, 3) := by decide +kernel
theorem dX11_wins_34 : decode cX11_wins 34 = .ok (.bipush (-3), 2) := by decide +kernel
theorem dX11_wins_36 : decode cX11_wins 36 = .ok (.ireturn, 1) := by decide +kernel
theorem dX11_wins_37 : decode cX11_wins 37 = .ok (.aload_n 0, 1) := by decide +kernel
theorem dX11_wins_38 : decode cX11_wins 38 = .ok (.iload_n 1, 1) := by decide +kernel
theorem dX11_wins_39 : decode cX11_wins 39 = .ok (.invokevirtual 168, 3) := by decide +kernel
theorem dX11_wins_42 : decode cX11_wins 42 = .ok (.iconst 0, 1) := by decide +kernel
theorem dX11_wins_43 : decode cX11_wins 43 = .ok (.istore 4, 2) := by decide +kernel
theorem dX11_wins_45 : decode cX11_wins 45 = .ok (.iconst 1, 1) := by decide +kernel
theorem dX11_wins_46 : decode cX11_wins 46 = .ok (.istore 5, 2) := by decide +kernel
theorem dX11_wins_48 : decode cX11_wins 48 = .ok (.iload 5, 2) := by decide +kernel
theorem dX11_wins_50 : decode cX11_wins 50 = .ok (.bipush 60, 2) := by decide +kernel
theorem dX11_wins_52 : decode cX11_wins 52 = .ok (.if_icmp .gt 30, 3) := by decide +kernel
theorem dX11_wins_55 : decode cX11_wins 55 = .ok (.iload 4, 2) := by decide +kernel
theorem dX11_wins_57 : decode cX11_wins 57 = .ok (.aload_n 0, 1) := by decide +kernel
theorem dX11_wins_58 : decode cX11_wins 58 = .ok (.iload 5, 2) := by decide +kernel
theorem dX11_wins_60 : decode cX11_wins 60 = .ok (.iload_n 2, 1) := by decide +kernel
theorem dX11_wins_61 : decode cX11_wins 61 = .ok (.invokevirtual 172, 3) := by decide +kernel
theorem dX11_wins_64 : decode cX11_wins 64 = .ok (.iload_n 3, 1) := by decide +kernel
theorem dX11_wins_65 : decode cX11_wins 65 = .ok (.if_icmp .ne 7, 3) := by decide +kernel
theorem dX11_wins_68 : decode cX11_wins 68 = .ok (.iconst 1, 1) := by decide +kernel
theorem dX11_wins_69 : decode cX11_wins 69 = .ok (.goto 4, 3) := by decide +kernel
theorem dX11_wins_72 : decode cX11_wins 72 = .ok (.iconst 0, 1) := by decide +kernel
theorem dX11_wins_73 : decode cX11_wins 73 = .ok (.iadd, 1) := by decide +kernel
theorem dX11_wins_74 : decode cX11_wins 74 = .ok (.istore 4, 2) := by decide +kernel
theorem dX11_wins_76 : decode cX11_wins 76 = .ok (.iinc 5 1, 3) := by decide +kernel
theorem dX11_wins_79 : decode cX11_wins 79 = .ok (.goto (-31), 3) := by decide +kernel
theorem dX11_wins_82 : decode cX11_wins 82 = .ok (.iload 4, 2) := by decide +kernel
theorem dX11_wins_84 : decode cX11_wins 84 = .ok (.ireturn, 1) := by decide +kernel
theorem dX11_lots_0 : decode cX11_lots 0 = .ok (.iload_n 1, 1) := by decide +kernel
theorem dX11_lots_1 : decode cX11_lots 1 = .ok (.invokestatic 121, 3) := by decide +kernel
theorem dX11_lots_4 : decode cX11_lots 4 = .ok (.ifCond .ne 5, 3) := by decide +kernel
theorem dX11_lots_7 : decode cX11_lots 7 = .ok (.iconst (-1), 1) := by decide +kernel
theorem dX11_lots_8 : decode cX11_lots 8 = .ok (.ireturn, 1) := by decide +kernel
theorem dX11_lots_9 : decode cX11_lots 9 = .ok (.aload_n 0, 1) := by decide +kernel
theorem dX11_lots_10 : decode cX11_lots 10 = .ok (.getfield 16, 3) := by decide +kernel
theorem dX11_lots_13 : decode cX11_lots 13 = .ok (.iload_n 1, 1) := by decide +kernel
theorem dX11_lots_14 : decode cX11_lots 14 = .ok (.baload, 1) := by decide +kernel
theorem dX11_lots_15 : decode cX11_lots 15 = .ok (.ifCond .eq 6, 3) := by decide +kernel
theorem dX11_lots_18 : decode cX11_lots 18 = .ok (.bipush (-3), 2) := by decide +kernel
theorem dX11_lots_20 : decode cX11_lots 20 = .ok (.ireturn, 1) := by decide +kernel
theorem dX11_lots_21 : decode cX11_lots 21 = .ok (.aload_n 0, 1) := by decide +kernel
theorem dX11_lots_22 : decode cX11_lots 22 = .ok (.iload_n 1, 1) := by decide +kernel
theorem dX11_lots_23 : decode cX11_lots 23 = .ok (.invokevirtual 168, 3) := by decide +kernel
theorem dX11_lots_26 : decode cX11_lots 26 = .ok (.aload_n 0, 1) := by decide +kernel
theorem dX11_lots_27 : decode cX11_lots 27 = .ok (.invokevirtual 175, 3) := by decide +kernel
theorem dX11_lots_30 : decode cX11_lots 30 = .ok (.ireturn, 1) := by decide +kernel
theorem dX11_lotter_0 : decode cX11_lotter 0 = .ok (.iload_n 1, 1) := by decide +kernel
theorem dX11_lotter_1 : decode cX11_lotter 1 = .ok (.invokestatic 121, 3) := by decide +kernel
theorem dX11_lotter_4 : decode cX11_lotter 4 = .ok (.ifCond .ne 5, 3) := by decide +kernel
theorem dX11_lotter_7 : decode cX11_lotter 7 = .ok (.iconst (-1), 1) := by decide +kernel
theorem dX11_lotter_8 : decode cX11_lotter 8 = .ok (.ireturn, 1) := by decide +kernel
theorem dX11_lotter_9 : decode cX11_lotter 9 = .ok (.aload_n 0, 1) := by decide +kernel
theorem dX11_lotter_10 : decode cX11_lotter 10 = .ok (.getfield 16, 3) := by decide +kernel
theorem dX11_lotter_13 : decode cX11_lotter 13 = .ok (.iload_n 1, 1) := by decide +kernel
theorem dX11_lotter_14 : decode cX11_lotter 14 = .ok (.baload, 1) := by decide +kernel
theorem dX11_lotter_15 : decode cX11_lotter 15 = .ok (.ifCond .eq 6, 3) := by decide +kernel
theorem dX11_lotter_18 : decode cX11_lotter 18 = .ok (.bipush (-3), 2) := by decide +kernel
theorem dX11_lotter_20 : decode cX11_lotter 20 = .ok (.ireturn, 1) := by decide +kernel
theorem dX11_lotter_21 : decode cX11_lotter 21 = .ok (.aload_n 0, 1) := by decide +kernel
theorem dX11_lotter_22 : decode cX11_lotter 22 = .ok (.iload_n 1, 1) := by decide +kernel
theorem dX11_lotter_23 : decode cX11_lotter 23 = .ok (.invokevirtual 168, 3) := by decide +kernel
theorem dX11_lotter_26 : decode cX11_lotter 26 = .ok (.aload_n 0, 1) := by decide +kernel
theorem dX11_lotter_27 : decode cX11_lotter 27 = .ok (.invokevirtual 175, 3) := by decide +kernel
theorem dX11_lotter_30 : decode cX11_lotter 30 = .ok (.istore_n 2, 1) := by decide +kernel
theorem dX11_lotter_31 : decode cX11_lotter 31 = .ok (.aload_n 0, 1) := by decide +kernel
theorem dX11_lotter_32 : decode cX11_lotter 32 = .ok (.getfield 162, 3) := by decide +kernel
theorem dX11_lotter_35 : decode cX11_lotter 35 = .ok (.ireturn, 1) := by decide +kernel
theorem dX11_ring_0 : decode cX11_ring 0 = .ok (.iconst 0, 1) := by decide +kernel
theorem dX11_ring_1 : decode cX11_ring 1 = .ok (.istore_n 1, 1) := by decide +kernel
theorem dX11_ring_2 : decode cX11_ring 2 = .ok (.iconst 0, 1) := by decide +kernel
theorem dX11_ring_3 : decode cX11_ring 3 = .ok (.istore_n 2, 1) := by decide +kernel
theorem dX11_ring_4 : decode cX11_ring 4 = .ok (.iload_n 2, 1) := by decide +kernel
theorem dX11_ring_5 : decode cX11_ring 5 = .ok (.bipush 24, 2) := by decide +kernel
theorem dX11_ring_7 : decode cX11_ring 7 = .ok (.if_icmp .ge 38, 3) := by decide +kernel
theorem dX11_ring_10 : decode cX11_ring 10 = .ok (.iload_n 1, 1) := by decide +kernel
theorem dX11_ring_11 : decode cX11_ring 11 = .ok (.aload_n 0, 1) := by decide +kernel
theorem dX11_ring_12 : decode cX11_ring 12 = .ok (.getfield 16, 3) := by decide +kernel
theorem dX11_ring_15 : decode cX11_ring 15 = .ok (.iload_n 2, 1) := by decide +kernel
theorem dX11_ring_16 : decode cX11_ring 16 = .ok (.baload, 1) := by decide +kernel
theorem dX11_ring_17 : decode cX11_ring 17 = .ok (.ifCond .eq 19, 3) := by decide +kernel
theorem dX11_ring_20 : decode cX11_ring 20 = .ok (.aload_n 0, 1) := by decide +kernel
theorem dX11_ring_21 : decode cX11_ring 21 = .ok (.getfield 23, 3) := by decide +kernel
theorem dX11_ring_24 : decode cX11_ring 24 = .ok (.iload_n 2, 1) := by decide +kernel
theorem dX11_ring_25 : decode cX11_ring 25 = .ok (.iaload, 1) := by decide +kernel
theorem dX11_ring_26 : decode cX11_ring 26 = .ok (.aload_n 0, 1) := by decide +kernel
theorem dX11_ring_27 : decode cX11_ring 27 = .ok (.getfield 26, 3) := by decide +kernel
theorem dX11_ring_30 : decode cX11_ring 30 = .ok (.iload_n 2, 1) := by decide +kernel
theorem dX11_ring_31 : decode cX11_ring 31 = .ok (.iaload, 1) := by decide +kernel
theorem dX11_ring_32 : decode cX11_ring 32 = .ok (.isub, 1) := by decide +kernel
theorem dX11_ring_33 : decode cX11_ring 33 = .ok (.goto 4, 3) := by decide +kernel
theorem dX11_ring_36 : decode cX11_ring 36 = .ok (.iconst 0, 1) := by decide +kernel
theorem dX11_ring_37 : decode cX11_ring 37 = .ok (.iadd, 1) := by decide +kernel
theorem dX11_ring_38 : decode cX11_ring 38 = .ok (.istore_n 1, 1) := by decide +kernel
theorem dX11_ring_39 : decode cX11_ring 39 = .ok (.iinc 2 1, 3) := by decide +kernel
theorem dX11_ring_42 : decode cX11_ring 42 = .ok (.goto (-38), 3) := by decide +kernel
theorem dX11_ring_45 : decode cX11_ring 45 = .ok (.iload_n 1, 1) := by decide +kernel
theorem dX11_ring_46 : decode cX11_ring 46 = .ok (.ireturn, 1) := by decide +kernel
theorem dX11_standUp_0 : decode cX11_standUp 0 = .ok (.iconst 0, 1) := by decide +kernel
theorem dX11_standUp_1 : decode cX11_standUp 1 = .ok (.istore_n 1, 1) := by decide +kernel
theorem dX11_standUp_2 : decode cX11_standUp 2 = .ok (.iload_n 1, 1) := by decide +kernel
theorem dX11_standUp_3 : decode cX11_standUp 3 = .ok (.bipush 24, 2) := by decide +kernel
theorem dX11_standUp_5 : decode cX11_standUp 5 = .ok (.if_icmp .ge 20, 3) := by decide +kernel
theorem dX11_standUp_8 : decode cX11_standUp 8 = .ok (.aload_n 0, 1) := by decide +kernel
theorem dX11_standUp_9 : decode cX11_standUp 9 = .ok (.getfield 69, 3) := by decide +kernel
theorem dX11_standUp_12 : decode cX11_standUp 12 = .ok (.iload_n 1, 1) := by decide +kernel
theorem dX11_standUp_13 : decode cX11_standUp 13 = .ok (.aload_n 0, 1) := by decide +kernel
theorem dX11_standUp_14 : decode cX11_standUp 14 = .ok (.iload_n 1, 1) := by decide +kernel
theorem dX11_standUp_15 : decode cX11_standUp 15 = .ok (.invokevirtual 136, 3) := by decide +kernel
theorem dX11_standUp_18 : decode cX11_standUp 18 = .ok (.bastore, 1) := by decide +kernel
theorem dX11_standUp_19 : decode cX11_standUp 19 = .ok (.iinc 1 1, 3) := by decide +kernel
theorem dX11_standUp_22 : decode cX11_standUp 22 = .ok (.goto (-20), 3) := by decide +kernel
theorem dX11_standUp_25 : decode cX11_standUp 25 = .ok (.return_, 1) := by decide +kernel
theorem dX11_wayFrom_0 : decode cX11_wayFrom 0 = .ok (.iconst 0, 1) := by decide +kernel
theorem dX11_wayFrom_1 : decode cX11_wayFrom 1 = .ok (.istore_n 2, 1) := by decide +kernel
theorem dX11_wayFrom_2 : decode cX11_wayFrom 2 = .ok (.iload_n 2, 1) := by decide +kernel
theorem dX11_wayFrom_3 : decode cX11_wayFrom 3 = .ok (.bipush 24, 2) := by decide +kernel
theorem dX11_wayFrom_5 : decode cX11_wayFrom 5 = .ok (.if_icmp .ge 26, 3) := by decide +kernel
theorem dX11_wayFrom_8 : decode cX11_wayFrom 8 = .ok (.aload_n 0, 1) := by decide +kernel
theorem dX11_wayFrom_9 : decode cX11_wayFrom 9 = .ok (.getfield 66, 3) := by decide +kernel
theorem dX11_wayFrom_12 : decode cX11_wayFrom 12 = .ok (.iload_n 2, 1) := by decide +kernel
theorem dX11_wayFrom_13 : decode cX11_wayFrom 13 = .ok (.iload_n 2, 1) := by decide +kernel
theorem dX11_wayFrom_14 : decode cX11_wayFrom 14 = .ok (.iload_n 1, 1) := by decide +kernel
theorem dX11_wayFrom_15 : decode cX11_wayFrom 15 = .ok (.if_icmp .ne 7, 3) := by decide +kernel
theorem dX11_wayFrom_18 : decode cX11_wayFrom 18 = .ok (.iconst 0, 1) := by decide +kernel
theorem dX11_wayFrom_19 : decode cX11_wayFrom 19 = .ok (.goto 5, 3) := by decide +kernel
