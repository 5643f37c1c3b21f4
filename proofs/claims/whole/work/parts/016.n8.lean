theorem dX8_thrown_0 : decode cX8_thrown 0 = .ok (.aload_n 0, 1) := by decide +kernel
theorem dX8_thrown_1 : decode cX8_thrown 1 = .ok (.getfield 1, 3) := by decide +kernel
theorem dX8_thrown_4 : decode cX8_thrown 4 = .ok (.ireturn, 1) := by decide +kernel
theorem dX8_init_0 : decode cX8_init 0 = .ok (.aload_n 0, 1) := by decide +kernel
theorem dX8_init_1 : decode cX8_init 1 = .ok (.invokespecial 7, 3) := by decide +kernel
theorem dX8_init_4 : decode cX8_init 4 = .ok (.aload_n 0, 1) := by decide +kernel
theorem dX8_init_5 : decode cX8_init 5 = .ok (.bipush 10, 2) := by decide +kernel
theorem dX8_init_7 : decode cX8_init 7 = .ok (.newarray .int, 2) := by decide +kernel
theorem dX8_init_9 : decode cX8_init 9 = .ok (.putfield 13, 3) := by decide +kernel
theorem dX8_init_12 : decode cX8_init 12 = .ok (.aload_n 0, 1) := by decide +kernel
theorem dX8_init_13 : decode cX8_init 13 = .ok (.bipush 10, 2) := by decide +kernel
theorem dX8_init_15 : decode cX8_init 15 = .ok (.newarray .int, 2) := by decide +kernel
theorem dX8_init_17 : decode cX8_init 17 = .ok (.putfield 17, 3) := by decide +kernel
theorem dX8_init_20 : decode cX8_init 20 = .ok (.aload_n 0, 1) := by decide +kernel
theorem dX8_init_21 : decode cX8_init 21 = .ok (.bipush 10, 2) := by decide +kernel
theorem dX8_init_23 : decode cX8_init 23 = .ok (.newarray .boolean, 2) := by decide +kernel
theorem dX8_init_25 : decode cX8_init 25 = .ok (.putfield 20, 3) := by decide +kernel
theorem dX8_init_28 : decode cX8_init 28 = .ok (.aload_n 0, 1) := by decide +kernel
theorem dX8_init_29 : decode cX8_init 29 = .ok (.bipush 80, 2) := by decide +kernel
theorem dX8_init_31 : decode cX8_init 31 = .ok (.newarray .int, 2) := by decide +kernel
theorem dX8_init_33 : decode cX8_init 33 = .ok (.putfield 24, 3) := by decide +kernel
theorem dX8_init_36 : decode cX8_init 36 = .ok (.aload_n 0, 1) := by decide +kernel
theorem dX8_init_37 : decode cX8_init 37 = .ok (.bipush 80, 2) := by decide +kernel
theorem dX8_init_39 : decode cX8_init 39 = .ok (.newarray .int, 2) := by decide +kernel
theorem dX8_init_41 : decode cX8_init 41 = .ok (.putfield 27, 3) := by decide +kernel
theorem dX8_init_44 : decode cX8_init 44 = .ok (.aload_n 0, 1) := by decide +kernel
theorem dX8_init_45 : decode cX8_init 45 = .ok (.bipush 80, 2) := by decide +kernel
theorem dX8_init_47 : decode cX8_init 47 = .ok (.newarray .int, 2) := by decide +kernel
theorem dX8_init_49 : decode cX8_init 49 = .ok (.putfield 30, 3) := by decide +kernel
theorem dX8_init_52 : decode cX8_init 52 = .ok (.aload_n 0, 1) := by decide +kernel
theorem dX8_init_53 : decode cX8_init 53 = .ok (.bipush 80, 2) := by decide +kernel
theorem dX8_init_55 : decode cX8_init 55 = .ok (.newarray .int, 2) := by decide +kernel
theorem dX8_init_57 : decode cX8_init 57 = .ok (.putfield 33, 3) := by decide +kernel
theorem dX8_init_60 : decode cX8_init 60 = .ok (.aload_n 0, 1) := by decide +kernel
theorem dX8_init_61 : decode cX8_init 61 = .ok (.bipush 80, 2) := by decide +kernel
theorem dX8_init_63 : decode cX8_init 63 = .ok (.newarray .int, 2) := by decide +kernel
theorem dX8_init_65 : decode cX8_init 65 = .ok (.putfield 36, 3) := by decide +kernel
theorem dX8_init_68 : decode cX8_init 68 = .ok (.aload_n 0, 1) := by decide +kernel
theorem dX8_init_69 : decode cX8_init 69 = .ok (.bipush 80, 2) := by decide +kernel
theorem dX8_init_71 : decode cX8_init 71 = .ok (.newarray .boolean, 2) := by decide +kernel
theorem dX8_init_73 : decode cX8_init 73 = .ok (.putfield 39, 3) := by decide +kernel
theorem dX8_init_76 : decode cX8_init 76 = .ok (.aload_n 0, 1) := by decide +kernel
theorem dX8_init_77 : decode cX8_init 77 = .ok (.bipush 80, 2) := by decide +kernel
theorem dX8_init_79 : decode cX8_init 79 = .ok (.newarray .boolean, 2) := by decide +kernel
theorem dX8_init_81 : decode cX8_init 81 = .ok (.putfield 42, 3) := by decide +kernel
theorem dX8_init_84 : decode cX8_init 84 = .ok (.aload_n 0, 1) := by decide +kernel
theorem dX8_init_85 : decode cX8_init 85 = .ok (.bipush 80, 2) := by decide +kernel
theorem dX8_init_87 : decode cX8_init 87 = .ok (.newarray .boolean, 2) := by decide +kernel
theorem dX8_init_89 : decode cX8_init 89 = .ok (.putfield 45, 3) := by decide +kernel
theorem dX8_init_92 : decode cX8_init 92 = .ok (.aload_n 0, 1) := by decide +kernel
theorem dX8_init_93 : decode cX8_init 93 = .ok (.sipush 480, 3) := by decide +kernel
theorem dX8_init_96 : decode cX8_init 96 = .ok (.newarray .int, 2) := by decide +kernel
theorem dX8_init_98 : decode cX8_init 98 = .ok (.putfield 48, 3) := by decide +kernel
theorem dX8_init_101 : decode cX8_init 101 = .ok (.aload_n 0, 1) := by decide +kernel
theorem dX8_init_102 : decode cX8_init 102 = .ok (.sipush 400, 3) := by decide +kernel
theorem dX8_init_105 : decode cX8_init 105 = .ok (.newarray .int, 2) := by decide +kernel
theorem dX8_init_107 : decode cX8_init 107 = .ok (.putfield 51, 3) := by decide +kernel
theorem dX8_init_110 : decode cX8_init 110 = .ok (.aload_n 0, 1) := by decide +kernel
theorem dX8_init_111 : decode cX8_init 111 = .ok (.bipush 80, 2) := by decide +kernel
theorem dX8_init_113 : decode cX8_init 113 = .ok (.newarray .int, 2) := by decide +kernel
theorem dX8_init_115 : decode cX8_init 115 = .ok (.putfield 54, 3) := by decide +kernel
theorem dX8_init_118 : decode cX8_init 118 = .ok (.aload_n 0, 1) := by decide +kernel
theorem dX8_init_119 : decode cX8_init 119 = .ok (.bipush 80, 2) := by decide +kernel
theorem dX8_init_121 : decode cX8_init 121 = .ok (.newarray .int, 2) := by decide +kernel
theorem dX8_init_123 : decode cX8_init 123 = .ok (.putfield 57, 3) := by decide +kernel
theorem dX8_init_126 : decode cX8_init 126 = .ok (.aload_n 0, 1) := by decide +kernel
theorem dX8_init_127 : decode cX8_init 127 = .ok (.bipush 20, 2) := by decide +kernel
theorem dX8_init_129 : decode cX8_init 129 = .ok (.newarray .int, 2) := by decide +kernel
theorem dX8_init_131 : decode cX8_init 131 = .ok (.putfield 60, 3) := by decide +kernel
theorem dX8_init_134 : decode cX8_init 134 = .ok (.aload_n 0, 1) := by decide +kernel
theorem dX8_init_135 : decode cX8_init 135 = .ok (.bipush 100, 2) := by decide +kernel
theorem dX8_init_137 : decode cX8_init 137 = .ok (.newarray .int, 2) := by decide +kernel
theorem dX8_init_139 : decode cX8_init 139 = .ok (.putfield 63, 3) := by decide +kernel
theorem dX8_init_142 : decode cX8_init 142 = .ok (.aload_n 0, 1) := by decide +kernel
theorem dX8_init_143 : decode cX8_init 143 = .ok (.bipush 80, 2) := by decide +kernel
theorem dX8_init_145 : decode cX8_init 145 = .ok (.newarray .int, 2) := by decide +kernel
theorem dX8_init_147 : decode cX8_init 147 = .ok (.putfield 66, 3) := by decide +kernel
theorem dX8_init_150 : decode cX8_init 150 = .ok (.aload_n 0, 1) := by decide +kernel
theorem dX8_init_151 : decode cX8_init 151 = .ok (.bipush 80, 2) := by decide +kernel
theorem dX8_init_153 : decode cX8_init 153 = .ok (.newarray .int, 2) := by decide +kernel
theorem dX8_init_155 : decode cX8_init 155 = .ok (.putfield 69, 3) := by decide +kernel
theorem dX8_init_158 : decode cX8_init 158 = .ok (.aload_n 0, 1) := by decide +kernel
theorem dX8_init_159 : decode cX8_init 159 = .ok (.bipush 80, 2) := by decide +kernel
theorem dX8_init_161 : decode cX8_init 161 = .ok (.newarray .int, 2) := by decide +kernel
theorem dX8_init_163 : decode cX8_init 163 = .ok (.putfield 72, 3) := by decide +kernel
theorem dX8_init_166 : decode cX8_init 166 = .ok (.aload_n 0, 1) := by decide +kernel
theorem dX8_init_167 : decode cX8_init 167 = .ok (.bipush 80, 2) := by decide +kernel
theorem dX8_init_169 : decode cX8_init 169 = .ok (.newarray .int, 2) := by decide +kernel
theorem dX8_init_171 : decode cX8_init 171 = .ok (.putfield 75, 3) := by decide +kernel
theorem dX8_init_174 : decode cX8_init 174 = .ok (.iconst 0, 1) := by decide +kernel
theorem dX8_init_175 : decode cX8_init 175 = .ok (.istore_n 1, 1) := by decide +kernel
theorem dX8_init_176 : decode cX8_init 176 = .ok (.iload_n 1, 1) := by decide +kernel
theorem dX8_init_177 : decode cX8_init 177 = .ok (.bipush 10, 2) := by decide +kernel
theorem dX8_init_179 : decode cX8_init 179 = .ok (.if_icmp .ge 16, 3) := by decide +kernel
theorem dX8_init_182 : decode cX8_init 182 = .ok (.aload_n 0, 1) := by decide +kernel
theorem dX8_init_183 : decode cX8_init 183 = .ok (.getfield 13, 3) := by decide +kernel
theorem dX8_init_186 : decode cX8_init 186 = .ok (.iload_n 1, 1) := by decide +kernel
theorem dX8_init_187 : decode cX8_init 187 = .ok (.iconst (-1), 1) := by decide +kernel
theorem dX8_init_188 : decode cX8_init 188 = .ok (.iastore, 1) := by decide +kernel
theorem dX8_init_189 : decode cX8_init 189 = .ok (.iinc 1 1, 3) := by decide +kernel
theorem dX8_init_192 : decode cX8_init 192 = .ok (.goto (-16), 3) := by decide +kernel
theorem dX8_init_195 : decode cX8_init 195 = .ok (.iconst 0, 1) := by decide +kernel
theorem dX8_init_196 : decode cX8_init 196 = .ok (.istore_n 1, 1) := by decide +kernel
theorem dX8_init_197 : decode cX8_init 197 = .ok (.iload_n 1, 1) := by decide +kernel
theorem dX8_init_198 : decode cX8_init 198 = .ok (.bipush 80, 2) := by decide +kernel
theorem dX8_init_200 : decode cX8_init 200 = .ok (.if_icmp .ge 16, 3) := by decide +kernel
theorem dX8_init_203 : decode cX8_init 203 = .ok (.aload_n 0, 1) := by decide +kernel
theorem dX8_init_204 : decode cX8_init 204 = .ok (.getfield 24, 3) := by decide +kernel
theorem dX8_init_207 : decode cX8_init 207 = .ok (.iload_n 1, 1) := by decide +kernel
theorem dX8_init_208 : decode cX8_init 208 = .ok (.iconst (-1), 1) := by decide +kernel
theorem dX8_init_209 : decode cX8_init 209 = .ok (.iastore, 1) := by decide +kernel
theorem dX8_init_210 : decode cX8_init 210 = .ok (.iinc 1 1, 3) := by decide +kernel
theorem dX8_init_213 : decode cX8_init 213 = .ok (.goto (-16), 3) := by decide +kernel
theorem dX8_init_216 : decode cX8_init 216 = .ok (.iconst 0, 1) := by decide +kernel
theorem dX8_init_217 : decode cX8_init 217 = .ok (.istore_n 1, 1) := by decide +kernel
theorem dX8_init_218 : decode cX8_init 218 = .ok (.iload_n 1, 1) := by decide +kernel
theorem dX8_init_219 : decode cX8_init 219 = .ok (.sipush 400, 3) := by decide +kernel
theorem dX8_init_222 : decode cX8_init 222 = .ok (.if_icmp .ge 16, 3) := by decide +kernel
theorem dX8_init_225 : decode cX8_init 225 = .ok (.aload_n 0, 1) := by decide +kernel
theorem dX8_init_226 : decode cX8_init 226 = .ok (.getfield 51, 3) := by decide +kernel
theorem dX8_init_229 : decode cX8_init 229 = .ok (.iload_n 1, 1) := by decide +kernel
theorem dX8_init_230 : decode cX8_init 230 = .ok (.iconst (-1), 1) := by decide +kernel
theorem dX8_init_231 : decode cX8_init 231 = .ok (.iastore, 1) := by decide +kernel
theorem dX8_init_232 : decode cX8_init 232 = .ok (.iinc 1 1, 3) := by decide +kernel
theorem dX8_init_235 : decode cX8_init 235 = .ok (.goto (-17), 3) := by decide +kernel
theorem dX8_init_238 : decode cX8_init 238 = .ok (.iconst 0, 1) := by decide +kernel
theorem dX8_init_239 : decode cX8_init 239 = .ok (.istore_n 1, 1) := by decide +kernel
theorem dX8_init_240 : decode cX8_init 240 = .ok (.iload_n 1, 1) := by decide +kernel
theorem dX8_init_241 : decode cX8_init 241 = .ok (.bipush 20, 2) := by decide +kernel
theorem dX8_init_243 : decode cX8_init 243 = .ok (.if_icmp .ge 16, 3) := by decide +kernel
theorem dX8_init_246 : decode cX8_init 246 = .ok (.aload_n 0, 1) := by decide +kernel
theorem dX8_init_247 : decode cX8_init 247 = .ok (.getfield 60, 3) := by decide +kernel
theorem dX8_init_250 : decode cX8_init 250 = .ok (.iload_n 1, 1) := by decide +kernel
theorem dX8_init_251 : decode cX8_init 251 = .ok (.iconst (-1), 1) := by decide +kernel
theorem dX8_init_252 : decode cX8_init 252 = .ok (.iastore, 1) := by decide +kernel
theorem dX8_init_253 : decode cX8_init 253 = .ok (.iinc 1 1, 3) := by decide +kernel
theorem dX8_init_256 : decode cX8_init 256 = .ok (.goto (-16), 3) := by decide +kernel
theorem dX8_init_259 : decode cX8_init 259 = .ok (.return_, 1) := by decide +kernel
theorem dX8_isThere_0 : decode cX8_isThere 0 = .ok (.iload_n 1, 1) := by decide +kernel
theorem dX8_isThere_1 : decode cX8_isThere 1 = .ok (.ifCond .lt 22, 3) := by decide +kernel
theorem dX8_isThere_4 : decode cX8_isThere 4 = .ok (.iload_n 1, 1) := by decide +kernel
theorem dX8_isThere_5 : decode cX8_isThere 5 = .ok (.bipush 80, 2) := by decide +kernel
theorem dX8_isThere_7 : decode cX8_isThere 7 = .ok (.if_icmp .ge 16, 3) := by decide +kernel
theorem dX8_isThere_10 : decode cX8_isThere 10 = .ok (.aload_n 0, 1) := by decide +kernel
theorem dX8_isThere_11 : decode cX8_isThere 11 = .ok (.getfield 24, 3) := by decide +kernel
theorem dX8_isThere_14 : decode cX8_isThere 14 = .ok (.iload_n 1, 1) := by decide +kernel
theorem dX8_isThere_15 : decode cX8_isThere 15 = .ok (.iaload, 1) := by decide +kernel
theorem dX8_isThere_16 : decode cX8_isThere 16 = .ok (.ifCond .lt 7, 3) := by decide +kernel
theorem dX8_isThere_19 : decode cX8_isThere 19 = .ok (.iconst 1, 1) := by decide +kernel
theorem dX8_isThere_20 : decode cX8_isThere 20 = .ok (.goto 4, 3) := by decide +kernel
theorem dX8_isThere_23 : decode cX8_isThere 23 = .ok (.iconst 0, 1) := by decide +kernel
theorem dX8_isThere_24 : decode cX8_isThere 24 = .ok (.ireturn, 1) := by decide +kernel
set_option maxRecDepth 20000 in
theorem ggX8_isWhole_X8_isThere : GoodIn wsX8_isWhole wsX8_isThere := goodIn_r _ [6, 7, 8, 9, 10, 11, 12, 13, 14, 15, 16, 17, 18, 19, 20, 21, 22, 23, 24, 25, 26, 27, 28, 29, 30, 31, 32, 33, 34, 35, 36, 37, 38] (by decide +kernel) (by decide +kernel)
set_option maxRecDepth 20000 in
theorem gX8_isWhole_X8_isThere : GoodIn wsX8_isWhole (wsV RX8 78 RX8 yX8_isThere wsX8_isThere) := goodIn_app (goodIn_of _ (by decide +kernel)) ggX8_isWhole_X8_isThere
theorem dX8_isWhole_0 : decode cX8_isWhole 0 = .ok (.aload_n 0, 1) := by decide +kernel
theorem dX8_isWhole_1 : decode cX8_isWhole 1 = .ok (.iload_n 1, 1) := by decide +kernel
theorem dX8_isWhole_2 : decode cX8_isWhole 2 = .ok (.invokevirtual 78, 3) := by decide +kernel
theorem dX8_isWhole_5 : decode cX8_isWhole 5 = .ok (.ifCond .eq 16, 3) := by decide +kernel
theorem dX8_isWhole_8 : decode cX8_isWhole 8 = .ok (.aload_n 0, 1) := by decide +kernel
theorem dX8_isWhole_9 : decode cX8_isWhole 9 = .ok (.getfield 45, 3) := by decide +kernel
theorem dX8_isWhole_12 : decode cX8_isWhole 12 = .ok (.iload_n 1, 1) := by decide +kernel
theorem dX8_isWhole_13 : decode cX8_isWhole 13 = .ok (.baload, 1) := by decide +kernel
theorem dX8_isWhole_14 : decode cX8_isWhole 14 = .ok (.ifCond .ne 7, 3) := by decide +kernel
theorem dX8_isWhole_17 : decode cX8_isWhole 17 = .ok (.iconst 1, 1) := by decide +kernel
theorem dX8_isWhole_18 : decode cX8_isWhole 18 = .ok (.goto 4, 3) := by decide +kernel
theorem dX8_isWhole_21 : decode cX8_isWhole 21 = .ok (.iconst 0, 1) := by decide +kernel
theorem dX8_isWhole_22 : decode cX8_isWhole 22 = .ok (.ireturn, 1) := by decide +kernel
theorem dX8_turn_0 : decode cX8_turn 0 = .ok (.aload_n 0, 1) := by decide +kernel
theorem dX8_turn_1 : decode cX8_turn 1 = .ok (.getfield 30, 3) := by decide +kernel
theorem dX8_turn_4 : decode cX8_turn 4 = .ok (.iload_n 1, 1) := by decide +kernel
theorem dX8_turn_5 : decode cX8_turn 5 = .ok (.aload_n 0, 1) := by decide +kernel
theorem dX8_turn_6 : decode cX8_turn 6 = .ok (.getfield 30, 3) := by decide +kernel
theorem dX8_turn_9 : decode cX8_turn 9 = .ok (.iload_n 1, 1) := by decide +kernel
theorem dX8_turn_10 : decode cX8_turn 10 = .ok (.iaload, 1) := by decide +kernel
theorem dX8_turn_11 : decode cX8_turn 11 = .ok (.iconst 4, 1) := by decide +kernel
theorem dX8_turn_12 : decode cX8_turn 12 = .ok (.if_icmp .ne 7, 3) := by decide +kernel
theorem dX8_turn_15 : decode cX8_turn 15 = .ok (.iconst 4, 1) := by decide +kernel
theorem dX8_turn_16 : decode cX8_turn 16 = .ok (.goto 4, 3) := by decide +kernel
theorem dX8_turn_19 : decode cX8_turn 19 = .ok (.iload_n 2, 1) := by decide +kernel
theorem dX8_turn_20 : decode cX8_turn 20 = .ok (.iastore, 1) := by decide +kernel
theorem dX8_turn_21 : decode cX8_turn 21 = .ok (.return_, 1) := by decide +kernel
theorem dX8_fieldsOf_0 : decode cX8_fieldsOf 0 = .ok (.aload_n 0, 1) := by decide +kernel
theorem dX8_fieldsOf_1 : decode cX8_fieldsOf 1 = .ok (.getfield 13, 3) := by decide +kernel
theorem dX8_fieldsOf_4 : decode cX8_fieldsOf 4 = .ok (.aload_n 0, 1) := by decide +kernel
theorem dX8_fieldsOf_5 : decode cX8_fieldsOf 5 = .ok (.getfield 24, 3) := by decide +kernel
theorem dX8_fieldsOf_8 : decode cX8_fieldsOf 8 = .ok (.iload_n 1, 1) := by decide +kernel
theorem dX8_fieldsOf_9 : decode cX8_fieldsOf 9 = .ok (.iaload, 1) := by decide +kernel
theorem dX8_fieldsOf_10 : decode cX8_fieldsOf 10 = .ok (.iaload, 1) := by decide +kernel
theorem dX8_fieldsOf_11 : decode cX8_fieldsOf 11 = .ok (.ireturn, 1) := by decide +kernel
theorem dX8_type_0 : decode cX8_type 0 = .ok (.aload_n 0, 1) := by decide +kernel
theorem dX8_type_1 : decode cX8_type 1 = .ok (.iload_n 1, 1) := by decide +kernel
theorem dX8_type_2 : decode cX8_type 2 = .ok (.ifCond .lt 9, 3) := by decide +kernel
theorem dX8_type_5 : decode cX8_type 5 = .ok (.iload_n 1, 1) := by decide +kernel
theorem dX8_type_6 : decode cX8_type 6 = .ok (.bipush 10, 2) := by decide +kernel
theorem dX8_type_8 : decode cX8_type 8 = .ok (.if_icmp .lt 7, 3) := by decide +kernel
theorem dX8_type_11 : decode cX8_type 11 = .ok (.iconst 1, 1) := by decide +kernel
theorem dX8_type_12 : decode cX8_type 12 = .ok (.goto 28, 3) := by decide +kernel
theorem dX8_type_15 : decode cX8_type 15 = .ok (.iload_n 2, 1) := by decide +kernel
theorem dX8_type_16 : decode cX8_type 16 = .ok (.ifCond .lt 19, 3) := by decide +kernel
theorem dX8_type_19 : decode cX8_type 19 = .ok (.iload_n 2, 1) := by decide +kernel
theorem dX8_type_20 : decode cX8_type 20 = .ok (.bipush 6, 2) := by decide +kernel
theorem dX8_type_22 : decode cX8_type 22 = .ok (.if_icmp .gt 13, 3) := by decide +kernel
theorem dX8_type_25 : decode cX8_type 25 = .ok (.iload_n 3, 1) := by decide +kernel
theorem dX8_type_26 : decode cX8_type 26 = .ok (.ifCond .lt 9, 3) := by decide +kernel
theorem dX8_type_29 : decode cX8_type 29 = .ok (.iload_n 3, 1) := by decide +kernel
theorem dX8_type_30 : decode cX8_type 30 = .ok (.bipush 60, 2) := by decide +kernel
theorem dX8_type_32 : decode cX8_type 32 = .ok (.if_icmp .le 7, 3) := by decide +kernel
theorem dX8_type_35 : decode cX8_type 35 = .ok (.iconst 2, 1) := by decide +kernel
theorem dX8_type_36 : decode cX8_type 36 = .ok (.goto 4, 3) := by decide +kernel
theorem dX8_type_39 : decode cX8_type 39 = .ok (.iconst 0, 1) := by decide +kernel
theorem dX8_type_40 : decode cX8_type 40 = .ok (.putfield 1, 3) := by decide +kernel
theorem dX8_type_43 : decode cX8_type 43 = .ok (.aload_n 0, 1) := by decide +kernel
theorem dX8_type_44 : decode cX8_type 44 = .ok (.getfield 1, 3) := by decide +kernel
theorem dX8_type_47 : decode cX8_type 47 = .ok (.ifCond .gt 12, 3) := by decide +kernel
theorem dX8_type_50 : decode cX8_type 50 = .ok (.aload_n 0, 1) := by decide +kernel
theorem dX8_type_51 : decode cX8_type 51 = .ok (.getfield 13, 3) := by decide +kernel
theorem dX8_type_54 : decode cX8_type 54 = .ok (.iload_n 1, 1) := by decide +kernel
theorem dX8_type_55 : decode cX8_type 55 = .ok (.iaload, 1) := by decide +kernel
theorem dX8_type_56 : decode cX8_type 56 = .ok (.ifCond .lt 5, 3) := by decide +kernel
theorem dX8_type_59 : decode cX8_type 59 = .ok (.iconst 0, 1) := by decide +kernel
theorem dX8_type_60 : decode cX8_type 60 = .ok (.ireturn, 1) := by decide +kernel
theorem dX8_type_61 : decode cX8_type 61 = .ok (.aload_n 0, 1) := by decide +kernel
theorem dX8_type_62 : decode cX8_type 62 = .ok (.getfield 13, 3) := by decide +kernel
theorem dX8_type_65 : decode cX8_type 65 = .ok (.iload_n 1, 1) := by decide +kernel
theorem dX8_type_66 : decode cX8_type 66 = .ok (.iload_n 2, 1) := by decide +kernel
theorem dX8_type_67 : decode cX8_type 67 = .ok (.iastore, 1) := by decide +kernel
theorem dX8_type_68 : decode cX8_type 68 = .ok (.aload_n 0, 1) := by decide +kernel
theorem dX8_type_69 : decode cX8_type 69 = .ok (.getfield 17, 3) := by decide +kernel
theorem dX8_type_72 : decode cX8_type 72 = .ok (.iload_n 1, 1) := by decide +kernel
theorem dX8_type_73 : decode cX8_type 73 = .ok (.iconst 2, 1) := by decide +kernel
theorem dX8_type_74 : decode cX8_type 74 = .ok (.iload_n 2, 1) := by decide +kernel
theorem dX8_type_75 : decode cX8_type 75 = .ok (.iadd, 1) := by decide +kernel
theorem dX8_type_76 : decode cX8_type 76 = .ok (.iload_n 3, 1) := by decide +kernel
theorem dX8_type_77 : decode cX8_type 77 = .ok (.iadd, 1) := by decide +kernel
theorem dX8_type_78 : decode cX8_type 78 = .ok (.iastore, 1) := by decide +kernel
theorem dX8_type_79 : decode cX8_type 79 = .ok (.aload_n 0, 1) := by decide +kernel
theorem dX8_type_80 : decode cX8_type 80 = .ok (.getfield 20, 3) := by decide +kernel
theorem dX8_type_83 : decode cX8_type 83 = .ok (.iload_n 1, 1) := by decide +kernel
theorem dX8_type_84 : decode cX8_type 84 = .ok (.iload 4, 2) := by decide +kernel
theorem dX8_type_86 : decode cX8_type 86 = .ok (.bastore, 1) := by decide +kernel
theorem dX8_type_87 : decode cX8_type 87 = .ok (.iconst 1, 1) := by decide +kernel
theorem dX8_type_88 : decode cX8_type 88 = .ok (.ireturn, 1) := by decide +kernel
theorem dX8_free_0 : decode cX8_free 0 = .ok (.iconst 0, 1) := by decide +kernel
theorem dX8_free_1 : decode cX8_free 1 = .ok (.istore_n 2, 1) := by decide +kernel
theorem dX8_free_2 : decode cX8_free 2 = .ok (.iload_n 2, 1) := by decide +kernel
theorem dX8_free_3 : decode cX8_free 3 = .ok (.sipush 400, 3) := by decide +kernel
theorem dX8_free_6 : decode cX8_free 6 = .ok (.if_icmp .ge 35, 3) := by decide +kernel
theorem dX8_free_9 : decode cX8_free 9 = .ok (.aload_n 0, 1) := by decide +kernel
theorem dX8_free_10 : decode cX8_free 10 = .ok (.getfield 51, 3) := by decide +kernel
theorem dX8_free_13 : decode cX8_free 13 = .ok (.iload_n 2, 1) := by decide +kernel
theorem dX8_free_14 : decode cX8_free 14 = .ok (.aload_n 0, 1) := by decide +kernel
theorem dX8_free_15 : decode cX8_free 15 = .ok (.getfield 51, 3) := by decide +kernel
theorem dX8_free_18 : decode cX8_free 18 = .ok (.iload_n 2, 1) := by decide +kernel
theorem dX8_free_19 : decode cX8_free 19 = .ok (.iaload, 1) := by decide +kernel
theorem dX8_free_20 : decode cX8_free 20 = .ok (.iload_n 1, 1) := by decide +kernel
theorem dX8_free_21 : decode cX8_free 21 = .ok (.if_icmp .ne 7, 3) := by decide +kernel
theorem dX8_free_24 : decode cX8_free 24 = .ok (.iconst (-1), 1) := by decide +kernel
theorem dX8_free_25 : decode cX8_free 25 = .ok (.goto 9, 3) := by decide +kernel
theorem dX8_free_28 : decode cX8_free 28 = .ok (.aload_n 0, 1) := by decide +kernel
theorem dX8_free_29 : decode cX8_free 29 = .ok (.getfield 51, 3) := by decide +kernel
theorem dX8_free_32 : decode cX8_free 32 = .ok (.iload_n 2, 1) := by decide +kernel
theorem dX8_free_33 : decode cX8_free 33 = .ok (.iaload, 1) := by decide +kernel
theorem dX8_free_34 : decode cX8_free 34 = .ok (.iastore, 1) := by decide +kernel
theorem dX8_free_35 : decode cX8_free 35 = .ok (.iinc 2 1, 3) := by decide +kernel
theorem dX8_free_38 : decode cX8_free 38 = .ok (.goto (-36), 3) := by decide +kernel
theorem dX8_free_41 : decode cX8_free 41 = .ok (.iconst 0, 1) := by decide +kernel
theorem dX8_free_42 : decode cX8_free 42 = .ok (.istore_n 2, 1) := by decide +kernel
theorem dX8_free_43 : decode cX8_free 43 = .ok (.iload_n 2, 1) := by decide +kernel
theorem dX8_free_44 : decode cX8_free 44 = .ok (.bipush 20, 2) := by decide +kernel
theorem dX8_free_46 : decode cX8_free 46 = .ok (.if_icmp .ge 35, 3) := by decide +kernel
theorem dX8_free_49 : decode cX8_free 49 = .ok (.aload_n 0, 1) := by decide +kernel
theorem dX8_free_50 : decode cX8_free 50 = .ok (.getfield 60, 3) := by decide +kernel
theorem dX8_free_53 : decode cX8_free 53 = .ok (.iload_n 2, 1) := by decide +kernel
theorem dX8_free_54 : decode cX8_free 54 = .ok (.aload_n 0, 1) := by decide +kernel
theorem dX8_free_55 : decode cX8_free 55 = .ok (.getfield 60, 3) := by decide +kernel
theorem dX8_free_58 : decode cX8_free 58 = .ok (.iload_n 2, 1) := by decide +kernel
theorem dX8_free_59 : decode cX8_free 59 = .ok (.iaload, 1) := by decide +kernel
theorem dX8_free_60 : decode cX8_free 60 = .ok (.iload_n 1, 1) := by decide +kernel
theorem dX8_free_61 : decode cX8_free 61 = .ok (.if_icmp .ne 7, 3) := by decide +kernel
theorem dX8_free_64 : decode cX8_free 64 = .ok (.iconst (-1), 1) := by decide +kernel
theorem dX8_free_65 : decode cX8_free 65 = .ok (.goto 9, 3) := by decide +kernel
theorem dX8_free_68 : decode cX8_free 68 = .ok (.aload_n 0, 1) := by decide +kernel
theorem dX8_free_69 : decode cX8_free 69 = .ok (.getfield 60, 3) := by decide +kernel
theorem dX8_free_72 : decode cX8_free 72 = .ok (.iload_n 2, 1) := by decide +kernel
theorem dX8_free_73 : decode cX8_free 73 = .ok (.iaload, 1) := by decide +kernel
theorem dX8_free_74 : decode cX8_free 74 = .ok (.iastore, 1) := by decide +kernel
theorem dX8_free_75 : decode cX8_free 75 = .ok (.iinc 2 1, 3) := by decide +kernel
theorem dX8_free_78 : decode cX8_free 78 = .ok (.goto (-35), 3) := by decide +kernel
theorem dX8_free_81 : decode cX8_free 81 = .ok (.aload_n 0, 1) := by decide +kernel
theorem dX8_free_82 : decode cX8_free 82 = .ok (.getfield 24, 3) := by decide +kernel
theorem dX8_free_85 : decode cX8_free 85 = .ok (.iload_n 1, 1) := by decide +kernel
theorem dX8_free_86 : decode cX8_free 86 = .ok (.iconst (-1), 1) := by decide +kernel
theorem dX8_free_87 : decode cX8_free 87 = .ok (.iastore, 1) := by decide +kernel
theorem dX8_free_88 : decode cX8_free 88 = .ok (.aload_n 0, 1) := by decide +kernel
theorem dX8_free_89 : decode cX8_free 89 = .ok (.getfield 45, 3) := by decide +kernel
theorem dX8_free_92 : decode cX8_free 92 = .ok (.iload_n 1, 1) := by decide +kernel
theorem dX8_free_93 : decode cX8_free 93 = .ok (.iconst 0, 1) := by decide +kernel
theorem dX8_free_94 : decode cX8_free 94 = .ok (.bastore, 1) := by decide +kernel
theorem dX8_free_95 : decode cX8_free 95 = .ok (.aload_n 0, 1) := by decide +kernel
theorem dX8_free_96 : decode cX8_free 96 = .ok (.getfield 63, 3) := by decide +kernel
theorem dX8_free_99 : decode cX8_free 99 = .ok (.aload_n 0, 1) := by decide +kernel
theorem dX8_free_100 : decode cX8_free 100 = .ok (.getfield 82, 3) := by decide +kernel
theorem dX8_free_103 : decode cX8_free 103 = .ok (.bipush 100, 2) := by decide +kernel
theorem dX8_free_105 : decode cX8_free 105 = .ok (.irem, 1) := by decide +kernel
theorem dX8_free_106 : decode cX8_free 106 = .ok (.iload_n 1, 1) := by decide +kernel
theorem dX8_free_107 : decode cX8_free 107 = .ok (.iastore, 1) := by decide +kernel
theorem dX8_free_108 : decode cX8_free 108 = .ok (.aload_n 0, 1) := by decide +kernel
theorem dX8_free_109 : decode cX8_free 109 = .ok (.dup, 1) := by decide +kernel
theorem dX8_free_110 : decode cX8_free 110 = .ok (.getfield 82, 3) := by decide +kernel
theorem dX8_free_113 : decode cX8_free 113 = .ok (.iconst 1, 1) := by decide +kernel
theorem dX8_free_114 : decode cX8_free 114 = .ok (.iadd, 1) := by decide +kernel
theorem dX8_free_115 : decode cX8_free 115 = .ok (.putfield 82, 3) := by decide +kernel
theorem dX8_free_118 : decode cX8_free 118 = .ok (.return_, 1) := by decide +kernel
theorem dX8_hasWish_0 : decode cX8_hasWish 0 = .ok (.aload_n 0, 1) := by decide +kernel
theorem dX8_hasWish_1 : decode cX8_hasWish 1 = .ok (.getfield 20, 3) := by decide +kernel
theorem dX8_hasWish_4 : decode cX8_hasWish 4 = .ok (.aload_n 0, 1) := by decide +kernel
theorem dX8_hasWish_5 : decode cX8_hasWish 5 = .ok (.getfield 24, 3) := by decide +kernel
theorem dX8_hasWish_8 : decode cX8_hasWish 8 = .ok (.iload_n 1, 1) := by decide +kernel
theorem dX8_hasWish_9 : decode cX8_hasWish 9 = .ok (.iaload, 1) := by decide +kernel
theorem dX8_hasWish_10 : decode cX8_hasWish 10 = .ok (.baload, 1) := by decide +kernel
theorem dX8_hasWish_11 : decode cX8_hasWish 11 = .ok (.ifCond .eq 16, 3) := by decide +kernel
theorem dX8_hasWish_14 : decode cX8_hasWish 14 = .ok (.aload_n 0, 1) := by decide +kernel
theorem dX8_hasWish_15 : decode cX8_hasWish 15 = .ok (.getfield 42, 3) := by decide +kernel
theorem dX8_hasWish_18 : decode cX8_hasWish 18 = .ok (.iload_n 1, 1) := by decide +kernel
theorem dX8_hasWish_19 : decode cX8_hasWish 19 = .ok (.baload, 1) := by decide +kernel
theorem dX8_hasWish_20 : decode cX8_hasWish 20 = .ok (.ifCond .ne 7, 3) := by decide +kernel
theorem dX8_hasWish_23 : decode cX8_hasWish 23 = .ok (.iconst 1, 1) := by decide +kernel
theorem dX8_hasWish_24 : decode cX8_hasWish 24 = .ok (.goto 4, 3) := by decide +kernel
theorem dX8_hasWish_27 : decode cX8_hasWish 27 = .ok (.iconst 0, 1) := by decide +kernel
theorem dX8_hasWish_28 : decode cX8_hasWish 28 = .ok (.ireturn, 1) := by decide +kernel
theorem dX8_comesToWishes_0 : decode cX8_comesToWishes 0 = .ok (.aload_n 0, 1) := by decide +kernel
theorem dX8_comesToWishes_1 : decode cX8_comesToWishes 1 = .ok (.getfield 42, 3) := by decide +kernel
theorem dX8_comesToWishes_4 : decode cX8_comesToWishes 4 = .ok (.iload_n 1, 1) := by decide +kernel
theorem dX8_comesToWishes_5 : decode cX8_comesToWishes 5 = .ok (.iconst 1, 1) := by decide +kernel
theorem dX8_comesToWishes_6 : decode cX8_comesToWishes 6 = .ok (.bastore, 1) := by decide +kernel
theorem dX8_comesToWishes_7 : decode cX8_comesToWishes 7 = .ok (.aload_n 0, 1) := by decide +kernel
theorem dX8_comesToWishes_8 : decode cX8_comesToWishes 8 = .ok (.getfield 57, 3) := by decide +kernel
theorem dX8_comesToWishes_11 : decode cX8_comesToWishes 11 = .ok (.aload_n 0, 1) := by decide +kernel
theorem dX8_comesToWishes_12 : decode cX8_comesToWishes 12 = .ok (.getfield 85, 3) := by decide +kernel
theorem dX8_comesToWishes_15 : decode cX8_comesToWishes 15 = .ok (.iload_n 1, 1) := by decide +kernel
theorem dX8_comesToWishes_16 : decode cX8_comesToWishes 16 = .ok (.iastore, 1) := by decide +kernel
theorem dX8_comesToWishes_17 : decode cX8_comesToWishes 17 = .ok (.aload_n 0, 1) := by decide +kernel
theorem dX8_comesToWishes_18 : decode cX8_comesToWishes 18 = .ok (.dup, 1) := by decide +kernel
theorem dX8_comesToWishes_19 : decode cX8_comesToWishes 19 = .ok (.getfield 85, 3) := by decide +kernel
theorem dX8_comesToWishes_22 : decode cX8_comesToWishes 22 = .ok (.iconst 1, 1) := by decide +kernel
theorem dX8_comesToWishes_23 : decode cX8_comesToWishes 23 = .ok (.iadd, 1) := by decide +kernel
theorem dX8_comesToWishes_24 : decode cX8_comesToWishes 24 = .ok (.putfield 85, 3) := by decide +kernel
theorem dX8_comesToWishes_27 : decode cX8_comesToWishes 27 = .ok (.return_, 1) := by decide +kernel
set_option maxRecDepth 20000 in
theorem ggX8_isLetGo_X8_hasWish : GoodIn wsX8_isLetGo wsX8_hasWish := goodIn_r _ [10, 11, 12, 13, 24, 25, 26, 27, 28, 29, 30, 31, 32, 33, 34, 35, 36, 37, 38, 39, 40, 41, 42, 43, 44, 45, 46, 47, 48, 49, 50, 51, 52, 53, 54] (by decide +kernel) (by decide +kernel)
set_option maxRecDepth 20000 in
theorem gX8_isLetGo_X8_hasWish : GoodIn wsX8_isLetGo (wsV RX8 91 RX8 yX8_hasWish wsX8_hasWish) := goodIn_app (goodIn_of _ (by decide +kernel)) ggX8_isLetGo_X8_hasWish
set_option maxRecDepth 20000 in
theorem ggX8_isLetGo_X8_comesToWishes : GoodIn wsX8_isLetGo wsX8_comesToWishes := goodIn_r _ [17, 13, 18, 19, 24, 25, 26, 27, 28, 29, 30, 31, 32, 33, 34, 35, 36, 37, 38, 39, 40, 41, 42, 43, 44, 45, 46, 47, 48, 49, 50, 51, 52, 53, 54] (by decide +kernel) (by decide +kernel)
set_option maxRecDepth 20000 in
theorem gX8_isLetGo_X8_comesToWishes : GoodIn wsX8_isLetGo (wsV RX8 94 RX8 yX8_comesToWishes wsX8_comesToWishes) := goodIn_app (goodIn_of _ (by decide +kernel)) ggX8_isLetGo_X8_comesToWishes
set_option maxRecDepth 20000 in
theorem ggX8_isLetGo_X8_turn : GoodIn wsX8_isLetGo wsX8_turn := goodIn_r _ [23, 2, 24, 25, 26, 27, 28, 29, 30, 31, 32, 33, 34, 35, 36, 37, 38, 39, 40, 41, 42, 43, 44, 45, 46, 47, 48, 49, 50, 51, 52, 53, 54] (by decide +kernel) (by decide +kernel)
set_option maxRecDepth 20000 in
theorem gX8_isLetGo_X8_turn : GoodIn wsX8_isLetGo (wsV RX8 98 RX8 yX8_turn wsX8_turn) := goodIn_app (goodIn_of _ (by decide +kernel)) ggX8_isLetGo_X8_turn
theorem dX8_isLetGo_0 : decode cX8_isLetGo 0 = .ok (.aload_n 0, 1) := by decide +kernel
theorem dX8_isLetGo_1 : decode cX8_isLetGo 1 = .ok (.getfield 27, 3) := by decide +kernel
theorem dX8_isLetGo_4 : decode cX8_isLetGo 4 = .ok (.iload_n 1, 1) := by decide +kernel
theorem dX8_isLetGo_5 : decode cX8_isLetGo 5 = .ok (.dup2, 1) := by decide +kernel
theorem dX8_isLetGo_6 : decode cX8_isLetGo 6 = .ok (.iaload, 1) := by decide +kernel
theorem dX8_isLetGo_7 : decode cX8_isLetGo 7 = .ok (.iconst 1, 1) := by decide +kernel
theorem dX8_isLetGo_8 : decode cX8_isLetGo 8 = .ok (.isub, 1) := by decide +kernel
theorem dX8_isLetGo_9 : decode cX8_isLetGo 9 = .ok (.iastore, 1) := by decide +kernel
theorem dX8_isLetGo_10 : decode cX8_isLetGo 10 = .ok (.aload_n 0, 1) := by decide +kernel
theorem dX8_isLetGo_11 : decode cX8_isLetGo 11 = .ok (.getfield 27, 3) := by decide +kernel
theorem dX8_isLetGo_14 : decode cX8_isLetGo 14 = .ok (.iload_n 1, 1) := by decide +kernel
theorem dX8_isLetGo_15 : decode cX8_isLetGo 15 = .ok (.iaload, 1) := by decide +kernel
theorem dX8_isLetGo_16 : decode cX8_isLetGo 16 = .ok (.ifCond .le 68, 3) := by decide +kernel
theorem dX8_isLetGo_19 : decode cX8_isLetGo 19 = .ok (.aload_n 0, 1) := by decide +kernel
theorem dX8_isLetGo_20 : decode cX8_isLetGo 20 = .ok (.getfield 30, 3) := by decide +kernel
theorem dX8_isLetGo_23 : decode cX8_isLetGo 23 = .ok (.iload_n 1, 1) := by decide +kernel
theorem dX8_isLetGo_24 : decode cX8_isLetGo 24 = .ok (.iaload, 1) := by decide +kernel
theorem dX8_isLetGo_25 : decode cX8_isLetGo 25 = .ok (.iconst 4, 1) := by decide +kernel
theorem dX8_isLetGo_26 : decode cX8_isLetGo 26 = .ok (.if_icmp .eq 56, 3) := by decide +kernel
theorem dX8_isLetGo_29 : decode cX8_isLetGo 29 = .ok (.aload_n 0, 1) := by decide +kernel
theorem dX8_isLetGo_30 : decode cX8_isLetGo 30 = .ok (.getfield 30, 3) := by decide +kernel
theorem dX8_isLetGo_33 : decode cX8_isLetGo 33 = .ok (.iload_n 1, 1) := by decide +kernel
theorem dX8_isLetGo_34 : decode cX8_isLetGo 34 = .ok (.iaload, 1) := by decide +kernel
theorem dX8_isLetGo_35 : decode cX8_isLetGo 35 = .ok (.iconst 3, 1) := by decide +kernel
theorem dX8_isLetGo_36 : decode cX8_isLetGo 36 = .ok (.if_icmp .eq 46, 3) := by decide +kernel
theorem dX8_isLetGo_39 : decode cX8_isLetGo 39 = .ok (.aload_n 0, 1) := by decide +kernel
theorem dX8_isLetGo_40 : decode cX8_isLetGo 40 = .ok (.getfield 30, 3) := by decide +kernel
theorem dX8_isLetGo_43 : decode cX8_isLetGo 43 = .ok (.iload_n 1, 1) := by decide +kernel
theorem dX8_isLetGo_44 : decode cX8_isLetGo 44 = .ok (.iconst 3, 1) := by decide +kernel
theorem dX8_isLetGo_45 : decode cX8_isLetGo 45 = .ok (.iastore, 1) := by decide +kernel
theorem dX8_isLetGo_46 : decode cX8_isLetGo 46 = .ok (.aload_n 0, 1) := by decide +kernel
theorem dX8_isLetGo_47 : decode cX8_isLetGo 47 = .ok (.getfield 39, 3) := by decide +kernel
theorem dX8_isLetGo_50 : decode cX8_isLetGo 50 = .ok (.iload_n 1, 1) := by decide +kernel
theorem dX8_isLetGo_51 : decode cX8_isLetGo 51 = .ok (.baload, 1) := by decide +kernel
theorem dX8_isLetGo_52 : decode cX8_isLetGo 52 = .ok (.ifCond .ne 30, 3) := by decide +kernel
theorem dX8_isLetGo_55 : decode cX8_isLetGo 55 = .ok (.aload_n 0, 1) := by decide +kernel
theorem dX8_isLetGo_56 : decode cX8_isLetGo 56 = .ok (.getfield 39, 3) := by decide +kernel
theorem dX8_isLetGo_59 : decode cX8_isLetGo 59 = .ok (.iload_n 1, 1) := by decide +kernel
theorem dX8_isLetGo_60 : decode cX8_isLetGo 60 = .ok (.iconst 1, 1) := by decide +kernel
theorem dX8_isLetGo_61 : decode cX8_isLetGo 61 = .ok (.bastore, 1) := by decide +kernel
theorem dX8_isLetGo_62 : decode cX8_isLetGo 62 = .ok (.aload_n 0, 1) := by decide +kernel
theorem dX8_isLetGo_63 : decode cX8_isLetGo 63 = .ok (.getfield 54, 3) := by decide +kernel
theorem dX8_isLetGo_66 : decode cX8_isLetGo 66 = .ok (.aload_n 0, 1) := by decide +kernel
theorem dX8_isLetGo_67 : decode cX8_isLetGo 67 = .ok (.getfield 88, 3) := by decide +kernel
theorem dX8_isLetGo_70 : decode cX8_isLetGo 70 = .ok (.iload_n 1, 1) := by decide +kernel
theorem dX8_isLetGo_71 : decode cX8_isLetGo 71 = .ok (.iastore, 1) := by decide +kernel
theorem dX8_isLetGo_72 : decode cX8_isLetGo 72 = .ok (.aload_n 0, 1) := by decide +kernel
theorem dX8_isLetGo_73 : decode cX8_isLetGo 73 = .ok (.dup, 1) := by decide +kernel
theorem dX8_isLetGo_74 : decode cX8_isLetGo 74 = .ok (.getfield 88, 3) := by decide +kernel
theorem dX8_isLetGo_77 : decode cX8_isLetGo 77 = .ok (.iconst 1, 1) := by decide +kernel
theorem dX8_isLetGo_78 : decode cX8_isLetGo 78 = .ok (.iadd, 1) := by decide +kernel
theorem dX8_isLetGo_79 : decode cX8_isLetGo 79 = .ok (.putfield 88, 3) := by decide +kernel
theorem dX8_isLetGo_82 : decode cX8_isLetGo 82 = .ok (.iconst 0, 1) := by decide +kernel
theorem dX8_isLetGo_83 : decode cX8_isLetGo 83 = .ok (.ireturn, 1) := by decide +kernel
theorem dX8_isLetGo_84 : decode cX8_isLetGo 84 = .ok (.aload_n 0, 1) := by decide +kernel
theorem dX8_isLetGo_85 : decode cX8_isLetGo 85 = .ok (.iload_n 1, 1) := by decide +kernel
theorem dX8_isLetGo_86 : decode cX8_isLetGo 86 = .ok (.invokevirtual 91, 3) := by decide +kernel
theorem dX8_isLetGo_89 : decode cX8_isLetGo 89 = .ok (.ifCond .ne 5, 3) := by decide +kernel
theorem dX8_isLetGo_92 : decode cX8_isLetGo 92 = .ok (.iconst 1, 1) := by decide +kernel
theorem dX8_isLetGo_93 : decode cX8_isLetGo 93 = .ok (.ireturn, 1) := by decide +kernel
theorem dX8_isLetGo_94 : decode cX8_isLetGo 94 = .ok (.aload_n 0, 1) := by decide +kernel
theorem dX8_isLetGo_95 : decode cX8_isLetGo 95 = .ok (.iload_n 1, 1) := by decide +kernel
theorem dX8_isLetGo_96 : decode cX8_isLetGo 96 = .ok (.invokevirtual 94, 3) := by decide +kernel
theorem dX8_isLetGo_99 : decode cX8_isLetGo 99 = .ok (.aload_n 0, 1) := by decide +kernel
theorem dX8_isLetGo_100 : decode cX8_isLetGo 100 = .ok (.getfield 27, 3) := by decide +kernel
theorem dX8_isLetGo_103 : decode cX8_isLetGo 103 = .ok (.iload_n 1, 1) := by decide +kernel
theorem dX8_isLetGo_104 : decode cX8_isLetGo 104 = .ok (.iconst 1, 1) := by decide +kernel
theorem dX8_isLetGo_105 : decode cX8_isLetGo 105 = .ok (.iastore, 1) := by decide +kernel
theorem dX8_isLetGo_106 : decode cX8_isLetGo 106 = .ok (.aload_n 0, 1) := by decide +kernel
theorem dX8_isLetGo_107 : decode cX8_isLetGo 107 = .ok (.iload_n 1, 1) := by decide +kernel
theorem dX8_isLetGo_108 : decode cX8_isLetGo 108 = .ok (.iconst 0, 1) := by decide +kernel
theorem dX8_isLetGo_109 : decode cX8_isLetGo 109 = .ok (.invokevirtual 98, 3) := by decide +kernel
theorem dX8_isLetGo_112 : decode cX8_isLetGo 112 = .ok (.iconst 0, 1) := by decide +kernel
theorem dX8_isLetGo_113 : decode cX8_isLetGo 113 = .ok (.ireturn, 1) := by decide +kernel
set_option maxRecDepth 20000 in
theorem ggX8_less_X8_isLetGo : GoodIn wsX8_less wsX8_isLetGo := goodIn_r _ [11, 12, 13, 5, 14, 15, 16, 17, 18, 10, 19, 20, 21, 22, 23, 24, 25, 26, 27, 28, 29, 30, 31, 32, 46, 47, 48, 49, 50, 51, 52, 53, 54, 55, 56, 57, 58, 59, 60, 61, 62, 63, 64, 65, 66, 67, 68, 69, 70, 71, 72, 73, 74, 75, 76] (by decide +kernel) (by decide +kernel)
set_option maxRecDepth 20000 in
theorem gX8_less_X8_isLetGo : GoodIn wsX8_less (wsV RX8 102 RX8 yX8_isLetGo wsX8_isLetGo) := goodIn_app (goodIn_of _ (by decide +kernel)) ggX8_less_X8_isLetGo
set_option maxRecDepth 20000 in
theorem ggX8_less_X8_fieldsOf : GoodIn wsX8_less wsX8_fieldsOf := goodIn_r _ [36, 37, 21, 46, 47, 48, 49, 50, 51, 52, 53, 54, 55, 56, 57, 58, 59, 60, 61, 62, 63, 64, 65, 66, 67, 68, 69, 70, 71, 72, 73, 74, 75, 76] (by decide +kernel) (by decide +kernel)
set_option maxRecDepth 20000 in
theorem gX8_less_X8_fieldsOf : GoodIn wsX8_less (wsV RX8 108 RX8 yX8_fieldsOf wsX8_fieldsOf) := goodIn_app (goodIn_of _ (by decide +kernel)) ggX8_less_X8_fieldsOf
set_option maxRecDepth 20000 in
theorem ggX8_less_X8_turn : GoodIn wsX8_less wsX8_turn := goodIn_r _ [32, 13, 46, 47, 48, 49, 50, 51, 52, 53, 54, 55, 56, 57, 58, 59, 60, 61, 62, 63, 64, 65, 66, 67, 68, 69, 70, 71, 72, 73, 74, 75, 76] (by decide +kernel) (by decide +kernel)
set_option maxRecDepth 20000 in
theorem gX8_less_X8_turn : GoodIn wsX8_less (wsV RX8 98 RX8 yX8_turn wsX8_turn) := goodIn_app (goodIn_of _ (by decide +kernel)) ggX8_less_X8_turn
set_option maxRecDepth 20000 in
theorem ggX8_less_X8_free : GoodIn wsX8_less wsX8_free := goodIn_r _ [41, 42, 43, 21, 6, 44, 45, 46, 47, 48, 49, 50, 51, 52, 53, 54, 55, 56, 57, 58, 59, 60, 61, 62, 63, 64, 65, 66, 67, 68, 69, 70, 71, 72, 73, 74, 75, 76] (by decide +kernel) (by decide +kernel)
set_option maxRecDepth 20000 in
theorem gX8_less_X8_free : GoodIn wsX8_less (wsV RX8 112 RX8 yX8_free wsX8_free) := goodIn_app (goodIn_of _ (by decide +kernel)) ggX8_less_X8_free
theorem dX8_less_0 : decode cX8_less 0 = .ok (.aload_n 0, 1) := by decide +kernel
theorem dX8_less_1 : decode cX8_less 1 = .ok (.iload_n 1, 1) := by decide +kernel
theorem dX8_less_2 : decode cX8_less 2 = .ok (.invokevirtual 102, 3) := by decide +kernel
theorem dX8_less_5 : decode cX8_less 5 = .ok (.ifCond .ne 4, 3) := by decide +kernel
theorem dX8_less_8 : decode cX8_less 8 = .ok (.return_, 1) := by decide +kernel
theorem dX8_less_9 : decode cX8_less 9 = .ok (.aload_n 0, 1) := by decide +kernel
theorem dX8_less_10 : decode cX8_less 10 = .ok (.iconst 1, 1) := by decide +kernel
theorem dX8_less_11 : decode cX8_less 11 = .ok (.putfield 105, 3) := by decide +kernel
theorem dX8_less_14 : decode cX8_less 14 = .ok (.aload_n 0, 1) := by decide +kernel
theorem dX8_less_15 : decode cX8_less 15 = .ok (.getfield 66, 3) := by decide +kernel
theorem dX8_less_18 : decode cX8_less 18 = .ok (.iconst 0, 1) := by decide +kernel
theorem dX8_less_19 : decode cX8_less 19 = .ok (.iload_n 1, 1) := by decide +kernel
theorem dX8_less_20 : decode cX8_less 20 = .ok (.iastore, 1) := by decide +kernel
theorem dX8_less_21 : decode cX8_less 21 = .ok (.aload_n 0, 1) := by decide +kernel
theorem dX8_less_22 : decode cX8_less 22 = .ok (.getfield 69, 3) := by decide +kernel
theorem dX8_less_25 : decode cX8_less 25 = .ok (.iconst 0, 1) := by decide +kernel
theorem dX8_less_26 : decode cX8_less 26 = .ok (.iconst 0, 1) := by decide +kernel
theorem dX8_less_27 : decode cX8_less 27 = .ok (.iastore, 1) := by decide +kernel
theorem dX8_less_28 : decode cX8_less 28 = .ok (.aload_n 0, 1) := by decide +kernel
theorem dX8_less_29 : decode cX8_less 29 = .ok (.getfield 105, 3) := by decide +kernel
theorem dX8_less_32 : decode cX8_less 32 = .ok (.ifCond .le 162, 3) := by decide +kernel
theorem dX8_less_35 : decode cX8_less 35 = .ok (.aload_n 0, 1) := by decide +kernel
theorem dX8_less_36 : decode cX8_less 36 = .ok (.getfield 105, 3) := by decide +kernel
theorem dX8_less_39 : decode cX8_less 39 = .ok (.iconst 1, 1) := by decide +kernel
theorem dX8_less_40 : decode cX8_less 40 = .ok (.isub, 1) := by decide +kernel
theorem dX8_less_41 : decode cX8_less 41 = .ok (.istore_n 2, 1) := by decide +kernel
theorem dX8_less_42 : decode cX8_less 42 = .ok (.aload_n 0, 1) := by decide +kernel
theorem dX8_less_43 : decode cX8_less 43 = .ok (.getfield 66, 3) := by decide +kernel
theorem dX8_less_46 : decode cX8_less 46 = .ok (.iload_n 2, 1) := by decide +kernel
theorem dX8_less_47 : decode cX8_less 47 = .ok (.iaload, 1) := by decide +kernel
theorem dX8_less_48 : decode cX8_less 48 = .ok (.istore_n 3, 1) := by decide +kernel
theorem dX8_less_49 : decode cX8_less 49 = .ok (.aload_n 0, 1) := by decide +kernel
theorem dX8_less_50 : decode cX8_less 50 = .ok (.getfield 69, 3) := by decide +kernel
theorem dX8_less_53 : decode cX8_less 53 = .ok (.iload_n 2, 1) := by decide +kernel
theorem dX8_less_54 : decode cX8_less 54 = .ok (.iaload, 1) := by decide +kernel
theorem dX8_less_55 : decode cX8_less 55 = .ok (.aload_n 0, 1) := by decide +kernel
theorem dX8_less_56 : decode cX8_less 56 = .ok (.iload_n 3, 1) := by decide +kernel
theorem dX8_less_57 : decode cX8_less 57 = .ok (.invokevirtual 108, 3) := by decide +kernel
theorem dX8_less_60 : decode cX8_less 60 = .ok (.if_icmp .ge 91, 3) := by decide +kernel
theorem dX8_less_63 : decode cX8_less 63 = .ok (.bipush 6, 2) := by decide +kernel
theorem dX8_less_65 : decode cX8_less 65 = .ok (.iload_n 3, 1) := by decide +kernel
theorem dX8_less_66 : decode cX8_less 66 = .ok (.imul, 1) := by decide +kernel
theorem dX8_less_67 : decode cX8_less 67 = .ok (.aload_n 0, 1) := by decide +kernel
theorem dX8_less_68 : decode cX8_less 68 = .ok (.getfield 69, 3) := by decide +kernel
theorem dX8_less_71 : decode cX8_less 71 = .ok (.iload_n 2, 1) := by decide +kernel
theorem dX8_less_72 : decode cX8_less 72 = .ok (.iaload, 1) := by decide +kernel
theorem dX8_less_73 : decode cX8_less 73 = .ok (.iadd, 1) := by decide +kernel
theorem dX8_less_74 : decode cX8_less 74 = .ok (.istore 4, 2) := by decide +kernel
theorem dX8_less_76 : decode cX8_less 76 = .ok (.aload_n 0, 1) := by decide +kernel
theorem dX8_less_77 : decode cX8_less 77 = .ok (.getfield 69, 3) := by decide +kernel
theorem dX8_less_80 : decode cX8_less 80 = .ok (.iload_n 2, 1) := by decide +kernel
theorem dX8_less_81 : decode cX8_less 81 = .ok (.dup2, 1) := by decide +kernel
theorem dX8_less_82 : decode cX8_less 82 = .ok (.iaload, 1) := by decide +kernel
theorem dX8_less_83 : decode cX8_less 83 = .ok (.iconst 1, 1) := by decide +kernel
theorem dX8_less_84 : decode cX8_less 84 = .ok (.iadd, 1) := by decide +kernel
theorem dX8_less_85 : decode cX8_less 85 = .ok (.iastore, 1) := by decide +kernel
theorem dX8_less_86 : decode cX8_less 86 = .ok (.aload_n 0, 1) := by decide +kernel
theorem dX8_less_87 : decode cX8_less 87 = .ok (.getfield 48, 3) := by decide +kernel
theorem dX8_less_90 : decode cX8_less 90 = .ok (.iload 4, 2) := by decide +kernel
theorem dX8_less_92 : decode cX8_less 92 = .ok (.iaload, 1) := by decide +kernel
theorem dX8_less_93 : decode cX8_less 93 = .ok (.istore 5, 2) := by decide +kernel
theorem dX8_less_95 : decode cX8_less 95 = .ok (.aload_n 0, 1) := by decide +kernel
theorem dX8_less_96 : decode cX8_less 96 = .ok (.getfield 48, 3) := by decide +kernel
theorem dX8_less_99 : decode cX8_less 99 = .ok (.iload 4, 2) := by decide +kernel
theorem dX8_less_101 : decode cX8_less 101 = .ok (.iconst (-1), 1) := by decide +kernel
theorem dX8_less_102 : decode cX8_less 102 = .ok (.iastore, 1) := by decide +kernel
theorem dX8_less_103 : decode cX8_less 103 = .ok (.iload 5, 2) := by decide +kernel
theorem dX8_less_105 : decode cX8_less 105 = .ok (.ifCond .lt 43, 3) := by decide +kernel
theorem dX8_less_108 : decode cX8_less 108 = .ok (.aload_n 0, 1) := by decide +kernel
theorem dX8_less_109 : decode cX8_less 109 = .ok (.iload 5, 2) := by decide +kernel
theorem dX8_less_111 : decode cX8_less 111 = .ok (.invokevirtual 102, 3) := by decide +kernel
theorem dX8_less_114 : decode cX8_less 114 = .ok (.ifCond .eq 34, 3) := by decide +kernel
theorem dX8_less_117 : decode cX8_less 117 = .ok (.aload_n 0, 1) := by decide +kernel
theorem dX8_less_118 : decode cX8_less 118 = .ok (.getfield 66, 3) := by decide +kernel
theorem dX8_less_121 : decode cX8_less 121 = .ok (.aload_n 0, 1) := by decide +kernel
theorem dX8_less_122 : decode cX8_less 122 = .ok (.getfield 105, 3) := by decide +kernel
theorem dX8_less_125 : decode cX8_less 125 = .ok (.iload 5, 2) := by decide +kernel
theorem dX8_less_127 : decode cX8_less 127 = .ok (.iastore, 1) := by decide +kernel
theorem dX8_less_128 : decode cX8_less 128 = .ok (.aload_n 0, 1) := by decide +kernel
theorem dX8_less_129 : decode cX8_less 129 = .ok (.getfield 69, 3) := by decide +kernel
theorem dX8_less_132 : decode cX8_less 132 = .ok (.aload_n 0, 1) := by decide +kernel
theorem dX8_less_133 : decode cX8_less 133 = .ok (.getfield 105, 3) := by decide +kernel
theorem dX8_less_136 : decode cX8_less 136 = .ok (.iconst 0, 1) := by decide +kernel
theorem dX8_less_137 : decode cX8_less 137 = .ok (.iastore, 1) := by decide +kernel
theorem dX8_less_138 : decode cX8_less 138 = .ok (.aload_n 0, 1) := by decide +kernel
theorem dX8_less_139 : decode cX8_less 139 = .ok (.dup, 1) := by decide +kernel
theorem dX8_less_140 : decode cX8_less 140 = .ok (.getfield 105, 3) := by decide +kernel
theorem dX8_less_143 : decode cX8_less 143 = .ok (.iconst 1, 1) := by decide +kernel
theorem dX8_less_144 : decode cX8_less 144 = .ok (.iadd, 1) := by decide +kernel
theorem dX8_less_145 : decode cX8_less 145 = .ok (.putfield 105, 3) := by decide +kernel
theorem dX8_less_148 : decode cX8_less 148 = .ok (.goto 43, 3) := by decide +kernel
theorem dX8_less_151 : decode cX8_less 151 = .ok (.aload_n 0, 1) := by decide +kernel
theorem dX8_less_152 : decode cX8_less 152 = .ok (.dup, 1) := by decide +kernel
theorem dX8_less_153 : decode cX8_less 153 = .ok (.getfield 105, 3) := by decide +kernel
theorem dX8_less_156 : decode cX8_less 156 = .ok (.iconst 1, 1) := by decide +kernel
theorem dX8_less_157 : decode cX8_less 157 = .ok (.isub, 1) := by decide +kernel
theorem dX8_less_158 : decode cX8_less 158 = .ok (.putfield 105, 3) := by decide +kernel
theorem dX8_less_161 : decode cX8_less 161 = .ok (.aload_n 0, 1) := by decide +kernel
theorem dX8_less_162 : decode cX8_less 162 = .ok (.iload_n 3, 1) := by decide +kernel
theorem dX8_less_163 : decode cX8_less 163 = .ok (.iconst 0, 1) := by decide +kernel
theorem dX8_less_164 : decode cX8_less 164 = .ok (.invokevirtual 98, 3) := by decide +kernel
theorem dX8_less_167 : decode cX8_less 167 = .ok (.aload_n 0, 1) := by decide +kernel
theorem dX8_less_168 : decode cX8_less 168 = .ok (.getfield 39, 3) := by decide +kernel
theorem dX8_less_171 : decode cX8_less 171 = .ok (.iload_n 3, 1) := by decide +kernel
theorem dX8_less_172 : decode cX8_less 172 = .ok (.baload, 1) := by decide +kernel
theorem dX8_less_173 : decode cX8_less 173 = .ok (.ifCond .eq 13, 3) := by decide +kernel
theorem dX8_less_176 : decode cX8_less 176 = .ok (.aload_n 0, 1) := by decide +kernel
theorem dX8_less_177 : decode cX8_less 177 = .ok (.getfield 45, 3) := by decide +kernel
theorem dX8_less_180 : decode cX8_less 180 = .ok (.iload_n 3, 1) := by decide +kernel
theorem dX8_less_181 : decode cX8_less 181 = .ok (.iconst 1, 1) := by decide +kernel
theorem dX8_less_182 : decode cX8_less 182 = .ok (.bastore, 1) := by decide +kernel
theorem dX8_less_183 : decode cX8_less 183 = .ok (.goto 8, 3) := by decide +kernel
theorem dX8_less_186 : decode cX8_less 186 = .ok (.aload_n 0, 1) := by decide +kernel
theorem dX8_less_187 : decode cX8_less 187 = .ok (.iload_n 3, 1) := by decide +kernel
theorem dX8_less_188 : decode cX8_less 188 = .ok (.invokevirtual 112, 3) := by decide +kernel
theorem dX8_less_191 : decode cX8_less 191 = .ok (.goto (-163), 3) := by decide +kernel
theorem dX8_less_194 : decode cX8_less 194 = .ok (.return_, 1) := by decide +kernel
set_option maxRecDepth 20000 in
theorem ggX8_more_X8_turn : GoodIn wsX8_more wsX8_turn := goodIn_r _ [6, 7, 8, 9, 10, 11, 12, 13, 14, 15, 16, 17, 18, 19, 20, 21, 22, 23, 24, 25, 26, 27, 28, 29, 30, 31, 32, 33, 34, 35, 36, 37, 38] (by decide +kernel) (by decide +kernel)
set_option maxRecDepth 20000 in
theorem gX8_more_X8_turn : GoodIn wsX8_more (wsV RX8 98 RX8 yX8_turn wsX8_turn) := goodIn_app (goodIn_of _ (by decide +kernel)) ggX8_more_X8_turn
theorem dX8_more_0 : decode cX8_more 0 = .ok (.aload_n 0, 1) := by decide +kernel
theorem dX8_more_1 : decode cX8_more 1 = .ok (.getfield 27, 3) := by decide +kernel
theorem dX8_more_4 : decode cX8_more 4 = .ok (.iload_n 1, 1) := by decide +kernel
theorem dX8_more_5 : decode cX8_more 5 = .ok (.dup2, 1) := by decide +kernel
theorem dX8_more_6 : decode cX8_more 6 = .ok (.iaload, 1) := by decide +kernel
theorem dX8_more_7 : decode cX8_more 7 = .ok (.iconst 1, 1) := by decide +kernel
theorem dX8_more_8 : decode cX8_more 8 = .ok (.iadd, 1) := by decide +kernel
theorem dX8_more_9 : decode cX8_more 9 = .ok (.iastore, 1) := by decide +kernel
theorem dX8_more_10 : decode cX8_more 10 = .ok (.aload_n 0, 1) := by decide +kernel
theorem dX8_more_11 : decode cX8_more 11 = .ok (.iload_n 1, 1) := by decide +kernel
theorem dX8_more_12 : decode cX8_more 12 = .ok (.iconst 0, 1) := by decide +kernel
theorem dX8_more_13 : decode cX8_more 13 = .ok (.invokevirtual 98, 3) := by decide +kernel
theorem dX8_more_16 : decode cX8_more 16 = .ok (.return_, 1) := by decide +kernel
set_option maxRecDepth 20000 in
theorem ggX8_gray_X8_grayOne : GoodIn wsX8_gray wsX8_grayOne := goodIn_r _ [10, 4, 11, 2, 1, 18, 19, 20, 21, 22, 23, 24, 25, 26, 27, 28, 29, 30, 31, 32, 33, 34, 35, 36, 37, 38, 39, 40, 41, 42, 43, 44, 45, 46, 47, 48] (by decide +kernel) (by decide +kernel)
set_option maxRecDepth 20000 in
theorem gX8_gray_X8_grayOne : GoodIn wsX8_gray (wsV RX8 115 RX8 yX8_grayOne wsX8_grayOne) := goodIn_app (goodIn_of _ (by decide +kernel)) ggX8_gray_X8_grayOne
set_option maxRecDepth 20000 in
theorem ggX8_gray_X8_fieldsOf : GoodIn wsX8_gray wsX8_fieldsOf := goodIn_r _ [15, 16, 17, 18, 19, 20, 21, 22, 23, 24, 25, 26, 27, 28, 29, 30, 31, 32, 33, 34, 35, 36, 37, 38, 39, 40, 41, 42, 43, 44, 45, 46, 47, 48] (by decide +kernel) (by decide +kernel)
set_option maxRecDepth 20000 in
theorem gX8_gray_X8_fieldsOf : GoodIn wsX8_gray (wsV RX8 108 RX8 yX8_fieldsOf wsX8_fieldsOf) := goodIn_app (goodIn_of _ (by decide +kernel)) ggX8_gray_X8_fieldsOf
theorem dX8_gray_0 : decode cX8_gray 0 = .ok (.aload_n 0, 1) := by decide +kernel
theorem dX8_gray_1 : decode cX8_gray 1 = .ok (.iconst 0, 1) := by decide +kernel
theorem dX8_gray_2 : decode cX8_gray 2 = .ok (.putfield 105, 3) := by decide +kernel
theorem dX8_gray_5 : decode cX8_gray 5 = .ok (.aload_n 0, 1) := by decide +kernel
theorem dX8_gray_6 : decode cX8_gray 6 = .ok (.iload_n 1, 1) := by decide +kernel
theorem dX8_gray_7 : decode cX8_gray 7 = .ok (.invokevirtual 115, 3) := by decide +kernel
theorem dX8_gray_10 : decode cX8_gray 10 = .ok (.aload_n 0, 1) := by decide +kernel
theorem dX8_gray_11 : decode cX8_gray 11 = .ok (.getfield 105, 3) := by decide +kernel
theorem dX8_gray_14 : decode cX8_gray 14 = .ok (.ifCond .le 89, 3) := by decide +kernel
theorem dX8_gray_17 : decode cX8_gray 17 = .ok (.aload_n 0, 1) := by decide +kernel
theorem dX8_gray_18 : decode cX8_gray 18 = .ok (.dup, 1) := by decide +kernel
theorem dX8_gray_19 : decode cX8_gray 19 = .ok (.getfield 105, 3) := by decide +kernel
theorem dX8_gray_22 : decode cX8_gray 22 = .ok (.iconst 1, 1) := by decide +kernel
theorem dX8_gray_23 : decode cX8_gray 23 = .ok (.isub, 1) := by decide +kernel
theorem dX8_gray_24 : decode cX8_gray 24 = .ok (.putfield 105, 3) := by decide +kernel
theorem dX8_gray_27 : decode cX8_gray 27 = .ok (.aload_n 0, 1) := by decide +kernel
theorem dX8_gray_28 : decode cX8_gray 28 = .ok (.getfield 66, 3) := by decide +kernel
theorem dX8_gray_31 : decode cX8_gray 31 = .ok (.aload_n 0, 1) := by decide +kernel
theorem dX8_gray_32 : decode cX8_gray 32 = .ok (.getfield 105, 3) := by decide +kernel
theorem dX8_gray_35 : decode cX8_gray 35 = .ok (.iaload, 1) := by decide +kernel
theorem dX8_gray_36 : decode cX8_gray 36 = .ok (.istore_n 2, 1) := by decide +kernel
theorem dX8_gray_37 : decode cX8_gray 37 = .ok (.iconst 0, 1) := by decide +kernel
theorem dX8_gray_38 : decode cX8_gray 38 = .ok (.istore_n 3, 1) := by decide +kernel
theorem dX8_gray_39 : decode cX8_gray 39 = .ok (.iload_n 3, 1) := by decide +kernel
theorem dX8_gray_40 : decode cX8_gray 40 = .ok (.aload_n 0, 1) := by decide +kernel
theorem dX8_gray_41 : decode cX8_gray 41 = .ok (.iload_n 2, 1) := by decide +kernel
theorem dX8_gray_42 : decode cX8_gray 42 = .ok (.invokevirtual 108, 3) := by decide +kernel
theorem dX8_gray_45 : decode cX8_gray 45 = .ok (.if_icmp .ge 55, 3) := by decide +kernel
theorem dX8_gray_48 : decode cX8_gray 48 = .ok (.aload_n 0, 1) := by decide +kernel
theorem dX8_gray_49 : decode cX8_gray 49 = .ok (.getfield 48, 3) := by decide +kernel
theorem dX8_gray_52 : decode cX8_gray 52 = .ok (.bipush 6, 2) := by decide +kernel
theorem dX8_gray_54 : decode cX8_gray 54 = .ok (.iload_n 2, 1) := by decide +kernel
theorem dX8_gray_55 : decode cX8_gray 55 = .ok (.imul, 1) := by decide +kernel
theorem dX8_gray_56 : decode cX8_gray 56 = .ok (.iload_n 3, 1) := by decide +kernel
theorem dX8_gray_57 : decode cX8_gray 57 = .ok (.iadd, 1) := by decide +kernel
theorem dX8_gray_58 : decode cX8_gray 58 = .ok (.iaload, 1) := by decide +kernel
theorem dX8_gray_59 : decode cX8_gray 59 = .ok (.istore 4, 2) := by decide +kernel
theorem dX8_gray_61 : decode cX8_gray 61 = .ok (.iload 4, 2) := by decide +kernel
theorem dX8_gray_63 : decode cX8_gray 63 = .ok (.ifCond .lt 31, 3) := by decide +kernel
theorem dX8_gray_66 : decode cX8_gray 66 = .ok (.aload_n 0, 1) := by decide +kernel
theorem dX8_gray_67 : decode cX8_gray 67 = .ok (.getfield 30, 3) := by decide +kernel
theorem dX8_gray_70 : decode cX8_gray 70 = .ok (.iload 4, 2) := by decide +kernel
theorem dX8_gray_72 : decode cX8_gray 72 = .ok (.iaload, 1) := by decide +kernel
theorem dX8_gray_73 : decode cX8_gray 73 = .ok (.iconst 4, 1) := by decide +kernel
theorem dX8_gray_74 : decode cX8_gray 74 = .ok (.if_icmp .eq 20, 3) := by decide +kernel
theorem dX8_gray_77 : decode cX8_gray 77 = .ok (.aload_n 0, 1) := by decide +kernel
theorem dX8_gray_78 : decode cX8_gray 78 = .ok (.getfield 27, 3) := by decide +kernel
theorem dX8_gray_81 : decode cX8_gray 81 = .ok (.iload 4, 2) := by decide +kernel
theorem dX8_gray_83 : decode cX8_gray 83 = .ok (.dup2, 1) := by decide +kernel
theorem dX8_gray_84 : decode cX8_gray 84 = .ok (.iaload, 1) := by decide +kernel
theorem dX8_gray_85 : decode cX8_gray 85 = .ok (.iconst 1, 1) := by decide +kernel
theorem dX8_gray_86 : decode cX8_gray 86 = .ok (.isub, 1) := by decide +kernel
theorem dX8_gray_87 : decode cX8_gray 87 = .ok (.iastore, 1) := by decide +kernel
theorem dX8_gray_88 : decode cX8_gray 88 = .ok (.aload_n 0, 1) := by decide +kernel
theorem dX8_gray_89 : decode cX8_gray 89 = .ok (.iload 4, 2) := by decide +kernel
theorem dX8_gray_91 : decode cX8_gray 91 = .ok (.invokevirtual 115, 3) := by decide +kernel
theorem dX8_gray_94 : decode cX8_gray 94 = .ok (.iinc 3 1, 3) := by decide +kernel
theorem dX8_gray_97 : decode cX8_gray 97 = .ok (.goto (-58), 3) := by decide +kernel
theorem dX8_gray_100 : decode cX8_gray 100 = .ok (.goto (-90), 3) := by decide +kernel
theorem dX8_gray_103 : decode cX8_gray 103 = .ok (.return_, 1) := by decide +kernel
theorem dX8_grayOne_0 : decode cX8_grayOne 0 = .ok (.aload_n 0, 1) := by decide +kernel
theorem dX8_grayOne_1 : decode cX8_grayOne 1 = .ok (.getfield 30, 3) := by decide +kernel
theorem dX8_grayOne_4 : decode cX8_grayOne 4 = .ok (.iload_n 1, 1) := by decide +kernel
theorem dX8_grayOne_5 : decode cX8_grayOne 5 = .ok (.iaload, 1) := by decide +kernel
theorem dX8_grayOne_6 : decode cX8_grayOne 6 = .ok (.iconst 1, 1) := by decide +kernel
theorem dX8_grayOne_7 : decode cX8_grayOne 7 = .ok (.if_icmp .eq 50, 3) := by decide +kernel
theorem dX8_grayOne_10 : decode cX8_grayOne 10 = .ok (.aload_n 0, 1) := by decide +kernel
theorem dX8_grayOne_11 : decode cX8_grayOne 11 = .ok (.getfield 30, 3) := by decide +kernel
theorem dX8_grayOne_14 : decode cX8_grayOne 14 = .ok (.iload_n 1, 1) := by decide +kernel
theorem dX8_grayOne_15 : decode cX8_grayOne 15 = .ok (.iaload, 1) := by decide +kernel
theorem dX8_grayOne_16 : decode cX8_grayOne 16 = .ok (.iconst 4, 1) := by decide +kernel
theorem dX8_grayOne_17 : decode cX8_grayOne 17 = .ok (.if_icmp .eq 40, 3) := by decide +kernel
theorem dX8_grayOne_20 : decode cX8_grayOne 20 = .ok (.aload_n 0, 1) := by decide +kernel
theorem dX8_grayOne_21 : decode cX8_grayOne 21 = .ok (.getfield 30, 3) := by decide +kernel
theorem dX8_grayOne_24 : decode cX8_grayOne 24 = .ok (.iload_n 1, 1) := by decide +kernel
theorem dX8_grayOne_25 : decode cX8_grayOne 25 = .ok (.iconst 1, 1) := by decide +kernel
theorem dX8_grayOne_26 : decode cX8_grayOne 26 = .ok (.iastore, 1) := by decide +kernel
theorem dX8_grayOne_27 : decode cX8_grayOne 27 = .ok (.aload_n 0, 1) := by decide +kernel
theorem dX8_grayOne_28 : decode cX8_grayOne 28 = .ok (.dup, 1) := by decide +kernel
theorem dX8_grayOne_29 : decode cX8_grayOne 29 = .ok (.getfield 118, 3) := by decide +kernel
theorem dX8_grayOne_32 : decode cX8_grayOne 32 = .ok (.iconst 1, 1) := by decide +kernel
theorem dX8_grayOne_33 : decode cX8_grayOne 33 = .ok (.iadd, 1) := by decide +kernel
theorem dX8_grayOne_34 : decode cX8_grayOne 34 = .ok (.putfield 118, 3) := by decide +kernel
theorem dX8_grayOne_37 : decode cX8_grayOne 37 = .ok (.aload_n 0, 1) := by decide +kernel
theorem dX8_grayOne_38 : decode cX8_grayOne 38 = .ok (.getfield 66, 3) := by decide +kernel
theorem dX8_grayOne_41 : decode cX8_grayOne 41 = .ok (.aload_n 0, 1) := by decide +kernel
theorem dX8_grayOne_42 : decode cX8_grayOne 42 = .ok (.getfield 105, 3) := by decide +kernel
theorem dX8_grayOne_45 : decode cX8_grayOne 45 = .ok (.iload_n 1, 1) := by decide +kernel
theorem dX8_grayOne_46 : decode cX8_grayOne 46 = .ok (.iastore, 1) := by decide +kernel
theorem dX8_grayOne_47 : decode cX8_grayOne 47 = .ok (.aload_n 0, 1) := by decide +kernel
theorem dX8_grayOne_48 : decode cX8_grayOne 48 = .ok (.dup, 1) := by decide +kernel
theorem dX8_grayOne_49 : decode cX8_grayOne 49 = .ok (.getfield 105, 3) := by decide +kernel
theorem dX8_grayOne_52 : decode cX8_grayOne 52 = .ok (.iconst 1, 1) := by decide +kernel
theorem dX8_grayOne_53 : decode cX8_grayOne 53 = .ok (.iadd, 1) := by decide +kernel
theorem dX8_grayOne_54 : decode cX8_grayOne 54 = .ok (.putfield 105, 3) := by decide +kernel
theorem dX8_grayOne_57 : decode cX8_grayOne 57 = .ok (.return_, 1) := by decide +kernel
set_option maxRecDepth 20000 in
theorem ggX8_blacken_X8_turn : GoodIn wsX8_blacken wsX8_turn := goodIn_r _ [10, 4, 17, 18, 19, 20, 21, 22, 23, 24, 25, 26, 27, 28, 29, 30, 31, 32, 33, 34, 35, 36, 37, 38, 39, 40, 41, 42, 43, 44, 45, 46, 47] (by decide +kernel) (by decide +kernel)
set_option maxRecDepth 20000 in
theorem gX8_blacken_X8_turn : GoodIn wsX8_blacken (wsV RX8 98 RX8 yX8_turn wsX8_turn) := goodIn_app (goodIn_of _ (by decide +kernel)) ggX8_blacken_X8_turn
set_option maxRecDepth 20000 in
theorem ggX8_blacken_X8_fieldsOf : GoodIn wsX8_blacken wsX8_fieldsOf := goodIn_r _ [14, 15, 16, 17, 18, 19, 20, 21, 22, 23, 24, 25, 26, 27, 28, 29, 30, 31, 32, 33, 34, 35, 36, 37, 38, 39, 40, 41, 42, 43, 44, 45, 46, 47] (by decide +kernel) (by decide +kernel)
set_option maxRecDepth 20000 in
theorem gX8_blacken_X8_fieldsOf : GoodIn wsX8_blacken (wsV RX8 108 RX8 yX8_fieldsOf wsX8_fieldsOf) := goodIn_app (goodIn_of _ (by decide +kernel)) ggX8_blacken_X8_fieldsOf
theorem dX8_blacken_0 : decode cX8_blacken 0 = .ok (.iconst 1, 1) := by decide +kernel
theorem dX8_blacken_1 : decode cX8_blacken 1 = .ok (.istore_n 2, 1) := by decide +kernel
theorem dX8_blacken_2 : decode cX8_blacken 2 = .ok (.aload_n 0, 1) := by decide +kernel
theorem dX8_blacken_3 : decode cX8_blacken 3 = .ok (.getfield 75, 3) := by decide +kernel
theorem dX8_blacken_6 : decode cX8_blacken 6 = .ok (.iconst 0, 1) := by decide +kernel
theorem dX8_blacken_7 : decode cX8_blacken 7 = .ok (.iload_n 1, 1) := by decide +kernel
theorem dX8_blacken_8 : decode cX8_blacken 8 = .ok (.iastore, 1) := by decide +kernel
theorem dX8_blacken_9 : decode cX8_blacken 9 = .ok (.aload_n 0, 1) := by decide +kernel
theorem dX8_blacken_10 : decode cX8_blacken 10 = .ok (.iload_n 1, 1) := by decide +kernel
theorem dX8_blacken_11 : decode cX8_blacken 11 = .ok (.iconst 0, 1) := by decide +kernel
theorem dX8_blacken_12 : decode cX8_blacken 12 = .ok (.invokevirtual 98, 3) := by decide +kernel
theorem dX8_blacken_15 : decode cX8_blacken 15 = .ok (.aload_n 0, 1) := by decide +kernel
theorem dX8_blacken_16 : decode cX8_blacken 16 = .ok (.dup, 1) := by decide +kernel
theorem dX8_blacken_17 : decode cX8_blacken 17 = .ok (.getfield 121, 3) := by decide +kernel
theorem dX8_blacken_20 : decode cX8_blacken 20 = .ok (.iconst 1, 1) := by decide +kernel
theorem dX8_blacken_21 : decode cX8_blacken 21 = .ok (.iadd, 1) := by decide +kernel
theorem dX8_blacken_22 : decode cX8_blacken 22 = .ok (.putfield 121, 3) := by decide +kernel
theorem dX8_blacken_25 : decode cX8_blacken 25 = .ok (.iload_n 2, 1) := by decide +kernel
theorem dX8_blacken_26 : decode cX8_blacken 26 = .ok (.ifCond .le 115, 3) := by decide +kernel
theorem dX8_blacken_29 : decode cX8_blacken 29 = .ok (.iinc 2 (-1), 3) := by decide +kernel
theorem dX8_blacken_32 : decode cX8_blacken 32 = .ok (.aload_n 0, 1) := by decide +kernel
theorem dX8_blacken_33 : decode cX8_blacken 33 = .ok (.getfield 75, 3) := by decide +kernel
theorem dX8_blacken_36 : decode cX8_blacken 36 = .ok (.iload_n 2, 1) := by decide +kernel
theorem dX8_blacken_37 : decode cX8_blacken 37 = .ok (.iaload, 1) := by decide +kernel
theorem dX8_blacken_38 : decode cX8_blacken 38 = .ok (.istore_n 3, 1) := by decide +kernel
theorem dX8_blacken_39 : decode cX8_blacken 39 = .ok (.iconst 0, 1) := by decide +kernel
theorem dX8_blacken_40 : decode cX8_blacken 40 = .ok (.istore 4, 2) := by decide +kernel
theorem dX8_blacken_42 : decode cX8_blacken 42 = .ok (.iload 4, 2) := by decide +kernel
theorem dX8_blacken_44 : decode cX8_blacken 44 = .ok (.aload_n 0, 1) := by decide +kernel
theorem dX8_blacken_45 : decode cX8_blacken 45 = .ok (.iload_n 3, 1) := by decide +kernel
theorem dX8_blacken_46 : decode cX8_blacken 46 = .ok (.invokevirtual 108, 3) := by decide +kernel
theorem dX8_blacken_49 : decode cX8_blacken 49 = .ok (.if_icmp .ge 89, 3) := by decide +kernel
theorem dX8_blacken_52 : decode cX8_blacken 52 = .ok (.aload_n 0, 1) := by decide +kernel
theorem dX8_blacken_53 : decode cX8_blacken 53 = .ok (.getfield 48, 3) := by decide +kernel
theorem dX8_blacken_56 : decode cX8_blacken 56 = .ok (.bipush 6, 2) := by decide +kernel
theorem dX8_blacken_58 : decode cX8_blacken 58 = .ok (.iload_n 3, 1) := by decide +kernel
theorem dX8_blacken_59 : decode cX8_blacken 59 = .ok (.imul, 1) := by decide +kernel
theorem dX8_blacken_60 : decode cX8_blacken 60 = .ok (.iload 4, 2) := by decide +kernel
theorem dX8_blacken_62 : decode cX8_blacken 62 = .ok (.iadd, 1) := by decide +kernel
theorem dX8_blacken_63 : decode cX8_blacken 63 = .ok (.iaload, 1) := by decide +kernel
theorem dX8_blacken_64 : decode cX8_blacken 64 = .ok (.istore 5, 2) := by decide +kernel
theorem dX8_blacken_66 : decode cX8_blacken 66 = .ok (.iload 5, 2) := by decide +kernel
theorem dX8_blacken_68 : decode cX8_blacken 68 = .ok (.ifCond .lt 64, 3) := by decide +kernel
theorem dX8_blacken_71 : decode cX8_blacken 71 = .ok (.aload_n 0, 1) := by decide +kernel
theorem dX8_blacken_72 : decode cX8_blacken 72 = .ok (.getfield 30, 3) := by decide +kernel
theorem dX8_blacken_75 : decode cX8_blacken 75 = .ok (.iload 5, 2) := by decide +kernel
theorem dX8_blacken_77 : decode cX8_blacken 77 = .ok (.iaload, 1) := by decide +kernel
theorem dX8_blacken_78 : decode cX8_blacken 78 = .ok (.iconst 4, 1) := by decide +kernel
theorem dX8_blacken_79 : decode cX8_blacken 79 = .ok (.if_icmp .eq 53, 3) := by decide +kernel
theorem dX8_blacken_82 : decode cX8_blacken 82 = .ok (.aload_n 0, 1) := by decide +kernel
theorem dX8_blacken_83 : decode cX8_blacken 83 = .ok (.getfield 27, 3) := by decide +kernel
theorem dX8_blacken_86 : decode cX8_blacken 86 = .ok (.iload 5, 2) := by decide +kernel
theorem dX8_blacken_88 : decode cX8_blacken 88 = .ok (.dup2, 1) := by decide +kernel
theorem dX8_blacken_89 : decode cX8_blacken 89 = .ok (.iaload, 1) := by decide +kernel
theorem dX8_blacken_90 : decode cX8_blacken 90 = .ok (.iconst 1, 1) := by decide +kernel
theorem dX8_blacken_91 : decode cX8_blacken 91 = .ok (.iadd, 1) := by decide +kernel
theorem dX8_blacken_92 : decode cX8_blacken 92 = .ok (.iastore, 1) := by decide +kernel
theorem dX8_blacken_93 : decode cX8_blacken 93 = .ok (.aload_n 0, 1) := by decide +kernel
theorem dX8_blacken_94 : decode cX8_blacken 94 = .ok (.getfield 30, 3) := by decide +kernel
theorem dX8_blacken_97 : decode cX8_blacken 97 = .ok (.iload 5, 2) := by decide +kernel
theorem dX8_blacken_99 : decode cX8_blacken 99 = .ok (.iaload, 1) := by decide +kernel
theorem dX8_blacken_100 : decode cX8_blacken 100 = .ok (.ifCond .eq 32, 3) := by decide +kernel
theorem dX8_blacken_103 : decode cX8_blacken 103 = .ok (.aload_n 0, 1) := by decide +kernel
theorem dX8_blacken_104 : decode cX8_blacken 104 = .ok (.getfield 30, 3) := by decide +kernel
theorem dX8_blacken_107 : decode cX8_blacken 107 = .ok (.iload 5, 2) := by decide +kernel
theorem dX8_blacken_109 : decode cX8_blacken 109 = .ok (.iconst 0, 1) := by decide +kernel
theorem dX8_blacken_110 : decode cX8_blacken 110 = .ok (.iastore, 1) := by decide +kernel
theorem dX8_blacken_111 : decode cX8_blacken 111 = .ok (.aload_n 0, 1) := by decide +kernel
theorem dX8_blacken_112 : decode cX8_blacken 112 = .ok (.dup, 1) := by decide +kernel
theorem dX8_blacken_113 : decode cX8_blacken 113 = .ok (.getfield 121, 3) := by decide +kernel
theorem dX8_blacken_116 : decode cX8_blacken 116 = .ok (.iconst 1, 1) := by decide +kernel
theorem dX8_blacken_117 : decode cX8_blacken 117 = .ok (.iadd, 1) := by decide +kernel
theorem dX8_blacken_118 : decode cX8_blacken 118 = .ok (.putfield 121, 3) := by decide +kernel
theorem dX8_blacken_121 : decode cX8_blacken 121 = .ok (.aload_n 0, 1) := by decide +kernel
theorem dX8_blacken_122 : decode cX8_blacken 122 = .ok (.getfield 75, 3) := by decide +kernel
theorem dX8_blacken_125 : decode cX8_blacken 125 = .ok (.iload_n 2, 1) := by decide +kernel
theorem dX8_blacken_126 : decode cX8_blacken 126 = .ok (.iload 5, 2) := by decide +kernel
theorem dX8_blacken_128 : decode cX8_blacken 128 = .ok (.iastore, 1) := by decide +kernel
theorem dX8_blacken_129 : decode cX8_blacken 129 = .ok (.iinc 2 1, 3) := by decide +kernel
theorem dX8_blacken_132 : decode cX8_blacken 132 = .ok (.iinc 4 1, 3) := by decide +kernel
theorem dX8_blacken_135 : decode cX8_blacken 135 = .ok (.goto (-93), 3) := by decide +kernel
theorem dX8_blacken_138 : decode cX8_blacken 138 = .ok (.goto (-113), 3) := by decide +kernel
theorem dX8_blacken_141 : decode cX8_blacken 141 = .ok (.return_, 1) := by decide +kernel
set_option maxRecDepth 20000 in
theorem ggX8_scan_X8_scanOne : GoodIn wsX8_scan wsX8_scanOne := goodIn_r _ [8, 9, 10, 2, 1, 11, 12, 13, 7, 14, 15, 16, 3, 17, 18, 19, 20, 21, 22, 23, 24, 25, 26, 27, 28, 29, 30, 31, 32, 33, 34, 35, 36, 37, 38, 39, 40, 41, 42, 43, 44, 45, 46, 47, 48, 49, 50, 51, 52, 53, 54, 55, 56, 57] (by decide +kernel) (by decide +kernel)
set_option maxRecDepth 20000 in
theorem gX8_scan_X8_scanOne : GoodIn wsX8_scan (wsV RX8 124 RX8 yX8_scanOne wsX8_scanOne) := goodIn_app (goodIn_of _ (by decide +kernel)) ggX8_scan_X8_scanOne
set_option maxRecDepth 20000 in
theorem ggX8_scan_X8_fieldsOf : GoodIn wsX8_scan wsX8_fieldsOf := goodIn_r _ [24, 25, 26, 27, 28, 29, 30, 31, 32, 33, 34, 35, 36, 37, 38, 39, 40, 41, 42, 43, 44, 45, 46, 47, 48, 49, 50, 51, 52, 53, 54, 55, 56, 57] (by decide +kernel) (by decide +kernel)
set_option maxRecDepth 20000 in
theorem gX8_scan_X8_fieldsOf : GoodIn wsX8_scan (wsV RX8 108 RX8 yX8_fieldsOf wsX8_fieldsOf) := goodIn_app (goodIn_of _ (by decide +kernel)) ggX8_scan_X8_fieldsOf
theorem dX8_scan_0 : decode cX8_scan 0 = .ok (.aload_n 0, 1) := by decide +kernel
theorem dX8_scan_1 : decode cX8_scan 1 = .ok (.iconst 0, 1) := by decide +kernel
theorem dX8_scan_2 : decode cX8_scan 2 = .ok (.putfield 105, 3) := by decide +kernel
theorem dX8_scan_5 : decode cX8_scan 5 = .ok (.aload_n 0, 1) := by decide +kernel
theorem dX8_scan_6 : decode cX8_scan 6 = .ok (.iload_n 1, 1) := by decide +kernel
theorem dX8_scan_7 : decode cX8_scan 7 = .ok (.invokevirtual 124, 3) := by decide +kernel
theorem dX8_scan_10 : decode cX8_scan 10 = .ok (.aload_n 0, 1) := by decide +kernel
theorem dX8_scan_11 : decode cX8_scan 11 = .ok (.getfield 105, 3) := by decide +kernel
theorem dX8_scan_14 : decode cX8_scan 14 = .ok (.ifCond .le 67, 3) := by decide +kernel
theorem dX8_scan_17 : decode cX8_scan 17 = .ok (.aload_n 0, 1) := by decide +kernel
theorem dX8_scan_18 : decode cX8_scan 18 = .ok (.dup, 1) := by decide +kernel
theorem dX8_scan_19 : decode cX8_scan 19 = .ok (.getfield 105, 3) := by decide +kernel
theorem dX8_scan_22 : decode cX8_scan 22 = .ok (.iconst 1, 1) := by decide +kernel
theorem dX8_scan_23 : decode cX8_scan 23 = .ok (.isub, 1) := by decide +kernel
theorem dX8_scan_24 : decode cX8_scan 24 = .ok (.putfield 105, 3) := by decide +kernel
theorem dX8_scan_27 : decode cX8_scan 27 = .ok (.aload_n 0, 1) := by decide +kernel
theorem dX8_scan_28 : decode cX8_scan 28 = .ok (.getfield 66, 3) := by decide +kernel
theorem dX8_scan_31 : decode cX8_scan 31 = .ok (.aload_n 0, 1) := by decide +kernel
theorem dX8_scan_32 : decode cX8_scan 32 = .ok (.getfield 105, 3) := by decide +kernel
theorem dX8_scan_35 : decode cX8_scan 35 = .ok (.iaload, 1) := by decide +kernel
theorem dX8_scan_36 : decode cX8_scan 36 = .ok (.istore_n 2, 1) := by decide +kernel
theorem dX8_scan_37 : decode cX8_scan 37 = .ok (.iconst 0, 1) := by decide +kernel
theorem dX8_scan_38 : decode cX8_scan 38 = .ok (.istore_n 3, 1) := by decide +kernel
theorem dX8_scan_39 : decode cX8_scan 39 = .ok (.iload_n 3, 1) := by decide +kernel
theorem dX8_scan_40 : decode cX8_scan 40 = .ok (.aload_n 0, 1) := by decide +kernel
theorem dX8_scan_41 : decode cX8_scan 41 = .ok (.iload_n 2, 1) := by decide +kernel
theorem dX8_scan_42 : decode cX8_scan 42 = .ok (.invokevirtual 108, 3) := by decide +kernel
theorem dX8_scan_45 : decode cX8_scan 45 = .ok (.if_icmp .ge 33, 3) := by decide +kernel
theorem dX8_scan_48 : decode cX8_scan 48 = .ok (.aload_n 0, 1) := by decide +kernel
theorem dX8_scan_49 : decode cX8_scan 49 = .ok (.getfield 48, 3) := by decide +kernel
theorem dX8_scan_52 : decode cX8_scan 52 = .ok (.bipush 6, 2) := by decide +kernel
theorem dX8_scan_54 : decode cX8_scan 54 = .ok (.iload_n 2, 1) := by decide +kernel
theorem dX8_scan_55 : decode cX8_scan 55 = .ok (.imul, 1) := by decide +kernel
theorem dX8_scan_56 : decode cX8_scan 56 = .ok (.iload_n 3, 1) := by decide +kernel
theorem dX8_scan_57 : decode cX8_scan 57 = .ok (.iadd, 1) := by decide +kernel
theorem dX8_scan_58 : decode cX8_scan 58 = .ok (.iaload, 1) := by decide +kernel
theorem dX8_scan_59 : decode cX8_scan 59 = .ok (.istore 4, 2) := by decide +kernel
theorem dX8_scan_61 : decode cX8_scan 61 = .ok (.iload 4, 2) := by decide +kernel
theorem dX8_scan_63 : decode cX8_scan 63 = .ok (.ifCond .lt 9, 3) := by decide +kernel
theorem dX8_scan_66 : decode cX8_scan 66 = .ok (.aload_n 0, 1) := by decide +kernel
theorem dX8_scan_67 : decode cX8_scan 67 = .ok (.iload 4, 2) := by decide +kernel
theorem dX8_scan_69 : decode cX8_scan 69 = .ok (.invokevirtual 124, 3) := by decide +kernel
theorem dX8_scan_72 : decode cX8_scan 72 = .ok (.iinc 3 1, 3) := by decide +kernel
theorem dX8_scan_75 : decode cX8_scan 75 = .ok (.goto (-36), 3) := by decide +kernel
theorem dX8_scan_78 : decode cX8_scan 78 = .ok (.goto (-68), 3) := by decide +kernel
theorem dX8_scan_81 : decode cX8_scan 81 = .ok (.return_, 1) := by decide +kernel
set_option maxRecDepth 20000 in
theorem ggX8_scanOne_X8_blacken : GoodIn wsX8_scanOne wsX8_blacken := goodIn_r _ [9, 10, 11, 12, 1, 2, 13, 14, 15, 8, 16, 17, 18, 19, 20, 21, 22, 23, 24, 25, 26, 27, 28, 29, 30, 31, 32, 33, 34, 35, 36, 37, 38, 39, 40, 41, 42, 43, 44, 45, 46, 47, 48, 49, 50, 51, 52, 53] (by decide +kernel) (by decide +kernel)
set_option maxRecDepth 20000 in
theorem gX8_scanOne_X8_blacken : GoodIn wsX8_scanOne (wsV RX8 127 RX8 yX8_blacken wsX8_blacken) := goodIn_app (goodIn_of _ (by decide +kernel)) ggX8_scanOne_X8_blacken
theorem dX8_scanOne_0 : decode cX8_scanOne 0 = .ok (.aload_n 0, 1) := by decide +kernel
theorem dX8_scanOne_1 : decode cX8_scanOne 1 = .ok (.getfield 30, 3) := by decide +kernel
theorem dX8_scanOne_4 : decode cX8_scanOne 4 = .ok (.iload_n 1, 1) := by decide +kernel
theorem dX8_scanOne_5 : decode cX8_scanOne 5 = .ok (.iaload, 1) := by decide +kernel
theorem dX8_scanOne_6 : decode cX8_scanOne 6 = .ok (.iconst 1, 1) := by decide +kernel
theorem dX8_scanOne_7 : decode cX8_scanOne 7 = .ok (.if_icmp .ne 47, 3) := by decide +kernel
theorem dX8_scanOne_10 : decode cX8_scanOne 10 = .ok (.aload_n 0, 1) := by decide +kernel
theorem dX8_scanOne_11 : decode cX8_scanOne 11 = .ok (.getfield 27, 3) := by decide +kernel
theorem dX8_scanOne_14 : decode cX8_scanOne 14 = .ok (.iload_n 1, 1) := by decide +kernel
theorem dX8_scanOne_15 : decode cX8_scanOne 15 = .ok (.iaload, 1) := by decide +kernel
theorem dX8_scanOne_16 : decode cX8_scanOne 16 = .ok (.ifCond .le 11, 3) := by decide +kernel
theorem dX8_scanOne_19 : decode cX8_scanOne 19 = .ok (.aload_n 0, 1) := by decide +kernel
theorem dX8_scanOne_20 : decode cX8_scanOne 20 = .ok (.iload_n 1, 1) := by decide +kernel
theorem dX8_scanOne_21 : decode cX8_scanOne 21 = .ok (.invokevirtual 127, 3) := by decide +kernel
theorem dX8_scanOne_24 : decode cX8_scanOne 24 = .ok (.goto 30, 3) := by decide +kernel
theorem dX8_scanOne_27 : decode cX8_scanOne 27 = .ok (.aload_n 0, 1) := by decide +kernel
theorem dX8_scanOne_28 : decode cX8_scanOne 28 = .ok (.getfield 30, 3) := by decide +kernel
theorem dX8_scanOne_31 : decode cX8_scanOne 31 = .ok (.iload_n 1, 1) := by decide +kernel
theorem dX8_scanOne_32 : decode cX8_scanOne 32 = .ok (.iconst 2, 1) := by decide +kernel
theorem dX8_scanOne_33 : decode cX8_scanOne 33 = .ok (.iastore, 1) := by decide +kernel
theorem dX8_scanOne_34 : decode cX8_scanOne 34 = .ok (.aload_n 0, 1) := by decide +kernel
theorem dX8_scanOne_35 : decode cX8_scanOne 35 = .ok (.getfield 66, 3) := by decide +kernel
theorem dX8_scanOne_38 : decode cX8_scanOne 38 = .ok (.aload_n 0, 1) := by decide +kernel
theorem dX8_scanOne_39 : decode cX8_scanOne 39 = .ok (.getfield 105, 3) := by decide +kernel
theorem dX8_scanOne_42 : decode cX8_scanOne 42 = .ok (.iload_n 1, 1) := by decide +kernel
theorem dX8_scanOne_43 : decode cX8_scanOne 43 = .ok (.iastore, 1) := by decide +kernel
theorem dX8_scanOne_44 : decode cX8_scanOne 44 = .ok (.aload_n 0, 1) := by decide +kernel
theorem dX8_scanOne_45 : decode cX8_scanOne 45 = .ok (.dup, 1) := by decide +kernel
theorem dX8_scanOne_46 : decode cX8_scanOne 46 = .ok (.getfield 105, 3) := by decide +kernel
theorem dX8_scanOne_49 : decode cX8_scanOne 49 = .ok (.iconst 1, 1) := by decide +kernel
theorem dX8_scanOne_50 : decode cX8_scanOne 50 = .ok (.iadd, 1) := by decide +kernel
theorem dX8_scanOne_51 : decode cX8_scanOne 51 = .ok (.putfield 105, 3) := by decide +kernel
theorem dX8_scanOne_54 : decode cX8_scanOne 54 = .ok (.return_, 1) := by decide +kernel
theorem dX8_findByAddress_0 : decode cX8_findByAddress 0 = .ok (.aload_n 0, 1) := by decide +kernel
theorem dX8_findByAddress_1 : decode cX8_findByAddress 1 = .ok (.iconst 0, 1) := by decide +kernel
theorem dX8_findByAddress_2 : decode cX8_findByAddress 2 = .ok (.putfield 130, 3) := by decide +kernel
theorem dX8_findByAddress_5 : decode cX8_findByAddress 5 = .ok (.iconst 0, 1) := by decide +kernel
theorem dX8_findByAddress_6 : decode cX8_findByAddress 6 = .ok (.istore_n 1, 1) := by decide +kernel
theorem dX8_findByAddress_7 : decode cX8_findByAddress 7 = .ok (.iload_n 1, 1) := by decide +kernel
theorem dX8_findByAddress_8 : decode cX8_findByAddress 8 = .ok (.sipush 400, 3) := by decide +kernel
theorem dX8_findByAddress_11 : decode cX8_findByAddress 11 = .ok (.if_icmp .ge 50, 3) := by decide +kernel
theorem dX8_findByAddress_14 : decode cX8_findByAddress 14 = .ok (.aload_n 0, 1) := by decide +kernel
theorem dX8_findByAddress_15 : decode cX8_findByAddress 15 = .ok (.getfield 51, 3) := by decide +kernel
theorem dX8_findByAddress_18 : decode cX8_findByAddress 18 = .ok (.iload_n 1, 1) := by decide +kernel
theorem dX8_findByAddress_19 : decode cX8_findByAddress 19 = .ok (.iaload, 1) := by decide +kernel
theorem dX8_findByAddress_20 : decode cX8_findByAddress 20 = .ok (.istore_n 2, 1) := by decide +kernel
theorem dX8_findByAddress_21 : decode cX8_findByAddress 21 = .ok (.iload_n 2, 1) := by decide +kernel
theorem dX8_findByAddress_22 : decode cX8_findByAddress 22 = .ok (.ifCond .lt 33, 3) := by decide +kernel
theorem dX8_findByAddress_25 : decode cX8_findByAddress 25 = .ok (.aload_n 0, 1) := by decide +kernel
theorem dX8_findByAddress_26 : decode cX8_findByAddress 26 = .ok (.getfield 33, 3) := by decide +kernel
theorem dX8_findByAddress_29 : decode cX8_findByAddress 29 = .ok (.iload_n 2, 1) := by decide +kernel
theorem dX8_findByAddress_30 : decode cX8_findByAddress 30 = .ok (.iaload, 1) := by decide +kernel
theorem dX8_findByAddress_31 : decode cX8_findByAddress 31 = .ok (.iload_n 1, 1) := by decide +kernel
theorem dX8_findByAddress_32 : decode cX8_findByAddress 32 = .ok (.if_icmp .ne 23, 3) := by decide +kernel
theorem dX8_findByAddress_35 : decode cX8_findByAddress 35 = .ok (.aload_n 0, 1) := by decide +kernel
theorem dX8_findByAddress_36 : decode cX8_findByAddress 36 = .ok (.getfield 72, 3) := by decide +kernel
theorem dX8_findByAddress_39 : decode cX8_findByAddress 39 = .ok (.aload_n 0, 1) := by decide +kernel
theorem dX8_findByAddress_40 : decode cX8_findByAddress 40 = .ok (.getfield 130, 3) := by decide +kernel
theorem dX8_findByAddress_43 : decode cX8_findByAddress 43 = .ok (.iload_n 2, 1) := by decide +kernel
theorem dX8_findByAddress_44 : decode cX8_findByAddress 44 = .ok (.iastore, 1) := by decide +kernel
theorem dX8_findByAddress_45 : decode cX8_findByAddress 45 = .ok (.aload_n 0, 1) := by decide +kernel
theorem dX8_findByAddress_46 : decode cX8_findByAddress 46 = .ok (.dup, 1) := by decide +kernel
theorem dX8_findByAddress_47 : decode cX8_findByAddress 47 = .ok (.getfield 130, 3) := by decide +kernel
theorem dX8_findByAddress_50 : decode cX8_findByAddress 50 = .ok (.iconst 1, 1) := by decide +kernel
theorem dX8_findByAddress_51 : decode cX8_findByAddress 51 = .ok (.iadd, 1) := by decide +kernel
theorem dX8_findByAddress_52 : decode cX8_findByAddress 52 = .ok (.putfield 130, 3) := by decide +kernel
theorem dX8_findByAddress_55 : decode cX8_findByAddress 55 = .ok (.iinc 1 1, 3) := by decide +kernel
theorem dX8_findByAddress_58 : decode cX8_findByAddress 58 = .ok (.goto (-51), 3) := by decide +kernel
theorem dX8_findByAddress_61 : decode cX8_findByAddress 61 = .ok (.return_, 1) := by decide +kernel
set_option maxRecDepth 20000 in
theorem ggX8_mark_X8_free : GoodIn wsX8_mark wsX8_free := goodIn_r _ [10, 11, 12, 13, 3, 14, 15, 34, 35, 36, 37, 38, 39, 40, 41, 42, 43, 44, 45, 46, 47, 48, 49, 50, 51, 52, 53, 54, 55, 56, 57, 58, 59, 60, 61, 62, 63, 64] (by decide +kernel) (by decide +kernel)
set_option maxRecDepth 20000 in
theorem gX8_mark_X8_free : GoodIn wsX8_mark (wsV RX8 112 RX8 yX8_free wsX8_free) := goodIn_app (goodIn_of _ (by decide +kernel)) ggX8_mark_X8_free
set_option maxRecDepth 20000 in
theorem ggX8_mark_X8_gray : GoodIn wsX8_mark wsX8_gray := goodIn_r _ [19, 20, 21, 22, 5, 23, 24, 25, 26, 9, 27, 28, 29, 30, 31, 32, 33, 13, 34, 35, 36, 37, 38, 39, 40, 41, 42, 43, 44, 45, 46, 47, 48, 49, 50, 51, 52, 53, 54, 55, 56, 57, 58, 59, 60, 61, 62, 63, 64] (by decide +kernel) (by decide +kernel)
set_option maxRecDepth 20000 in
theorem gX8_mark_X8_gray : GoodIn wsX8_mark (wsV RX8 133 RX8 yX8_gray wsX8_gray) := goodIn_app (goodIn_of _ (by decide +kernel)) ggX8_mark_X8_gray
theorem dX8_mark_0 : decode cX8_mark 0 = .ok (.aload_n 0, 1) := by decide +kernel
theorem dX8_mark_1 : decode cX8_mark 1 = .ok (.getfield 88, 3) := by decide +kernel
theorem dX8_mark_4 : decode cX8_mark 4 = .ok (.istore_n 1, 1) := by decide +kernel
theorem dX8_mark_5 : decode cX8_mark 5 = .ok (.aload_n 0, 1) := by decide +kernel
theorem dX8_mark_6 : decode cX8_mark 6 = .ok (.iconst 0, 1) := by decide +kernel
theorem dX8_mark_7 : decode cX8_mark 7 = .ok (.putfield 88, 3) := by decide +kernel
theorem dX8_mark_10 : decode cX8_mark 10 = .ok (.iconst 0, 1) := by decide +kernel
theorem dX8_mark_11 : decode cX8_mark 11 = .ok (.istore_n 2, 1) := by decide +kernel
theorem dX8_mark_12 : decode cX8_mark 12 = .ok (.iload_n 2, 1) := by decide +kernel
theorem dX8_mark_13 : decode cX8_mark 13 = .ok (.iload_n 1, 1) := by decide +kernel
theorem dX8_mark_14 : decode cX8_mark 14 = .ok (.if_icmp .ge 85, 3) := by decide +kernel
theorem dX8_mark_17 : decode cX8_mark 17 = .ok (.aload_n 0, 1) := by decide +kernel
theorem dX8_mark_18 : decode cX8_mark 18 = .ok (.getfield 54, 3) := by decide +kernel
theorem dX8_mark_21 : decode cX8_mark 21 = .ok (.iload_n 2, 1) := by decide +kernel
theorem dX8_mark_22 : decode cX8_mark 22 = .ok (.iaload, 1) := by decide +kernel
theorem dX8_mark_23 : decode cX8_mark 23 = .ok (.istore_n 3, 1) := by decide +kernel
theorem dX8_mark_24 : decode cX8_mark 24 = .ok (.aload_n 0, 1) := by decide +kernel
theorem dX8_mark_25 : decode cX8_mark 25 = .ok (.getfield 45, 3) := by decide +kernel
theorem dX8_mark_28 : decode cX8_mark 28 = .ok (.iload_n 3, 1) := by decide +kernel
theorem dX8_mark_29 : decode cX8_mark 29 = .ok (.baload, 1) := by decide +kernel
theorem dX8_mark_30 : decode cX8_mark 30 = .ok (.ifCond .eq 18, 3) := by decide +kernel
theorem dX8_mark_33 : decode cX8_mark 33 = .ok (.aload_n 0, 1) := by decide +kernel
theorem dX8_mark_34 : decode cX8_mark 34 = .ok (.getfield 39, 3) := by decide +kernel
theorem dX8_mark_37 : decode cX8_mark 37 = .ok (.iload_n 3, 1) := by decide +kernel
theorem dX8_mark_38 : decode cX8_mark 38 = .ok (.iconst 0, 1) := by decide +kernel
theorem dX8_mark_39 : decode cX8_mark 39 = .ok (.bastore, 1) := by decide +kernel
theorem dX8_mark_40 : decode cX8_mark 40 = .ok (.aload_n 0, 1) := by decide +kernel
theorem dX8_mark_41 : decode cX8_mark 41 = .ok (.iload_n 3, 1) := by decide +kernel
theorem dX8_mark_42 : decode cX8_mark 42 = .ok (.invokevirtual 112, 3) := by decide +kernel
theorem dX8_mark_45 : decode cX8_mark 45 = .ok (.goto 48, 3) := by decide +kernel
theorem dX8_mark_48 : decode cX8_mark 48 = .ok (.aload_n 0, 1) := by decide +kernel
theorem dX8_mark_49 : decode cX8_mark 49 = .ok (.getfield 30, 3) := by decide +kernel
theorem dX8_mark_52 : decode cX8_mark 52 = .ok (.iload_n 3, 1) := by decide +kernel
theorem dX8_mark_53 : decode cX8_mark 53 = .ok (.iaload, 1) := by decide +kernel
theorem dX8_mark_54 : decode cX8_mark 54 = .ok (.iconst 1, 1) := by decide +kernel
theorem dX8_mark_55 : decode cX8_mark 55 = .ok (.if_icmp .ne 13, 3) := by decide +kernel
theorem dX8_mark_58 : decode cX8_mark 58 = .ok (.aload_n 0, 1) := by decide +kernel
theorem dX8_mark_59 : decode cX8_mark 59 = .ok (.getfield 39, 3) := by decide +kernel
theorem dX8_mark_62 : decode cX8_mark 62 = .ok (.iload_n 3, 1) := by decide +kernel
theorem dX8_mark_63 : decode cX8_mark 63 = .ok (.iconst 0, 1) := by decide +kernel
theorem dX8_mark_64 : decode cX8_mark 64 = .ok (.bastore, 1) := by decide +kernel
theorem dX8_mark_65 : decode cX8_mark 65 = .ok (.goto 28, 3) := by decide +kernel
theorem dX8_mark_68 : decode cX8_mark 68 = .ok (.aload_n 0, 1) := by decide +kernel
theorem dX8_mark_69 : decode cX8_mark 69 = .ok (.iload_n 3, 1) := by decide +kernel
theorem dX8_mark_70 : decode cX8_mark 70 = .ok (.invokevirtual 133, 3) := by decide +kernel
theorem dX8_mark_73 : decode cX8_mark 73 = .ok (.aload_n 0, 1) := by decide +kernel
theorem dX8_mark_74 : decode cX8_mark 74 = .ok (.getfield 54, 3) := by decide +kernel
theorem dX8_mark_77 : decode cX8_mark 77 = .ok (.aload_n 0, 1) := by decide +kernel
theorem dX8_mark_78 : decode cX8_mark 78 = .ok (.getfield 88, 3) := by decide +kernel
theorem dX8_mark_81 : decode cX8_mark 81 = .ok (.iload_n 3, 1) := by decide +kernel
theorem dX8_mark_82 : decode cX8_mark 82 = .ok (.iastore, 1) := by decide +kernel
theorem dX8_mark_83 : decode cX8_mark 83 = .ok (.aload_n 0, 1) := by decide +kernel
theorem dX8_mark_84 : decode cX8_mark 84 = .ok (.dup, 1) := by decide +kernel
theorem dX8_mark_85 : decode cX8_mark 85 = .ok (.getfield 88, 3) := by decide +kernel
theorem dX8_mark_88 : decode cX8_mark 88 = .ok (.iconst 1, 1) := by decide +kernel
theorem dX8_mark_89 : decode cX8_mark 89 = .ok (.iadd, 1) := by decide +kernel
theorem dX8_mark_90 : decode cX8_mark 90 = .ok (.putfield 88, 3) := by decide +kernel
theorem dX8_mark_93 : decode cX8_mark 93 = .ok (.iinc 2 1, 3) := by decide +kernel
theorem dX8_mark_96 : decode cX8_mark 96 = .ok (.goto (-84), 3) := by decide +kernel
theorem dX8_mark_99 : decode cX8_mark 99 = .ok (.return_, 1) := by decide +kernel
set_option maxRecDepth 20000 in
theorem ggX8_gather_X8_isThere : GoodIn wsX8_gather wsX8_isThere := goodIn_r _ [12, 13, 56, 57, 58, 59, 60, 61, 62, 63, 64, 65, 66, 67, 68, 69, 70, 71, 72, 73, 74, 75, 76, 77, 78, 79, 80, 81, 82, 83, 84, 85, 86] (by decide +kernel) (by decide +kernel)
set_option maxRecDepth 20000 in
theorem gX8_gather_X8_isThere : GoodIn wsX8_gather (wsV RX8 78 RX8 yX8_isThere wsX8_isThere) := goodIn_app (goodIn_of _ (by decide +kernel)) ggX8_gather_X8_isThere
set_option maxRecDepth 20000 in
theorem ggX8_gather_X8_fieldsOf : GoodIn wsX8_gather wsX8_fieldsOf := goodIn_r _ [17, 18, 13, 56, 57, 58, 59, 60, 61, 62, 63, 64, 65, 66, 67, 68, 69, 70, 71, 72, 73, 74, 75, 76, 77, 78, 79, 80, 81, 82, 83, 84, 85, 86] (by decide +kernel) (by decide +kernel)
set_option maxRecDepth 20000 in
theorem gX8_gather_X8_fieldsOf : GoodIn wsX8_gather (wsV RX8 108 RX8 yX8_fieldsOf wsX8_fieldsOf) := goodIn_app (goodIn_of _ (by decide +kernel)) ggX8_gather_X8_fieldsOf
set_option maxRecDepth 20000 in
theorem ggX8_gather_X8_less : GoodIn wsX8_gather wsX8_less := goodIn_r _ [22, 23, 24, 25, 7, 2, 26, 27, 28, 29, 11, 30, 31, 6, 3, 1, 32, 33, 34, 35, 36, 13, 37, 38, 39, 40, 41, 42, 43, 44, 45, 46, 47, 14, 15, 16, 17, 18, 48, 49, 50, 51, 52, 53, 54, 55, 56, 57, 58, 59, 60, 61, 62, 63, 64, 65, 66, 67, 68, 69, 70, 71, 72, 73, 74, 75, 76, 77, 78, 79, 80, 81, 82, 83, 84, 85, 86] (by decide +kernel) (by decide +kernel)
set_option maxRecDepth 20000 in
theorem gX8_gather_X8_less : GoodIn wsX8_gather (wsV RX8 136 RX8 yX8_less wsX8_less) := goodIn_app (goodIn_of _ (by decide +kernel)) ggX8_gather_X8_less
set_option maxRecDepth 20000 in
theorem ggX8_gather_X8_free : GoodIn wsX8_gather wsX8_free := goodIn_r _ [51, 52, 53, 13, 26, 54, 55, 56, 57, 58, 59, 60, 61, 62, 63, 64, 65, 66, 67, 68, 69, 70, 71, 72, 73, 74, 75, 76, 77, 78, 79, 80, 81, 82, 83, 84, 85, 86] (by decide +kernel) (by decide +kernel)
set_option maxRecDepth 20000 in
theorem gX8_gather_X8_free : GoodIn wsX8_gather (wsV RX8 112 RX8 yX8_free wsX8_free) := goodIn_app (goodIn_of _ (by decide +kernel)) ggX8_gather_X8_free
theorem dX8_gather_0 : decode cX8_gather 0 = .ok (.iconst 0, 1) := by decide +kernel
theorem dX8_gather_1 : decode cX8_gather 1 = .ok (.istore_n 1, 1) := by decide +kernel
theorem dX8_gather_2 : decode cX8_gather 2 = .ok (.iload_n 1, 1) := by decide +kernel
theorem dX8_gather_3 : decode cX8_gather 3 = .ok (.aload_n 0, 1) := by decide +kernel
theorem dX8_gather_4 : decode cX8_gather 4 = .ok (.getfield 88, 3) := by decide +kernel
theorem dX8_gather_7 : decode cX8_gather 7 = .ok (.if_icmp .ge 21, 3) := by decide +kernel
theorem dX8_gather_10 : decode cX8_gather 10 = .ok (.aload_n 0, 1) := by decide +kernel
theorem dX8_gather_11 : decode cX8_gather 11 = .ok (.getfield 39, 3) := by decide +kernel
theorem dX8_gather_14 : decode cX8_gather 14 = .ok (.aload_n 0, 1) := by decide +kernel
theorem dX8_gather_15 : decode cX8_gather 15 = .ok (.getfield 54, 3) := by decide +kernel
theorem dX8_gather_18 : decode cX8_gather 18 = .ok (.iload_n 1, 1) := by decide +kernel
theorem dX8_gather_19 : decode cX8_gather 19 = .ok (.iaload, 1) := by decide +kernel
theorem dX8_gather_20 : decode cX8_gather 20 = .ok (.iconst 0, 1) := by decide +kernel
theorem dX8_gather_21 : decode cX8_gather 21 = .ok (.bastore, 1) := by decide +kernel
theorem dX8_gather_22 : decode cX8_gather 22 = .ok (.iinc 1 1, 3) := by decide +kernel
theorem dX8_gather_25 : decode cX8_gather 25 = .ok (.goto (-23), 3) := by decide +kernel
theorem dX8_gather_28 : decode cX8_gather 28 = .ok (.aload_n 0, 1) := by decide +kernel
theorem dX8_gather_29 : decode cX8_gather 29 = .ok (.iconst 0, 1) := by decide +kernel
theorem dX8_gather_30 : decode cX8_gather 30 = .ok (.putfield 88, 3) := by decide +kernel
theorem dX8_gather_33 : decode cX8_gather 33 = .ok (.iconst 0, 1) := by decide +kernel
theorem dX8_gather_34 : decode cX8_gather 34 = .ok (.istore_n 1, 1) := by decide +kernel
theorem dX8_gather_35 : decode cX8_gather 35 = .ok (.iload_n 1, 1) := by decide +kernel
theorem dX8_gather_36 : decode cX8_gather 36 = .ok (.aload_n 0, 1) := by decide +kernel
theorem dX8_gather_37 : decode cX8_gather 37 = .ok (.getfield 130, 3) := by decide +kernel
theorem dX8_gather_40 : decode cX8_gather 40 = .ok (.if_icmp .ge 91, 3) := by decide +kernel
theorem dX8_gather_43 : decode cX8_gather 43 = .ok (.aload_n 0, 1) := by decide +kernel
theorem dX8_gather_44 : decode cX8_gather 44 = .ok (.getfield 72, 3) := by decide +kernel
theorem dX8_gather_47 : decode cX8_gather 47 = .ok (.iload_n 1, 1) := by decide +kernel
theorem dX8_gather_48 : decode cX8_gather 48 = .ok (.iaload, 1) := by decide +kernel
theorem dX8_gather_49 : decode cX8_gather 49 = .ok (.istore_n 2, 1) := by decide +kernel
theorem dX8_gather_50 : decode cX8_gather 50 = .ok (.aload_n 0, 1) := by decide +kernel
theorem dX8_gather_51 : decode cX8_gather 51 = .ok (.iload_n 2, 1) := by decide +kernel
theorem dX8_gather_52 : decode cX8_gather 52 = .ok (.invokevirtual 78, 3) := by decide +kernel
theorem dX8_gather_55 : decode cX8_gather 55 = .ok (.ifCond .eq 70, 3) := by decide +kernel
theorem dX8_gather_58 : decode cX8_gather 58 = .ok (.aload_n 0, 1) := by decide +kernel
theorem dX8_gather_59 : decode cX8_gather 59 = .ok (.getfield 30, 3) := by decide +kernel
theorem dX8_gather_62 : decode cX8_gather 62 = .ok (.iload_n 2, 1) := by decide +kernel
theorem dX8_gather_63 : decode cX8_gather 63 = .ok (.iaload, 1) := by decide +kernel
theorem dX8_gather_64 : decode cX8_gather 64 = .ok (.iconst 2, 1) := by decide +kernel
theorem dX8_gather_65 : decode cX8_gather 65 = .ok (.if_icmp .ne 60, 3) := by decide +kernel
theorem dX8_gather_68 : decode cX8_gather 68 = .ok (.iconst 0, 1) := by decide +kernel
theorem dX8_gather_69 : decode cX8_gather 69 = .ok (.istore_n 3, 1) := by decide +kernel
theorem dX8_gather_70 : decode cX8_gather 70 = .ok (.iload_n 3, 1) := by decide +kernel
theorem dX8_gather_71 : decode cX8_gather 71 = .ok (.aload_n 0, 1) := by decide +kernel
theorem dX8_gather_72 : decode cX8_gather 72 = .ok (.iload_n 2, 1) := by decide +kernel
theorem dX8_gather_73 : decode cX8_gather 73 = .ok (.invokevirtual 108, 3) := by decide +kernel
theorem dX8_gather_76 : decode cX8_gather 76 = .ok (.if_icmp .ge 44, 3) := by decide +kernel
theorem dX8_gather_79 : decode cX8_gather 79 = .ok (.aload_n 0, 1) := by decide +kernel
theorem dX8_gather_80 : decode cX8_gather 80 = .ok (.getfield 48, 3) := by decide +kernel
theorem dX8_gather_83 : decode cX8_gather 83 = .ok (.bipush 6, 2) := by decide +kernel
theorem dX8_gather_85 : decode cX8_gather 85 = .ok (.iload_n 2, 1) := by decide +kernel
theorem dX8_gather_86 : decode cX8_gather 86 = .ok (.imul, 1) := by decide +kernel
theorem dX8_gather_87 : decode cX8_gather 87 = .ok (.iload_n 3, 1) := by decide +kernel
theorem dX8_gather_88 : decode cX8_gather 88 = .ok (.iadd, 1) := by decide +kernel
theorem dX8_gather_89 : decode cX8_gather 89 = .ok (.iaload, 1) := by decide +kernel
theorem dX8_gather_90 : decode cX8_gather 90 = .ok (.istore 4, 2) := by decide +kernel
theorem dX8_gather_92 : decode cX8_gather 92 = .ok (.iload 4, 2) := by decide +kernel
theorem dX8_gather_94 : decode cX8_gather 94 = .ok (.ifCond .lt 20, 3) := by decide +kernel
theorem dX8_gather_97 : decode cX8_gather 97 = .ok (.aload_n 0, 1) := by decide +kernel
theorem dX8_gather_98 : decode cX8_gather 98 = .ok (.getfield 30, 3) := by decide +kernel
theorem dX8_gather_101 : decode cX8_gather 101 = .ok (.iload 4, 2) := by decide +kernel
theorem dX8_gather_103 : decode cX8_gather 103 = .ok (.iaload, 1) := by decide +kernel
theorem dX8_gather_104 : decode cX8_gather 104 = .ok (.iconst 4, 1) := by decide +kernel
theorem dX8_gather_105 : decode cX8_gather 105 = .ok (.if_icmp .ne 9, 3) := by decide +kernel
theorem dX8_gather_108 : decode cX8_gather 108 = .ok (.aload_n 0, 1) := by decide +kernel
theorem dX8_gather_109 : decode cX8_gather 109 = .ok (.iload 4, 2) := by decide +kernel
theorem dX8_gather_111 : decode cX8_gather 111 = .ok (.invokevirtual 136, 3) := by decide +kernel
theorem dX8_gather_114 : decode cX8_gather 114 = .ok (.iinc 3 1, 3) := by decide +kernel
theorem dX8_gather_117 : decode cX8_gather 117 = .ok (.goto (-47), 3) := by decide +kernel
theorem dX8_gather_120 : decode cX8_gather 120 = .ok (.aload_n 0, 1) := by decide +kernel
theorem dX8_gather_121 : decode cX8_gather 121 = .ok (.iload_n 2, 1) := by decide +kernel
theorem dX8_gather_122 : decode cX8_gather 122 = .ok (.invokevirtual 112, 3) := by decide +kernel
theorem dX8_gather_125 : decode cX8_gather 125 = .ok (.iinc 1 1, 3) := by decide +kernel
theorem dX8_gather_128 : decode cX8_gather 128 = .ok (.goto (-93), 3) := by decide +kernel
theorem dX8_gather_131 : decode cX8_gather 131 = .ok (.return_, 1) := by decide +kernel
set_option maxRecDepth 20000 in
theorem ggX8_collect_X8_mark : GoodIn wsX8_collect wsX8_mark := goodIn_r _ [14, 4, 5, 15, 16, 8, 17, 18, 19, 13, 20, 21, 22, 23, 24, 2, 25, 26, 27, 28, 29, 30, 31, 9, 32, 33, 34, 35, 36, 37, 38, 39, 40, 41, 94, 95, 96, 97, 98, 99, 100, 101, 102, 103, 104, 105, 106, 107, 108, 109, 110, 111, 112, 113, 114, 115, 116, 117, 118, 119, 120, 121, 122, 123, 124] (by decide +kernel) (by decide +kernel)
set_option maxRecDepth 20000 in
theorem gX8_collect_X8_mark : GoodIn wsX8_collect (wsV RX8 142 RX8 yX8_mark wsX8_mark) := goodIn_app (goodIn_of _ (by decide +kernel)) ggX8_collect_X8_mark
set_option maxRecDepth 20000 in
theorem ggX8_collect_X8_scan : GoodIn wsX8_collect wsX8_scan := goodIn_r _ [45, 29, 30, 31, 46, 47, 48, 13, 49, 8, 9, 50, 51, 52, 53, 54, 55, 56, 57, 58, 59, 37, 38, 39, 40, 41, 23, 94, 95, 96, 97, 98, 99, 100, 101, 102, 103, 104, 105, 106, 107, 108, 109, 110, 111, 112, 113, 114, 115, 116, 117, 118, 119, 120, 121, 122, 123, 124] (by decide +kernel) (by decide +kernel)
set_option maxRecDepth 20000 in
theorem gX8_collect_X8_scan : GoodIn wsX8_collect (wsV RX8 145 RX8 yX8_scan wsX8_scan) := goodIn_app (goodIn_of _ (by decide +kernel)) ggX8_collect_X8_scan
set_option maxRecDepth 20000 in
theorem ggX8_collect_X8_findByAddress : GoodIn wsX8_collect wsX8_findByAddress := goodIn_r _ [63, 6, 21, 64, 7, 94, 95, 96, 97, 98, 99, 100, 101, 102, 103, 104, 105, 106, 107, 108, 109, 110, 111, 112, 113, 114, 115, 116, 117, 118, 119, 120, 121, 122, 123, 124] (by decide +kernel) (by decide +kernel)
set_option maxRecDepth 20000 in
theorem gX8_collect_X8_findByAddress : GoodIn wsX8_collect (wsV RX8 148 RX8 yX8_findByAddress wsX8_findByAddress) := goodIn_app (goodIn_of _ (by decide +kernel)) ggX8_collect_X8_findByAddress
set_option maxRecDepth 20000 in
theorem ggX8_collect_X8_hasWish : GoodIn wsX8_collect wsX8_hasWish := goodIn_r _ [68, 69, 23, 70, 94, 95, 96, 97, 98, 99, 100, 101, 102, 103, 104, 105, 106, 107, 108, 109, 110, 111, 112, 113, 114, 115, 116, 117, 118, 119, 120, 121, 122, 123, 124] (by decide +kernel) (by decide +kernel)
set_option maxRecDepth 20000 in
theorem gX8_collect_X8_hasWish : GoodIn wsX8_collect (wsV RX8 91 RX8 yX8_hasWish wsX8_hasWish) := goodIn_app (goodIn_of _ (by decide +kernel)) ggX8_collect_X8_hasWish
set_option maxRecDepth 20000 in
theorem ggX8_collect_X8_comesToWishes : GoodIn wsX8_collect wsX8_comesToWishes := goodIn_r _ [74, 70, 75, 76, 94, 95, 96, 97, 98, 99, 100, 101, 102, 103, 104, 105, 106, 107, 108, 109, 110, 111, 112, 113, 114, 115, 116, 117, 118, 119, 120, 121, 122, 123, 124] (by decide +kernel) (by decide +kernel)
set_option maxRecDepth 20000 in
theorem gX8_collect_X8_comesToWishes : GoodIn wsX8_collect (wsV RX8 94 RX8 yX8_comesToWishes wsX8_comesToWishes) := goodIn_app (goodIn_of _ (by decide +kernel)) ggX8_collect_X8_comesToWishes
set_option maxRecDepth 20000 in
theorem ggX8_collect_X8_blacken : GoodIn wsX8_collect wsX8_blacken := goodIn_r _ [53, 54, 55, 31, 8, 9, 56, 57, 58, 13, 59, 37, 38, 39, 40, 41, 23, 94, 95, 96, 97, 98, 99, 100, 101, 102, 103, 104, 105, 106, 107, 108, 109, 110, 111, 112, 113, 114, 115, 116, 117, 118, 119, 120, 121, 122, 123, 124] (by decide +kernel) (by decide +kernel)
set_option maxRecDepth 20000 in
theorem gX8_collect_X8_blacken : GoodIn wsX8_collect (wsV RX8 127 RX8 yX8_blacken wsX8_blacken) := goodIn_app (goodIn_of _ (by decide +kernel)) ggX8_collect_X8_blacken
set_option maxRecDepth 20000 in
theorem ggX8_collect_X8_gather : GoodIn wsX8_collect wsX8_gather := goodIn_r _ [80, 4, 16, 5, 6, 7, 8, 31, 81, 82, 83, 13, 84, 23, 37, 38, 39, 40, 41, 85, 86, 87, 88, 29, 30, 89, 15, 90, 91, 92, 93, 9, 65, 66, 67, 68, 69, 70, 71, 72, 73, 74, 75, 76, 56, 57, 58, 59, 17, 18, 19, 20, 21, 22, 24, 2, 94, 95, 96, 97, 98, 99, 100, 101, 102, 103, 104, 105, 106, 107, 108, 109, 110, 111, 112, 113, 114, 115, 116, 117, 118, 119, 120, 121, 122, 123, 124] (by decide +kernel) (by decide +kernel)
set_option maxRecDepth 20000 in
theorem gX8_collect_X8_gather : GoodIn wsX8_collect (wsV RX8 151 RX8 yX8_gather wsX8_gather) := goodIn_app (goodIn_of _ (by decide +kernel)) ggX8_collect_X8_gather
theorem dX8_collect_0 : decode cX8_collect 0 = .ok (.aload_n 0, 1) := by decide +kernel
theorem dX8_collect_1 : decode cX8_collect 1 = .ok (.iconst 0, 1) := by decide +kernel
theorem dX8_collect_2 : decode cX8_collect 2 = .ok (.putfield 1, 3) := by decide +kernel
theorem dX8_collect_5 : decode cX8_collect 5 = .ok (.aload_n 0, 1) := by decide +kernel
theorem dX8_collect_6 : decode cX8_collect 6 = .ok (.getfield 82, 3) := by decide +kernel
theorem dX8_collect_9 : decode cX8_collect 9 = .ok (.istore_n 1, 1) := by decide +kernel
theorem dX8_collect_10 : decode cX8_collect 10 = .ok (.aload_n 0, 1) := by decide +kernel
theorem dX8_collect_11 : decode cX8_collect 11 = .ok (.dup, 1) := by decide +kernel
theorem dX8_collect_12 : decode cX8_collect 12 = .ok (.getfield 139, 3) := by decide +kernel
theorem dX8_collect_15 : decode cX8_collect 15 = .ok (.iconst 1, 1) := by decide +kernel
theorem dX8_collect_16 : decode cX8_collect 16 = .ok (.iadd, 1) := by decide +kernel
theorem dX8_collect_17 : decode cX8_collect 17 = .ok (.putfield 139, 3) := by decide +kernel
theorem dX8_collect_20 : decode cX8_collect 20 = .ok (.aload_n 0, 1) := by decide +kernel
theorem dX8_collect_21 : decode cX8_collect 21 = .ok (.invokevirtual 142, 3) := by decide +kernel
theorem dX8_collect_24 : decode cX8_collect 24 = .ok (.iconst 0, 1) := by decide +kernel
theorem dX8_collect_25 : decode cX8_collect 25 = .ok (.istore_n 2, 1) := by decide +kernel
theorem dX8_collect_26 : decode cX8_collect 26 = .ok (.iload_n 2, 1) := by decide +kernel
theorem dX8_collect_27 : decode cX8_collect 27 = .ok (.aload_n 0, 1) := by decide +kernel
theorem dX8_collect_28 : decode cX8_collect 28 = .ok (.getfield 88, 3) := by decide +kernel
theorem dX8_collect_31 : decode cX8_collect 31 = .ok (.if_icmp .ge 19, 3) := by decide +kernel
theorem dX8_collect_34 : decode cX8_collect 34 = .ok (.aload_n 0, 1) := by decide +kernel
theorem dX8_collect_35 : decode cX8_collect 35 = .ok (.aload_n 0, 1) := by decide +kernel
theorem dX8_collect_36 : decode cX8_collect 36 = .ok (.getfield 54, 3) := by decide +kernel
theorem dX8_collect_39 : decode cX8_collect 39 = .ok (.iload_n 2, 1) := by decide +kernel
theorem dX8_collect_40 : decode cX8_collect 40 = .ok (.iaload, 1) := by decide +kernel
theorem dX8_collect_41 : decode cX8_collect 41 = .ok (.invokevirtual 145, 3) := by decide +kernel
theorem dX8_collect_44 : decode cX8_collect 44 = .ok (.iinc 2 1, 3) := by decide +kernel
theorem dX8_collect_47 : decode cX8_collect 47 = .ok (.goto (-21), 3) := by decide +kernel
theorem dX8_collect_50 : decode cX8_collect 50 = .ok (.aload_n 0, 1) := by decide +kernel
theorem dX8_collect_51 : decode cX8_collect 51 = .ok (.invokevirtual 148, 3) := by decide +kernel
theorem dX8_collect_54 : decode cX8_collect 54 = .ok (.iconst 0, 1) := by decide +kernel
theorem dX8_collect_55 : decode cX8_collect 55 = .ok (.istore_n 2, 1) := by decide +kernel
theorem dX8_collect_56 : decode cX8_collect 56 = .ok (.iload_n 2, 1) := by decide +kernel
theorem dX8_collect_57 : decode cX8_collect 57 = .ok (.aload_n 0, 1) := by decide +kernel
theorem dX8_collect_58 : decode cX8_collect 58 = .ok (.getfield 130, 3) := by decide +kernel
theorem dX8_collect_61 : decode cX8_collect 61 = .ok (.if_icmp .ge 54, 3) := by decide +kernel
theorem dX8_collect_64 : decode cX8_collect 64 = .ok (.aload_n 0, 1) := by decide +kernel
theorem dX8_collect_65 : decode cX8_collect 65 = .ok (.getfield 72, 3) := by decide +kernel
theorem dX8_collect_68 : decode cX8_collect 68 = .ok (.iload_n 2, 1) := by decide +kernel
theorem dX8_collect_69 : decode cX8_collect 69 = .ok (.iaload, 1) := by decide +kernel
theorem dX8_collect_70 : decode cX8_collect 70 = .ok (.istore_n 3, 1) := by decide +kernel
theorem dX8_collect_71 : decode cX8_collect 71 = .ok (.aload_n 0, 1) := by decide +kernel
theorem dX8_collect_72 : decode cX8_collect 72 = .ok (.getfield 30, 3) := by decide +kernel
theorem dX8_collect_75 : decode cX8_collect 75 = .ok (.iload_n 3, 1) := by decide +kernel
theorem dX8_collect_76 : decode cX8_collect 76 = .ok (.iaload, 1) := by decide +kernel
theorem dX8_collect_77 : decode cX8_collect 77 = .ok (.iconst 2, 1) := by decide +kernel
theorem dX8_collect_78 : decode cX8_collect 78 = .ok (.if_icmp .ne 31, 3) := by decide +kernel
theorem dX8_collect_81 : decode cX8_collect 81 = .ok (.aload_n 0, 1) := by decide +kernel
theorem dX8_collect_82 : decode cX8_collect 82 = .ok (.iload_n 3, 1) := by decide +kernel
theorem dX8_collect_83 : decode cX8_collect 83 = .ok (.invokevirtual 91, 3) := by decide +kernel
theorem dX8_collect_86 : decode cX8_collect 86 = .ok (.ifCond .eq 23, 3) := by decide +kernel
theorem dX8_collect_89 : decode cX8_collect 89 = .ok (.aload_n 0, 1) := by decide +kernel
theorem dX8_collect_90 : decode cX8_collect 90 = .ok (.iload_n 3, 1) := by decide +kernel
theorem dX8_collect_91 : decode cX8_collect 91 = .ok (.invokevirtual 94, 3) := by decide +kernel
theorem dX8_collect_94 : decode cX8_collect 94 = .ok (.aload_n 0, 1) := by decide +kernel
theorem dX8_collect_95 : decode cX8_collect 95 = .ok (.getfield 27, 3) := by decide +kernel
theorem dX8_collect_98 : decode cX8_collect 98 = .ok (.iload_n 3, 1) := by decide +kernel
theorem dX8_collect_99 : decode cX8_collect 99 = .ok (.dup2, 1) := by decide +kernel
theorem dX8_collect_100 : decode cX8_collect 100 = .ok (.iaload, 1) := by decide +kernel
theorem dX8_collect_101 : decode cX8_collect 101 = .ok (.iconst 1, 1) := by decide +kernel
theorem dX8_collect_102 : decode cX8_collect 102 = .ok (.iadd, 1) := by decide +kernel
theorem dX8_collect_103 : decode cX8_collect 103 = .ok (.iastore, 1) := by decide +kernel
theorem dX8_collect_104 : decode cX8_collect 104 = .ok (.aload_n 0, 1) := by decide +kernel
theorem dX8_collect_105 : decode cX8_collect 105 = .ok (.iload_n 3, 1) := by decide +kernel
theorem dX8_collect_106 : decode cX8_collect 106 = .ok (.invokevirtual 127, 3) := by decide +kernel
theorem dX8_collect_109 : decode cX8_collect 109 = .ok (.iinc 2 1, 3) := by decide +kernel
theorem dX8_collect_112 : decode cX8_collect 112 = .ok (.goto (-56), 3) := by decide +kernel
theorem dX8_collect_115 : decode cX8_collect 115 = .ok (.aload_n 0, 1) := by decide +kernel
theorem dX8_collect_116 : decode cX8_collect 116 = .ok (.invokevirtual 151, 3) := by decide +kernel
theorem dX8_collect_119 : decode cX8_collect 119 = .ok (.aload_n 0, 1) := by decide +kernel
theorem dX8_collect_120 : decode cX8_collect 120 = .ok (.getfield 82, 3) := by decide +kernel
theorem dX8_collect_123 : decode cX8_collect 123 = .ok (.iload_n 1, 1) := by decide +kernel
theorem dX8_collect_124 : decode cX8_collect 124 = .ok (.isub, 1) := by decide +kernel
theorem dX8_collect_125 : decode cX8_collect 125 = .ok (.ireturn, 1) := by decide +kernel
theorem dX8_place_0 : decode cX8_place 0 = .ok (.iconst 0, 1) := by decide +kernel
theorem dX8_place_1 : decode cX8_place 1 = .ok (.istore_n 2, 1) := by decide +kernel
theorem dX8_place_2 : decode cX8_place 2 = .ok (.iconst 0, 1) := by decide +kernel
theorem dX8_place_3 : decode cX8_place 3 = .ok (.istore_n 3, 1) := by decide +kernel
theorem dX8_place_4 : decode cX8_place 4 = .ok (.iload_n 3, 1) := by decide +kernel
theorem dX8_place_5 : decode cX8_place 5 = .ok (.sipush 400, 3) := by decide +kernel
theorem dX8_place_8 : decode cX8_place 8 = .ok (.if_icmp .ge 37, 3) := by decide +kernel
theorem dX8_place_11 : decode cX8_place 11 = .ok (.aload_n 0, 1) := by decide +kernel
theorem dX8_place_12 : decode cX8_place 12 = .ok (.getfield 51, 3) := by decide +kernel
theorem dX8_place_15 : decode cX8_place 15 = .ok (.iload_n 3, 1) := by decide +kernel
theorem dX8_place_16 : decode cX8_place 16 = .ok (.iaload, 1) := by decide +kernel
theorem dX8_place_17 : decode cX8_place 17 = .ok (.ifCond .ge 9, 3) := by decide +kernel
theorem dX8_place_20 : decode cX8_place 20 = .ok (.iload_n 2, 1) := by decide +kernel
theorem dX8_place_21 : decode cX8_place 21 = .ok (.iconst 1, 1) := by decide +kernel
theorem dX8_place_22 : decode cX8_place 22 = .ok (.iadd, 1) := by decide +kernel
theorem dX8_place_23 : decode cX8_place 23 = .ok (.goto 4, 3) := by decide +kernel
theorem dX8_place_26 : decode cX8_place 26 = .ok (.iconst 0, 1) := by decide +kernel
theorem dX8_place_27 : decode cX8_place 27 = .ok (.istore_n 2, 1) := by decide +kernel
theorem dX8_place_28 : decode cX8_place 28 = .ok (.iload_n 2, 1) := by decide +kernel
theorem dX8_place_29 : decode cX8_place 29 = .ok (.iload_n 1, 1) := by decide +kernel
theorem dX8_place_30 : decode cX8_place 30 = .ok (.if_icmp .ne 9, 3) := by decide +kernel
theorem dX8_place_33 : decode cX8_place 33 = .ok (.iload_n 3, 1) := by decide +kernel
theorem dX8_place_34 : decode cX8_place 34 = .ok (.iconst 1, 1) := by decide +kernel
theorem dX8_place_35 : decode cX8_place 35 = .ok (.iadd, 1) := by decide +kernel
theorem dX8_place_36 : decode cX8_place 36 = .ok (.iload_n 1, 1) := by decide +kernel
theorem dX8_place_37 : decode cX8_place 37 = .ok (.isub, 1) := by decide +kernel
theorem dX8_place_38 : decode cX8_place 38 = .ok (.ireturn, 1) := by decide +kernel
theorem dX8_place_39 : decode cX8_place 39 = .ok (.iinc 3 1, 3) := by decide +kernel
theorem dX8_place_42 : decode cX8_place 42 = .ok (.goto (-38), 3) := by decide +kernel
theorem dX8_place_45 : decode cX8_place 45 = .ok (.iconst (-1), 1) := by decide +kernel
theorem dX8_place_46 : decode cX8_place 46 = .ok (.ireturn, 1) := by decide +kernel
theorem dX8_number_0 : decode cX8_number 0 = .ok (.iconst 0, 1) := by decide +kernel
theorem dX8_number_1 : decode cX8_number 1 = .ok (.istore_n 1, 1) := by decide +kernel
theorem dX8_number_2 : decode cX8_number 2 = .ok (.iload_n 1, 1) := by decide +kernel
theorem dX8_number_3 : decode cX8_number 3 = .ok (.bipush 80, 2) := by decide +kernel
theorem dX8_number_5 : decode cX8_number 5 = .ok (.if_icmp .ge 18, 3) := by decide +kernel
theorem dX8_number_8 : decode cX8_number 8 = .ok (.aload_n 0, 1) := by decide +kernel
theorem dX8_number_9 : decode cX8_number 9 = .ok (.getfield 24, 3) := by decide +kernel
theorem dX8_number_12 : decode cX8_number 12 = .ok (.iload_n 1, 1) := by decide +kernel
theorem dX8_number_13 : decode cX8_number 13 = .ok (.iaload, 1) := by decide +kernel
theorem dX8_number_14 : decode cX8_number 14 = .ok (.ifCond .lt 9, 3) := by decide +kernel
theorem dX8_number_17 : decode cX8_number 17 = .ok (.iinc 1 1, 3) := by decide +kernel
theorem dX8_number_20 : decode cX8_number 20 = .ok (.goto (-18), 3) := by decide +kernel
theorem dX8_number_23 : decode cX8_number 23 = .ok (.iload_n 1, 1) := by decide +kernel
theorem dX8_number_24 : decode cX8_number 24 = .ok (.bipush 80, 2) := by decide +kernel
theorem dX8_number_26 : decode cX8_number 26 = .ok (.if_icmp .ge 7, 3) := by decide +kernel
theorem dX8_number_29 : decode cX8_number 29 = .ok (.iload_n 1, 1) := by decide +kernel
theorem dX8_number_30 : decode cX8_number 30 = .ok (.goto 4, 3) := by decide +kernel
theorem dX8_number_33 : decode cX8_number 33 = .ok (.iconst (-1), 1) := by decide +kernel
theorem dX8_number_34 : decode cX8_number 34 = .ok (.ireturn, 1) := by decide +kernel
theorem dX8_freeWords_0 : decode cX8_freeWords 0 = .ok (.iconst 0, 1) := by decide +kernel
theorem dX8_freeWords_1 : decode cX8_freeWords 1 = .ok (.istore_n 1, 1) := by decide +kernel
theorem dX8_freeWords_2 : decode cX8_freeWords 2 = .ok (.iconst 0, 1) := by decide +kernel
theorem dX8_freeWords_3 : decode cX8_freeWords 3 = .ok (.istore_n 2, 1) := by decide +kernel
theorem dX8_freeWords_4 : decode cX8_freeWords 4 = .ok (.iload_n 2, 1) := by decide +kernel
theorem dX8_freeWords_5 : decode cX8_freeWords 5 = .ok (.sipush 400, 3) := by decide +kernel
theorem dX8_freeWords_8 : decode cX8_freeWords 8 = .ok (.if_icmp .ge 26, 3) := by decide +kernel
theorem dX8_freeWords_11 : decode cX8_freeWords 11 = .ok (.iload_n 1, 1) := by decide +kernel
theorem dX8_freeWords_12 : decode cX8_freeWords 12 = .ok (.aload_n 0, 1) := by decide +kernel
theorem dX8_freeWords_13 : decode cX8_freeWords 13 = .ok (.getfield 51, 3) := by decide +kernel
theorem dX8_freeWords_16 : decode cX8_freeWords 16 = .ok (.iload_n 2, 1) := by decide +kernel
theorem dX8_freeWords_17 : decode cX8_freeWords 17 = .ok (.iaload, 1) := by decide +kernel
theorem dX8_freeWords_18 : decode cX8_freeWords 18 = .ok (.ifCond .ge 7, 3) := by decide +kernel
theorem dX8_freeWords_21 : decode cX8_freeWords 21 = .ok (.iconst 1, 1) := by decide +kernel
theorem dX8_freeWords_22 : decode cX8_freeWords 22 = .ok (.goto 4, 3) := by decide +kernel
theorem dX8_freeWords_25 : decode cX8_freeWords 25 = .ok (.iconst 0, 1) := by decide +kernel
theorem dX8_freeWords_26 : decode cX8_freeWords 26 = .ok (.iadd, 1) := by decide +kernel
theorem dX8_freeWords_27 : decode cX8_freeWords 27 = .ok (.istore_n 1, 1) := by decide +kernel
theorem dX8_freeWords_28 : decode cX8_freeWords 28 = .ok (.iinc 2 1, 3) := by decide +kernel
theorem dX8_freeWords_31 : decode cX8_freeWords 31 = .ok (.goto (-27), 3) := by decide +kernel
theorem dX8_freeWords_34 : decode cX8_freeWords 34 = .ok (.iload_n 1, 1) := by decide +kernel
theorem dX8_freeWords_35 : decode cX8_freeWords 35 = .ok (.ireturn, 1) := by decide +kernel
set_option maxRecDepth 20000 in
theorem ggX8_pack_X8_findByAddress : GoodIn wsX8_pack wsX8_findByAddress := goodIn_r _ [13, 4, 3, 6, 5, 14, 15, 16, 17, 18, 19, 20, 21, 22, 23, 24, 25, 26, 27, 28, 29, 30, 31, 32, 33, 34, 35, 36, 37, 38, 39, 40, 41, 42, 43, 44] (by decide +kernel) (by decide +kernel)
set_option maxRecDepth 20000 in
theorem gX8_pack_X8_findByAddress : GoodIn wsX8_pack (wsV RX8 148 RX8 yX8_findByAddress wsX8_findByAddress) := goodIn_app (goodIn_of _ (by decide +kernel)) ggX8_pack_X8_findByAddress
theorem dX8_pack_0 : decode cX8_pack 0 = .ok (.aload_n 0, 1) := by decide +kernel
theorem dX8_pack_1 : decode cX8_pack 1 = .ok (.iconst 0, 1) := by decide +kernel
theorem dX8_pack_2 : decode cX8_pack 2 = .ok (.putfield 1, 3) := by decide +kernel
theorem dX8_pack_5 : decode cX8_pack 5 = .ok (.aload_n 0, 1) := by decide +kernel
theorem dX8_pack_6 : decode cX8_pack 6 = .ok (.dup, 1) := by decide +kernel
theorem dX8_pack_7 : decode cX8_pack 7 = .ok (.getfield 154, 3) := by decide +kernel
theorem dX8_pack_10 : decode cX8_pack 10 = .ok (.iconst 1, 1) := by decide +kernel
theorem dX8_pack_11 : decode cX8_pack 11 = .ok (.iadd, 1) := by decide +kernel
theorem dX8_pack_12 : decode cX8_pack 12 = .ok (.putfield 154, 3) := by decide +kernel
theorem dX8_pack_15 : decode cX8_pack 15 = .ok (.aload_n 0, 1) := by decide +kernel
theorem dX8_pack_16 : decode cX8_pack 16 = .ok (.invokevirtual 148, 3) := by decide +kernel
theorem dX8_pack_19 : decode cX8_pack 19 = .ok (.iconst 0, 1) := by decide +kernel
theorem dX8_pack_20 : decode cX8_pack 20 = .ok (.istore_n 1, 1) := by decide +kernel
theorem dX8_pack_21 : decode cX8_pack 21 = .ok (.iload_n 1, 1) := by decide +kernel
theorem dX8_pack_22 : decode cX8_pack 22 = .ok (.sipush 400, 3) := by decide +kernel
theorem dX8_pack_25 : decode cX8_pack 25 = .ok (.if_icmp .ge 16, 3) := by decide +kernel
theorem dX8_pack_28 : decode cX8_pack 28 = .ok (.aload_n 0, 1) := by decide +kernel
theorem dX8_pack_29 : decode cX8_pack 29 = .ok (.getfield 51, 3) := by decide +kernel
theorem dX8_pack_32 : decode cX8_pack 32 = .ok (.iload_n 1, 1) := by decide +kernel
theorem dX8_pack_33 : decode cX8_pack 33 = .ok (.iconst (-1), 1) := by decide +kernel
theorem dX8_pack_34 : decode cX8_pack 34 = .ok (.iastore, 1) := by decide +kernel
theorem dX8_pack_35 : decode cX8_pack 35 = .ok (.iinc 1 1, 3) := by decide +kernel
theorem dX8_pack_38 : decode cX8_pack 38 = .ok (.goto (-17), 3) := by decide +kernel
theorem dX8_pack_41 : decode cX8_pack 41 = .ok (.iconst 0, 1) := by decide +kernel
theorem dX8_pack_42 : decode cX8_pack 42 = .ok (.istore_n 1, 1) := by decide +kernel
theorem dX8_pack_43 : decode cX8_pack 43 = .ok (.iconst 0, 1) := by decide +kernel
theorem dX8_pack_44 : decode cX8_pack 44 = .ok (.istore_n 2, 1) := by decide +kernel
theorem dX8_pack_45 : decode cX8_pack 45 = .ok (.iconst 0, 1) := by decide +kernel
theorem dX8_pack_46 : decode cX8_pack 46 = .ok (.istore_n 3, 1) := by decide +kernel
theorem dX8_pack_47 : decode cX8_pack 47 = .ok (.iload_n 3, 1) := by decide +kernel
theorem dX8_pack_48 : decode cX8_pack 48 = .ok (.aload_n 0, 1) := by decide +kernel
theorem dX8_pack_49 : decode cX8_pack 49 = .ok (.getfield 130, 3) := by decide +kernel
theorem dX8_pack_52 : decode cX8_pack 52 = .ok (.if_icmp .ge 81, 3) := by decide +kernel
theorem dX8_pack_55 : decode cX8_pack 55 = .ok (.aload_n 0, 1) := by decide +kernel
theorem dX8_pack_56 : decode cX8_pack 56 = .ok (.getfield 72, 3) := by decide +kernel
theorem dX8_pack_59 : decode cX8_pack 59 = .ok (.iload_n 3, 1) := by decide +kernel
theorem dX8_pack_60 : decode cX8_pack 60 = .ok (.iaload, 1) := by decide +kernel
theorem dX8_pack_61 : decode cX8_pack 61 = .ok (.istore 4, 2) := by decide +kernel
theorem dX8_pack_63 : decode cX8_pack 63 = .ok (.iload_n 2, 1) := by decide +kernel
theorem dX8_pack_64 : decode cX8_pack 64 = .ok (.aload_n 0, 1) := by decide +kernel
theorem dX8_pack_65 : decode cX8_pack 65 = .ok (.getfield 33, 3) := by decide +kernel
theorem dX8_pack_68 : decode cX8_pack 68 = .ok (.iload 4, 2) := by decide +kernel
theorem dX8_pack_70 : decode cX8_pack 70 = .ok (.iaload, 1) := by decide +kernel
theorem dX8_pack_71 : decode cX8_pack 71 = .ok (.iload_n 1, 1) := by decide +kernel
theorem dX8_pack_72 : decode cX8_pack 72 = .ok (.if_icmp .eq 7, 3) := by decide +kernel
theorem dX8_pack_75 : decode cX8_pack 75 = .ok (.iconst 1, 1) := by decide +kernel
theorem dX8_pack_76 : decode cX8_pack 76 = .ok (.goto 4, 3) := by decide +kernel
theorem dX8_pack_79 : decode cX8_pack 79 = .ok (.iconst 0, 1) := by decide +kernel
theorem dX8_pack_80 : decode cX8_pack 80 = .ok (.iadd, 1) := by decide +kernel
theorem dX8_pack_81 : decode cX8_pack 81 = .ok (.istore_n 2, 1) := by decide +kernel
theorem dX8_pack_82 : decode cX8_pack 82 = .ok (.aload_n 0, 1) := by decide +kernel
theorem dX8_pack_83 : decode cX8_pack 83 = .ok (.getfield 33, 3) := by decide +kernel
theorem dX8_pack_86 : decode cX8_pack 86 = .ok (.iload 4, 2) := by decide +kernel
theorem dX8_pack_88 : decode cX8_pack 88 = .ok (.iload_n 1, 1) := by decide +kernel
theorem dX8_pack_89 : decode cX8_pack 89 = .ok (.iastore, 1) := by decide +kernel
theorem dX8_pack_90 : decode cX8_pack 90 = .ok (.iconst 0, 1) := by decide +kernel
theorem dX8_pack_91 : decode cX8_pack 91 = .ok (.istore 5, 2) := by decide +kernel
theorem dX8_pack_93 : decode cX8_pack 93 = .ok (.iload 5, 2) := by decide +kernel
theorem dX8_pack_95 : decode cX8_pack 95 = .ok (.aload_n 0, 1) := by decide +kernel
theorem dX8_pack_96 : decode cX8_pack 96 = .ok (.getfield 17, 3) := by decide +kernel
theorem dX8_pack_99 : decode cX8_pack 99 = .ok (.aload_n 0, 1) := by decide +kernel
theorem dX8_pack_100 : decode cX8_pack 100 = .ok (.getfield 24, 3) := by decide +kernel
theorem dX8_pack_103 : decode cX8_pack 103 = .ok (.iload 4, 2) := by decide +kernel
theorem dX8_pack_105 : decode cX8_pack 105 = .ok (.iaload, 1) := by decide +kernel
theorem dX8_pack_106 : decode cX8_pack 106 = .ok (.iaload, 1) := by decide +kernel
theorem dX8_pack_107 : decode cX8_pack 107 = .ok (.if_icmp .ge 20, 3) := by decide +kernel
theorem dX8_pack_110 : decode cX8_pack 110 = .ok (.aload_n 0, 1) := by decide +kernel
theorem dX8_pack_111 : decode cX8_pack 111 = .ok (.getfield 51, 3) := by decide +kernel
theorem dX8_pack_114 : decode cX8_pack 114 = .ok (.iload_n 1, 1) := by decide +kernel
theorem dX8_pack_115 : decode cX8_pack 115 = .ok (.iload 4, 2) := by decide +kernel
theorem dX8_pack_117 : decode cX8_pack 117 = .ok (.iastore, 1) := by decide +kernel
theorem dX8_pack_118 : decode cX8_pack 118 = .ok (.iinc 1 1, 3) := by decide +kernel
theorem dX8_pack_121 : decode cX8_pack 121 = .ok (.iinc 5 1, 3) := by decide +kernel
theorem dX8_pack_124 : decode cX8_pack 124 = .ok (.goto (-31), 3) := by decide +kernel
theorem dX8_pack_127 : decode cX8_pack 127 = .ok (.iinc 3 1, 3) := by decide +kernel
theorem dX8_pack_130 : decode cX8_pack 130 = .ok (.goto (-83), 3) := by decide +kernel
theorem dX8_pack_133 : decode cX8_pack 133 = .ok (.iload_n 2, 1) := by decide +kernel
theorem dX8_pack_134 : decode cX8_pack 134 = .ok (.ireturn, 1) := by decide +kernel
set_option maxRecDepth 20000 in
theorem ggX8_make_X8_place : GoodIn wsX8_make wsX8_place := goodIn_r _ [18, 13, 117, 118, 119, 120, 121, 122, 123, 124, 125, 126, 127, 128, 129, 130, 131, 132, 133, 134, 135, 136, 137, 138, 139, 140, 141, 142, 143, 144, 145, 146, 147] (by decide +kernel) (by decide +kernel)
set_option maxRecDepth 20000 in
theorem gX8_make_X8_place : GoodIn wsX8_make (wsV RX8 157 RX8 yX8_place wsX8_place) := goodIn_app (goodIn_of _ (by decide +kernel)) ggX8_make_X8_place
set_option maxRecDepth 20000 in
theorem ggX8_make_X8_number : GoodIn wsX8_make wsX8_number := goodIn_r _ [22, 4, 117, 118, 119, 120, 121, 122, 123, 124, 125, 126, 127, 128, 129, 130, 131, 132, 133, 134, 135, 136, 137, 138, 139, 140, 141, 142, 143, 144, 145, 146, 147] (by decide +kernel) (by decide +kernel)
set_option maxRecDepth 20000 in
theorem gX8_make_X8_number : GoodIn wsX8_make (wsV RX8 160 RX8 yX8_number wsX8_number) := goodIn_app (goodIn_of _ (by decide +kernel)) ggX8_make_X8_number
set_option maxRecDepth 20000 in
theorem ggX8_make_X8_collect : GoodIn wsX8_make wsX8_collect := goodIn_r _ [26, 2, 27, 28, 29, 30, 31, 32, 7, 5, 33, 34, 35, 17, 36, 11, 9, 37, 38, 39, 40, 13, 41, 4, 42, 43, 44, 45, 46, 47, 48, 12, 49, 50, 51, 52, 53, 54, 55, 56, 57, 1, 58, 59, 60, 61, 62, 63, 64, 65, 66, 67, 68, 69, 70, 71, 72, 73, 74, 75, 76, 77, 78, 79, 8, 80, 81, 82, 83, 84, 10, 85, 86, 87, 88, 89, 90, 91, 92, 93, 94, 95, 96, 97, 98, 99, 100, 101, 102, 103, 104, 105, 106, 107, 117, 118, 119, 120, 121, 122, 123, 124, 125, 126, 127, 128, 129, 130, 131, 132, 133, 134, 135, 136, 137, 138, 139, 140, 141, 142, 143, 144, 145, 146, 147] (by decide +kernel) (by decide +kernel)
set_option maxRecDepth 20000 in
theorem gX8_make_X8_collect : GoodIn wsX8_make (wsV RX8 164 RX8 yX8_collect wsX8_collect) := goodIn_app (goodIn_of _ (by decide +kernel)) ggX8_make_X8_collect
set_option maxRecDepth 20000 in
theorem ggX8_make_X8_freeWords : GoodIn wsX8_make wsX8_freeWords := goodIn_r _ [111, 13, 117, 118, 119, 120, 121, 122, 123, 124, 125, 126, 127, 128, 129, 130, 131, 132, 133, 134, 135, 136, 137, 138, 139, 140, 141, 142, 143, 144, 145, 146, 147] (by decide +kernel) (by decide +kernel)
set_option maxRecDepth 20000 in
theorem gX8_make_X8_freeWords : GoodIn wsX8_make (wsV RX8 167 RX8 yX8_freeWords wsX8_freeWords) := goodIn_app (goodIn_of _ (by decide +kernel)) ggX8_make_X8_freeWords
set_option maxRecDepth 20000 in
theorem ggX8_make_X8_pack : GoodIn wsX8_make wsX8_pack := goodIn_r _ [115, 2, 116, 13, 31, 32, 8, 3, 4, 76, 77, 78, 17, 79, 117, 118, 119, 120, 121, 122, 123, 124, 125, 126, 127, 128, 129, 130, 131, 132, 133, 134, 135, 136, 137, 138, 139, 140, 141, 142, 143, 144, 145, 146, 147] (by decide +kernel) (by decide +kernel)
set_option maxRecDepth 20000 in
theorem gX8_make_X8_pack : GoodIn wsX8_make (wsV RX8 170 RX8 yX8_pack wsX8_pack) := goodIn_app (goodIn_of _ (by decide +kernel)) ggX8_make_X8_pack
theorem dX8_make_0 : decode cX8_make 0 = .ok (.aload_n 0, 1) := by decide +kernel
theorem dX8_make_1 : decode cX8_make 1 = .ok (.iload_n 1, 1) := by decide +kernel
theorem dX8_make_2 : decode cX8_make 2 = .ok (.ifCond .lt 18, 3) := by decide +kernel
theorem dX8_make_5 : decode cX8_make 5 = .ok (.iload_n 1, 1) := by decide +kernel
theorem dX8_make_6 : decode cX8_make 6 = .ok (.bipush 10, 2) := by decide +kernel
theorem dX8_make_8 : decode cX8_make 8 = .ok (.if_icmp .ge 12, 3) := by decide +kernel
theorem dX8_make_11 : decode cX8_make 11 = .ok (.aload_n 0, 1) := by decide +kernel
theorem dX8_make_12 : decode cX8_make 12 = .ok (.getfield 13, 3) := by decide +kernel
theorem dX8_make_15 : decode cX8_make 15 = .ok (.iload_n 1, 1) := by decide +kernel
theorem dX8_make_16 : decode cX8_make 16 = .ok (.iaload, 1) := by decide +kernel
theorem dX8_make_17 : decode cX8_make 17 = .ok (.ifCond .ge 7, 3) := by decide +kernel
theorem dX8_make_20 : decode cX8_make 20 = .ok (.iconst 1, 1) := by decide +kernel
theorem dX8_make_21 : decode cX8_make 21 = .ok (.goto 4, 3) := by decide +kernel
theorem dX8_make_24 : decode cX8_make 24 = .ok (.iconst 0, 1) := by decide +kernel
theorem dX8_make_25 : decode cX8_make 25 = .ok (.putfield 1, 3) := by decide +kernel
theorem dX8_make_28 : decode cX8_make 28 = .ok (.aload_n 0, 1) := by decide +kernel
theorem dX8_make_29 : decode cX8_make 29 = .ok (.getfield 1, 3) := by decide +kernel
theorem dX8_make_32 : decode cX8_make 32 = .ok (.ifCond .le 5, 3) := by decide +kernel
theorem dX8_make_35 : decode cX8_make 35 = .ok (.iconst 0, 1) := by decide +kernel
theorem dX8_make_36 : decode cX8_make 36 = .ok (.ireturn, 1) := by decide +kernel
theorem dX8_make_37 : decode cX8_make 37 = .ok (.aload_n 0, 1) := by decide +kernel
theorem dX8_make_38 : decode cX8_make 38 = .ok (.getfield 17, 3) := by decide +kernel
theorem dX8_make_41 : decode cX8_make 41 = .ok (.iload_n 1, 1) := by decide +kernel
theorem dX8_make_42 : decode cX8_make 42 = .ok (.iaload, 1) := by decide +kernel
theorem dX8_make_43 : decode cX8_make 43 = .ok (.istore_n 2, 1) := by decide +kernel
theorem dX8_make_44 : decode cX8_make 44 = .ok (.aload_n 0, 1) := by decide +kernel
theorem dX8_make_45 : decode cX8_make 45 = .ok (.iload_n 2, 1) := by decide +kernel
theorem dX8_make_46 : decode cX8_make 46 = .ok (.invokevirtual 157, 3) := by decide +kernel
theorem dX8_make_49 : decode cX8_make 49 = .ok (.ifCond .lt 10, 3) := by decide +kernel
theorem dX8_make_52 : decode cX8_make 52 = .ok (.aload_n 0, 1) := by decide +kernel
theorem dX8_make_53 : decode cX8_make 53 = .ok (.invokevirtual 160, 3) := by decide +kernel
theorem dX8_make_56 : decode cX8_make 56 = .ok (.ifCond .ge 36, 3) := by decide +kernel
theorem dX8_make_59 : decode cX8_make 59 = .ok (.aload_n 0, 1) := by decide +kernel
theorem dX8_make_60 : decode cX8_make 60 = .ok (.invokevirtual 164, 3) := by decide +kernel
theorem dX8_make_63 : decode cX8_make 63 = .ok (.pop, 1) := by decide +kernel
theorem dX8_make_64 : decode cX8_make 64 = .ok (.aload_n 0, 1) := by decide +kernel
theorem dX8_make_65 : decode cX8_make 65 = .ok (.invokevirtual 160, 3) := by decide +kernel
theorem dX8_make_68 : decode cX8_make 68 = .ok (.ifCond .lt 24, 3) := by decide +kernel
theorem dX8_make_71 : decode cX8_make 71 = .ok (.aload_n 0, 1) := by decide +kernel
theorem dX8_make_72 : decode cX8_make 72 = .ok (.iload_n 2, 1) := by decide +kernel
theorem dX8_make_73 : decode cX8_make 73 = .ok (.invokevirtual 157, 3) := by decide +kernel
theorem dX8_make_76 : decode cX8_make 76 = .ok (.ifCond .ge 16, 3) := by decide +kernel
theorem dX8_make_79 : decode cX8_make 79 = .ok (.aload_n 0, 1) := by decide +kernel
theorem dX8_make_80 : decode cX8_make 80 = .ok (.invokevirtual 167, 3) := by decide +kernel
theorem dX8_make_83 : decode cX8_make 83 = .ok (.iload_n 2, 1) := by decide +kernel
theorem dX8_make_84 : decode cX8_make 84 = .ok (.if_icmp .lt 8, 3) := by decide +kernel
theorem dX8_make_87 : decode cX8_make 87 = .ok (.aload_n 0, 1) := by decide +kernel
theorem dX8_make_88 : decode cX8_make 88 = .ok (.invokevirtual 170, 3) := by decide +kernel
theorem dX8_make_91 : decode cX8_make 91 = .ok (.pop, 1) := by decide +kernel
theorem dX8_make_92 : decode cX8_make 92 = .ok (.aload_n 0, 1) := by decide +kernel
theorem dX8_make_93 : decode cX8_make 93 = .ok (.invokevirtual 160, 3) := by decide +kernel
theorem dX8_make_96 : decode cX8_make 96 = .ok (.istore_n 3, 1) := by decide +kernel
theorem dX8_make_97 : decode cX8_make 97 = .ok (.aload_n 0, 1) := by decide +kernel
theorem dX8_make_98 : decode cX8_make 98 = .ok (.iload_n 2, 1) := by decide +kernel
theorem dX8_make_99 : decode cX8_make 99 = .ok (.invokevirtual 157, 3) := by decide +kernel
theorem dX8_make_102 : decode cX8_make 102 = .ok (.istore 4, 2) := by decide +kernel
theorem dX8_make_104 : decode cX8_make 104 = .ok (.iload_n 3, 1) := by decide +kernel
theorem dX8_make_105 : decode cX8_make 105 = .ok (.ifCond .lt 8, 3) := by decide +kernel
theorem dX8_make_108 : decode cX8_make 108 = .ok (.iload 4, 2) := by decide +kernel
theorem dX8_make_110 : decode cX8_make 110 = .ok (.ifCond .ge 6, 3) := by decide +kernel
theorem dX8_make_113 : decode cX8_make 113 = .ok (.bipush (-2), 2) := by decide +kernel
theorem dX8_make_115 : decode cX8_make 115 = .ok (.ireturn, 1) := by decide +kernel
theorem dX8_make_116 : decode cX8_make 116 = .ok (.aload_n 0, 1) := by decide +kernel
theorem dX8_make_117 : decode cX8_make 117 = .ok (.getfield 24, 3) := by decide +kernel
theorem dX8_make_120 : decode cX8_make 120 = .ok (.iload_n 3, 1) := by decide +kernel
theorem dX8_make_121 : decode cX8_make 121 = .ok (.iload_n 1, 1) := by decide +kernel
theorem dX8_make_122 : decode cX8_make 122 = .ok (.iastore, 1) := by decide +kernel
theorem dX8_make_123 : decode cX8_make 123 = .ok (.aload_n 0, 1) := by decide +kernel
theorem dX8_make_124 : decode cX8_make 124 = .ok (.getfield 27, 3) := by decide +kernel
theorem dX8_make_127 : decode cX8_make 127 = .ok (.iload_n 3, 1) := by decide +kernel
theorem dX8_make_128 : decode cX8_make 128 = .ok (.iconst 1, 1) := by decide +kernel
theorem dX8_make_129 : decode cX8_make 129 = .ok (.iastore, 1) := by decide +kernel
theorem dX8_make_130 : decode cX8_make 130 = .ok (.aload_n 0, 1) := by decide +kernel
theorem dX8_make_131 : decode cX8_make 131 = .ok (.getfield 36, 3) := by decide +kernel
theorem dX8_make_134 : decode cX8_make 134 = .ok (.iload_n 3, 1) := by decide +kernel
theorem dX8_make_135 : decode cX8_make 135 = .ok (.iconst 1, 1) := by decide +kernel
theorem dX8_make_136 : decode cX8_make 136 = .ok (.iastore, 1) := by decide +kernel
theorem dX8_make_137 : decode cX8_make 137 = .ok (.aload_n 0, 1) := by decide +kernel
theorem dX8_make_138 : decode cX8_make 138 = .ok (.getfield 30, 3) := by decide +kernel
theorem dX8_make_141 : decode cX8_make 141 = .ok (.iload_n 3, 1) := by decide +kernel
theorem dX8_make_142 : decode cX8_make 142 = .ok (.aload_n 0, 1) := by decide +kernel
theorem dX8_make_143 : decode cX8_make 143 = .ok (.getfield 13, 3) := by decide +kernel
theorem dX8_make_146 : decode cX8_make 146 = .ok (.iload_n 1, 1) := by decide +kernel
theorem dX8_make_147 : decode cX8_make 147 = .ok (.iaload, 1) := by decide +kernel
theorem dX8_make_148 : decode cX8_make 148 = .ok (.ifCond .ne 7, 3) := by decide +kernel
theorem dX8_make_151 : decode cX8_make 151 = .ok (.iconst 4, 1) := by decide +kernel
theorem dX8_make_152 : decode cX8_make 152 = .ok (.goto 4, 3) := by decide +kernel
theorem dX8_make_155 : decode cX8_make 155 = .ok (.iconst 0, 1) := by decide +kernel
theorem dX8_make_156 : decode cX8_make 156 = .ok (.iastore, 1) := by decide +kernel
theorem dX8_make_157 : decode cX8_make 157 = .ok (.aload_n 0, 1) := by decide +kernel
theorem dX8_make_158 : decode cX8_make 158 = .ok (.getfield 33, 3) := by decide +kernel
theorem dX8_make_161 : decode cX8_make 161 = .ok (.iload_n 3, 1) := by decide +kernel
theorem dX8_make_162 : decode cX8_make 162 = .ok (.iload 4, 2) := by decide +kernel
theorem dX8_make_164 : decode cX8_make 164 = .ok (.iastore, 1) := by decide +kernel
theorem dX8_make_165 : decode cX8_make 165 = .ok (.aload_n 0, 1) := by decide +kernel
theorem dX8_make_166 : decode cX8_make 166 = .ok (.getfield 39, 3) := by decide +kernel
theorem dX8_make_169 : decode cX8_make 169 = .ok (.iload_n 3, 1) := by decide +kernel
theorem dX8_make_170 : decode cX8_make 170 = .ok (.iconst 0, 1) := by decide +kernel
theorem dX8_make_171 : decode cX8_make 171 = .ok (.bastore, 1) := by decide +kernel
theorem dX8_make_172 : decode cX8_make 172 = .ok (.aload_n 0, 1) := by decide +kernel
theorem dX8_make_173 : decode cX8_make 173 = .ok (.getfield 42, 3) := by decide +kernel
theorem dX8_make_176 : decode cX8_make 176 = .ok (.iload_n 3, 1) := by decide +kernel
theorem dX8_make_177 : decode cX8_make 177 = .ok (.iconst 0, 1) := by decide +kernel
theorem dX8_make_178 : decode cX8_make 178 = .ok (.bastore, 1) := by decide +kernel
theorem dX8_make_179 : decode cX8_make 179 = .ok (.aload_n 0, 1) := by decide +kernel
theorem dX8_make_180 : decode cX8_make 180 = .ok (.getfield 45, 3) := by decide +kernel
theorem dX8_make_183 : decode cX8_make 183 = .ok (.iload_n 3, 1) := by decide +kernel
theorem dX8_make_184 : decode cX8_make 184 = .ok (.iconst 0, 1) := by decide +kernel
theorem dX8_make_185 : decode cX8_make 185 = .ok (.bastore, 1) := by decide +kernel
theorem dX8_make_186 : decode cX8_make 186 = .ok (.iconst 0, 1) := by decide +kernel
theorem dX8_make_187 : decode cX8_make 187 = .ok (.istore 5, 2) := by decide +kernel
theorem dX8_make_189 : decode cX8_make 189 = .ok (.iload 5, 2) := by decide +kernel
theorem dX8_make_191 : decode cX8_make 191 = .ok (.bipush 6, 2) := by decide +kernel
theorem dX8_make_193 : decode cX8_make 193 = .ok (.if_icmp .ge 22, 3) := by decide +kernel
theorem dX8_make_196 : decode cX8_make 196 = .ok (.aload_n 0, 1) := by decide +kernel
theorem dX8_make_197 : decode cX8_make 197 = .ok (.getfield 48, 3) := by decide +kernel
theorem dX8_make_200 : decode cX8_make 200 = .ok (.bipush 6, 2) := by decide +kernel
theorem dX8_make_202 : decode cX8_make 202 = .ok (.iload_n 3, 1) := by decide +kernel
theorem dX8_make_203 : decode cX8_make 203 = .ok (.imul, 1) := by decide +kernel
theorem dX8_make_204 : decode cX8_make 204 = .ok (.iload 5, 2) := by decide +kernel
theorem dX8_make_206 : decode cX8_make 206 = .ok (.iadd, 1) := by decide +kernel
theorem dX8_make_207 : decode cX8_make 207 = .ok (.iconst (-1), 1) := by decide +kernel
theorem dX8_make_208 : decode cX8_make 208 = .ok (.iastore, 1) := by decide +kernel
theorem dX8_make_209 : decode cX8_make 209 = .ok (.iinc 5 1, 3) := by decide +kernel
theorem dX8_make_212 : decode cX8_make 212 = .ok (.goto (-23), 3) := by decide +kernel
theorem dX8_make_215 : decode cX8_make 215 = .ok (.iconst 0, 1) := by decide +kernel
theorem dX8_make_216 : decode cX8_make 216 = .ok (.istore 5, 2) := by decide +kernel
theorem dX8_make_218 : decode cX8_make 218 = .ok (.iload 5, 2) := by decide +kernel
theorem dX8_make_220 : decode cX8_make 220 = .ok (.iload_n 2, 1) := by decide +kernel
theorem dX8_make_221 : decode cX8_make 221 = .ok (.if_icmp .ge 20, 3) := by decide +kernel
theorem dX8_make_224 : decode cX8_make 224 = .ok (.aload_n 0, 1) := by decide +kernel
theorem dX8_make_225 : decode cX8_make 225 = .ok (.getfield 51, 3) := by decide +kernel
theorem dX8_make_228 : decode cX8_make 228 = .ok (.iload 4, 2) := by decide +kernel
theorem dX8_make_230 : decode cX8_make 230 = .ok (.iload 5, 2) := by decide +kernel
theorem dX8_make_232 : decode cX8_make 232 = .ok (.iadd, 1) := by decide +kernel
theorem dX8_make_233 : decode cX8_make 233 = .ok (.iload_n 3, 1) := by decide +kernel
theorem dX8_make_234 : decode cX8_make 234 = .ok (.iastore, 1) := by decide +kernel
theorem dX8_make_235 : decode cX8_make 235 = .ok (.iinc 5 1, 3) := by decide +kernel
theorem dX8_make_238 : decode cX8_make 238 = .ok (.goto (-20), 3) := by decide +kernel
theorem dX8_make_241 : decode cX8_make 241 = .ok (.iload_n 3, 1) := by decide +kernel
theorem dX8_make_242 : decode cX8_make 242 = .ok (.ireturn, 1) := by decide +kernel
set_option maxRecDepth 20000 in
theorem ggX8_hold_X8_isWhole : GoodIn wsX8_hold wsX8_isWhole := goodIn_r _ [8, 9, 10, 11, 12, 7, 13, 14, 24, 25, 26, 27, 28, 29, 30, 31, 32, 33, 34, 35, 36, 37, 38, 39, 40, 41, 42, 43, 44, 45, 46, 47, 48, 49, 50, 51, 52, 53, 54] (by decide +kernel) (by decide +kernel)
set_option maxRecDepth 20000 in
theorem gX8_hold_X8_isWhole : GoodIn wsX8_hold (wsV RX8 173 RX8 yX8_isWhole wsX8_isWhole) := goodIn_app (goodIn_of _ (by decide +kernel)) ggX8_hold_X8_isWhole
set_option maxRecDepth 20000 in
theorem ggX8_hold_X8_more : GoodIn wsX8_hold wsX8_more := goodIn_r _ [18, 3, 19, 20, 21, 7, 22, 23, 24, 25, 26, 27, 28, 29, 30, 31, 32, 33, 34, 35, 36, 37, 38, 39, 40, 41, 42, 43, 44, 45, 46, 47, 48, 49, 50, 51, 52, 53, 54] (by decide +kernel) (by decide +kernel)
set_option maxRecDepth 20000 in
theorem gX8_hold_X8_more : GoodIn wsX8_hold (wsV RX8 176 RX8 yX8_more wsX8_more) := goodIn_app (goodIn_of _ (by decide +kernel)) ggX8_hold_X8_more
theorem dX8_hold_0 : decode cX8_hold 0 = .ok (.aload_n 0, 1) := by decide +kernel
theorem dX8_hold_1 : decode cX8_hold 1 = .ok (.iconst 0, 1) := by decide +kernel
theorem dX8_hold_2 : decode cX8_hold 2 = .ok (.putfield 1, 3) := by decide +kernel
theorem dX8_hold_5 : decode cX8_hold 5 = .ok (.aload_n 0, 1) := by decide +kernel
theorem dX8_hold_6 : decode cX8_hold 6 = .ok (.iload_n 1, 1) := by decide +kernel
theorem dX8_hold_7 : decode cX8_hold 7 = .ok (.invokevirtual 173, 3) := by decide +kernel
theorem dX8_hold_10 : decode cX8_hold 10 = .ok (.ifCond .ne 5, 3) := by decide +kernel
theorem dX8_hold_13 : decode cX8_hold 13 = .ok (.iconst (-1), 1) := by decide +kernel
theorem dX8_hold_14 : decode cX8_hold 14 = .ok (.ireturn, 1) := by decide +kernel
theorem dX8_hold_15 : decode cX8_hold 15 = .ok (.aload_n 0, 1) := by decide +kernel
theorem dX8_hold_16 : decode cX8_hold 16 = .ok (.getfield 36, 3) := by decide +kernel
theorem dX8_hold_19 : decode cX8_hold 19 = .ok (.iload_n 1, 1) := by decide +kernel
theorem dX8_hold_20 : decode cX8_hold 20 = .ok (.dup2, 1) := by decide +kernel
theorem dX8_hold_21 : decode cX8_hold 21 = .ok (.iaload, 1) := by decide +kernel
theorem dX8_hold_22 : decode cX8_hold 22 = .ok (.iconst 1, 1) := by decide +kernel
theorem dX8_hold_23 : decode cX8_hold 23 = .ok (.iadd, 1) := by decide +kernel
theorem dX8_hold_24 : decode cX8_hold 24 = .ok (.iastore, 1) := by decide +kernel
theorem dX8_hold_25 : decode cX8_hold 25 = .ok (.aload_n 0, 1) := by decide +kernel
theorem dX8_hold_26 : decode cX8_hold 26 = .ok (.iload_n 1, 1) := by decide +kernel
theorem dX8_hold_27 : decode cX8_hold 27 = .ok (.invokevirtual 176, 3) := by decide +kernel
theorem dX8_hold_30 : decode cX8_hold 30 = .ok (.aload_n 0, 1) := by decide +kernel
theorem dX8_hold_31 : decode cX8_hold 31 = .ok (.getfield 27, 3) := by decide +kernel
theorem dX8_hold_34 : decode cX8_hold 34 = .ok (.iload_n 1, 1) := by decide +kernel
theorem dX8_hold_35 : decode cX8_hold 35 = .ok (.iaload, 1) := by decide +kernel
theorem dX8_hold_36 : decode cX8_hold 36 = .ok (.ireturn, 1) := by decide +kernel
set_option maxRecDepth 20000 in
theorem ggX8_loose_X8_isWhole : GoodIn wsX8_loose wsX8_isWhole := goodIn_r _ [8, 9, 10, 11, 12, 7, 13, 14, 60, 61, 62, 63, 64, 65, 66, 67, 68, 69, 70, 71, 72, 73, 74, 75, 76, 77, 78, 79, 80, 81, 82, 83, 84, 85, 86, 87, 88, 89, 90] (by decide +kernel) (by decide +kernel)
set_option maxRecDepth 20000 in
theorem gX8_loose_X8_isWhole : GoodIn wsX8_loose (wsV RX8 173 RX8 yX8_isWhole wsX8_isWhole) := goodIn_app (goodIn_of _ (by decide +kernel)) ggX8_loose_X8_isWhole
set_option maxRecDepth 20000 in
theorem ggX8_loose_X8_less : GoodIn wsX8_loose wsX8_less := goodIn_r _ [18, 19, 20, 21, 22, 23, 9, 24, 25, 26, 7, 27, 28, 29, 30, 31, 32, 33, 34, 35, 36, 14, 37, 38, 39, 40, 41, 42, 43, 44, 45, 46, 47, 48, 49, 50, 51, 52, 53, 54, 55, 56, 57, 58, 59, 3, 60, 61, 62, 63, 64, 65, 66, 67, 68, 69, 70, 71, 72, 73, 74, 75, 76, 77, 78, 79, 80, 81, 82, 83, 84, 85, 86, 87, 88, 89, 90] (by decide +kernel) (by decide +kernel)
set_option maxRecDepth 20000 in
theorem gX8_loose_X8_less : GoodIn wsX8_loose (wsV RX8 136 RX8 yX8_less wsX8_less) := goodIn_app (goodIn_of _ (by decide +kernel)) ggX8_loose_X8_less
theorem dX8_loose_0 : decode cX8_loose 0 = .ok (.aload_n 0, 1) := by decide +kernel
theorem dX8_loose_1 : decode cX8_loose 1 = .ok (.iconst 0, 1) := by decide +kernel
theorem dX8_loose_2 : decode cX8_loose 2 = .ok (.putfield 1, 3) := by decide +kernel
theorem dX8_loose_5 : decode cX8_loose 5 = .ok (.aload_n 0, 1) := by decide +kernel
theorem dX8_loose_6 : decode cX8_loose 6 = .ok (.iload_n 1, 1) := by decide +kernel
theorem dX8_loose_7 : decode cX8_loose 7 = .ok (.invokevirtual 173, 3) := by decide +kernel
theorem dX8_loose_10 : decode cX8_loose 10 = .ok (.ifCond .eq 12, 3) := by decide +kernel
theorem dX8_loose_13 : decode cX8_loose 13 = .ok (.aload_n 0, 1) := by decide +kernel
theorem dX8_loose_14 : decode cX8_loose 14 = .ok (.getfield 36, 3) := by decide +kernel
theorem dX8_loose_17 : decode cX8_loose 17 = .ok (.iload_n 1, 1) := by decide +kernel
theorem dX8_loose_18 : decode cX8_loose 18 = .ok (.iaload, 1) := by decide +kernel
theorem dX8_loose_19 : decode cX8_loose 19 = .ok (.ifCond .ne 5, 3) := by decide +kernel
theorem dX8_loose_22 : decode cX8_loose 22 = .ok (.iconst (-1), 1) := by decide +kernel
theorem dX8_loose_23 : decode cX8_loose 23 = .ok (.ireturn, 1) := by decide +kernel
theorem dX8_loose_24 : decode cX8_loose 24 = .ok (.aload_n 0, 1) := by decide +kernel
theorem dX8_loose_25 : decode cX8_loose 25 = .ok (.getfield 82, 3) := by decide +kernel
theorem dX8_loose_28 : decode cX8_loose 28 = .ok (.istore_n 2, 1) := by decide +kernel
theorem dX8_loose_29 : decode cX8_loose 29 = .ok (.aload_n 0, 1) := by decide +kernel
theorem dX8_loose_30 : decode cX8_loose 30 = .ok (.getfield 36, 3) := by decide +kernel
theorem dX8_loose_33 : decode cX8_loose 33 = .ok (.iload_n 1, 1) := by decide +kernel
theorem dX8_loose_34 : decode cX8_loose 34 = .ok (.dup2, 1) := by decide +kernel
theorem dX8_loose_35 : decode cX8_loose 35 = .ok (.iaload, 1) := by decide +kernel
theorem dX8_loose_36 : decode cX8_loose 36 = .ok (.iconst 1, 1) := by decide +kernel
theorem dX8_loose_37 : decode cX8_loose 37 = .ok (.isub, 1) := by decide +kernel
theorem dX8_loose_38 : decode cX8_loose 38 = .ok (.iastore, 1) := by decide +kernel
theorem dX8_loose_39 : decode cX8_loose 39 = .ok (.aload_n 0, 1) := by decide +kernel
theorem dX8_loose_40 : decode cX8_loose 40 = .ok (.iload_n 1, 1) := by decide +kernel
theorem dX8_loose_41 : decode cX8_loose 41 = .ok (.invokevirtual 136, 3) := by decide +kernel
theorem dX8_loose_44 : decode cX8_loose 44 = .ok (.aload_n 0, 1) := by decide +kernel
theorem dX8_loose_45 : decode cX8_loose 45 = .ok (.getfield 82, 3) := by decide +kernel
theorem dX8_loose_48 : decode cX8_loose 48 = .ok (.iload_n 2, 1) := by decide +kernel
theorem dX8_loose_49 : decode cX8_loose 49 = .ok (.isub, 1) := by decide +kernel
theorem dX8_loose_50 : decode cX8_loose 50 = .ok (.ireturn, 1) := by decide +kernel
set_option maxRecDepth 20000 in
theorem ggX8_set_X8_isWhole : GoodIn wsX8_set wsX8_isWhole := goodIn_r _ [8, 9, 10, 11, 12, 7, 13, 14, 63, 64, 65, 66, 67, 68, 69, 70, 71, 72, 73, 74, 75, 76, 77, 78, 79, 80, 81, 82, 83, 84, 85, 86, 87, 88, 89, 90, 91, 92, 93] (by decide +kernel) (by decide +kernel)
set_option maxRecDepth 20000 in
theorem gX8_set_X8_isWhole : GoodIn wsX8_set (wsV RX8 173 RX8 yX8_isWhole wsX8_isWhole) := goodIn_app (goodIn_of _ (by decide +kernel)) ggX8_set_X8_isWhole
set_option maxRecDepth 20000 in
theorem ggX8_set_X8_fieldsOf : GoodIn wsX8_set wsX8_fieldsOf := goodIn_r _ [18, 19, 14, 63, 64, 65, 66, 67, 68, 69, 70, 71, 72, 73, 74, 75, 76, 77, 78, 79, 80, 81, 82, 83, 84, 85, 86, 87, 88, 89, 90, 91, 92, 93] (by decide +kernel) (by decide +kernel)
set_option maxRecDepth 20000 in
theorem gX8_set_X8_fieldsOf : GoodIn wsX8_set (wsV RX8 108 RX8 yX8_fieldsOf wsX8_fieldsOf) := goodIn_app (goodIn_of _ (by decide +kernel)) ggX8_set_X8_fieldsOf
set_option maxRecDepth 20000 in
theorem ggX8_set_X8_more : GoodIn wsX8_set wsX8_more := goodIn_r _ [23, 24, 25, 26, 27, 7, 28, 29, 63, 64, 65, 66, 67, 68, 69, 70, 71, 72, 73, 74, 75, 76, 77, 78, 79, 80, 81, 82, 83, 84, 85, 86, 87, 88, 89, 90, 91, 92, 93] (by decide +kernel) (by decide +kernel)
set_option maxRecDepth 20000 in
theorem gX8_set_X8_more : GoodIn wsX8_set (wsV RX8 176 RX8 yX8_more wsX8_more) := goodIn_app (goodIn_of _ (by decide +kernel)) ggX8_set_X8_more
set_option maxRecDepth 20000 in
theorem ggX8_set_X8_less : GoodIn wsX8_set wsX8_less := goodIn_r _ [33, 34, 35, 36, 3, 37, 9, 38, 39, 40, 7, 41, 24, 29, 42, 43, 44, 45, 46, 47, 48, 14, 49, 50, 51, 52, 53, 54, 55, 25, 26, 27, 28, 15, 16, 17, 18, 19, 56, 57, 58, 59, 60, 61, 62, 2, 63, 64, 65, 66, 67, 68, 69, 70, 71, 72, 73, 74, 75, 76, 77, 78, 79, 80, 81, 82, 83, 84, 85, 86, 87, 88, 89, 90, 91, 92, 93] (by decide +kernel) (by decide +kernel)
set_option maxRecDepth 20000 in
theorem gX8_set_X8_less : GoodIn wsX8_set (wsV RX8 136 RX8 yX8_less wsX8_less) := goodIn_app (goodIn_of _ (by decide +kernel)) ggX8_set_X8_less
theorem dX8_set_0 : decode cX8_set 0 = .ok (.aload_n 0, 1) := by decide +kernel
theorem dX8_set_1 : decode cX8_set 1 = .ok (.iconst 0, 1) := by decide +kernel
theorem dX8_set_2 : decode cX8_set 2 = .ok (.putfield 1, 3) := by decide +kernel
theorem dX8_set_5 : decode cX8_set 5 = .ok (.aload_n 0, 1) := by decide +kernel
theorem dX8_set_6 : decode cX8_set 6 = .ok (.iload_n 1, 1) := by decide +kernel
theorem dX8_set_7 : decode cX8_set 7 = .ok (.invokevirtual 173, 3) := by decide +kernel
theorem dX8_set_10 : decode cX8_set 10 = .ok (.ifCond .ne 5, 3) := by decide +kernel
theorem dX8_set_13 : decode cX8_set 13 = .ok (.iconst (-1), 1) := by decide +kernel
theorem dX8_set_14 : decode cX8_set 14 = .ok (.ireturn, 1) := by decide +kernel
theorem dX8_set_15 : decode cX8_set 15 = .ok (.aload_n 0, 1) := by decide +kernel
theorem dX8_set_16 : decode cX8_set 16 = .ok (.iload_n 2, 1) := by decide +kernel
theorem dX8_set_17 : decode cX8_set 17 = .ok (.ifCond .lt 12, 3) := by decide +kernel
theorem dX8_set_20 : decode cX8_set 20 = .ok (.iload_n 2, 1) := by decide +kernel
theorem dX8_set_21 : decode cX8_set 21 = .ok (.aload_n 0, 1) := by decide +kernel
theorem dX8_set_22 : decode cX8_set 22 = .ok (.iload_n 1, 1) := by decide +kernel
theorem dX8_set_23 : decode cX8_set 23 = .ok (.invokevirtual 108, 3) := by decide +kernel
theorem dX8_set_26 : decode cX8_set 26 = .ok (.if_icmp .lt 7, 3) := by decide +kernel
theorem dX8_set_29 : decode cX8_set 29 = .ok (.iconst 1, 1) := by decide +kernel
theorem dX8_set_30 : decode cX8_set 30 = .ok (.goto 4, 3) := by decide +kernel
theorem dX8_set_33 : decode cX8_set 33 = .ok (.iconst 0, 1) := by decide +kernel
theorem dX8_set_34 : decode cX8_set 34 = .ok (.putfield 1, 3) := by decide +kernel
theorem dX8_set_37 : decode cX8_set 37 = .ok (.aload_n 0, 1) := by decide +kernel
theorem dX8_set_38 : decode cX8_set 38 = .ok (.getfield 1, 3) := by decide +kernel
theorem dX8_set_41 : decode cX8_set 41 = .ok (.ifCond .le 5, 3) := by decide +kernel
theorem dX8_set_44 : decode cX8_set 44 = .ok (.iconst 0, 1) := by decide +kernel
theorem dX8_set_45 : decode cX8_set 45 = .ok (.ireturn, 1) := by decide +kernel
theorem dX8_set_46 : decode cX8_set 46 = .ok (.iload_n 3, 1) := by decide +kernel
theorem dX8_set_47 : decode cX8_set 47 = .ok (.iconst (-1), 1) := by decide +kernel
theorem dX8_set_48 : decode cX8_set 48 = .ok (.if_icmp .eq 13, 3) := by decide +kernel
theorem dX8_set_51 : decode cX8_set 51 = .ok (.aload_n 0, 1) := by decide +kernel
theorem dX8_set_52 : decode cX8_set 52 = .ok (.iload_n 3, 1) := by decide +kernel
theorem dX8_set_53 : decode cX8_set 53 = .ok (.invokevirtual 173, 3) := by decide +kernel
theorem dX8_set_56 : decode cX8_set 56 = .ok (.ifCond .ne 5, 3) := by decide +kernel
theorem dX8_set_59 : decode cX8_set 59 = .ok (.iconst (-1), 1) := by decide +kernel
theorem dX8_set_60 : decode cX8_set 60 = .ok (.ireturn, 1) := by decide +kernel
theorem dX8_set_61 : decode cX8_set 61 = .ok (.aload_n 0, 1) := by decide +kernel
theorem dX8_set_62 : decode cX8_set 62 = .ok (.getfield 82, 3) := by decide +kernel
theorem dX8_set_65 : decode cX8_set 65 = .ok (.istore 4, 2) := by decide +kernel
theorem dX8_set_67 : decode cX8_set 67 = .ok (.iload_n 3, 1) := by decide +kernel
theorem dX8_set_68 : decode cX8_set 68 = .ok (.iconst (-1), 1) := by decide +kernel
theorem dX8_set_69 : decode cX8_set 69 = .ok (.if_icmp .eq 8, 3) := by decide +kernel
theorem dX8_set_72 : decode cX8_set 72 = .ok (.aload_n 0, 1) := by decide +kernel
theorem dX8_set_73 : decode cX8_set 73 = .ok (.iload_n 3, 1) := by decide +kernel
theorem dX8_set_74 : decode cX8_set 74 = .ok (.invokevirtual 176, 3) := by decide +kernel
theorem dX8_set_77 : decode cX8_set 77 = .ok (.aload_n 0, 1) := by decide +kernel
theorem dX8_set_78 : decode cX8_set 78 = .ok (.getfield 48, 3) := by decide +kernel
theorem dX8_set_81 : decode cX8_set 81 = .ok (.bipush 6, 2) := by decide +kernel
theorem dX8_set_83 : decode cX8_set 83 = .ok (.iload_n 1, 1) := by decide +kernel
theorem dX8_set_84 : decode cX8_set 84 = .ok (.imul, 1) := by decide +kernel
theorem dX8_set_85 : decode cX8_set 85 = .ok (.iload_n 2, 1) := by decide +kernel
theorem dX8_set_86 : decode cX8_set 86 = .ok (.iadd, 1) := by decide +kernel
theorem dX8_set_87 : decode cX8_set 87 = .ok (.iaload, 1) := by decide +kernel
theorem dX8_set_88 : decode cX8_set 88 = .ok (.istore 5, 2) := by decide +kernel
theorem dX8_set_90 : decode cX8_set 90 = .ok (.aload_n 0, 1) := by decide +kernel
theorem dX8_set_91 : decode cX8_set 91 = .ok (.getfield 48, 3) := by decide +kernel
theorem dX8_set_94 : decode cX8_set 94 = .ok (.bipush 6, 2) := by decide +kernel
theorem dX8_set_96 : decode cX8_set 96 = .ok (.iload_n 1, 1) := by decide +kernel
theorem dX8_set_97 : decode cX8_set 97 = .ok (.imul, 1) := by decide +kernel
theorem dX8_set_98 : decode cX8_set 98 = .ok (.iload_n 2, 1) := by decide +kernel
theorem dX8_set_99 : decode cX8_set 99 = .ok (.iadd, 1) := by decide +kernel
theorem dX8_set_100 : decode cX8_set 100 = .ok (.iload_n 3, 1) := by decide +kernel
theorem dX8_set_101 : decode cX8_set 101 = .ok (.iastore, 1) := by decide +kernel
theorem dX8_set_102 : decode cX8_set 102 = .ok (.iload 5, 2) := by decide +kernel
theorem dX8_set_104 : decode cX8_set 104 = .ok (.ifCond .lt 9, 3) := by decide +kernel
theorem dX8_set_107 : decode cX8_set 107 = .ok (.aload_n 0, 1) := by decide +kernel
theorem dX8_set_108 : decode cX8_set 108 = .ok (.iload 5, 2) := by decide +kernel
theorem dX8_set_110 : decode cX8_set 110 = .ok (.invokevirtual 136, 3) := by decide +kernel
theorem dX8_set_113 : decode cX8_set 113 = .ok (.aload_n 0, 1) := by decide +kernel
theorem dX8_set_114 : decode cX8_set 114 = .ok (.getfield 82, 3) := by decide +kernel
theorem dX8_set_117 : decode cX8_set 117 = .ok (.iload 4, 2) := by decide +kernel
theorem dX8_set_119 : decode cX8_set 119 = .ok (.isub, 1) := by decide +kernel
theorem dX8_set_120 : decode cX8_set 120 = .ok (.ireturn, 1) := by decide +kernel
set_option maxRecDepth 20000 in
theorem ggX8_get_X8_isThere : GoodIn wsX8_get wsX8_isThere := goodIn_r _ [7, 8, 14, 15, 16, 17, 18, 19, 20, 21, 22, 23, 24, 25, 26, 27, 28, 29, 30, 31, 32, 33, 34, 35, 36, 37, 38, 39, 40, 41, 42, 43, 44] (by decide +kernel) (by decide +kernel)
set_option maxRecDepth 20000 in
theorem gX8_get_X8_isThere : GoodIn wsX8_get (wsV RX8 78 RX8 yX8_isThere wsX8_isThere) := goodIn_app (goodIn_of _ (by decide +kernel)) ggX8_get_X8_isThere
set_option maxRecDepth 20000 in
theorem ggX8_get_X8_fieldsOf : GoodIn wsX8_get wsX8_fieldsOf := goodIn_r _ [12, 13, 8, 14, 15, 16, 17, 18, 19, 20, 21, 22, 23, 24, 25, 26, 27, 28, 29, 30, 31, 32, 33, 34, 35, 36, 37, 38, 39, 40, 41, 42, 43, 44] (by decide +kernel) (by decide +kernel)
set_option maxRecDepth 20000 in
theorem gX8_get_X8_fieldsOf : GoodIn wsX8_get (wsV RX8 108 RX8 yX8_fieldsOf wsX8_fieldsOf) := goodIn_app (goodIn_of _ (by decide +kernel)) ggX8_get_X8_fieldsOf
theorem dX8_get_0 : decode cX8_get 0 = .ok (.aload_n 0, 1) := by decide +kernel
theorem dX8_get_1 : decode cX8_get 1 = .ok (.aload_n 0, 1) := by decide +kernel
theorem dX8_get_2 : decode cX8_get 2 = .ok (.iload_n 1, 1) := by decide +kernel
theorem dX8_get_3 : decode cX8_get 3 = .ok (.invokevirtual 78, 3) := by decide +kernel
theorem dX8_get_6 : decode cX8_get 6 = .ok (.ifCond .eq 16, 3) := by decide +kernel
theorem dX8_get_9 : decode cX8_get 9 = .ok (.iload_n 2, 1) := by decide +kernel
theorem dX8_get_10 : decode cX8_get 10 = .ok (.ifCond .lt 12, 3) := by decide +kernel
theorem dX8_get_13 : decode cX8_get 13 = .ok (.iload_n 2, 1) := by decide +kernel
theorem dX8_get_14 : decode cX8_get 14 = .ok (.aload_n 0, 1) := by decide +kernel
theorem dX8_get_15 : decode cX8_get 15 = .ok (.iload_n 1, 1) := by decide +kernel
theorem dX8_get_16 : decode cX8_get 16 = .ok (.invokevirtual 108, 3) := by decide +kernel
theorem dX8_get_19 : decode cX8_get 19 = .ok (.if_icmp .lt 7, 3) := by decide +kernel
theorem dX8_get_22 : decode cX8_get 22 = .ok (.iconst 1, 1) := by decide +kernel
theorem dX8_get_23 : decode cX8_get 23 = .ok (.goto 4, 3) := by decide +kernel
theorem dX8_get_26 : decode cX8_get 26 = .ok (.iconst 0, 1) := by decide +kernel
theorem dX8_get_27 : decode cX8_get 27 = .ok (.putfield 1, 3) := by decide +kernel
theorem dX8_get_30 : decode cX8_get 30 = .ok (.aload_n 0, 1) := by decide +kernel
theorem dX8_get_31 : decode cX8_get 31 = .ok (.getfield 1, 3) := by decide +kernel
theorem dX8_get_34 : decode cX8_get 34 = .ok (.ifCond .le 7, 3) := by decide +kernel
theorem dX8_get_37 : decode cX8_get 37 = .ok (.iconst 0, 1) := by decide +kernel
theorem dX8_get_38 : decode cX8_get 38 = .ok (.goto 14, 3) := by decide +kernel
theorem dX8_get_41 : decode cX8_get 41 = .ok (.aload_n 0, 1) := by decide +kernel
theorem dX8_get_42 : decode cX8_get 42 = .ok (.getfield 48, 3) := by decide +kernel
theorem dX8_get_45 : decode cX8_get 45 = .ok (.bipush 6, 2) := by decide +kernel
theorem dX8_get_47 : decode cX8_get 47 = .ok (.iload_n 1, 1) := by decide +kernel
theorem dX8_get_48 : decode cX8_get 48 = .ok (.imul, 1) := by decide +kernel
theorem dX8_get_49 : decode cX8_get 49 = .ok (.iload_n 2, 1) := by decide +kernel
theorem dX8_get_50 : decode cX8_get 50 = .ok (.iadd, 1) := by decide +kernel
theorem dX8_get_51 : decode cX8_get 51 = .ok (.iaload, 1) := by decide +kernel
theorem dX8_get_52 : decode cX8_get 52 = .ok (.ireturn, 1) := by decide +kernel
theorem dX8_wish_0 : decode cX8_wish 0 = .ok (.aload_n 0, 1) := by decide +kernel
theorem dX8_wish_1 : decode cX8_wish 1 = .ok (.iconst 0, 1) := by decide +kernel
theorem dX8_wish_2 : decode cX8_wish 2 = .ok (.putfield 1, 3) := by decide +kernel
theorem dX8_wish_5 : decode cX8_wish 5 = .ok (.aload_n 0, 1) := by decide +kernel
theorem dX8_wish_6 : decode cX8_wish 6 = .ok (.getfield 85, 3) := by decide +kernel
theorem dX8_wish_9 : decode cX8_wish 9 = .ok (.ifCond .ne 5, 3) := by decide +kernel
theorem dX8_wish_12 : decode cX8_wish 12 = .ok (.iconst (-1), 1) := by decide +kernel
theorem dX8_wish_13 : decode cX8_wish 13 = .ok (.ireturn, 1) := by decide +kernel
theorem dX8_wish_14 : decode cX8_wish 14 = .ok (.aload_n 0, 1) := by decide +kernel
theorem dX8_wish_15 : decode cX8_wish 15 = .ok (.getfield 57, 3) := by decide +kernel
theorem dX8_wish_18 : decode cX8_wish 18 = .ok (.iconst 0, 1) := by decide +kernel
theorem dX8_wish_19 : decode cX8_wish 19 = .ok (.iaload, 1) := by decide +kernel
theorem dX8_wish_20 : decode cX8_wish 20 = .ok (.istore_n 1, 1) := by decide +kernel
theorem dX8_wish_21 : decode cX8_wish 21 = .ok (.aload_n 0, 1) := by decide +kernel
theorem dX8_wish_22 : decode cX8_wish 22 = .ok (.dup, 1) := by decide +kernel
theorem dX8_wish_23 : decode cX8_wish 23 = .ok (.getfield 85, 3) := by decide +kernel
theorem dX8_wish_26 : decode cX8_wish 26 = .ok (.iconst 1, 1) := by decide +kernel
theorem dX8_wish_27 : decode cX8_wish 27 = .ok (.isub, 1) := by decide +kernel
theorem dX8_wish_28 : decode cX8_wish 28 = .ok (.putfield 85, 3) := by decide +kernel
theorem dX8_wish_31 : decode cX8_wish 31 = .ok (.iconst 0, 1) := by decide +kernel
theorem dX8_wish_32 : decode cX8_wish 32 = .ok (.istore_n 2, 1) := by decide +kernel
theorem dX8_wish_33 : decode cX8_wish 33 = .ok (.iload_n 2, 1) := by decide +kernel
theorem dX8_wish_34 : decode cX8_wish 34 = .ok (.aload_n 0, 1) := by decide +kernel
theorem dX8_wish_35 : decode cX8_wish 35 = .ok (.getfield 85, 3) := by decide +kernel
theorem dX8_wish_38 : decode cX8_wish 38 = .ok (.if_icmp .ge 23, 3) := by decide +kernel
theorem dX8_wish_41 : decode cX8_wish 41 = .ok (.aload_n 0, 1) := by decide +kernel
theorem dX8_wish_42 : decode cX8_wish 42 = .ok (.getfield 57, 3) := by decide +kernel
theorem dX8_wish_45 : decode cX8_wish 45 = .ok (.iload_n 2, 1) := by decide +kernel
theorem dX8_wish_46 : decode cX8_wish 46 = .ok (.aload_n 0, 1) := by decide +kernel
theorem dX8_wish_47 : decode cX8_wish 47 = .ok (.getfield 57, 3) := by decide +kernel
theorem dX8_wish_50 : decode cX8_wish 50 = .ok (.iload_n 2, 1) := by decide +kernel
theorem dX8_wish_51 : decode cX8_wish 51 = .ok (.iconst 1, 1) := by decide +kernel
theorem dX8_wish_52 : decode cX8_wish 52 = .ok (.iadd, 1) := by decide +kernel
theorem dX8_wish_53 : decode cX8_wish 53 = .ok (.iaload, 1) := by decide +kernel
theorem dX8_wish_54 : decode cX8_wish 54 = .ok (.iastore, 1) := by decide +kernel
theorem dX8_wish_55 : decode cX8_wish 55 = .ok (.iinc 2 1, 3) := by decide +kernel
theorem dX8_wish_58 : decode cX8_wish 58 = .ok (.goto (-25), 3) := by decide +kernel
theorem dX8_wish_61 : decode cX8_wish 61 = .ok (.aload_n 0, 1) := by decide +kernel
theorem dX8_wish_62 : decode cX8_wish 62 = .ok (.getfield 36, 3) := by decide +kernel
theorem dX8_wish_65 : decode cX8_wish 65 = .ok (.iload_n 1, 1) := by decide +kernel
theorem dX8_wish_66 : decode cX8_wish 66 = .ok (.dup2, 1) := by decide +kernel
theorem dX8_wish_67 : decode cX8_wish 67 = .ok (.iaload, 1) := by decide +kernel
theorem dX8_wish_68 : decode cX8_wish 68 = .ok (.iconst 1, 1) := by decide +kernel
theorem dX8_wish_69 : decode cX8_wish 69 = .ok (.iadd, 1) := by decide +kernel
theorem dX8_wish_70 : decode cX8_wish 70 = .ok (.iastore, 1) := by decide +kernel
theorem dX8_wish_71 : decode cX8_wish 71 = .ok (.iload_n 1, 1) := by decide +kernel
theorem dX8_wish_72 : decode cX8_wish 72 = .ok (.ireturn, 1) := by decide +kernel
set_option maxRecDepth 20000 in
theorem ggX8_weak_X8_isWhole : GoodIn wsX8_weak wsX8_isWhole := goodIn_r _ [7, 8, 9, 10, 11, 6, 12, 13, 14, 15, 16, 17, 18, 19, 20, 21, 22, 23, 24, 25, 26, 27, 28, 29, 30, 31, 32, 33, 34, 35, 36, 37, 38, 39, 40, 41, 42, 43, 44] (by decide +kernel) (by decide +kernel)
set_option maxRecDepth 20000 in
theorem gX8_weak_X8_isWhole : GoodIn wsX8_weak (wsV RX8 173 RX8 yX8_isWhole wsX8_isWhole) := goodIn_app (goodIn_of _ (by decide +kernel)) ggX8_weak_X8_isWhole
theorem dX8_weak_0 : decode cX8_weak 0 = .ok (.aload_n 0, 1) := by decide +kernel
theorem dX8_weak_1 : decode cX8_weak 1 = .ok (.iload_n 1, 1) := by decide +kernel
theorem dX8_weak_2 : decode cX8_weak 2 = .ok (.ifCond .lt 9, 3) := by decide +kernel
theorem dX8_weak_5 : decode cX8_weak 5 = .ok (.iload_n 1, 1) := by decide +kernel
theorem dX8_weak_6 : decode cX8_weak 6 = .ok (.bipush 20, 2) := by decide +kernel
theorem dX8_weak_8 : decode cX8_weak 8 = .ok (.if_icmp .lt 7, 3) := by decide +kernel
theorem dX8_weak_11 : decode cX8_weak 11 = .ok (.iconst 1, 1) := by decide +kernel
theorem dX8_weak_12 : decode cX8_weak 12 = .ok (.goto 4, 3) := by decide +kernel
theorem dX8_weak_15 : decode cX8_weak 15 = .ok (.iconst 0, 1) := by decide +kernel
theorem dX8_weak_16 : decode cX8_weak 16 = .ok (.putfield 1, 3) := by decide +kernel
theorem dX8_weak_19 : decode cX8_weak 19 = .ok (.aload_n 0, 1) := by decide +kernel
theorem dX8_weak_20 : decode cX8_weak 20 = .ok (.getfield 1, 3) := by decide +kernel
theorem dX8_weak_23 : decode cX8_weak 23 = .ok (.ifCond .gt 16, 3) := by decide +kernel
theorem dX8_weak_26 : decode cX8_weak 26 = .ok (.iload_n 2, 1) := by decide +kernel
theorem dX8_weak_27 : decode cX8_weak 27 = .ok (.iconst (-1), 1) := by decide +kernel
theorem dX8_weak_28 : decode cX8_weak 28 = .ok (.if_icmp .eq 13, 3) := by decide +kernel
theorem dX8_weak_31 : decode cX8_weak 31 = .ok (.aload_n 0, 1) := by decide +kernel
theorem dX8_weak_32 : decode cX8_weak 32 = .ok (.iload_n 2, 1) := by decide +kernel
theorem dX8_weak_33 : decode cX8_weak 33 = .ok (.invokevirtual 173, 3) := by decide +kernel
theorem dX8_weak_36 : decode cX8_weak 36 = .ok (.ifCond .ne 5, 3) := by decide +kernel
theorem dX8_weak_39 : decode cX8_weak 39 = .ok (.iconst (-1), 1) := by decide +kernel
theorem dX8_weak_40 : decode cX8_weak 40 = .ok (.ireturn, 1) := by decide +kernel
theorem dX8_weak_41 : decode cX8_weak 41 = .ok (.aload_n 0, 1) := by decide +kernel
theorem dX8_weak_42 : decode cX8_weak 42 = .ok (.getfield 60, 3) := by decide +kernel
theorem dX8_weak_45 : decode cX8_weak 45 = .ok (.iload_n 1, 1) := by decide +kernel
theorem dX8_weak_46 : decode cX8_weak 46 = .ok (.iaload, 1) := by decide +kernel
theorem dX8_weak_47 : decode cX8_weak 47 = .ok (.istore_n 3, 1) := by decide +kernel
theorem dX8_weak_48 : decode cX8_weak 48 = .ok (.aload_n 0, 1) := by decide +kernel
theorem dX8_weak_49 : decode cX8_weak 49 = .ok (.getfield 60, 3) := by decide +kernel
theorem dX8_weak_52 : decode cX8_weak 52 = .ok (.iload_n 1, 1) := by decide +kernel
theorem dX8_weak_53 : decode cX8_weak 53 = .ok (.iload_n 2, 1) := by decide +kernel
theorem dX8_weak_54 : decode cX8_weak 54 = .ok (.iastore, 1) := by decide +kernel
theorem dX8_weak_55 : decode cX8_weak 55 = .ok (.iload_n 3, 1) := by decide +kernel
theorem dX8_weak_56 : decode cX8_weak 56 = .ok (.ireturn, 1) := by decide +kernel
theorem dX8_seen_0 : decode cX8_seen 0 = .ok (.aload_n 0, 1) := by decide +kernel
theorem dX8_seen_1 : decode cX8_seen 1 = .ok (.iload_n 1, 1) := by decide +kernel
theorem dX8_seen_2 : decode cX8_seen 2 = .ok (.ifCond .lt 9, 3) := by decide +kernel
theorem dX8_seen_5 : decode cX8_seen 5 = .ok (.iload_n 1, 1) := by decide +kernel
theorem dX8_seen_6 : decode cX8_seen 6 = .ok (.bipush 20, 2) := by decide +kernel
theorem dX8_seen_8 : decode cX8_seen 8 = .ok (.if_icmp .lt 7, 3) := by decide +kernel
theorem dX8_seen_11 : decode cX8_seen 11 = .ok (.iconst 1, 1) := by decide +kernel
theorem dX8_seen_12 : decode cX8_seen 12 = .ok (.goto 4, 3) := by decide +kernel
theorem dX8_seen_15 : decode cX8_seen 15 = .ok (.iconst 0, 1) := by decide +kernel
theorem dX8_seen_16 : decode cX8_seen 16 = .ok (.putfield 1, 3) := by decide +kernel
theorem dX8_seen_19 : decode cX8_seen 19 = .ok (.aload_n 0, 1) := by decide +kernel
theorem dX8_seen_20 : decode cX8_seen 20 = .ok (.getfield 1, 3) := by decide +kernel
theorem dX8_seen_23 : decode cX8_seen 23 = .ok (.ifCond .le 7, 3) := by decide +kernel
theorem dX8_seen_26 : decode cX8_seen 26 = .ok (.iconst 0, 1) := by decide +kernel
theorem dX8_seen_27 : decode cX8_seen 27 = .ok (.goto 9, 3) := by decide +kernel
theorem dX8_seen_30 : decode cX8_seen 30 = .ok (.aload_n 0, 1) := by decide +kernel
theorem dX8_seen_31 : decode cX8_seen 31 = .ok (.getfield 60, 3) := by decide +kernel
theorem dX8_seen_34 : decode cX8_seen 34 = .ok (.iload_n 1, 1) := by decide +kernel
theorem dX8_seen_35 : decode cX8_seen 35 = .ok (.iaload, 1) := by decide +kernel
theorem dX8_seen_36 : decode cX8_seen 36 = .ok (.ireturn, 1) := by decide +kernel
set_option maxRecDepth 20000 in
theorem ggX8_object_X8_isThere : GoodIn wsX8_object wsX8_isThere := goodIn_r _ [13, 2, 20, 21, 22, 23, 24, 25, 26, 27, 28, 29, 30, 31, 32, 33, 34, 35, 36, 37, 38, 39, 40, 41, 42, 43, 44, 45, 46, 47, 48, 49, 50] (by decide +kernel) (by decide +kernel)
set_option maxRecDepth 20000 in
theorem gX8_object_X8_isThere : GoodIn wsX8_object (wsV RX8 78 RX8 yX8_isThere wsX8_isThere) := goodIn_app (goodIn_of _ (by decide +kernel)) ggX8_object_X8_isThere
set_option maxRecDepth 20000 in
theorem ggX8_object_X8_hasWish : GoodIn wsX8_object wsX8_hasWish := goodIn_r _ [17, 18, 2, 19, 20, 21, 22, 23, 24, 25, 26, 27, 28, 29, 30, 31, 32, 33, 34, 35, 36, 37, 38, 39, 40, 41, 42, 43, 44, 45, 46, 47, 48, 49, 50] (by decide +kernel) (by decide +kernel)
set_option maxRecDepth 20000 in
theorem gX8_object_X8_hasWish : GoodIn wsX8_object (wsV RX8 91 RX8 yX8_hasWish wsX8_hasWish) := goodIn_app (goodIn_of _ (by decide +kernel)) ggX8_object_X8_hasWish
theorem dX8_object_0 : decode cX8_object 0 = .ok (.aload_n 0, 1) := by decide +kernel
theorem dX8_object_1 : decode cX8_object 1 = .ok (.iload_n 2, 1) := by decide +kernel
theorem dX8_object_2 : decode cX8_object 2 = .ok (.ifCond .lt 9, 3) := by decide +kernel
theorem dX8_object_5 : decode cX8_object 5 = .ok (.iload_n 2, 1) := by decide +kernel
theorem dX8_object_6 : decode cX8_object 6 = .ok (.bipush 7, 2) := by decide +kernel
theorem dX8_object_8 : decode cX8_object 8 = .ok (.if_icmp .le 7, 3) := by decide +kernel
theorem dX8_object_11 : decode cX8_object 11 = .ok (.iconst 1, 1) := by decide +kernel
theorem dX8_object_12 : decode cX8_object 12 = .ok (.goto 4, 3) := by decide +kernel
theorem dX8_object_15 : decode cX8_object 15 = .ok (.iconst 0, 1) := by decide +kernel
theorem dX8_object_16 : decode cX8_object 16 = .ok (.putfield 1, 3) := by decide +kernel
theorem dX8_object_19 : decode cX8_object 19 = .ok (.aload_n 0, 1) := by decide +kernel
theorem dX8_object_20 : decode cX8_object 20 = .ok (.getfield 1, 3) := by decide +kernel
theorem dX8_object_23 : decode cX8_object 23 = .ok (.ifCond .gt 11, 3) := by decide +kernel
theorem dX8_object_26 : decode cX8_object 26 = .ok (.aload_n 0, 1) := by decide +kernel
theorem dX8_object_27 : decode cX8_object 27 = .ok (.iload_n 1, 1) := by decide +kernel
theorem dX8_object_28 : decode cX8_object 28 = .ok (.invokevirtual 78, 3) := by decide +kernel
theorem dX8_object_31 : decode cX8_object 31 = .ok (.ifCond .ne 5, 3) := by decide +kernel
theorem dX8_object_34 : decode cX8_object 34 = .ok (.iconst (-1), 1) := by decide +kernel
theorem dX8_object_35 : decode cX8_object 35 = .ok (.ireturn, 1) := by decide +kernel
theorem dX8_object_36 : decode cX8_object 36 = .ok (.iload_n 2, 1) := by decide +kernel
theorem dX8_object_37 : decode cX8_object 37 = .ok (.tableswitch 107 0 6 #[43, 50, 57, 64, 71, 86, 100], 43) := by decide +kernel
theorem dX8_object_80 : decode cX8_object 80 = .ok (.aload_n 0, 1) := by decide +kernel
theorem dX8_object_81 : decode cX8_object 81 = .ok (.getfield 24, 3) := by decide +kernel
theorem dX8_object_84 : decode cX8_object 84 = .ok (.iload_n 1, 1) := by decide +kernel
theorem dX8_object_85 : decode cX8_object 85 = .ok (.iaload, 1) := by decide +kernel
theorem dX8_object_86 : decode cX8_object 86 = .ok (.ireturn, 1) := by decide +kernel
theorem dX8_object_87 : decode cX8_object 87 = .ok (.aload_n 0, 1) := by decide +kernel
theorem dX8_object_88 : decode cX8_object 88 = .ok (.getfield 27, 3) := by decide +kernel
theorem dX8_object_91 : decode cX8_object 91 = .ok (.iload_n 1, 1) := by decide +kernel
theorem dX8_object_92 : decode cX8_object 92 = .ok (.iaload, 1) := by decide +kernel
theorem dX8_object_93 : decode cX8_object 93 = .ok (.ireturn, 1) := by decide +kernel
theorem dX8_object_94 : decode cX8_object 94 = .ok (.aload_n 0, 1) := by decide +kernel
theorem dX8_object_95 : decode cX8_object 95 = .ok (.getfield 30, 3) := by decide +kernel
theorem dX8_object_98 : decode cX8_object 98 = .ok (.iload_n 1, 1) := by decide +kernel
theorem dX8_object_99 : decode cX8_object 99 = .ok (.iaload, 1) := by decide +kernel
theorem dX8_object_100 : decode cX8_object 100 = .ok (.ireturn, 1) := by decide +kernel
theorem dX8_object_101 : decode cX8_object 101 = .ok (.aload_n 0, 1) := by decide +kernel
theorem dX8_object_102 : decode cX8_object 102 = .ok (.getfield 33, 3) := by decide +kernel
theorem dX8_object_105 : decode cX8_object 105 = .ok (.iload_n 1, 1) := by decide +kernel
theorem dX8_object_106 : decode cX8_object 106 = .ok (.iaload, 1) := by decide +kernel
theorem dX8_object_107 : decode cX8_object 107 = .ok (.ireturn, 1) := by decide +kernel
theorem dX8_object_108 : decode cX8_object 108 = .ok (.aload_n 0, 1) := by decide +kernel
theorem dX8_object_109 : decode cX8_object 109 = .ok (.getfield 39, 3) := by decide +kernel
theorem dX8_object_112 : decode cX8_object 112 = .ok (.iload_n 1, 1) := by decide +kernel
theorem dX8_object_113 : decode cX8_object 113 = .ok (.baload, 1) := by decide +kernel
theorem dX8_object_114 : decode cX8_object 114 = .ok (.ifCond .eq 7, 3) := by decide +kernel
theorem dX8_object_117 : decode cX8_object 117 = .ok (.iconst 1, 1) := by decide +kernel
theorem dX8_object_118 : decode cX8_object 118 = .ok (.goto 4, 3) := by decide +kernel
theorem dX8_object_121 : decode cX8_object 121 = .ok (.iconst 0, 1) := by decide +kernel
theorem dX8_object_122 : decode cX8_object 122 = .ok (.ireturn, 1) := by decide +kernel
theorem dX8_object_123 : decode cX8_object 123 = .ok (.aload_n 0, 1) := by decide +kernel
theorem dX8_object_124 : decode cX8_object 124 = .ok (.iload_n 1, 1) := by decide +kernel
theorem dX8_object_125 : decode cX8_object 125 = .ok (.invokevirtual 91, 3) := by decide +kernel
theorem dX8_object_128 : decode cX8_object 128 = .ok (.ifCond .eq 7, 3) := by decide +kernel
theorem dX8_object_131 : decode cX8_object 131 = .ok (.iconst 1, 1) := by decide +kernel
theorem dX8_object_132 : decode cX8_object 132 = .ok (.goto 4, 3) := by decide +kernel
theorem dX8_object_135 : decode cX8_object 135 = .ok (.iconst 0, 1) := by decide +kernel
theorem dX8_object_136 : decode cX8_object 136 = .ok (.ireturn, 1) := by decide +kernel
theorem dX8_object_137 : decode cX8_object 137 = .ok (.aload_n 0, 1) := by decide +kernel
theorem dX8_object_138 : decode cX8_object 138 = .ok (.getfield 36, 3) := by decide +kernel
theorem dX8_object_141 : decode cX8_object 141 = .ok (.iload_n 1, 1) := by decide +kernel
theorem dX8_object_142 : decode cX8_object 142 = .ok (.iaload, 1) := by decide +kernel
theorem dX8_object_143 : decode cX8_object 143 = .ok (.ireturn, 1) := by decide +kernel
theorem dX8_object_144 : decode cX8_object 144 = .ok (.aload_n 0, 1) := by decide +kernel
theorem dX8_object_145 : decode cX8_object 145 = .ok (.getfield 45, 3) := by decide +kernel
theorem dX8_object_148 : decode cX8_object 148 = .ok (.iload_n 1, 1) := by decide +kernel
theorem dX8_object_149 : decode cX8_object 149 = .ok (.baload, 1) := by decide +kernel
theorem dX8_object_150 : decode cX8_object 150 = .ok (.ifCond .eq 7, 3) := by decide +kernel
theorem dX8_object_153 : decode cX8_object 153 = .ok (.iconst 1, 1) := by decide +kernel
theorem dX8_object_154 : decode cX8_object 154 = .ok (.goto 4, 3) := by decide +kernel
theorem dX8_object_157 : decode cX8_object 157 = .ok (.iconst 0, 1) := by decide +kernel
theorem dX8_object_158 : decode cX8_object 158 = .ok (.ireturn, 1) := by decide +kernel
set_option maxRecDepth 20000 in
theorem ggX8_count_X8_findByAddress : GoodIn wsX8_count wsX8_findByAddress := goodIn_r _ [14, 2, 15, 16, 17, 22, 23, 24, 25, 26, 27, 28, 29, 30, 31, 32, 33, 34, 35, 36, 37, 38, 39, 40, 41, 42, 43, 44, 45, 46, 47, 48, 49, 50, 51, 52] (by decide +kernel) (by decide +kernel)
set_option maxRecDepth 20000 in
theorem gX8_count_X8_findByAddress : GoodIn wsX8_count (wsV RX8 148 RX8 yX8_findByAddress wsX8_findByAddress) := goodIn_app (goodIn_of _ (by decide +kernel)) ggX8_count_X8_findByAddress
set_option maxRecDepth 20000 in
theorem ggX8_count_X8_freeWords : GoodIn wsX8_count wsX8_freeWords := goodIn_r _ [21, 15, 22, 23, 24, 25, 26, 27, 28, 29, 30, 31, 32, 33, 34, 35, 36, 37, 38, 39, 40, 41, 42, 43, 44, 45, 46, 47, 48, 49, 50, 51, 52] (by decide +kernel) (by decide +kernel)
set_option maxRecDepth 20000 in
theorem gX8_count_X8_freeWords : GoodIn wsX8_count (wsV RX8 167 RX8 yX8_freeWords wsX8_freeWords) := goodIn_app (goodIn_of _ (by decide +kernel)) ggX8_count_X8_freeWords
theorem dX8_count_0 : decode cX8_count 0 = .ok (.aload_n 0, 1) := by decide +kernel
theorem dX8_count_1 : decode cX8_count 1 = .ok (.iload_n 1, 1) := by decide +kernel
theorem dX8_count_2 : decode cX8_count 2 = .ok (.ifCond .lt 9, 3) := by decide +kernel
theorem dX8_count_5 : decode cX8_count 5 = .ok (.iload_n 1, 1) := by decide +kernel
theorem dX8_count_6 : decode cX8_count 6 = .ok (.bipush 8, 2) := by decide +kernel
theorem dX8_count_8 : decode cX8_count 8 = .ok (.if_icmp .le 7, 3) := by decide +kernel
theorem dX8_count_11 : decode cX8_count 11 = .ok (.iconst 1, 1) := by decide +kernel
theorem dX8_count_12 : decode cX8_count 12 = .ok (.goto 4, 3) := by decide +kernel
theorem dX8_count_15 : decode cX8_count 15 = .ok (.iconst 0, 1) := by decide +kernel
theorem dX8_count_16 : decode cX8_count 16 = .ok (.putfield 1, 3) := by decide +kernel
theorem dX8_count_19 : decode cX8_count 19 = .ok (.iload_n 1, 1) := by decide +kernel
theorem dX8_count_20 : decode cX8_count 20 = .ok (.tableswitch 101 0 8 #[52, 61, 66, 71, 76, 81, 86, 91, 96], 52) := by decide +kernel
theorem dX8_count_72 : decode cX8_count 72 = .ok (.aload_n 0, 1) := by decide +kernel
theorem dX8_count_73 : decode cX8_count 73 = .ok (.invokevirtual 148, 3) := by decide +kernel
theorem dX8_count_76 : decode cX8_count 76 = .ok (.aload_n 0, 1) := by decide +kernel
theorem dX8_count_77 : decode cX8_count 77 = .ok (.getfield 130, 3) := by decide +kernel
theorem dX8_count_80 : decode cX8_count 80 = .ok (.ireturn, 1) := by decide +kernel
theorem dX8_count_81 : decode cX8_count 81 = .ok (.aload_n 0, 1) := by decide +kernel
theorem dX8_count_82 : decode cX8_count 82 = .ok (.getfield 88, 3) := by decide +kernel
theorem dX8_count_85 : decode cX8_count 85 = .ok (.ireturn, 1) := by decide +kernel
theorem dX8_count_86 : decode cX8_count 86 = .ok (.aload_n 0, 1) := by decide +kernel
theorem dX8_count_87 : decode cX8_count 87 = .ok (.getfield 85, 3) := by decide +kernel
theorem dX8_count_90 : decode cX8_count 90 = .ok (.ireturn, 1) := by decide +kernel
theorem dX8_count_91 : decode cX8_count 91 = .ok (.aload_n 0, 1) := by decide +kernel
theorem dX8_count_92 : decode cX8_count 92 = .ok (.invokevirtual 167, 3) := by decide +kernel
theorem dX8_count_95 : decode cX8_count 95 = .ok (.ireturn, 1) := by decide +kernel
theorem dX8_count_96 : decode cX8_count 96 = .ok (.aload_n 0, 1) := by decide +kernel
theorem dX8_count_97 : decode cX8_count 97 = .ok (.getfield 82, 3) := by decide +kernel
theorem dX8_count_100 : decode cX8_count 100 = .ok (.ireturn, 1) := by decide +kernel
theorem dX8_count_101 : decode cX8_count 101 = .ok (.aload_n 0, 1) := by decide +kernel
theorem dX8_count_102 : decode cX8_count 102 = .ok (.getfield 139, 3) := by decide +kernel
theorem dX8_count_105 : decode cX8_count 105 = .ok (.ireturn, 1) := by decide +kernel
theorem dX8_count_106 : decode cX8_count 106 = .ok (.aload_n 0, 1) := by decide +kernel
theorem dX8_count_107 : decode cX8_count 107 = .ok (.getfield 154, 3) := by decide +kernel
theorem dX8_count_110 : decode cX8_count 110 = .ok (.ireturn, 1) := by decide +kernel
theorem dX8_count_111 : decode cX8_count 111 = .ok (.aload_n 0, 1) := by decide +kernel
theorem dX8_count_112 : decode cX8_count 112 = .ok (.getfield 118, 3) := by decide +kernel
theorem dX8_count_115 : decode cX8_count 115 = .ok (.ireturn, 1) := by decide +kernel
theorem dX8_count_116 : decode cX8_count 116 = .ok (.aload_n 0, 1) := by decide +kernel
theorem dX8_count_117 : decode cX8_count 117 = .ok (.getfield 121, 3) := by decide +kernel
theorem dX8_count_120 : decode cX8_count 120 = .ok (.ireturn, 1) := by decide +kernel
theorem dX8_count_121 : decode cX8_count 121 = .ok (.iconst 0, 1) := by decide +kernel
theorem dX8_count_122 : decode cX8_count 122 = .ok (.ireturn, 1) := by decide +kernel
theorem dX8_listed_0 : decode cX8_listed 0 = .ok (.aload_n 0, 1) := by decide +kernel
theorem dX8_listed_1 : decode cX8_listed 1 = .ok (.iconst 0, 1) := by decide +kernel
theorem dX8_listed_2 : decode cX8_listed 2 = .ok (.putfield 1, 3) := by decide +kernel
theorem dX8_listed_5 : decode cX8_listed 5 = .ok (.iload_n 1, 1) := by decide +kernel
theorem dX8_listed_6 : decode cX8_listed 6 = .ok (.ifCond .lt 20, 3) := by decide +kernel
theorem dX8_listed_9 : decode cX8_listed 9 = .ok (.iload_n 1, 1) := by decide +kernel
theorem dX8_listed_10 : decode cX8_listed 10 = .ok (.aload_n 0, 1) := by decide +kernel
theorem dX8_listed_11 : decode cX8_listed 11 = .ok (.getfield 88, 3) := by decide +kernel
theorem dX8_listed_14 : decode cX8_listed 14 = .ok (.if_icmp .ge 12, 3) := by decide +kernel
theorem dX8_listed_17 : decode cX8_listed 17 = .ok (.aload_n 0, 1) := by decide +kernel
theorem dX8_listed_18 : decode cX8_listed 18 = .ok (.getfield 54, 3) := by decide +kernel
theorem dX8_listed_21 : decode cX8_listed 21 = .ok (.iload_n 1, 1) := by decide +kernel
theorem dX8_listed_22 : decode cX8_listed 22 = .ok (.iaload, 1) := by decide +kernel
theorem dX8_listed_23 : decode cX8_listed 23 = .ok (.goto 4, 3) := by decide +kernel
theorem dX8_listed_26 : decode cX8_listed 26 = .ok (.iconst (-1), 1) := by decide +kernel
theorem dX8_listed_27 : decode cX8_listed 27 = .ok (.ireturn, 1) := by decide +kernel
theorem dX8_freed_0 : decode cX8_freed 0 = .ok (.aload_n 0, 1) := by decide +kernel
theorem dX8_freed_1 : decode cX8_freed 1 = .ok (.iconst 0, 1) := by decide +kernel
theorem dX8_freed_2 : decode cX8_freed 2 = .ok (.putfield 1, 3) := by decide +kernel
theorem dX8_freed_5 : decode cX8_freed 5 = .ok (.iload_n 1, 1) := by decide +kernel
theorem dX8_freed_6 : decode cX8_freed 6 = .ok (.ifCond .lt 34, 3) := by decide +kernel
theorem dX8_freed_9 : decode cX8_freed 9 = .ok (.iload_n 1, 1) := by decide +kernel
theorem dX8_freed_10 : decode cX8_freed 10 = .ok (.aload_n 0, 1) := by decide +kernel
theorem dX8_freed_11 : decode cX8_freed 11 = .ok (.getfield 82, 3) := by decide +kernel
theorem dX8_freed_14 : decode cX8_freed 14 = .ok (.if_icmp .ge 26, 3) := by decide +kernel
theorem dX8_freed_17 : decode cX8_freed 17 = .ok (.iload_n 1, 1) := by decide +kernel
theorem dX8_freed_18 : decode cX8_freed 18 = .ok (.aload_n 0, 1) := by decide +kernel
theorem dX8_freed_19 : decode cX8_freed 19 = .ok (.getfield 82, 3) := by decide +kernel
theorem dX8_freed_22 : decode cX8_freed 22 = .ok (.bipush 100, 2) := by decide +kernel
theorem dX8_freed_24 : decode cX8_freed 24 = .ok (.isub, 1) := by decide +kernel
theorem dX8_freed_25 : decode cX8_freed 25 = .ok (.if_icmp .lt 15, 3) := by decide +kernel
theorem dX8_freed_28 : decode cX8_freed 28 = .ok (.aload_n 0, 1) := by decide +kernel
theorem dX8_freed_29 : decode cX8_freed 29 = .ok (.getfield 63, 3) := by decide +kernel
theorem dX8_freed_32 : decode cX8_freed 32 = .ok (.iload_n 1, 1) := by decide +kernel
theorem dX8_freed_33 : decode cX8_freed 33 = .ok (.bipush 100, 2) := by decide +kernel
theorem dX8_freed_35 : decode cX8_freed 35 = .ok (.irem, 1) := by decide +kernel
theorem dX8_freed_36 : decode cX8_freed 36 = .ok (.iaload, 1) := by decide +kernel
theorem dX8_freed_37 : decode cX8_freed 37 = .ok (.goto 4, 3) := by decide +kernel
theorem dX8_freed_40 : decode cX8_freed 40 = .ok (.iconst (-1), 1) := by decide +kernel
theorem dX8_freed_41 : decode cX8_freed 41 = .ok (.ireturn, 1) := by decide +kernel
theorem dX8_at_0 : decode cX8_at 0 = .ok (.aload_n 0, 1) := by decide +kernel
theorem dX8_at_1 : decode cX8_at 1 = .ok (.iload_n 1, 1) := by decide +kernel
theorem dX8_at_2 : decode cX8_at 2 = .ok (.ifCond .lt 10, 3) := by decide +kernel
theorem dX8_at_5 : decode cX8_at 5 = .ok (.iload_n 1, 1) := by decide +kernel
theorem dX8_at_6 : decode cX8_at 6 = .ok (.sipush 400, 3) := by decide +kernel
theorem dX8_at_9 : decode cX8_at 9 = .ok (.if_icmp .lt 7, 3) := by decide +kernel
theorem dX8_at_12 : decode cX8_at 12 = .ok (.iconst 1, 1) := by decide +kernel
theorem dX8_at_13 : decode cX8_at 13 = .ok (.goto 4, 3) := by decide +kernel
theorem dX8_at_16 : decode cX8_at 16 = .ok (.iconst 0, 1) := by decide +kernel
theorem dX8_at_17 : decode cX8_at 17 = .ok (.putfield 1, 3) := by decide +kernel
theorem dX8_at_20 : decode cX8_at 20 = .ok (.aload_n 0, 1) := by decide +kernel
theorem dX8_at_21 : decode cX8_at 21 = .ok (.getfield 1, 3) := by decide +kernel
theorem dX8_at_24 : decode cX8_at 24 = .ok (.ifCond .le 7, 3) := by decide +kernel
theorem dX8_at_27 : decode cX8_at 27 = .ok (.iconst 0, 1) := by decide +kernel
theorem dX8_at_28 : decode cX8_at 28 = .ok (.goto 9, 3) := by decide +kernel
theorem dX8_at_31 : decode cX8_at 31 = .ok (.aload_n 0, 1) := by decide +kernel
theorem dX8_at_32 : decode cX8_at 32 = .ok (.getfield 51, 3) := by decide +kernel
theorem dX8_at_35 : decode cX8_at 35 = .ok (.iload_n 1, 1) := by decide +kernel
theorem dX8_at_36 : decode cX8_at 36 = .ok (.iaload, 1) := by decide +kernel
theorem dX8_at_37 : decode cX8_at 37 = .ok (.ireturn, 1) := by decide +kernel
theorem dJ9_floorMod_7cf53_0 : decode cJ9_floorMod_7cf53 0 = .ok (.iload_n 0, 1) := by decide +kernel
theorem dJ9_floorMod_7cf53_1 : decode cJ9_floorMod_7cf53 1 = .ok (.iload_n 1, 1) := by decide +kernel
theorem dJ9_floorMod_7cf53_2 : decode cJ9_floorMod_7cf53 2 = .ok (.irem, 1) := by decide +kernel
theorem dJ9_floorMod_7cf53_3 : decode cJ9_floorMod_7cf53 3 = .ok (.istore_n 2, 1) := by decide +kernel
theorem dJ9_floorMod_7cf53_4 : decode cJ9_floorMod_7cf53 4 = .ok (.iload_n 0, 1) := by decide +kernel
theorem dJ9_floorMod_7cf53_5 : decode cJ9_floorMod_7cf53 5 = .ok (.iload_n 1, 1) := by decide +kernel
theorem dJ9_floorMod_7cf53_6 : decode cJ9_floorMod_7cf53 6 = .ok (.ixor, 1) := by decide +kernel
theorem dJ9_floorMod_7cf53_7 : decode cJ9_floorMod_7cf53 7 = .ok (.ifCond .ge 11, 3) := by decide +kernel
theorem dJ9_floorMod_7cf53_10 : decode cJ9_floorMod_7cf53 10 = .ok (.iload_n 2, 1) := by decide +kernel
theorem dJ9_floorMod_7cf53_11 : decode cJ9_floorMod_7cf53 11 = .ok (.ifCond .eq 7, 3) := by decide +kernel
theorem dJ9_floorMod_7cf53_14 : decode cJ9_floorMod_7cf53 14 = .ok (.iload_n 2, 1) := by decide +kernel
theorem dJ9_floorMod_7cf53_15 : decode cJ9_floorMod_7cf53 15 = .ok (.iload_n 1, 1) := by decide +kernel
theorem dJ9_floorMod_7cf53_16 : decode cJ9_floorMod_7cf53 16 = .ok (.iadd, 1) := by decide +kernel
theorem dJ9_floorMod_7cf53_17 : decode cJ9_floorMod_7cf53 17 = .ok (.ireturn, 1) := by decide +kernel
theorem dJ9_floorMod_7cf53_18 : decode cJ9_floorMod_7cf53 18 = .ok (.iload_n 2, 1) := by decide +kernel
theorem dJ9_floorMod_7cf53_19 : decode cJ9_floorMod_7cf53 19 = .ok (.ireturn, 1) := by decide +kernel
