theorem dX12_go_1 : decode cX12_go 1 = .ok (.i2l, 1) := by decide +kernel
theorem dX12_go_2 : decode cX12_go 2 = .ok (.ldc2_w 69, 3) := by decide +kernel
theorem dX12_go_5 : decode cX12_go 5 = .ok (.ldc2_w 71, 3) := by decide +kernel
theorem dX12_go_8 : decode cX12_go 8 = .ok (.invokestatic 73, 3) := by decide +kernel
theorem dX12_go_11 : decode cX12_go 11 = .ok (.istore_n 2, 1) := by decide +kernel
theorem dX12_go_12 : decode cX12_go 12 = .ok (.aload_n 0, 1) := by decide +kernel
theorem dX12_go_13 : decode cX12_go 13 = .ok (.getfield 53, 3) := by decide +kernel
theorem dX12_go_16 : decode cX12_go 16 = .ok (.tableswitch 233 0 4 #[36, 53, 106, 131, 150], 36) := by decide +kernel
theorem dX12_go_52 : decode cX12_go 52 = .ok (.aload_n 0, 1) := by decide +kernel
theorem dX12_go_53 : decode cX12_go 53 = .ok (.iconst 1, 1) := by decide +kernel
theorem dX12_go_54 : decode cX12_go 54 = .ok (.invokevirtual 65, 3) := by decide +kernel
theorem dX12_go_57 : decode cX12_go 57 = .ok (.iload_n 1, 1) := by decide +kernel
theorem dX12_go_58 : decode cX12_go 58 = .ok (.bipush 112, 2) := by decide +kernel
theorem dX12_go_60 : decode cX12_go 60 = .ok (.if_icmp .ne 7, 3) := by decide +kernel
theorem dX12_go_63 : decode cX12_go 63 = .ok (.iconst 1, 1) := by decide +kernel
theorem dX12_go_64 : decode cX12_go 64 = .ok (.goto 4, 3) := by decide +kernel
theorem dX12_go_67 : decode cX12_go 67 = .ok (.iconst 0, 1) := by decide +kernel
theorem dX12_go_68 : decode cX12_go 68 = .ok (.ireturn, 1) := by decide +kernel
theorem dX12_go_69 : decode cX12_go 69 = .ok (.iload_n 2, 1) := by decide +kernel
theorem dX12_go_70 : decode cX12_go 70 = .ok (.ifCond .eq 10, 3) := by decide +kernel
theorem dX12_go_73 : decode cX12_go 73 = .ok (.aload_n 0, 1) := by decide +kernel
theorem dX12_go_74 : decode cX12_go 74 = .ok (.iload_n 1, 1) := by decide +kernel
theorem dX12_go_75 : decode cX12_go 75 = .ok (.iconst 3, 1) := by decide +kernel
theorem dX12_go_76 : decode cX12_go 76 = .ok (.invokevirtual 77, 3) := by decide +kernel
theorem dX12_go_79 : decode cX12_go 79 = .ok (.ireturn, 1) := by decide +kernel
theorem dX12_go_80 : decode cX12_go 80 = .ok (.aload_n 0, 1) := by decide +kernel
theorem dX12_go_81 : decode cX12_go 81 = .ok (.aload_n 0, 1) := by decide +kernel
theorem dX12_go_82 : decode cX12_go 82 = .ok (.getfield 59, 3) := by decide +kernel
theorem dX12_go_85 : decode cX12_go 85 = .ok (.putfield 81, 3) := by decide +kernel
theorem dX12_go_88 : decode cX12_go 88 = .ok (.aload_n 0, 1) := by decide +kernel
theorem dX12_go_89 : decode cX12_go 89 = .ok (.getfield 56, 3) := by decide +kernel
theorem dX12_go_92 : decode cX12_go 92 = .ok (.ifCond .le 7, 3) := by decide +kernel
theorem dX12_go_95 : decode cX12_go 95 = .ok (.iconst 1, 1) := by decide +kernel
theorem dX12_go_96 : decode cX12_go 96 = .ok (.goto 4, 3) := by decide +kernel
theorem dX12_go_99 : decode cX12_go 99 = .ok (.iconst 0, 1) := by decide +kernel
theorem dX12_go_100 : decode cX12_go 100 = .ok (.istore_n 3, 1) := by decide +kernel
theorem dX12_go_101 : decode cX12_go 101 = .ok (.aload_n 0, 1) := by decide +kernel
theorem dX12_go_102 : decode cX12_go 102 = .ok (.iconst 2, 1) := by decide +kernel
theorem dX12_go_103 : decode cX12_go 103 = .ok (.invokevirtual 65, 3) := by decide +kernel
theorem dX12_go_106 : decode cX12_go 106 = .ok (.iload_n 3, 1) := by decide +kernel
theorem dX12_go_107 : decode cX12_go 107 = .ok (.ifCond .eq 13, 3) := by decide +kernel
theorem dX12_go_110 : decode cX12_go 110 = .ok (.iload_n 1, 1) := by decide +kernel
theorem dX12_go_111 : decode cX12_go 111 = .ok (.bipush 115, 2) := by decide +kernel
theorem dX12_go_113 : decode cX12_go 113 = .ok (.if_icmp .ne 7, 3) := by decide +kernel
theorem dX12_go_116 : decode cX12_go 116 = .ok (.iconst 1, 1) := by decide +kernel
theorem dX12_go_117 : decode cX12_go 117 = .ok (.goto 4, 3) := by decide +kernel
theorem dX12_go_120 : decode cX12_go 120 = .ok (.iconst 0, 1) := by decide +kernel
theorem dX12_go_121 : decode cX12_go 121 = .ok (.ireturn, 1) := by decide +kernel
theorem dX12_go_122 : decode cX12_go 122 = .ok (.aload_n 0, 1) := by decide +kernel
theorem dX12_go_123 : decode cX12_go 123 = .ok (.iload_n 1, 1) := by decide +kernel
theorem dX12_go_124 : decode cX12_go 124 = .ok (.bipush 48, 2) := by decide +kernel
theorem dX12_go_126 : decode cX12_go 126 = .ok (.isub, 1) := by decide +kernel
theorem dX12_go_127 : decode cX12_go 127 = .ok (.putfield 84, 3) := by decide +kernel
theorem dX12_go_130 : decode cX12_go 130 = .ok (.aload_n 0, 1) := by decide +kernel
theorem dX12_go_131 : decode cX12_go 131 = .ok (.iconst 3, 1) := by decide +kernel
theorem dX12_go_132 : decode cX12_go 132 = .ok (.invokevirtual 65, 3) := by decide +kernel
theorem dX12_go_135 : decode cX12_go 135 = .ok (.iload_n 1, 1) := by decide +kernel
theorem dX12_go_136 : decode cX12_go 136 = .ok (.i2l, 1) := by decide +kernel
theorem dX12_go_137 : decode cX12_go 137 = .ok (.ldc2_w 87, 3) := by decide +kernel
theorem dX12_go_140 : decode cX12_go 140 = .ok (.ldc2_w 71, 3) := by decide +kernel
theorem dX12_go_143 : decode cX12_go 143 = .ok (.invokestatic 73, 3) := by decide +kernel
theorem dX12_go_146 : decode cX12_go 146 = .ok (.ireturn, 1) := by decide +kernel
theorem dX12_go_147 : decode cX12_go 147 = .ok (.iload_n 1, 1) := by decide +kernel
theorem dX12_go_148 : decode cX12_go 148 = .ok (.bipush 59, 2) := by decide +kernel
theorem dX12_go_150 : decode cX12_go 150 = .ok (.if_icmp .ne 14, 3) := by decide +kernel
theorem dX12_go_153 : decode cX12_go 153 = .ok (.aload_n 0, 1) := by decide +kernel
theorem dX12_go_154 : decode cX12_go 154 = .ok (.invokevirtual 89, 3) := by decide +kernel
theorem dX12_go_157 : decode cX12_go 157 = .ok (.ifCond .eq 7, 3) := by decide +kernel
theorem dX12_go_160 : decode cX12_go 160 = .ok (.iconst 1, 1) := by decide +kernel
theorem dX12_go_161 : decode cX12_go 161 = .ok (.goto 4, 3) := by decide +kernel
theorem dX12_go_164 : decode cX12_go 164 = .ok (.iconst 0, 1) := by decide +kernel
theorem dX12_go_165 : decode cX12_go 165 = .ok (.ireturn, 1) := by decide +kernel
theorem dX12_go_166 : decode cX12_go 166 = .ok (.iload_n 2, 1) := by decide +kernel
theorem dX12_go_167 : decode cX12_go 167 = .ok (.ifCond .eq 31, 3) := by decide +kernel
theorem dX12_go_170 : decode cX12_go 170 = .ok (.aload_n 0, 1) := by decide +kernel
theorem dX12_go_171 : decode cX12_go 171 = .ok (.getfield 56, 3) := by decide +kernel
theorem dX12_go_174 : decode cX12_go 174 = .ok (.ifCond .gt 9, 3) := by decide +kernel
theorem dX12_go_177 : decode cX12_go 177 = .ok (.iload_n 1, 1) := by decide +kernel
theorem dX12_go_178 : decode cX12_go 178 = .ok (.bipush 48, 2) := by decide +kernel
theorem dX12_go_180 : decode cX12_go 180 = .ok (.if_icmp .eq 16, 3) := by decide +kernel
theorem dX12_go_183 : decode cX12_go 183 = .ok (.aload_n 0, 1) := by decide +kernel
theorem dX12_go_184 : decode cX12_go 184 = .ok (.iload_n 1, 1) := by decide +kernel
theorem dX12_go_185 : decode cX12_go 185 = .ok (.iconst 2, 1) := by decide +kernel
theorem dX12_go_186 : decode cX12_go 186 = .ok (.invokevirtual 77, 3) := by decide +kernel
theorem dX12_go_189 : decode cX12_go 189 = .ok (.ifCond .eq 7, 3) := by decide +kernel
theorem dX12_go_192 : decode cX12_go 192 = .ok (.iconst 1, 1) := by decide +kernel
theorem dX12_go_193 : decode cX12_go 193 = .ok (.goto 4, 3) := by decide +kernel
theorem dX12_go_196 : decode cX12_go 196 = .ok (.iconst 0, 1) := by decide +kernel
theorem dX12_go_197 : decode cX12_go 197 = .ok (.ireturn, 1) := by decide +kernel
theorem dX12_go_198 : decode cX12_go 198 = .ok (.aload_n 0, 1) := by decide +kernel
theorem dX12_go_199 : decode cX12_go 199 = .ok (.getfield 56, 3) := by decide +kernel
theorem dX12_go_202 : decode cX12_go 202 = .ok (.ifCond .le 7, 3) := by decide +kernel
theorem dX12_go_205 : decode cX12_go 205 = .ok (.iconst 1, 1) := by decide +kernel
theorem dX12_go_206 : decode cX12_go 206 = .ok (.goto 4, 3) := by decide +kernel
theorem dX12_go_209 : decode cX12_go 209 = .ok (.iconst 0, 1) := by decide +kernel
theorem dX12_go_210 : decode cX12_go 210 = .ok (.istore 4, 2) := by decide +kernel
theorem dX12_go_212 : decode cX12_go 212 = .ok (.aload_n 0, 1) := by decide +kernel
theorem dX12_go_213 : decode cX12_go 213 = .ok (.getfield 19, 3) := by decide +kernel
theorem dX12_go_216 : decode cX12_go 216 = .ok (.aload_n 0, 1) := by decide +kernel
theorem dX12_go_217 : decode cX12_go 217 = .ok (.getfield 62, 3) := by decide +kernel
theorem dX12_go_220 : decode cX12_go 220 = .ok (.iconst 1, 1) := by decide +kernel
theorem dX12_go_221 : decode cX12_go 221 = .ok (.isub, 1) := by decide +kernel
theorem dX12_go_222 : decode cX12_go 222 = .ok (.aload_n 0, 1) := by decide +kernel
theorem dX12_go_223 : decode cX12_go 223 = .ok (.getfield 59, 3) := by decide +kernel
theorem dX12_go_226 : decode cX12_go 226 = .ok (.iastore, 1) := by decide +kernel
theorem dX12_go_227 : decode cX12_go 227 = .ok (.aload_n 0, 1) := by decide +kernel
theorem dX12_go_228 : decode cX12_go 228 = .ok (.iconst 5, 1) := by decide +kernel
theorem dX12_go_229 : decode cX12_go 229 = .ok (.invokevirtual 65, 3) := by decide +kernel
theorem dX12_go_232 : decode cX12_go 232 = .ok (.iload 4, 2) := by decide +kernel
theorem dX12_go_234 : decode cX12_go 234 = .ok (.ifCond .eq 13, 3) := by decide +kernel
theorem dX12_go_237 : decode cX12_go 237 = .ok (.iload_n 1, 1) := by decide +kernel
theorem dX12_go_238 : decode cX12_go 238 = .ok (.bipush 58, 2) := by decide +kernel
theorem dX12_go_240 : decode cX12_go 240 = .ok (.if_icmp .ne 7, 3) := by decide +kernel
theorem dX12_go_243 : decode cX12_go 243 = .ok (.iconst 1, 1) := by decide +kernel
theorem dX12_go_244 : decode cX12_go 244 = .ok (.goto 4, 3) := by decide +kernel
theorem dX12_go_247 : decode cX12_go 247 = .ok (.iconst 0, 1) := by decide +kernel
theorem dX12_go_248 : decode cX12_go 248 = .ok (.ireturn, 1) := by decide +kernel
theorem dX12_go_249 : decode cX12_go 249 = .ok (.iload_n 2, 1) := by decide +kernel
theorem dX12_go_250 : decode cX12_go 250 = .ok (.ifCond .eq 29, 3) := by decide +kernel
theorem dX12_go_253 : decode cX12_go 253 = .ok (.aload_n 0, 1) := by decide +kernel
theorem dX12_go_254 : decode cX12_go 254 = .ok (.iload_n 1, 1) := by decide +kernel
theorem dX12_go_255 : decode cX12_go 255 = .ok (.iconst 3, 1) := by decide +kernel
theorem dX12_go_256 : decode cX12_go 256 = .ok (.invokevirtual 77, 3) := by decide +kernel
theorem dX12_go_259 : decode cX12_go 259 = .ok (.istore 5, 2) := by decide +kernel
theorem dX12_go_261 : decode cX12_go 261 = .ok (.aload_n 0, 1) := by decide +kernel
theorem dX12_go_262 : decode cX12_go 262 = .ok (.getfield 22, 3) := by decide +kernel
theorem dX12_go_265 : decode cX12_go 265 = .ok (.aload_n 0, 1) := by decide +kernel
theorem dX12_go_266 : decode cX12_go 266 = .ok (.getfield 62, 3) := by decide +kernel
theorem dX12_go_269 : decode cX12_go 269 = .ok (.iconst 1, 1) := by decide +kernel
theorem dX12_go_270 : decode cX12_go 270 = .ok (.isub, 1) := by decide +kernel
theorem dX12_go_271 : decode cX12_go 271 = .ok (.aload_n 0, 1) := by decide +kernel
theorem dX12_go_272 : decode cX12_go 272 = .ok (.getfield 59, 3) := by decide +kernel
theorem dX12_go_275 : decode cX12_go 275 = .ok (.iastore, 1) := by decide +kernel
theorem dX12_go_276 : decode cX12_go 276 = .ok (.iload 5, 2) := by decide +kernel
theorem dX12_go_278 : decode cX12_go 278 = .ok (.ireturn, 1) := by decide +kernel
theorem dX12_go_279 : decode cX12_go 279 = .ok (.aload_n 0, 1) := by decide +kernel
theorem dX12_go_280 : decode cX12_go 280 = .ok (.getfield 56, 3) := by decide +kernel
theorem dX12_go_283 : decode cX12_go 283 = .ok (.ifCond .le 20, 3) := by decide +kernel
theorem dX12_go_286 : decode cX12_go 286 = .ok (.iload_n 1, 1) := by decide +kernel
theorem dX12_go_287 : decode cX12_go 287 = .ok (.bipush 59, 2) := by decide +kernel
theorem dX12_go_289 : decode cX12_go 289 = .ok (.if_icmp .ne 14, 3) := by decide +kernel
theorem dX12_go_292 : decode cX12_go 292 = .ok (.aload_n 0, 1) := by decide +kernel
theorem dX12_go_293 : decode cX12_go 293 = .ok (.invokevirtual 89, 3) := by decide +kernel
theorem dX12_go_296 : decode cX12_go 296 = .ok (.ifCond .eq 7, 3) := by decide +kernel
theorem dX12_go_299 : decode cX12_go 299 = .ok (.iconst 1, 1) := by decide +kernel
theorem dX12_go_300 : decode cX12_go 300 = .ok (.goto 4, 3) := by decide +kernel
theorem dX12_go_303 : decode cX12_go 303 = .ok (.iconst 0, 1) := by decide +kernel
theorem dX12_go_304 : decode cX12_go 304 = .ok (.ireturn, 1) := by decide +kernel
theorem dX12_faultOf_0 : decode cX12_faultOf 0 = .ok (.aload_n 0, 1) := by decide +kernel
theorem dX12_faultOf_1 : decode cX12_faultOf 1 = .ok (.iconst 0, 1) := by decide +kernel
theorem dX12_faultOf_2 : decode cX12_faultOf 2 = .ok (.putfield 62, 3) := by decide +kernel
theorem dX12_faultOf_5 : decode cX12_faultOf 5 = .ok (.aload_n 0, 1) := by decide +kernel
theorem dX12_faultOf_6 : decode cX12_faultOf 6 = .ok (.iconst 0, 1) := by decide +kernel
theorem dX12_faultOf_7 : decode cX12_faultOf 7 = .ok (.invokevirtual 65, 3) := by decide +kernel
theorem dX12_faultOf_10 : decode cX12_faultOf 10 = .ok (.iconst 0, 1) := by decide +kernel
theorem dX12_faultOf_11 : decode cX12_faultOf 11 = .ok (.istore_n 1, 1) := by decide +kernel
theorem dX12_faultOf_12 : decode cX12_faultOf 12 = .ok (.iload_n 1, 1) := by decide +kernel
theorem dX12_faultOf_13 : decode cX12_faultOf 13 = .ok (.aload_n 0, 1) := by decide +kernel
theorem dX12_faultOf_14 : decode cX12_faultOf 14 = .ok (.getfield 50, 3) := by decide +kernel
theorem dX12_faultOf_17 : decode cX12_faultOf 17 = .ok (.if_icmp .ge 22, 3) := by decide +kernel
theorem dX12_faultOf_20 : decode cX12_faultOf 20 = .ok (.aload_n 0, 1) := by decide +kernel
theorem dX12_faultOf_21 : decode cX12_faultOf 21 = .ok (.aload_n 0, 1) := by decide +kernel
theorem dX12_faultOf_22 : decode cX12_faultOf 22 = .ok (.getfield 7, 3) := by decide +kernel
theorem dX12_faultOf_25 : decode cX12_faultOf 25 = .ok (.iload_n 1, 1) := by decide +kernel
theorem dX12_faultOf_26 : decode cX12_faultOf 26 = .ok (.iaload, 1) := by decide +kernel
theorem dX12_faultOf_27 : decode cX12_faultOf 27 = .ok (.invokevirtual 93, 3) := by decide +kernel
theorem dX12_faultOf_30 : decode cX12_faultOf 30 = .ok (.ifCond .eq 9, 3) := by decide +kernel
theorem dX12_faultOf_33 : decode cX12_faultOf 33 = .ok (.iinc 1 1, 3) := by decide +kernel
theorem dX12_faultOf_36 : decode cX12_faultOf 36 = .ok (.goto (-24), 3) := by decide +kernel
theorem dX12_faultOf_39 : decode cX12_faultOf 39 = .ok (.iload_n 1, 1) := by decide +kernel
theorem dX12_faultOf_40 : decode cX12_faultOf 40 = .ok (.ireturn, 1) := by decide +kernel
theorem dX12_fault_0 : decode cX12_fault 0 = .ok (.aload_n 0, 1) := by decide +kernel
theorem dX12_fault_1 : decode cX12_fault 1 = .ok (.invokevirtual 97, 3) := by decide +kernel
theorem dX12_fault_4 : decode cX12_fault 4 = .ok (.ireturn, 1) := by decide +kernel
theorem dX12_market_0 : decode cX12_market 0 = .ok (.aload_n 0, 1) := by decide +kernel
theorem dX12_market_1 : decode cX12_market 1 = .ok (.invokevirtual 97, 3) := by decide +kernel
theorem dX12_market_4 : decode cX12_market 4 = .ok (.aload_n 0, 1) := by decide +kernel
theorem dX12_market_5 : decode cX12_market 5 = .ok (.getfield 50, 3) := by decide +kernel
theorem dX12_market_8 : decode cX12_market 8 = .ok (.if_icmp .lt 18, 3) := by decide +kernel
theorem dX12_market_11 : decode cX12_market 11 = .ok (.aload_n 0, 1) := by decide +kernel
theorem dX12_market_12 : decode cX12_market 12 = .ok (.getfield 53, 3) := by decide +kernel
theorem dX12_market_15 : decode cX12_market 15 = .ok (.iconst 5, 1) := by decide +kernel
theorem dX12_market_16 : decode cX12_market 16 = .ok (.if_icmp .ne 10, 3) := by decide +kernel
theorem dX12_market_19 : decode cX12_market 19 = .ok (.aload_n 0, 1) := by decide +kernel
theorem dX12_market_20 : decode cX12_market 20 = .ok (.getfield 56, 3) := by decide +kernel
theorem dX12_market_23 : decode cX12_market 23 = .ok (.ifCond .ne 6, 3) := by decide +kernel
theorem dX12_market_26 : decode cX12_market 26 = .ok (.bipush (-103), 2) := by decide +kernel
theorem dX12_market_28 : decode cX12_market 28 = .ok (.ireturn, 1) := by decide +kernel
theorem dX12_market_29 : decode cX12_market 29 = .ok (.aload_n 0, 1) := by decide +kernel
theorem dX12_market_30 : decode cX12_market 30 = .ok (.aload_n 0, 1) := by decide +kernel
theorem dX12_market_31 : decode cX12_market 31 = .ok (.getfield 81, 3) := by decide +kernel
theorem dX12_market_34 : decode cX12_market 34 = .ok (.putfield 101, 3) := by decide +kernel
theorem dX12_market_37 : decode cX12_market 37 = .ok (.aload_n 0, 1) := by decide +kernel
theorem dX12_market_38 : decode cX12_market 38 = .ok (.aload_n 0, 1) := by decide +kernel
theorem dX12_market_39 : decode cX12_market 39 = .ok (.getfield 84, 3) := by decide +kernel
theorem dX12_market_42 : decode cX12_market 42 = .ok (.putfield 104, 3) := by decide +kernel
theorem dX12_market_45 : decode cX12_market 45 = .ok (.aload_n 0, 1) := by decide +kernel
theorem dX12_market_46 : decode cX12_market 46 = .ok (.aload_n 0, 1) := by decide +kernel
theorem dX12_market_47 : decode cX12_market 47 = .ok (.getfield 62, 3) := by decide +kernel
theorem dX12_market_50 : decode cX12_market 50 = .ok (.putfield 44, 3) := by decide +kernel
theorem dX12_market_53 : decode cX12_market 53 = .ok (.iconst 0, 1) := by decide +kernel
theorem dX12_market_54 : decode cX12_market 54 = .ok (.istore_n 1, 1) := by decide +kernel
theorem dX12_market_55 : decode cX12_market 55 = .ok (.iload_n 1, 1) := by decide +kernel
theorem dX12_market_56 : decode cX12_market 56 = .ok (.iconst 4, 1) := by decide +kernel
theorem dX12_market_57 : decode cX12_market 57 = .ok (.if_icmp .ge 33, 3) := by decide +kernel
theorem dX12_market_60 : decode cX12_market 60 = .ok (.aload_n 0, 1) := by decide +kernel
theorem dX12_market_61 : decode cX12_market 61 = .ok (.getfield 13, 3) := by decide +kernel
theorem dX12_market_64 : decode cX12_market 64 = .ok (.iload_n 1, 1) := by decide +kernel
theorem dX12_market_65 : decode cX12_market 65 = .ok (.aload_n 0, 1) := by decide +kernel
theorem dX12_market_66 : decode cX12_market 66 = .ok (.getfield 19, 3) := by decide +kernel
theorem dX12_market_69 : decode cX12_market 69 = .ok (.iload_n 1, 1) := by decide +kernel
theorem dX12_market_70 : decode cX12_market 70 = .ok (.iaload, 1) := by decide +kernel
theorem dX12_market_71 : decode cX12_market 71 = .ok (.iastore, 1) := by decide +kernel
theorem dX12_market_72 : decode cX12_market 72 = .ok (.aload_n 0, 1) := by decide +kernel
theorem dX12_market_73 : decode cX12_market 73 = .ok (.getfield 16, 3) := by decide +kernel
theorem dX12_market_76 : decode cX12_market 76 = .ok (.iload_n 1, 1) := by decide +kernel
theorem dX12_market_77 : decode cX12_market 77 = .ok (.aload_n 0, 1) := by decide +kernel
theorem dX12_market_78 : decode cX12_market 78 = .ok (.getfield 22, 3) := by decide +kernel
theorem dX12_market_81 : decode cX12_market 81 = .ok (.iload_n 1, 1) := by decide +kernel
theorem dX12_market_82 : decode cX12_market 82 = .ok (.iaload, 1) := by decide +kernel
theorem dX12_market_83 : decode cX12_market 83 = .ok (.iastore, 1) := by decide +kernel
theorem dX12_market_84 : decode cX12_market 84 = .ok (.iinc 1 1, 3) := by decide +kernel
theorem dX12_market_87 : decode cX12_market 87 = .ok (.goto (-32), 3) := by decide +kernel
theorem dX12_market_90 : decode cX12_market 90 = .ok (.aload_n 0, 1) := by decide +kernel
theorem dX12_market_91 : decode cX12_market 91 = .ok (.iconst 0, 1) := by decide +kernel
theorem dX12_market_92 : decode cX12_market 92 = .ok (.putfield 50, 3) := by decide +kernel
theorem dX12_market_95 : decode cX12_market 95 = .ok (.aload_n 0, 1) := by decide +kernel
theorem dX12_market_96 : decode cX12_market 96 = .ok (.getfield 44, 3) := by decide +kernel
theorem dX12_market_99 : decode cX12_market 99 = .ok (.ireturn, 1) := by decide +kernel
theorem dX12_isCase_0 : decode cX12_isCase 0 = .ok (.iload_n 1, 1) := by decide +kernel
theorem dX12_isCase_1 : decode cX12_isCase 1 = .ok (.i2l, 1) := by decide +kernel
theorem dX12_isCase_2 : decode cX12_isCase 2 = .ok (.lconst 0, 1) := by decide +kernel
theorem dX12_isCase_3 : decode cX12_isCase 3 = .ok (.aload_n 0, 1) := by decide +kernel
theorem dX12_isCase_4 : decode cX12_isCase 4 = .ok (.getfield 44, 3) := by decide +kernel
theorem dX12_isCase_7 : decode cX12_isCase 7 = .ok (.iconst 1, 1) := by decide +kernel
theorem dX12_isCase_8 : decode cX12_isCase 8 = .ok (.isub, 1) := by decide +kernel
theorem dX12_isCase_9 : decode cX12_isCase 9 = .ok (.i2l, 1) := by decide +kernel
theorem dX12_isCase_10 : decode cX12_isCase 10 = .ok (.invokestatic 73, 3) := by decide +kernel
theorem dX12_isCase_13 : decode cX12_isCase 13 = .ok (.ireturn, 1) := by decide +kernel
theorem dX12_told_0 : decode cX12_told 0 = .ok (.iload_n 1, 1) := by decide +kernel
theorem dX12_told_1 : decode cX12_told 1 = .ok (.iconst (-1), 1) := by decide +kernel
theorem dX12_told_2 : decode cX12_told 2 = .ok (.if_icmp .ne 13, 3) := by decide +kernel
theorem dX12_told_5 : decode cX12_told 5 = .ok (.aload_n 0, 1) := by decide +kernel
theorem dX12_told_6 : decode cX12_told 6 = .ok (.getfield 44, 3) := by decide +kernel
theorem dX12_told_9 : decode cX12_told 9 = .ok (.ifCond .ne 17, 3) := by decide +kernel
theorem dX12_told_12 : decode cX12_told 12 = .ok (.goto 11, 3) := by decide +kernel
theorem dX12_told_15 : decode cX12_told 15 = .ok (.aload_n 0, 1) := by decide +kernel
theorem dX12_told_16 : decode cX12_told 16 = .ok (.iload_n 1, 1) := by decide +kernel
theorem dX12_told_17 : decode cX12_told 17 = .ok (.invokevirtual 107, 3) := by decide +kernel
theorem dX12_told_20 : decode cX12_told 20 = .ok (.ifCond .ne 6, 3) := by decide +kernel
theorem dX12_told_23 : decode cX12_told 23 = .ok (.bipush (-101), 2) := by decide +kernel
theorem dX12_told_25 : decode cX12_told 25 = .ok (.ireturn, 1) := by decide +kernel
theorem dX12_told_26 : decode cX12_told 26 = .ok (.iload_n 2, 1) := by decide +kernel
theorem dX12_told_27 : decode cX12_told 27 = .ok (.i2l, 1) := by decide +kernel
theorem dX12_told_28 : decode cX12_told 28 = .ok (.lconst 0, 1) := by decide +kernel
theorem dX12_told_29 : decode cX12_told 29 = .ok (.lconst 1, 1) := by decide +kernel
theorem dX12_told_30 : decode cX12_told 30 = .ok (.invokestatic 73, 3) := by decide +kernel
theorem dX12_told_33 : decode cX12_told 33 = .ok (.ifCond .ne 6, 3) := by decide +kernel
theorem dX12_told_36 : decode cX12_told 36 = .ok (.bipush (-102), 2) := by decide +kernel
theorem dX12_told_38 : decode cX12_told 38 = .ok (.ireturn, 1) := by decide +kernel
theorem dX12_told_39 : decode cX12_told 39 = .ok (.iload_n 1, 1) := by decide +kernel
theorem dX12_told_40 : decode cX12_told 40 = .ok (.iconst (-1), 1) := by decide +kernel
theorem dX12_told_41 : decode cX12_told 41 = .ok (.if_icmp .ne 21, 3) := by decide +kernel
theorem dX12_told_44 : decode cX12_told 44 = .ok (.iload_n 2, 1) := by decide +kernel
theorem dX12_told_45 : decode cX12_told 45 = .ok (.ifCond .ne 10, 3) := by decide +kernel
theorem dX12_told_48 : decode cX12_told 48 = .ok (.aload_n 0, 1) := by decide +kernel
theorem dX12_told_49 : decode cX12_told 49 = .ok (.getfield 101, 3) := by decide +kernel
theorem dX12_told_52 : decode cX12_told 52 = .ok (.goto 29, 3) := by decide +kernel
theorem dX12_told_55 : decode cX12_told 55 = .ok (.aload_n 0, 1) := by decide +kernel
theorem dX12_told_56 : decode cX12_told 56 = .ok (.getfield 104, 3) := by decide +kernel
theorem dX12_told_59 : decode cX12_told 59 = .ok (.goto 22, 3) := by decide +kernel
theorem dX12_told_62 : decode cX12_told 62 = .ok (.iload_n 2, 1) := by decide +kernel
theorem dX12_told_63 : decode cX12_told 63 = .ok (.ifCond .ne 12, 3) := by decide +kernel
theorem dX12_told_66 : decode cX12_told 66 = .ok (.aload_n 0, 1) := by decide +kernel
theorem dX12_told_67 : decode cX12_told 67 = .ok (.getfield 13, 3) := by decide +kernel
theorem dX12_told_70 : decode cX12_told 70 = .ok (.iload_n 1, 1) := by decide +kernel
theorem dX12_told_71 : decode cX12_told 71 = .ok (.iaload, 1) := by decide +kernel
theorem dX12_told_72 : decode cX12_told 72 = .ok (.goto 9, 3) := by decide +kernel
theorem dX12_told_75 : decode cX12_told 75 = .ok (.aload_n 0, 1) := by decide +kernel
theorem dX12_told_76 : decode cX12_told 76 = .ok (.getfield 16, 3) := by decide +kernel
theorem dX12_told_79 : decode cX12_told 79 = .ok (.iload_n 1, 1) := by decide +kernel
theorem dX12_told_80 : decode cX12_told 80 = .ok (.iaload, 1) := by decide +kernel
theorem dX12_told_81 : decode cX12_told 81 = .ok (.ireturn, 1) := by decide +kernel
theorem dX12_buyer_0 : decode cX12_buyer 0 = .ok (.iload_n 1, 1) := by decide +kernel
theorem dX12_buyer_1 : decode cX12_buyer 1 = .ok (.i2l, 1) := by decide +kernel
theorem dX12_buyer_2 : decode cX12_buyer 2 = .ok (.lconst 1, 1) := by decide +kernel
theorem dX12_buyer_3 : decode cX12_buyer 3 = .ok (.ldc2_w 110, 3) := by decide +kernel
theorem dX12_buyer_6 : decode cX12_buyer 6 = .ok (.invokestatic 73, 3) := by decide +kernel
theorem dX12_buyer_9 : decode cX12_buyer 9 = .ok (.ifCond .eq 15, 3) := by decide +kernel
theorem dX12_buyer_12 : decode cX12_buyer 12 = .ok (.iload_n 2, 1) := by decide +kernel
theorem dX12_buyer_13 : decode cX12_buyer 13 = .ok (.i2l, 1) := by decide +kernel
theorem dX12_buyer_14 : decode cX12_buyer 14 = .ok (.lconst 0, 1) := by decide +kernel
theorem dX12_buyer_15 : decode cX12_buyer 15 = .ok (.ldc2_w 112, 3) := by decide +kernel
theorem dX12_buyer_18 : decode cX12_buyer 18 = .ok (.invokestatic 73, 3) := by decide +kernel
theorem dX12_buyer_21 : decode cX12_buyer 21 = .ok (.ifCond .ne 6, 3) := by decide +kernel
theorem dX12_buyer_24 : decode cX12_buyer 24 = .ok (.bipush (-102), 2) := by decide +kernel
theorem dX12_buyer_26 : decode cX12_buyer 26 = .ok (.ireturn, 1) := by decide +kernel
theorem dX12_buyer_27 : decode cX12_buyer 27 = .ok (.aload_n 0, 1) := by decide +kernel
theorem dX12_buyer_28 : decode cX12_buyer 28 = .ok (.getfield 114, 3) := by decide +kernel
theorem dX12_buyer_31 : decode cX12_buyer 31 = .ok (.iconst 4, 1) := by decide +kernel
theorem dX12_buyer_32 : decode cX12_buyer 32 = .ok (.if_icmp .ne 6, 3) := by decide +kernel
theorem dX12_buyer_35 : decode cX12_buyer 35 = .ok (.bipush (-104), 2) := by decide +kernel
theorem dX12_buyer_37 : decode cX12_buyer 37 = .ok (.ireturn, 1) := by decide +kernel
theorem dX12_buyer_38 : decode cX12_buyer 38 = .ok (.aload_n 0, 1) := by decide +kernel
theorem dX12_buyer_39 : decode cX12_buyer 39 = .ok (.getfield 25, 3) := by decide +kernel
theorem dX12_buyer_42 : decode cX12_buyer 42 = .ok (.aload_n 0, 1) := by decide +kernel
theorem dX12_buyer_43 : decode cX12_buyer 43 = .ok (.getfield 114, 3) := by decide +kernel
theorem dX12_buyer_46 : decode cX12_buyer 46 = .ok (.iload_n 1, 1) := by decide +kernel
theorem dX12_buyer_47 : decode cX12_buyer 47 = .ok (.iastore, 1) := by decide +kernel
theorem dX12_buyer_48 : decode cX12_buyer 48 = .ok (.aload_n 0, 1) := by decide +kernel
theorem dX12_buyer_49 : decode cX12_buyer 49 = .ok (.getfield 28, 3) := by decide +kernel
theorem dX12_buyer_52 : decode cX12_buyer 52 = .ok (.aload_n 0, 1) := by decide +kernel
theorem dX12_buyer_53 : decode cX12_buyer 53 = .ok (.getfield 114, 3) := by decide +kernel
theorem dX12_buyer_56 : decode cX12_buyer 56 = .ok (.iload_n 2, 1) := by decide +kernel
theorem dX12_buyer_57 : decode cX12_buyer 57 = .ok (.iastore, 1) := by decide +kernel
theorem dX12_buyer_58 : decode cX12_buyer 58 = .ok (.aload_n 0, 1) := by decide +kernel
theorem dX12_buyer_59 : decode cX12_buyer 59 = .ok (.dup, 1) := by decide +kernel
theorem dX12_buyer_60 : decode cX12_buyer 60 = .ok (.getfield 114, 3) := by decide +kernel
theorem dX12_buyer_63 : decode cX12_buyer 63 = .ok (.iconst 1, 1) := by decide +kernel
theorem dX12_buyer_64 : decode cX12_buyer 64 = .ok (.iadd, 1) := by decide +kernel
theorem dX12_buyer_65 : decode cX12_buyer 65 = .ok (.putfield 114, 3) := by decide +kernel
theorem dX12_buyer_68 : decode cX12_buyer 68 = .ok (.aload_n 0, 1) := by decide +kernel
theorem dX12_buyer_69 : decode cX12_buyer 69 = .ok (.getfield 114, 3) := by decide +kernel
theorem dX12_buyer_72 : decode cX12_buyer 72 = .ok (.iconst 1, 1) := by decide +kernel
theorem dX12_buyer_73 : decode cX12_buyer 73 = .ok (.isub, 1) := by decide +kernel
theorem dX12_buyer_74 : decode cX12_buyer 74 = .ok (.ireturn, 1) := by decide +kernel
theorem dX12_isBuyer_0 : decode cX12_isBuyer 0 = .ok (.iload_n 1, 1) := by decide +kernel
theorem dX12_isBuyer_1 : decode cX12_isBuyer 1 = .ok (.i2l, 1) := by decide +kernel
theorem dX12_isBuyer_2 : decode cX12_isBuyer 2 = .ok (.lconst 0, 1) := by decide +kernel
theorem dX12_isBuyer_3 : decode cX12_isBuyer 3 = .ok (.aload_n 0, 1) := by decide +kernel
theorem dX12_isBuyer_4 : decode cX12_isBuyer 4 = .ok (.getfield 114, 3) := by decide +kernel
theorem dX12_isBuyer_7 : decode cX12_isBuyer 7 = .ok (.iconst 1, 1) := by decide +kernel
theorem dX12_isBuyer_8 : decode cX12_isBuyer 8 = .ok (.isub, 1) := by decide +kernel
theorem dX12_isBuyer_9 : decode cX12_isBuyer 9 = .ok (.i2l, 1) := by decide +kernel
theorem dX12_isBuyer_10 : decode cX12_isBuyer 10 = .ok (.invokestatic 73, 3) := by decide +kernel
theorem dX12_isBuyer_13 : decode cX12_isBuyer 13 = .ok (.ireturn, 1) := by decide +kernel
theorem dX12_change_0 : decode cX12_change 0 = .ok (.aload_n 0, 1) := by decide +kernel
theorem dX12_change_1 : decode cX12_change 1 = .ok (.iload_n 1, 1) := by decide +kernel
theorem dX12_change_2 : decode cX12_change 2 = .ok (.invokevirtual 117, 3) := by decide +kernel
theorem dX12_change_5 : decode cX12_change 5 = .ok (.ifCond .ne 6, 3) := by decide +kernel
theorem dX12_change_8 : decode cX12_change 8 = .ok (.bipush (-101), 2) := by decide +kernel
theorem dX12_change_10 : decode cX12_change 10 = .ok (.ireturn, 1) := by decide +kernel
theorem dX12_change_11 : decode cX12_change 11 = .ok (.iload_n 2, 1) := by decide +kernel
theorem dX12_change_12 : decode cX12_change 12 = .ok (.i2l, 1) := by decide +kernel
theorem dX12_change_13 : decode cX12_change 13 = .ok (.lconst 0, 1) := by decide +kernel
theorem dX12_change_14 : decode cX12_change 14 = .ok (.lconst 1, 1) := by decide +kernel
theorem dX12_change_15 : decode cX12_change 15 = .ok (.invokestatic 73, 3) := by decide +kernel
theorem dX12_change_18 : decode cX12_change 18 = .ok (.ifCond .eq 33, 3) := by decide +kernel
theorem dX12_change_21 : decode cX12_change 21 = .ok (.iload_n 3, 1) := by decide +kernel
theorem dX12_change_22 : decode cX12_change 22 = .ok (.i2l, 1) := by decide +kernel
theorem dX12_change_23 : decode cX12_change 23 = .ok (.iload_n 2, 1) := by decide +kernel
theorem dX12_change_24 : decode cX12_change 24 = .ok (.ifCond .ne 7, 3) := by decide +kernel
theorem dX12_change_27 : decode cX12_change 27 = .ok (.lconst 1, 1) := by decide +kernel
theorem dX12_change_28 : decode cX12_change 28 = .ok (.goto 4, 3) := by decide +kernel
theorem dX12_change_31 : decode cX12_change 31 = .ok (.lconst 0, 1) := by decide +kernel
theorem dX12_change_32 : decode cX12_change 32 = .ok (.iload_n 2, 1) := by decide +kernel
theorem dX12_change_33 : decode cX12_change 33 = .ok (.ifCond .ne 9, 3) := by decide +kernel
theorem dX12_change_36 : decode cX12_change 36 = .ok (.ldc2_w 110, 3) := by decide +kernel
theorem dX12_change_39 : decode cX12_change 39 = .ok (.goto 6, 3) := by decide +kernel
theorem dX12_change_42 : decode cX12_change 42 = .ok (.ldc2_w 112, 3) := by decide +kernel
theorem dX12_change_45 : decode cX12_change 45 = .ok (.invokestatic 73, 3) := by decide +kernel
theorem dX12_change_48 : decode cX12_change 48 = .ok (.ifCond .ne 6, 3) := by decide +kernel
theorem dX12_change_51 : decode cX12_change 51 = .ok (.bipush (-102), 2) := by decide +kernel
theorem dX12_change_53 : decode cX12_change 53 = .ok (.ireturn, 1) := by decide +kernel
theorem dX12_change_54 : decode cX12_change 54 = .ok (.iload_n 2, 1) := by decide +kernel
theorem dX12_change_55 : decode cX12_change 55 = .ok (.ifCond .ne 12, 3) := by decide +kernel
theorem dX12_change_58 : decode cX12_change 58 = .ok (.aload_n 0, 1) := by decide +kernel
theorem dX12_change_59 : decode cX12_change 59 = .ok (.getfield 25, 3) := by decide +kernel
theorem dX12_change_62 : decode cX12_change 62 = .ok (.iload_n 1, 1) := by decide +kernel
theorem dX12_change_63 : decode cX12_change 63 = .ok (.iaload, 1) := by decide +kernel
theorem dX12_change_64 : decode cX12_change 64 = .ok (.goto 9, 3) := by decide +kernel
theorem dX12_change_67 : decode cX12_change 67 = .ok (.aload_n 0, 1) := by decide +kernel
theorem dX12_change_68 : decode cX12_change 68 = .ok (.getfield 28, 3) := by decide +kernel
theorem dX12_change_71 : decode cX12_change 71 = .ok (.iload_n 1, 1) := by decide +kernel
theorem dX12_change_72 : decode cX12_change 72 = .ok (.iaload, 1) := by decide +kernel
theorem dX12_change_73 : decode cX12_change 73 = .ok (.istore 4, 2) := by decide +kernel
theorem dX12_change_75 : decode cX12_change 75 = .ok (.aload_n 0, 1) := by decide +kernel
theorem dX12_change_76 : decode cX12_change 76 = .ok (.getfield 25, 3) := by decide +kernel
theorem dX12_change_79 : decode cX12_change 79 = .ok (.iload_n 1, 1) := by decide +kernel
theorem dX12_change_80 : decode cX12_change 80 = .ok (.iload_n 2, 1) := by decide +kernel
theorem dX12_change_81 : decode cX12_change 81 = .ok (.ifCond .ne 7, 3) := by decide +kernel
theorem dX12_change_84 : decode cX12_change 84 = .ok (.iload_n 3, 1) := by decide +kernel
theorem dX12_change_85 : decode cX12_change 85 = .ok (.goto 9, 3) := by decide +kernel
theorem dX12_change_88 : decode cX12_change 88 = .ok (.aload_n 0, 1) := by decide +kernel
theorem dX12_change_89 : decode cX12_change 89 = .ok (.getfield 25, 3) := by decide +kernel
theorem dX12_change_92 : decode cX12_change 92 = .ok (.iload_n 1, 1) := by decide +kernel
theorem dX12_change_93 : decode cX12_change 93 = .ok (.iaload, 1) := by decide +kernel
theorem dX12_change_94 : decode cX12_change 94 = .ok (.iastore, 1) := by decide +kernel
theorem dX12_change_95 : decode cX12_change 95 = .ok (.aload_n 0, 1) := by decide +kernel
theorem dX12_change_96 : decode cX12_change 96 = .ok (.getfield 28, 3) := by decide +kernel
theorem dX12_change_99 : decode cX12_change 99 = .ok (.iload_n 1, 1) := by decide +kernel
theorem dX12_change_100 : decode cX12_change 100 = .ok (.iload_n 2, 1) := by decide +kernel
theorem dX12_change_101 : decode cX12_change 101 = .ok (.ifCond .ne 12, 3) := by decide +kernel
theorem dX12_change_104 : decode cX12_change 104 = .ok (.aload_n 0, 1) := by decide +kernel
theorem dX12_change_105 : decode cX12_change 105 = .ok (.getfield 28, 3) := by decide +kernel
theorem dX12_change_108 : decode cX12_change 108 = .ok (.iload_n 1, 1) := by decide +kernel
theorem dX12_change_109 : decode cX12_change 109 = .ok (.iaload, 1) := by decide +kernel
theorem dX12_change_110 : decode cX12_change 110 = .ok (.goto 4, 3) := by decide +kernel
theorem dX12_change_113 : decode cX12_change 113 = .ok (.iload_n 3, 1) := by decide +kernel
theorem dX12_change_114 : decode cX12_change 114 = .ok (.iastore, 1) := by decide +kernel
theorem dX12_change_115 : decode cX12_change 115 = .ok (.iload 4, 2) := by decide +kernel
theorem dX12_change_117 : decode cX12_change 117 = .ok (.ireturn, 1) := by decide +kernel
theorem dX12_news_0 : decode cX12_news 0 = .ok (.iload_n 1, 1) := by decide +kernel
theorem dX12_news_1 : decode cX12_news 1 = .ok (.i2l, 1) := by decide +kernel
theorem dX12_news_2 : decode cX12_news 2 = .ok (.lconst 0, 1) := by decide +kernel
theorem dX12_news_3 : decode cX12_news 3 = .ok (.ldc2_w 120, 3) := by decide +kernel
theorem dX12_news_6 : decode cX12_news 6 = .ok (.invokestatic 73, 3) := by decide +kernel
theorem dX12_news_9 : decode cX12_news 9 = .ok (.ifCond .eq 26, 3) := by decide +kernel
theorem dX12_news_12 : decode cX12_news 12 = .ok (.iload_n 2, 1) := by decide +kernel
theorem dX12_news_13 : decode cX12_news 13 = .ok (.i2l, 1) := by decide +kernel
theorem dX12_news_14 : decode cX12_news 14 = .ok (.lconst 0, 1) := by decide +kernel
theorem dX12_news_15 : decode cX12_news 15 = .ok (.iload_n 1, 1) := by decide +kernel
theorem dX12_news_16 : decode cX12_news 16 = .ok (.iconst 2, 1) := by decide +kernel
theorem dX12_news_17 : decode cX12_news 17 = .ok (.if_icmp .le 9, 3) := by decide +kernel
theorem dX12_news_20 : decode cX12_news 20 = .ok (.ldc2_w 122, 3) := by decide +kernel
theorem dX12_news_23 : decode cX12_news 23 = .ok (.goto 6, 3) := by decide +kernel
theorem dX12_news_26 : decode cX12_news 26 = .ok (.ldc2_w 48, 3) := by decide +kernel
theorem dX12_news_29 : decode cX12_news 29 = .ok (.invokestatic 73, 3) := by decide +kernel
theorem dX12_news_32 : decode cX12_news 32 = .ok (.ifCond .ne 6, 3) := by decide +kernel
theorem dX12_news_35 : decode cX12_news 35 = .ok (.bipush (-102), 2) := by decide +kernel
theorem dX12_news_37 : decode cX12_news 37 = .ok (.ireturn, 1) := by decide +kernel
theorem dX12_news_38 : decode cX12_news 38 = .ok (.aload_n 0, 1) := by decide +kernel
theorem dX12_news_39 : decode cX12_news 39 = .ok (.getfield 124, 3) := by decide +kernel
theorem dX12_news_42 : decode cX12_news 42 = .ok (.bipush 8, 2) := by decide +kernel
theorem dX12_news_44 : decode cX12_news 44 = .ok (.if_icmp .ne 6, 3) := by decide +kernel
theorem dX12_news_47 : decode cX12_news 47 = .ok (.bipush (-104), 2) := by decide +kernel
theorem dX12_news_49 : decode cX12_news 49 = .ok (.ireturn, 1) := by decide +kernel
theorem dX12_news_50 : decode cX12_news 50 = .ok (.aload_n 0, 1) := by decide +kernel
theorem dX12_news_51 : decode cX12_news 51 = .ok (.getfield 31, 3) := by decide +kernel
theorem dX12_news_54 : decode cX12_news 54 = .ok (.aload_n 0, 1) := by decide +kernel
theorem dX12_news_55 : decode cX12_news 55 = .ok (.getfield 124, 3) := by decide +kernel
theorem dX12_news_58 : decode cX12_news 58 = .ok (.iload_n 1, 1) := by decide +kernel
theorem dX12_news_59 : decode cX12_news 59 = .ok (.iastore, 1) := by decide +kernel
theorem dX12_news_60 : decode cX12_news 60 = .ok (.aload_n 0, 1) := by decide +kernel
theorem dX12_news_61 : decode cX12_news 61 = .ok (.getfield 34, 3) := by decide +kernel
theorem dX12_news_64 : decode cX12_news 64 = .ok (.aload_n 0, 1) := by decide +kernel
theorem dX12_news_65 : decode cX12_news 65 = .ok (.getfield 124, 3) := by decide +kernel
theorem dX12_news_68 : decode cX12_news 68 = .ok (.iload_n 2, 1) := by decide +kernel
theorem dX12_news_69 : decode cX12_news 69 = .ok (.iastore, 1) := by decide +kernel
theorem dX12_news_70 : decode cX12_news 70 = .ok (.aload_n 0, 1) := by decide +kernel
theorem dX12_news_71 : decode cX12_news 71 = .ok (.dup, 1) := by decide +kernel
theorem dX12_news_72 : decode cX12_news 72 = .ok (.getfield 124, 3) := by decide +kernel
theorem dX12_news_75 : decode cX12_news 75 = .ok (.iconst 1, 1) := by decide +kernel
theorem dX12_news_76 : decode cX12_news 76 = .ok (.iadd, 1) := by decide +kernel
theorem dX12_news_77 : decode cX12_news 77 = .ok (.putfield 124, 3) := by decide +kernel
theorem dX12_news_80 : decode cX12_news 80 = .ok (.aload_n 0, 1) := by decide +kernel
theorem dX12_news_81 : decode cX12_news 81 = .ok (.getfield 124, 3) := by decide +kernel
theorem dX12_news_84 : decode cX12_news 84 = .ok (.iconst 1, 1) := by decide +kernel
theorem dX12_news_85 : decode cX12_news 85 = .ok (.isub, 1) := by decide +kernel
theorem dX12_news_86 : decode cX12_news 86 = .ok (.ireturn, 1) := by decide +kernel
theorem dX12_isNews_0 : decode cX12_isNews 0 = .ok (.iload_n 1, 1) := by decide +kernel
theorem dX12_isNews_1 : decode cX12_isNews 1 = .ok (.i2l, 1) := by decide +kernel
theorem dX12_isNews_2 : decode cX12_isNews 2 = .ok (.lconst 0, 1) := by decide +kernel
theorem dX12_isNews_3 : decode cX12_isNews 3 = .ok (.aload_n 0, 1) := by decide +kernel
theorem dX12_isNews_4 : decode cX12_isNews 4 = .ok (.getfield 124, 3) := by decide +kernel
theorem dX12_isNews_7 : decode cX12_isNews 7 = .ok (.iconst 1, 1) := by decide +kernel
theorem dX12_isNews_8 : decode cX12_isNews 8 = .ok (.isub, 1) := by decide +kernel
theorem dX12_isNews_9 : decode cX12_isNews 9 = .ok (.i2l, 1) := by decide +kernel
theorem dX12_isNews_10 : decode cX12_isNews 10 = .ok (.invokestatic 73, 3) := by decide +kernel
theorem dX12_isNews_13 : decode cX12_isNews 13 = .ok (.ireturn, 1) := by decide +kernel
theorem dX12_as_0 : decode cX12_as 0 = .ok (.aload_n 0, 1) := by decide +kernel
theorem dX12_as_1 : decode cX12_as 1 = .ok (.iload_n 1, 1) := by decide +kernel
theorem dX12_as_2 : decode cX12_as 2 = .ok (.invokevirtual 127, 3) := by decide +kernel
theorem dX12_as_5 : decode cX12_as 5 = .ok (.ifCond .ne 6, 3) := by decide +kernel
theorem dX12_as_8 : decode cX12_as 8 = .ok (.bipush (-101), 2) := by decide +kernel
theorem dX12_as_10 : decode cX12_as 10 = .ok (.ireturn, 1) := by decide +kernel
theorem dX12_as_11 : decode cX12_as 11 = .ok (.iload_n 2, 1) := by decide +kernel
theorem dX12_as_12 : decode cX12_as 12 = .ok (.i2l, 1) := by decide +kernel
theorem dX12_as_13 : decode cX12_as 13 = .ok (.lconst 0, 1) := by decide +kernel
theorem dX12_as_14 : decode cX12_as 14 = .ok (.ldc2_w 120, 3) := by decide +kernel
theorem dX12_as_17 : decode cX12_as 17 = .ok (.invokestatic 73, 3) := by decide +kernel
theorem dX12_as_20 : decode cX12_as 20 = .ok (.ifCond .ne 6, 3) := by decide +kernel
theorem dX12_as_23 : decode cX12_as 23 = .ok (.bipush (-102), 2) := by decide +kernel
theorem dX12_as_25 : decode cX12_as 25 = .ok (.ireturn, 1) := by decide +kernel
theorem dX12_as_26 : decode cX12_as 26 = .ok (.iload_n 2, 1) := by decide +kernel
theorem dX12_as_27 : decode cX12_as 27 = .ok (.ifCond .eq 28, 3) := by decide +kernel
theorem dX12_as_30 : decode cX12_as 30 = .ok (.iload_n 2, 1) := by decide +kernel
theorem dX12_as_31 : decode cX12_as 31 = .ok (.aload_n 0, 1) := by decide +kernel
theorem dX12_as_32 : decode cX12_as 32 = .ok (.getfield 31, 3) := by decide +kernel
theorem dX12_as_35 : decode cX12_as 35 = .ok (.iload_n 1, 1) := by decide +kernel
theorem dX12_as_36 : decode cX12_as 36 = .ok (.iaload, 1) := by decide +kernel
theorem dX12_as_37 : decode cX12_as 37 = .ok (.if_icmp .eq 18, 3) := by decide +kernel
theorem dX12_as_40 : decode cX12_as 40 = .ok (.iload_n 2, 1) := by decide +kernel
theorem dX12_as_41 : decode cX12_as 41 = .ok (.iconst 1, 1) := by decide +kernel
theorem dX12_as_42 : decode cX12_as 42 = .ok (.if_icmp .ne 17, 3) := by decide +kernel
theorem dX12_as_45 : decode cX12_as 45 = .ok (.aload_n 0, 1) := by decide +kernel
theorem dX12_as_46 : decode cX12_as 46 = .ok (.getfield 31, 3) := by decide +kernel
theorem dX12_as_49 : decode cX12_as 49 = .ok (.iload_n 1, 1) := by decide +kernel
theorem dX12_as_50 : decode cX12_as 50 = .ok (.iaload, 1) := by decide +kernel
theorem dX12_as_51 : decode cX12_as 51 = .ok (.iconst 2, 1) := by decide +kernel
theorem dX12_as_52 : decode cX12_as 52 = .ok (.if_icmp .le 7, 3) := by decide +kernel
theorem dX12_as_55 : decode cX12_as 55 = .ok (.iconst 1, 1) := by decide +kernel
theorem dX12_as_56 : decode cX12_as 56 = .ok (.goto 4, 3) := by decide +kernel
theorem dX12_as_59 : decode cX12_as 59 = .ok (.iconst 0, 1) := by decide +kernel
theorem dX12_as_60 : decode cX12_as 60 = .ok (.istore_n 3, 1) := by decide +kernel
theorem dX12_as_61 : decode cX12_as 61 = .ok (.iload_n 3, 1) := by decide +kernel
theorem dX12_as_62 : decode cX12_as 62 = .ok (.ifCond .eq 7, 3) := by decide +kernel
theorem dX12_as_65 : decode cX12_as 65 = .ok (.iload_n 1, 1) := by decide +kernel
theorem dX12_as_66 : decode cX12_as 66 = .ok (.goto 4, 3) := by decide +kernel
theorem dX12_as_69 : decode cX12_as 69 = .ok (.iconst (-1), 1) := by decide +kernel
theorem dX12_as_70 : decode cX12_as 70 = .ok (.ireturn, 1) := by decide +kernel
theorem dX12_others_0 : decode cX12_others 0 = .ok (.aload_n 0, 1) := by decide +kernel
theorem dX12_others_1 : decode cX12_others 1 = .ok (.getfield 44, 3) := by decide +kernel
theorem dX12_others_4 : decode cX12_others 4 = .ok (.iconst 1, 1) := by decide +kernel
theorem dX12_others_5 : decode cX12_others 5 = .ok (.if_icmp .le 12, 3) := by decide +kernel
theorem dX12_others_8 : decode cX12_others 8 = .ok (.aload_n 0, 1) := by decide +kernel
theorem dX12_others_9 : decode cX12_others 9 = .ok (.getfield 44, 3) := by decide +kernel
theorem dX12_others_12 : decode cX12_others 12 = .ok (.iconst 1, 1) := by decide +kernel
theorem dX12_others_13 : decode cX12_others 13 = .ok (.isub, 1) := by decide +kernel
theorem dX12_others_14 : decode cX12_others 14 = .ok (.goto 4, 3) := by decide +kernel
theorem dX12_others_17 : decode cX12_others 17 = .ok (.iconst 1, 1) := by decide +kernel
theorem dX12_others_18 : decode cX12_others 18 = .ok (.ireturn, 1) := by decide +kernel
theorem dX12_unit_0 : decode cX12_unit 0 = .ok (.bipush 100, 2) := by decide +kernel
theorem dX12_unit_2 : decode cX12_unit 2 = .ok (.aload_n 0, 1) := by decide +kernel
theorem dX12_unit_3 : decode cX12_unit 3 = .ok (.invokevirtual 130, 3) := by decide +kernel
theorem dX12_unit_6 : decode cX12_unit 6 = .ok (.imul, 1) := by decide +kernel
theorem dX12_unit_7 : decode cX12_unit 7 = .ok (.ireturn, 1) := by decide +kernel
theorem dX12_allWeights_0 : decode cX12_allWeights 0 = .ok (.iconst 0, 1) := by decide +kernel
theorem dX12_allWeights_1 : decode cX12_allWeights 1 = .ok (.istore_n 1, 1) := by decide +kernel
theorem dX12_allWeights_2 : decode cX12_allWeights 2 = .ok (.iconst 0, 1) := by decide +kernel
theorem dX12_allWeights_3 : decode cX12_allWeights 3 = .ok (.istore_n 2, 1) := by decide +kernel
theorem dX12_allWeights_4 : decode cX12_allWeights 4 = .ok (.iload_n 2, 1) := by decide +kernel
theorem dX12_allWeights_5 : decode cX12_allWeights 5 = .ok (.aload_n 0, 1) := by decide +kernel
theorem dX12_allWeights_6 : decode cX12_allWeights 6 = .ok (.getfield 44, 3) := by decide +kernel
theorem dX12_allWeights_9 : decode cX12_allWeights 9 = .ok (.if_icmp .ge 18, 3) := by decide +kernel
theorem dX12_allWeights_12 : decode cX12_allWeights 12 = .ok (.iload_n 1, 1) := by decide +kernel
theorem dX12_allWeights_13 : decode cX12_allWeights 13 = .ok (.aload_n 0, 1) := by decide +kernel
theorem dX12_allWeights_14 : decode cX12_allWeights 14 = .ok (.getfield 13, 3) := by decide +kernel
theorem dX12_allWeights_17 : decode cX12_allWeights 17 = .ok (.iload_n 2, 1) := by decide +kernel
theorem dX12_allWeights_18 : decode cX12_allWeights 18 = .ok (.iaload, 1) := by decide +kernel
theorem dX12_allWeights_19 : decode cX12_allWeights 19 = .ok (.iadd, 1) := by decide +kernel
theorem dX12_allWeights_20 : decode cX12_allWeights 20 = .ok (.istore_n 1, 1) := by decide +kernel
theorem dX12_allWeights_21 : decode cX12_allWeights 21 = .ok (.iinc 2 1, 3) := by decide +kernel
theorem dX12_allWeights_24 : decode cX12_allWeights 24 = .ok (.goto (-20), 3) := by decide +kernel
theorem dX12_allWeights_27 : decode cX12_allWeights 27 = .ok (.iload_n 1, 1) := by decide +kernel
theorem dX12_allWeights_28 : decode cX12_allWeights 28 = .ok (.ireturn, 1) := by decide +kernel
theorem dX12_often_0 : decode cX12_often 0 = .ok (.aload_n 0, 1) := by decide +kernel
theorem dX12_often_1 : decode cX12_often 1 = .ok (.getfield 31, 3) := by decide +kernel
theorem dX12_often_4 : decode cX12_often 4 = .ok (.iload_n 1, 1) := by decide +kernel
theorem dX12_often_5 : decode cX12_often 5 = .ok (.iaload, 1) := by decide +kernel
theorem dX12_often_6 : decode cX12_often 6 = .ok (.istore 4, 2) := by decide +kernel
theorem dX12_often_8 : decode cX12_often 8 = .ok (.iload 4, 2) := by decide +kernel
theorem dX12_often_10 : decode cX12_often 10 = .ok (.iconst 3, 1) := by decide +kernel
theorem dX12_often_11 : decode cX12_often 11 = .ok (.if_icmp .ne 52, 3) := by decide +kernel
theorem dX12_often_14 : decode cX12_often 14 = .ok (.aload_n 0, 1) := by decide +kernel
theorem dX12_often_15 : decode cX12_often 15 = .ok (.getfield 44, 3) := by decide +kernel
theorem dX12_often_18 : decode cX12_often 18 = .ok (.iconst 1, 1) := by decide +kernel
theorem dX12_often_19 : decode cX12_often 19 = .ok (.if_icmp .le 44, 3) := by decide +kernel
theorem dX12_often_22 : decode cX12_often 22 = .ok (.iload_n 3, 1) := by decide +kernel
theorem dX12_often_23 : decode cX12_often 23 = .ok (.iload_n 2, 1) := by decide +kernel
theorem dX12_often_24 : decode cX12_often 24 = .ok (.if_icmp .ne 20, 3) := by decide +kernel
theorem dX12_often_27 : decode cX12_often 27 = .ok (.bipush 100, 2) := by decide +kernel
theorem dX12_often_29 : decode cX12_often 29 = .ok (.aload_n 0, 1) := by decide +kernel
theorem dX12_often_30 : decode cX12_often 30 = .ok (.getfield 34, 3) := by decide +kernel
theorem dX12_often_33 : decode cX12_often 33 = .ok (.iload_n 1, 1) := by decide +kernel
theorem dX12_often_34 : decode cX12_often 34 = .ok (.iaload, 1) := by decide +kernel
theorem dX12_often_35 : decode cX12_often 35 = .ok (.isub, 1) := by decide +kernel
theorem dX12_often_36 : decode cX12_often 36 = .ok (.aload_n 0, 1) := by decide +kernel
theorem dX12_often_37 : decode cX12_often 37 = .ok (.invokevirtual 130, 3) := by decide +kernel
theorem dX12_often_40 : decode cX12_often 40 = .ok (.imul, 1) := by decide +kernel
theorem dX12_often_41 : decode cX12_often 41 = .ok (.goto 21, 3) := by decide +kernel
theorem dX12_often_44 : decode cX12_often 44 = .ok (.iload_n 3, 1) := by decide +kernel
theorem dX12_often_45 : decode cX12_often 45 = .ok (.aload_n 0, 1) := by decide +kernel
theorem dX12_often_46 : decode cX12_often 46 = .ok (.getfield 44, 3) := by decide +kernel
theorem dX12_often_49 : decode cX12_often 49 = .ok (.if_icmp .ge 12, 3) := by decide +kernel
theorem dX12_often_52 : decode cX12_often 52 = .ok (.aload_n 0, 1) := by decide +kernel
theorem dX12_often_53 : decode cX12_often 53 = .ok (.getfield 34, 3) := by decide +kernel
theorem dX12_often_56 : decode cX12_often 56 = .ok (.iload_n 1, 1) := by decide +kernel
theorem dX12_often_57 : decode cX12_often 57 = .ok (.iaload, 1) := by decide +kernel
theorem dX12_often_58 : decode cX12_often 58 = .ok (.goto 4, 3) := by decide +kernel
theorem dX12_often_61 : decode cX12_often 61 = .ok (.iconst 0, 1) := by decide +kernel
theorem dX12_often_62 : decode cX12_often 62 = .ok (.ireturn, 1) := by decide +kernel
theorem dX12_often_63 : decode cX12_often 63 = .ok (.iload 4, 2) := by decide +kernel
theorem dX12_often_65 : decode cX12_often 65 = .ok (.ifCond .ne 7, 3) := by decide +kernel
theorem dX12_often_68 : decode cX12_often 68 = .ok (.iconst 0, 1) := by decide +kernel
theorem dX12_often_69 : decode cX12_often 69 = .ok (.goto 25, 3) := by decide +kernel
theorem dX12_often_72 : decode cX12_often 72 = .ok (.iload 4, 2) := by decide +kernel
theorem dX12_often_74 : decode cX12_often 74 = .ok (.iconst 2, 1) := by decide +kernel
theorem dX12_often_75 : decode cX12_often 75 = .ok (.if_icmp .ne 18, 3) := by decide +kernel
theorem dX12_often_78 : decode cX12_often 78 = .ok (.aload_n 0, 1) := by decide +kernel
theorem dX12_often_79 : decode cX12_often 79 = .ok (.getfield 34, 3) := by decide +kernel
theorem dX12_often_82 : decode cX12_often 82 = .ok (.iload_n 1, 1) := by decide +kernel
theorem dX12_often_83 : decode cX12_often 83 = .ok (.iaload, 1) := by decide +kernel
theorem dX12_often_84 : decode cX12_often 84 = .ok (.iconst 2, 1) := by decide +kernel
theorem dX12_often_85 : decode cX12_often 85 = .ok (.iload_n 2, 1) := by decide +kernel
theorem dX12_often_86 : decode cX12_often 86 = .ok (.imul, 1) := by decide +kernel
theorem dX12_often_87 : decode cX12_often 87 = .ok (.ishr, 1) := by decide +kernel
theorem dX12_often_88 : decode cX12_often 88 = .ok (.iconst 3, 1) := by decide +kernel
theorem dX12_often_89 : decode cX12_often 89 = .ok (.iand, 1) := by decide +kernel
theorem dX12_often_90 : decode cX12_often 90 = .ok (.goto 4, 3) := by decide +kernel
theorem dX12_often_93 : decode cX12_often 93 = .ok (.iload_n 2, 1) := by decide +kernel
theorem dX12_often_94 : decode cX12_often 94 = .ok (.istore 5, 2) := by decide +kernel
theorem dX12_often_96 : decode cX12_often 96 = .ok (.iload 5, 2) := by decide +kernel
theorem dX12_often_98 : decode cX12_often 98 = .ok (.iload_n 3, 1) := by decide +kernel
theorem dX12_often_99 : decode cX12_often 99 = .ok (.if_icmp .ne 10, 3) := by decide +kernel
theorem dX12_often_102 : decode cX12_often 102 = .ok (.aload_n 0, 1) := by decide +kernel
theorem dX12_often_103 : decode cX12_often 103 = .ok (.invokevirtual 133, 3) := by decide +kernel
theorem dX12_often_106 : decode cX12_often 106 = .ok (.goto 4, 3) := by decide +kernel
theorem dX12_often_109 : decode cX12_often 109 = .ok (.iconst 0, 1) := by decide +kernel
theorem dX12_often_110 : decode cX12_often 110 = .ok (.ireturn, 1) := by decide +kernel
theorem dX12_heardOf_0 : decode cX12_heardOf 0 = .ok (.iconst 0, 1) := by decide +kernel
theorem dX12_heardOf_1 : decode cX12_heardOf 1 = .ok (.istore_n 3, 1) := by decide +kernel
theorem dX12_heardOf_2 : decode cX12_heardOf 2 = .ok (.iconst 0, 1) := by decide +kernel
theorem dX12_heardOf_3 : decode cX12_heardOf 3 = .ok (.istore 4, 2) := by decide +kernel
theorem dX12_heardOf_5 : decode cX12_heardOf 5 = .ok (.iload 4, 2) := by decide +kernel
theorem dX12_heardOf_7 : decode cX12_heardOf 7 = .ok (.aload_n 0, 1) := by decide +kernel
theorem dX12_heardOf_8 : decode cX12_heardOf 8 = .ok (.getfield 44, 3) := by decide +kernel
theorem dX12_heardOf_11 : decode cX12_heardOf 11 = .ok (.if_icmp .ge 28, 3) := by decide +kernel
theorem dX12_heardOf_14 : decode cX12_heardOf 14 = .ok (.iload_n 3, 1) := by decide +kernel
theorem dX12_heardOf_15 : decode cX12_heardOf 15 = .ok (.aload_n 0, 1) := by decide +kernel
theorem dX12_heardOf_16 : decode cX12_heardOf 16 = .ok (.getfield 13, 3) := by decide +kernel
theorem dX12_heardOf_19 : decode cX12_heardOf 19 = .ok (.iload 4, 2) := by decide +kernel
theorem dX12_heardOf_21 : decode cX12_heardOf 21 = .ok (.iaload, 1) := by decide +kernel
theorem dX12_heardOf_22 : decode cX12_heardOf 22 = .ok (.aload_n 0, 1) := by decide +kernel
theorem dX12_heardOf_23 : decode cX12_heardOf 23 = .ok (.iload_n 1, 1) := by decide +kernel
theorem dX12_heardOf_24 : decode cX12_heardOf 24 = .ok (.iload 4, 2) := by decide +kernel
theorem dX12_heardOf_26 : decode cX12_heardOf 26 = .ok (.iload_n 2, 1) := by decide +kernel
theorem dX12_heardOf_27 : decode cX12_heardOf 27 = .ok (.invokevirtual 136, 3) := by decide +kernel
theorem dX12_heardOf_30 : decode cX12_heardOf 30 = .ok (.imul, 1) := by decide +kernel
theorem dX12_heardOf_31 : decode cX12_heardOf 31 = .ok (.iadd, 1) := by decide +kernel
theorem dX12_heardOf_32 : decode cX12_heardOf 32 = .ok (.istore_n 3, 1) := by decide +kernel
theorem dX12_heardOf_33 : decode cX12_heardOf 33 = .ok (.iinc 4 1, 3) := by decide +kernel
theorem dX12_heardOf_36 : decode cX12_heardOf 36 = .ok (.goto (-31), 3) := by decide +kernel
theorem dX12_heardOf_39 : decode cX12_heardOf 39 = .ok (.iload_n 3, 1) := by decide +kernel
theorem dX12_heardOf_40 : decode cX12_heardOf 40 = .ok (.ireturn, 1) := by decide +kernel
theorem dX12_baseOf_0 : decode cX12_baseOf 0 = .ok (.bipush 100, 2) := by decide +kernel
theorem dX12_baseOf_2 : decode cX12_baseOf 2 = .ok (.aload_n 0, 1) := by decide +kernel
theorem dX12_baseOf_3 : decode cX12_baseOf 3 = .ok (.getfield 101, 3) := by decide +kernel
theorem dX12_baseOf_6 : decode cX12_baseOf 6 = .ok (.imul, 1) := by decide +kernel
theorem dX12_baseOf_7 : decode cX12_baseOf 7 = .ok (.aload_n 0, 1) := by decide +kernel
theorem dX12_baseOf_8 : decode cX12_baseOf 8 = .ok (.getfield 31, 3) := by decide +kernel
theorem dX12_baseOf_11 : decode cX12_baseOf 11 = .ok (.iload_n 1, 1) := by decide +kernel
theorem dX12_baseOf_12 : decode cX12_baseOf 12 = .ok (.iaload, 1) := by decide +kernel
theorem dX12_baseOf_13 : decode cX12_baseOf 13 = .ok (.iconst 4, 1) := by decide +kernel
theorem dX12_baseOf_14 : decode cX12_baseOf 14 = .ok (.if_icmp .ne 24, 3) := by decide +kernel
theorem dX12_baseOf_17 : decode cX12_baseOf 17 = .ok (.aload_n 0, 1) := by decide +kernel
theorem dX12_baseOf_18 : decode cX12_baseOf 18 = .ok (.getfield 34, 3) := by decide +kernel
theorem dX12_baseOf_21 : decode cX12_baseOf 21 = .ok (.iload_n 1, 1) := by decide +kernel
theorem dX12_baseOf_22 : decode cX12_baseOf 22 = .ok (.iaload, 1) := by decide +kernel
theorem dX12_baseOf_23 : decode cX12_baseOf 23 = .ok (.aload_n 0, 1) := by decide +kernel
theorem dX12_baseOf_24 : decode cX12_baseOf 24 = .ok (.getfield 16, 3) := by decide +kernel
theorem dX12_baseOf_27 : decode cX12_baseOf 27 = .ok (.iload_n 2, 1) := by decide +kernel
theorem dX12_baseOf_28 : decode cX12_baseOf 28 = .ok (.iaload, 1) := by decide +kernel
theorem dX12_baseOf_29 : decode cX12_baseOf 29 = .ok (.aload_n 0, 1) := by decide +kernel
theorem dX12_baseOf_30 : decode cX12_baseOf 30 = .ok (.getfield 101, 3) := by decide +kernel
theorem dX12_baseOf_33 : decode cX12_baseOf 33 = .ok (.isub, 1) := by decide +kernel
theorem dX12_baseOf_34 : decode cX12_baseOf 34 = .ok (.imul, 1) := by decide +kernel
theorem dX12_baseOf_35 : decode cX12_baseOf 35 = .ok (.goto 4, 3) := by decide +kernel
theorem dX12_baseOf_38 : decode cX12_baseOf 38 = .ok (.iconst 0, 1) := by decide +kernel
theorem dX12_baseOf_39 : decode cX12_baseOf 39 = .ok (.iadd, 1) := by decide +kernel
theorem dX12_baseOf_40 : decode cX12_baseOf 40 = .ok (.ireturn, 1) := by decide +kernel
theorem dX12_edgeOf_0 : decode cX12_edgeOf 0 = .ok (.lconst 0, 1) := by decide +kernel
theorem dX12_edgeOf_1 : decode cX12_edgeOf 1 = .ok (.lstore_n 3, 1) := by decide +kernel
theorem dX12_edgeOf_2 : decode cX12_edgeOf 2 = .ok (.iconst 0, 1) := by decide +kernel
theorem dX12_edgeOf_3 : decode cX12_edgeOf 3 = .ok (.istore 5, 2) := by decide +kernel
theorem dX12_edgeOf_5 : decode cX12_edgeOf 5 = .ok (.iload 5, 2) := by decide +kernel
theorem dX12_edgeOf_7 : decode cX12_edgeOf 7 = .ok (.aload_n 0, 1) := by decide +kernel
theorem dX12_edgeOf_8 : decode cX12_edgeOf 8 = .ok (.getfield 44, 3) := by decide +kernel
theorem dX12_edgeOf_11 : decode cX12_edgeOf 11 = .ok (.if_icmp .ge 50, 3) := by decide +kernel
theorem dX12_edgeOf_14 : decode cX12_edgeOf 14 = .ok (.lload_n 3, 1) := by decide +kernel
theorem dX12_edgeOf_15 : decode cX12_edgeOf 15 = .ok (.aload_n 0, 1) := by decide +kernel
theorem dX12_edgeOf_16 : decode cX12_edgeOf 16 = .ok (.getfield 13, 3) := by decide +kernel
theorem dX12_edgeOf_19 : decode cX12_edgeOf 19 = .ok (.iload 5, 2) := by decide +kernel
theorem dX12_edgeOf_21 : decode cX12_edgeOf 21 = .ok (.iaload, 1) := by decide +kernel
theorem dX12_edgeOf_22 : decode cX12_edgeOf 22 = .ok (.i2l, 1) := by decide +kernel
theorem dX12_edgeOf_23 : decode cX12_edgeOf 23 = .ok (.aload_n 0, 1) := by decide +kernel
theorem dX12_edgeOf_24 : decode cX12_edgeOf 24 = .ok (.iload_n 1, 1) := by decide +kernel
theorem dX12_edgeOf_25 : decode cX12_edgeOf 25 = .ok (.iload 5, 2) := by decide +kernel
theorem dX12_edgeOf_27 : decode cX12_edgeOf 27 = .ok (.iload_n 2, 1) := by decide +kernel
theorem dX12_edgeOf_28 : decode cX12_edgeOf 28 = .ok (.invokevirtual 136, 3) := by decide +kernel
theorem dX12_edgeOf_31 : decode cX12_edgeOf 31 = .ok (.i2l, 1) := by decide +kernel
theorem dX12_edgeOf_32 : decode cX12_edgeOf 32 = .ok (.lmul, 1) := by decide +kernel
theorem dX12_edgeOf_33 : decode cX12_edgeOf 33 = .ok (.bipush 100, 2) := by decide +kernel
theorem dX12_edgeOf_35 : decode cX12_edgeOf 35 = .ok (.aload_n 0, 1) := by decide +kernel
theorem dX12_edgeOf_36 : decode cX12_edgeOf 36 = .ok (.getfield 16, 3) := by decide +kernel
theorem dX12_edgeOf_39 : decode cX12_edgeOf 39 = .ok (.iload 5, 2) := by decide +kernel
theorem dX12_edgeOf_41 : decode cX12_edgeOf 41 = .ok (.iaload, 1) := by decide +kernel
theorem dX12_edgeOf_42 : decode cX12_edgeOf 42 = .ok (.imul, 1) := by decide +kernel
theorem dX12_edgeOf_43 : decode cX12_edgeOf 43 = .ok (.aload_n 0, 1) := by decide +kernel
theorem dX12_edgeOf_44 : decode cX12_edgeOf 44 = .ok (.iload_n 1, 1) := by decide +kernel
theorem dX12_edgeOf_45 : decode cX12_edgeOf 45 = .ok (.iload 5, 2) := by decide +kernel
theorem dX12_edgeOf_47 : decode cX12_edgeOf 47 = .ok (.invokevirtual 140, 3) := by decide +kernel
theorem dX12_edgeOf_50 : decode cX12_edgeOf 50 = .ok (.isub, 1) := by decide +kernel
theorem dX12_edgeOf_51 : decode cX12_edgeOf 51 = .ok (.i2l, 1) := by decide +kernel
theorem dX12_edgeOf_52 : decode cX12_edgeOf 52 = .ok (.lmul, 1) := by decide +kernel
theorem dX12_edgeOf_53 : decode cX12_edgeOf 53 = .ok (.ladd, 1) := by decide +kernel
theorem dX12_edgeOf_54 : decode cX12_edgeOf 54 = .ok (.lstore_n 3, 1) := by decide +kernel
theorem dX12_edgeOf_55 : decode cX12_edgeOf 55 = .ok (.iinc 5 1, 3) := by decide +kernel
theorem dX12_edgeOf_58 : decode cX12_edgeOf 58 = .ok (.goto (-53), 3) := by decide +kernel
theorem dX12_edgeOf_61 : decode cX12_edgeOf 61 = .ok (.lload_n 3, 1) := by decide +kernel
theorem dX12_edgeOf_62 : decode cX12_edgeOf 62 = .ok (.lreturn, 1) := by decide +kernel
theorem dX12_common_0 : decode cX12_common 0 = .ok (.lload_n 0, 1) := by decide +kernel
theorem dX12_common_1 : decode cX12_common 1 = .ok (.lconst 0, 1) := by decide +kernel
theorem dX12_common_2 : decode cX12_common 2 = .ok (.lcmp, 1) := by decide +kernel
theorem dX12_common_3 : decode cX12_common 3 = .ok (.ifCond .ge 8, 3) := by decide +kernel
theorem dX12_common_6 : decode cX12_common 6 = .ok (.lload_n 0, 1) := by decide +kernel
theorem dX12_common_7 : decode cX12_common 7 = .ok (.lneg, 1) := by decide +kernel
theorem dX12_common_8 : decode cX12_common 8 = .ok (.goto 4, 3) := by decide +kernel
theorem dX12_common_11 : decode cX12_common 11 = .ok (.lload_n 0, 1) := by decide +kernel
theorem dX12_common_12 : decode cX12_common 12 = .ok (.lstore 4, 2) := by decide +kernel
theorem dX12_common_14 : decode cX12_common 14 = .ok (.lload_n 2, 1) := by decide +kernel
theorem dX12_common_15 : decode cX12_common 15 = .ok (.lstore 6, 2) := by decide +kernel
theorem dX12_common_17 : decode cX12_common 17 = .ok (.lload 4, 2) := by decide +kernel
theorem dX12_common_19 : decode cX12_common 19 = .ok (.lconst 0, 1) := by decide +kernel
theorem dX12_common_20 : decode cX12_common 20 = .ok (.lcmp, 1) := by decide +kernel
theorem dX12_common_21 : decode cX12_common 21 = .ok (.ifCond .eq 21, 3) := by decide +kernel
theorem dX12_common_24 : decode cX12_common 24 = .ok (.lload 6, 2) := by decide +kernel
theorem dX12_common_26 : decode cX12_common 26 = .ok (.lload 4, 2) := by decide +kernel
theorem dX12_common_28 : decode cX12_common 28 = .ok (.lrem, 1) := by decide +kernel
theorem dX12_common_29 : decode cX12_common 29 = .ok (.lstore 8, 2) := by decide +kernel
theorem dX12_common_31 : decode cX12_common 31 = .ok (.lload 4, 2) := by decide +kernel
theorem dX12_common_33 : decode cX12_common 33 = .ok (.lstore 6, 2) := by decide +kernel
theorem dX12_common_35 : decode cX12_common 35 = .ok (.lload 8, 2) := by decide +kernel
theorem dX12_common_37 : decode cX12_common 37 = .ok (.lstore 4, 2) := by decide +kernel
theorem dX12_common_39 : decode cX12_common 39 = .ok (.goto (-22), 3) := by decide +kernel
theorem dX12_common_42 : decode cX12_common 42 = .ok (.lload 6, 2) := by decide +kernel
theorem dX12_common_44 : decode cX12_common 44 = .ok (.lreturn, 1) := by decide +kernel
theorem dX12_term_0 : decode cX12_term 0 = .ok (.lload_n 0, 1) := by decide +kernel
theorem dX12_term_1 : decode cX12_term 1 = .ok (.lload_n 2, 1) := by decide +kernel
theorem dX12_term_2 : decode cX12_term 2 = .ok (.invokestatic 144, 3) := by decide +kernel
theorem dX12_term_5 : decode cX12_term 5 = .ok (.lstore 5, 2) := by decide +kernel
theorem dX12_term_7 : decode cX12_term 7 = .ok (.iload 4, 2) := by decide +kernel
theorem dX12_term_9 : decode cX12_term 9 = .ok (.ifCond .ne 10, 3) := by decide +kernel
theorem dX12_term_12 : decode cX12_term 12 = .ok (.lload_n 0, 1) := by decide +kernel
theorem dX12_term_13 : decode cX12_term 13 = .ok (.lload 5, 2) := by decide +kernel
theorem dX12_term_15 : decode cX12_term 15 = .ok (.ldiv, 1) := by decide +kernel
theorem dX12_term_16 : decode cX12_term 16 = .ok (.goto 7, 3) := by decide +kernel
theorem dX12_term_19 : decode cX12_term 19 = .ok (.lload_n 2, 1) := by decide +kernel
theorem dX12_term_20 : decode cX12_term 20 = .ok (.lload 5, 2) := by decide +kernel
theorem dX12_term_22 : decode cX12_term 22 = .ok (.ldiv, 1) := by decide +kernel
theorem dX12_term_23 : decode cX12_term 23 = .ok (.lreturn, 1) := by decide +kernel
theorem dX12_isSign_0 : decode cX12_isSign 0 = .ok (.iload_n 0, 1) := by decide +kernel
theorem dX12_isSign_1 : decode cX12_isSign 1 = .ok (.i2l, 1) := by decide +kernel
theorem dX12_isSign_2 : decode cX12_isSign 2 = .ok (.lconst 0, 1) := by decide +kernel
theorem dX12_isSign_3 : decode cX12_isSign 3 = .ok (.ldc2_w 110, 3) := by decide +kernel
theorem dX12_isSign_6 : decode cX12_isSign 6 = .ok (.invokestatic 73, 3) := by decide +kernel
theorem dX12_isSign_9 : decode cX12_isSign 9 = .ok (.ireturn, 1) := by decide +kernel
theorem dX12_isPart_0 : decode cX12_isPart 0 = .ok (.iload_n 0, 1) := by decide +kernel
theorem dX12_isPart_1 : decode cX12_isPart 1 = .ok (.i2l, 1) := by decide +kernel
theorem dX12_isPart_2 : decode cX12_isPart 2 = .ok (.lconst 0, 1) := by decide +kernel
theorem dX12_isPart_3 : decode cX12_isPart 3 = .ok (.lconst 1, 1) := by decide +kernel
theorem dX12_isPart_4 : decode cX12_isPart 4 = .ok (.invokestatic 73, 3) := by decide +kernel
theorem dX12_isPart_7 : decode cX12_isPart 7 = .ok (.ireturn, 1) := by decide +kernel
theorem dX12_refusal_0 : decode cX12_refusal 0 = .ok (.aload_n 0, 1) := by decide +kernel
theorem dX12_refusal_1 : decode cX12_refusal 1 = .ok (.iload_n 1, 1) := by decide +kernel
theorem dX12_refusal_2 : decode cX12_refusal 2 = .ok (.invokevirtual 127, 3) := by decide +kernel
theorem dX12_refusal_5 : decode cX12_refusal 5 = .ok (.ifCond .ne 8, 3) := by decide +kernel
theorem dX12_refusal_8 : decode cX12_refusal 8 = .ok (.bipush (-101), 2) := by decide +kernel
theorem dX12_refusal_10 : decode cX12_refusal 10 = .ok (.goto 34, 3) := by decide +kernel
theorem dX12_refusal_13 : decode cX12_refusal 13 = .ok (.aload_n 0, 1) := by decide +kernel
theorem dX12_refusal_14 : decode cX12_refusal 14 = .ok (.getfield 44, 3) := by decide +kernel
theorem dX12_refusal_17 : decode cX12_refusal 17 = .ok (.ifCond .ne 8, 3) := by decide +kernel
theorem dX12_refusal_20 : decode cX12_refusal 20 = .ok (.bipush (-103), 2) := by decide +kernel
theorem dX12_refusal_22 : decode cX12_refusal 22 = .ok (.goto 22, 3) := by decide +kernel
theorem dX12_refusal_25 : decode cX12_refusal 25 = .ok (.iload_n 2, 1) := by decide +kernel
theorem dX12_refusal_26 : decode cX12_refusal 26 = .ok (.ifCond .ne 8, 3) := by decide +kernel
theorem dX12_refusal_29 : decode cX12_refusal 29 = .ok (.bipush (-101), 2) := by decide +kernel
theorem dX12_refusal_31 : decode cX12_refusal 31 = .ok (.goto 13, 3) := by decide +kernel
theorem dX12_refusal_34 : decode cX12_refusal 34 = .ok (.iload_n 3, 1) := by decide +kernel
theorem dX12_refusal_35 : decode cX12_refusal 35 = .ok (.ifCond .ne 8, 3) := by decide +kernel
theorem dX12_refusal_38 : decode cX12_refusal 38 = .ok (.bipush (-102), 2) := by decide +kernel
theorem dX12_refusal_40 : decode cX12_refusal 40 = .ok (.goto 4, 3) := by decide +kernel
theorem dX12_refusal_43 : decode cX12_refusal 43 = .ok (.iconst 0, 1) := by decide +kernel
theorem dX12_refusal_44 : decode cX12_refusal 44 = .ok (.ireturn, 1) := by decide +kernel
theorem dX12_asLong_0 : decode cX12_asLong 0 = .ok (.iload_n 0, 1) := by decide +kernel
theorem dX12_asLong_1 : decode cX12_asLong 1 = .ok (.bipush (-101), 2) := by decide +kernel
theorem dX12_asLong_3 : decode cX12_asLong 3 = .ok (.if_icmp .ne 9, 3) := by decide +kernel
theorem dX12_asLong_6 : decode cX12_asLong 6 = .ok (.ldc2_w 148, 3) := by decide +kernel
theorem dX12_asLong_9 : decode cX12_asLong 9 = .ok (.goto 18, 3) := by decide +kernel
theorem dX12_asLong_12 : decode cX12_asLong 12 = .ok (.iload_n 0, 1) := by decide +kernel
theorem dX12_asLong_13 : decode cX12_asLong 13 = .ok (.bipush (-102), 2) := by decide +kernel
theorem dX12_asLong_15 : decode cX12_asLong 15 = .ok (.if_icmp .ne 9, 3) := by decide +kernel
theorem dX12_asLong_18 : decode cX12_asLong 18 = .ok (.ldc2_w 150, 3) := by decide +kernel
theorem dX12_asLong_21 : decode cX12_asLong 21 = .ok (.goto 6, 3) := by decide +kernel
theorem dX12_asLong_24 : decode cX12_asLong 24 = .ok (.ldc2_w 152, 3) := by decide +kernel
theorem dX12_asLong_27 : decode cX12_asLong 27 = .ok (.lreturn, 1) := by decide +kernel
theorem dX12_heard_0 : decode cX12_heard 0 = .ok (.aload_n 0, 1) := by decide +kernel
theorem dX12_heard_1 : decode cX12_heard 1 = .ok (.iload_n 1, 1) := by decide +kernel
theorem dX12_heard_2 : decode cX12_heard 2 = .ok (.iconst 1, 1) := by decide +kernel
theorem dX12_heard_3 : decode cX12_heard 3 = .ok (.iload_n 2, 1) := by decide +kernel
theorem dX12_heard_4 : decode cX12_heard 4 = .ok (.invokestatic 154, 3) := by decide +kernel
theorem dX12_heard_7 : decode cX12_heard 7 = .ok (.ifCond .eq 14, 3) := by decide +kernel
theorem dX12_heard_10 : decode cX12_heard 10 = .ok (.iload_n 3, 1) := by decide +kernel
theorem dX12_heard_11 : decode cX12_heard 11 = .ok (.invokestatic 157, 3) := by decide +kernel
theorem dX12_heard_14 : decode cX12_heard 14 = .ok (.ifCond .eq 7, 3) := by decide +kernel
theorem dX12_heard_17 : decode cX12_heard 17 = .ok (.iconst 1, 1) := by decide +kernel
theorem dX12_heard_18 : decode cX12_heard 18 = .ok (.goto 4, 3) := by decide +kernel
theorem dX12_heard_21 : decode cX12_heard 21 = .ok (.iconst 0, 1) := by decide +kernel
theorem dX12_heard_22 : decode cX12_heard 22 = .ok (.invokevirtual 160, 3) := by decide +kernel
theorem dX12_heard_25 : decode cX12_heard 25 = .ok (.istore 4, 2) := by decide +kernel
theorem dX12_heard_27 : decode cX12_heard 27 = .ok (.iload 4, 2) := by decide +kernel
theorem dX12_heard_29 : decode cX12_heard 29 = .ok (.ifCond .eq 11, 3) := by decide +kernel
theorem dX12_heard_32 : decode cX12_heard 32 = .ok (.iload 4, 2) := by decide +kernel
theorem dX12_heard_34 : decode cX12_heard 34 = .ok (.invokestatic 164, 3) := by decide +kernel
theorem dX12_heard_37 : decode cX12_heard 37 = .ok (.goto 25, 3) := by decide +kernel
theorem dX12_heard_40 : decode cX12_heard 40 = .ok (.aload_n 0, 1) := by decide +kernel
theorem dX12_heard_41 : decode cX12_heard 41 = .ok (.iload_n 1, 1) := by decide +kernel
theorem dX12_heard_42 : decode cX12_heard 42 = .ok (.iload_n 2, 1) := by decide +kernel
theorem dX12_heard_43 : decode cX12_heard 43 = .ok (.invokevirtual 168, 3) := by decide +kernel
theorem dX12_heard_46 : decode cX12_heard 46 = .ok (.i2l, 1) := by decide +kernel
theorem dX12_heard_47 : decode cX12_heard 47 = .ok (.aload_n 0, 1) := by decide +kernel
theorem dX12_heard_48 : decode cX12_heard 48 = .ok (.invokevirtual 133, 3) := by decide +kernel
theorem dX12_heard_51 : decode cX12_heard 51 = .ok (.i2l, 1) := by decide +kernel
theorem dX12_heard_52 : decode cX12_heard 52 = .ok (.aload_n 0, 1) := by decide +kernel
theorem dX12_heard_53 : decode cX12_heard 53 = .ok (.invokevirtual 171, 3) := by decide +kernel
theorem dX12_heard_56 : decode cX12_heard 56 = .ok (.i2l, 1) := by decide +kernel
theorem dX12_heard_57 : decode cX12_heard 57 = .ok (.lmul, 1) := by decide +kernel
theorem dX12_heard_58 : decode cX12_heard 58 = .ok (.iload_n 3, 1) := by decide +kernel
theorem dX12_heard_59 : decode cX12_heard 59 = .ok (.invokestatic 174, 3) := by decide +kernel
theorem dX12_heard_62 : decode cX12_heard 62 = .ok (.lreturn, 1) := by decide +kernel
theorem dX12_edge_0 : decode cX12_edge 0 = .ok (.aload_n 0, 1) := by decide +kernel
theorem dX12_edge_1 : decode cX12_edge 1 = .ok (.iload_n 1, 1) := by decide +kernel
theorem dX12_edge_2 : decode cX12_edge 2 = .ok (.iconst 1, 1) := by decide +kernel
theorem dX12_edge_3 : decode cX12_edge 3 = .ok (.iload_n 2, 1) := by decide +kernel
theorem dX12_edge_4 : decode cX12_edge 4 = .ok (.invokestatic 154, 3) := by decide +kernel
theorem dX12_edge_7 : decode cX12_edge 7 = .ok (.ifCond .eq 14, 3) := by decide +kernel
theorem dX12_edge_10 : decode cX12_edge 10 = .ok (.iload_n 3, 1) := by decide +kernel
theorem dX12_edge_11 : decode cX12_edge 11 = .ok (.invokestatic 157, 3) := by decide +kernel
theorem dX12_edge_14 : decode cX12_edge 14 = .ok (.ifCond .eq 7, 3) := by decide +kernel
theorem dX12_edge_17 : decode cX12_edge 17 = .ok (.iconst 1, 1) := by decide +kernel
theorem dX12_edge_18 : decode cX12_edge 18 = .ok (.goto 4, 3) := by decide +kernel
theorem dX12_edge_21 : decode cX12_edge 21 = .ok (.iconst 0, 1) := by decide +kernel
theorem dX12_edge_22 : decode cX12_edge 22 = .ok (.invokevirtual 160, 3) := by decide +kernel
theorem dX12_edge_25 : decode cX12_edge 25 = .ok (.istore 4, 2) := by decide +kernel
theorem dX12_edge_27 : decode cX12_edge 27 = .ok (.iload 4, 2) := by decide +kernel
theorem dX12_edge_29 : decode cX12_edge 29 = .ok (.ifCond .eq 9, 3) := by decide +kernel
theorem dX12_edge_32 : decode cX12_edge 32 = .ok (.iload 4, 2) := by decide +kernel
theorem dX12_edge_34 : decode cX12_edge 34 = .ok (.invokestatic 164, 3) := by decide +kernel
theorem dX12_edge_37 : decode cX12_edge 37 = .ok (.lreturn, 1) := by decide +kernel
theorem dX12_edge_38 : decode cX12_edge 38 = .ok (.aload_n 0, 1) := by decide +kernel
theorem dX12_edge_39 : decode cX12_edge 39 = .ok (.iload_n 1, 1) := by decide +kernel
theorem dX12_edge_40 : decode cX12_edge 40 = .ok (.iload_n 2, 1) := by decide +kernel
theorem dX12_edge_41 : decode cX12_edge 41 = .ok (.invokevirtual 168, 3) := by decide +kernel
theorem dX12_edge_44 : decode cX12_edge 44 = .ok (.istore 5, 2) := by decide +kernel
theorem dX12_edge_46 : decode cX12_edge 46 = .ok (.iload 5, 2) := by decide +kernel
theorem dX12_edge_48 : decode cX12_edge 48 = .ok (.ifCond .ne 9, 3) := by decide +kernel
theorem dX12_edge_51 : decode cX12_edge 51 = .ok (.ldc2_w 178, 3) := by decide +kernel
theorem dX12_edge_54 : decode cX12_edge 54 = .ok (.goto 20, 3) := by decide +kernel
theorem dX12_edge_57 : decode cX12_edge 57 = .ok (.aload_n 0, 1) := by decide +kernel
theorem dX12_edge_58 : decode cX12_edge 58 = .ok (.iload_n 1, 1) := by decide +kernel
theorem dX12_edge_59 : decode cX12_edge 59 = .ok (.iload_n 2, 1) := by decide +kernel
theorem dX12_edge_60 : decode cX12_edge 60 = .ok (.invokevirtual 180, 3) := by decide +kernel
theorem dX12_edge_63 : decode cX12_edge 63 = .ok (.ldc2_w 122, 3) := by decide +kernel
theorem dX12_edge_66 : decode cX12_edge 66 = .ok (.iload 5, 2) := by decide +kernel
theorem dX12_edge_68 : decode cX12_edge 68 = .ok (.i2l, 1) := by decide +kernel
theorem dX12_edge_69 : decode cX12_edge 69 = .ok (.lmul, 1) := by decide +kernel
theorem dX12_edge_70 : decode cX12_edge 70 = .ok (.iload_n 3, 1) := by decide +kernel
theorem dX12_edge_71 : decode cX12_edge 71 = .ok (.invokestatic 174, 3) := by decide +kernel
theorem dX12_edge_74 : decode cX12_edge 74 = .ok (.lreturn, 1) := by decide +kernel
theorem dX12_isSet_0 : decode cX12_isSet 0 = .ok (.iload_n 1, 1) := by decide +kernel
theorem dX12_isSet_1 : decode cX12_isSet 1 = .ok (.i2l, 1) := by decide +kernel
theorem dX12_isSet_2 : decode cX12_isSet 2 = .ok (.lconst 0, 1) := by decide +kernel
theorem dX12_isSet_3 : decode cX12_isSet 3 = .ok (.iconst 1, 1) := by decide +kernel
theorem dX12_isSet_4 : decode cX12_isSet 4 = .ok (.aload_n 0, 1) := by decide +kernel
theorem dX12_isSet_5 : decode cX12_isSet 5 = .ok (.getfield 114, 3) := by decide +kernel
theorem dX12_isSet_8 : decode cX12_isSet 8 = .ok (.ishl, 1) := by decide +kernel
theorem dX12_isSet_9 : decode cX12_isSet 9 = .ok (.iconst 1, 1) := by decide +kernel
theorem dX12_isSet_10 : decode cX12_isSet 10 = .ok (.isub, 1) := by decide +kernel
theorem dX12_isSet_11 : decode cX12_isSet 11 = .ok (.i2l, 1) := by decide +kernel
theorem dX12_isSet_12 : decode cX12_isSet 12 = .ok (.invokestatic 73, 3) := by decide +kernel
theorem dX12_isSet_15 : decode cX12_isSet 15 = .ok (.ireturn, 1) := by decide +kernel
theorem dX12_dealings_0 : decode cX12_dealings 0 = .ok (.iconst 1, 1) := by decide +kernel
theorem dX12_dealings_1 : decode cX12_dealings 1 = .ok (.istore_n 1, 1) := by decide +kernel
theorem dX12_dealings_2 : decode cX12_dealings 2 = .ok (.iconst 0, 1) := by decide +kernel
theorem dX12_dealings_3 : decode cX12_dealings 3 = .ok (.istore_n 2, 1) := by decide +kernel
theorem dX12_dealings_4 : decode cX12_dealings 4 = .ok (.iload_n 2, 1) := by decide +kernel
theorem dX12_dealings_5 : decode cX12_dealings 5 = .ok (.aload_n 0, 1) := by decide +kernel
theorem dX12_dealings_6 : decode cX12_dealings 6 = .ok (.getfield 114, 3) := by decide +kernel
theorem dX12_dealings_9 : decode cX12_dealings 9 = .ok (.if_icmp .ge 14, 3) := by decide +kernel
theorem dX12_dealings_12 : decode cX12_dealings 12 = .ok (.iload_n 1, 1) := by decide +kernel
theorem dX12_dealings_13 : decode cX12_dealings 13 = .ok (.bipush 7, 2) := by decide +kernel
theorem dX12_dealings_15 : decode cX12_dealings 15 = .ok (.imul, 1) := by decide +kernel
theorem dX12_dealings_16 : decode cX12_dealings 16 = .ok (.istore_n 1, 1) := by decide +kernel
theorem dX12_dealings_17 : decode cX12_dealings 17 = .ok (.iinc 2 1, 3) := by decide +kernel
theorem dX12_dealings_20 : decode cX12_dealings 20 = .ok (.goto (-16), 3) := by decide +kernel
theorem dX12_dealings_23 : decode cX12_dealings 23 = .ok (.iload_n 1, 1) := by decide +kernel
theorem dX12_dealings_24 : decode cX12_dealings 24 = .ok (.ireturn, 1) := by decide +kernel
theorem dX12_power_0 : decode cX12_power 0 = .ok (.iload_n 0, 1) := by decide +kernel
theorem dX12_power_1 : decode cX12_power 1 = .ok (.ifCond .ne 7, 3) := by decide +kernel
theorem dX12_power_4 : decode cX12_power 4 = .ok (.iconst 1, 1) := by decide +kernel
theorem dX12_power_5 : decode cX12_power 5 = .ok (.goto 26, 3) := by decide +kernel
theorem dX12_power_8 : decode cX12_power 8 = .ok (.iload_n 0, 1) := by decide +kernel
theorem dX12_power_9 : decode cX12_power 9 = .ok (.iconst 1, 1) := by decide +kernel
theorem dX12_power_10 : decode cX12_power 10 = .ok (.if_icmp .ne 8, 3) := by decide +kernel
theorem dX12_power_13 : decode cX12_power 13 = .ok (.bipush 7, 2) := by decide +kernel
theorem dX12_power_15 : decode cX12_power 15 = .ok (.goto 16, 3) := by decide +kernel
theorem dX12_power_18 : decode cX12_power 18 = .ok (.iload_n 0, 1) := by decide +kernel
theorem dX12_power_19 : decode cX12_power 19 = .ok (.iconst 2, 1) := by decide +kernel
theorem dX12_power_20 : decode cX12_power 20 = .ok (.if_icmp .ne 8, 3) := by decide +kernel
theorem dX12_power_23 : decode cX12_power 23 = .ok (.bipush 49, 2) := by decide +kernel
theorem dX12_power_25 : decode cX12_power 25 = .ok (.goto 6, 3) := by decide +kernel
theorem dX12_power_28 : decode cX12_power 28 = .ok (.sipush 343, 3) := by decide +kernel
theorem dX12_power_31 : decode cX12_power 31 = .ok (.ireturn, 1) := by decide +kernel
theorem dX12_stepsOf_0 : decode cX12_stepsOf 0 = .ok (.iload_n 0, 1) := by decide +kernel
theorem dX12_stepsOf_1 : decode cX12_stepsOf 1 = .ok (.iload_n 1, 1) := by decide +kernel
theorem dX12_stepsOf_2 : decode cX12_stepsOf 2 = .ok (.invokestatic 184, 3) := by decide +kernel
theorem dX12_stepsOf_5 : decode cX12_stepsOf 5 = .ok (.idiv, 1) := by decide +kernel
theorem dX12_stepsOf_6 : decode cX12_stepsOf 6 = .ok (.bipush 7, 2) := by decide +kernel
theorem dX12_stepsOf_8 : decode cX12_stepsOf 8 = .ok (.irem, 1) := by decide +kernel
theorem dX12_stepsOf_9 : decode cX12_stepsOf 9 = .ok (.iconst 3, 1) := by decide +kernel
theorem dX12_stepsOf_10 : decode cX12_stepsOf 10 = .ok (.isub, 1) := by decide +kernel
theorem dX12_stepsOf_11 : decode cX12_stepsOf 11 = .ok (.ireturn, 1) := by decide +kernel
theorem dX12_together_0 : decode cX12_together 0 = .ok (.iconst 0, 1) := by decide +kernel
theorem dX12_together_1 : decode cX12_together 1 = .ok (.istore_n 2, 1) := by decide +kernel
theorem dX12_together_2 : decode cX12_together 2 = .ok (.iconst 0, 1) := by decide +kernel
theorem dX12_together_3 : decode cX12_together 3 = .ok (.istore_n 3, 1) := by decide +kernel
theorem dX12_together_4 : decode cX12_together 4 = .ok (.iload_n 3, 1) := by decide +kernel
theorem dX12_together_5 : decode cX12_together 5 = .ok (.aload_n 0, 1) := by decide +kernel
theorem dX12_together_6 : decode cX12_together 6 = .ok (.getfield 114, 3) := by decide +kernel
theorem dX12_together_9 : decode cX12_together 9 = .ok (.if_icmp .ge 17, 3) := by decide +kernel
theorem dX12_together_12 : decode cX12_together 12 = .ok (.iload_n 2, 1) := by decide +kernel
theorem dX12_together_13 : decode cX12_together 13 = .ok (.iload_n 1, 1) := by decide +kernel
theorem dX12_together_14 : decode cX12_together 14 = .ok (.iload_n 3, 1) := by decide +kernel
theorem dX12_together_15 : decode cX12_together 15 = .ok (.invokestatic 188, 3) := by decide +kernel
theorem dX12_together_18 : decode cX12_together 18 = .ok (.iadd, 1) := by decide +kernel
theorem dX12_together_19 : decode cX12_together 19 = .ok (.istore_n 2, 1) := by decide +kernel
theorem dX12_together_20 : decode cX12_together 20 = .ok (.iinc 3 1, 3) := by decide +kernel
theorem dX12_together_23 : decode cX12_together 23 = .ok (.goto (-19), 3) := by decide +kernel
theorem dX12_together_26 : decode cX12_together 26 = .ok (.iload_n 2, 1) := by decide +kernel
theorem dX12_together_27 : decode cX12_together 27 = .ok (.ireturn, 1) := by decide +kernel
theorem dX12_isOf_0 : decode cX12_isOf 0 = .ok (.iconst 1, 1) := by decide +kernel
theorem dX12_isOf_1 : decode cX12_isOf 1 = .ok (.istore_n 3, 1) := by decide +kernel
theorem dX12_isOf_2 : decode cX12_isOf 2 = .ok (.iconst 0, 1) := by decide +kernel
theorem dX12_isOf_3 : decode cX12_isOf 3 = .ok (.istore 4, 2) := by decide +kernel
theorem dX12_isOf_5 : decode cX12_isOf 5 = .ok (.iload 4, 2) := by decide +kernel
theorem dX12_isOf_7 : decode cX12_isOf 7 = .ok (.aload_n 0, 1) := by decide +kernel
theorem dX12_isOf_8 : decode cX12_isOf 8 = .ok (.getfield 114, 3) := by decide +kernel
theorem dX12_isOf_11 : decode cX12_isOf 11 = .ok (.if_icmp .ge 71, 3) := by decide +kernel
theorem dX12_isOf_14 : decode cX12_isOf 14 = .ok (.iload_n 1, 1) := by decide +kernel
theorem dX12_isOf_15 : decode cX12_isOf 15 = .ok (.iload 4, 2) := by decide +kernel
theorem dX12_isOf_17 : decode cX12_isOf 17 = .ok (.invokestatic 188, 3) := by decide +kernel
theorem dX12_isOf_20 : decode cX12_isOf 20 = .ok (.istore 5, 2) := by decide +kernel
theorem dX12_isOf_22 : decode cX12_isOf 22 = .ok (.iload_n 3, 1) := by decide +kernel
theorem dX12_isOf_23 : decode cX12_isOf 23 = .ok (.ifCond .eq 51, 3) := by decide +kernel
theorem dX12_isOf_26 : decode cX12_isOf 26 = .ok (.iload_n 2, 1) := by decide +kernel
theorem dX12_isOf_27 : decode cX12_isOf 27 = .ok (.iload 4, 2) := by decide +kernel
theorem dX12_isOf_29 : decode cX12_isOf 29 = .ok (.ishr, 1) := by decide +kernel
theorem dX12_isOf_30 : decode cX12_isOf 30 = .ok (.iconst 1, 1) := by decide +kernel
theorem dX12_isOf_31 : decode cX12_isOf 31 = .ok (.iand, 1) := by decide +kernel
theorem dX12_isOf_32 : decode cX12_isOf 32 = .ok (.iconst 1, 1) := by decide +kernel
theorem dX12_isOf_33 : decode cX12_isOf 33 = .ok (.if_icmp .ne 32, 3) := by decide +kernel
theorem dX12_isOf_36 : decode cX12_isOf 36 = .ok (.iload 5, 2) := by decide +kernel
theorem dX12_isOf_38 : decode cX12_isOf 38 = .ok (.i2l, 1) := by decide +kernel
theorem dX12_isOf_39 : decode cX12_isOf 39 = .ok (.aload_n 0, 1) := by decide +kernel
theorem dX12_isOf_40 : decode cX12_isOf 40 = .ok (.getfield 25, 3) := by decide +kernel
theorem dX12_isOf_43 : decode cX12_isOf 43 = .ok (.iload 4, 2) := by decide +kernel
theorem dX12_isOf_45 : decode cX12_isOf 45 = .ok (.iaload, 1) := by decide +kernel
theorem dX12_isOf_46 : decode cX12_isOf 46 = .ok (.ineg, 1) := by decide +kernel
theorem dX12_isOf_47 : decode cX12_isOf 47 = .ok (.i2l, 1) := by decide +kernel
theorem dX12_isOf_48 : decode cX12_isOf 48 = .ok (.aload_n 0, 1) := by decide +kernel
theorem dX12_isOf_49 : decode cX12_isOf 49 = .ok (.getfield 25, 3) := by decide +kernel
theorem dX12_isOf_52 : decode cX12_isOf 52 = .ok (.iload 4, 2) := by decide +kernel
theorem dX12_isOf_54 : decode cX12_isOf 54 = .ok (.iaload, 1) := by decide +kernel
theorem dX12_isOf_55 : decode cX12_isOf 55 = .ok (.i2l, 1) := by decide +kernel
theorem dX12_isOf_56 : decode cX12_isOf 56 = .ok (.invokestatic 73, 3) := by decide +kernel
theorem dX12_isOf_59 : decode cX12_isOf 59 = .ok (.ifCond .eq 15, 3) := by decide +kernel
theorem dX12_isOf_62 : decode cX12_isOf 62 = .ok (.goto 8, 3) := by decide +kernel
theorem dX12_isOf_65 : decode cX12_isOf 65 = .ok (.iload 5, 2) := by decide +kernel
theorem dX12_isOf_67 : decode cX12_isOf 67 = .ok (.ifCond .ne 7, 3) := by decide +kernel
theorem dX12_isOf_70 : decode cX12_isOf 70 = .ok (.iconst 1, 1) := by decide +kernel
theorem dX12_isOf_71 : decode cX12_isOf 71 = .ok (.goto 4, 3) := by decide +kernel
theorem dX12_isOf_74 : decode cX12_isOf 74 = .ok (.iconst 0, 1) := by decide +kernel
theorem dX12_isOf_75 : decode cX12_isOf 75 = .ok (.istore_n 3, 1) := by decide +kernel
theorem dX12_isOf_76 : decode cX12_isOf 76 = .ok (.iinc 4 1, 3) := by decide +kernel
theorem dX12_isOf_79 : decode cX12_isOf 79 = .ok (.goto (-74), 3) := by decide +kernel
theorem dX12_isOf_82 : decode cX12_isOf 82 = .ok (.iload_n 3, 1) := by decide +kernel
theorem dX12_isOf_83 : decode cX12_isOf 83 = .ok (.ireturn, 1) := by decide +kernel
theorem dX12_take_0 : decode cX12_take 0 = .ok (.aload_n 0, 1) := by decide +kernel
theorem dX12_take_1 : decode cX12_take 1 = .ok (.aload_n 0, 1) := by decide +kernel
theorem dX12_take_2 : decode cX12_take 2 = .ok (.iload_n 1, 1) := by decide +kernel
theorem dX12_take_3 : decode cX12_take 3 = .ok (.iload_n 2, 1) := by decide +kernel
theorem dX12_take_4 : decode cX12_take 4 = .ok (.invokevirtual 180, 3) := by decide +kernel
theorem dX12_take_7 : decode cX12_take 7 = .ok (.putfield 191, 3) := by decide +kernel
theorem dX12_take_10 : decode cX12_take 10 = .ok (.aload_n 0, 1) := by decide +kernel
theorem dX12_take_11 : decode cX12_take 11 = .ok (.aload_n 0, 1) := by decide +kernel
theorem dX12_take_12 : decode cX12_take 12 = .ok (.iload_n 1, 1) := by decide +kernel
theorem dX12_take_13 : decode cX12_take 13 = .ok (.iload_n 2, 1) := by decide +kernel
theorem dX12_take_14 : decode cX12_take 14 = .ok (.invokevirtual 168, 3) := by decide +kernel
theorem dX12_take_17 : decode cX12_take 17 = .ok (.i2l, 1) := by decide +kernel
theorem dX12_take_18 : decode cX12_take 18 = .ok (.putfield 195, 3) := by decide +kernel
theorem dX12_take_21 : decode cX12_take 21 = .ok (.return_, 1) := by decide +kernel
theorem dX12_made_0 : decode cX12_made 0 = .ok (.iload_n 2, 1) := by decide +kernel
theorem dX12_made_1 : decode cX12_made 1 = .ok (.ifCond .ge 8, 3) := by decide +kernel
theorem dX12_made_4 : decode cX12_made 4 = .ok (.iload_n 2, 1) := by decide +kernel
theorem dX12_made_5 : decode cX12_made 5 = .ok (.ineg, 1) := by decide +kernel
theorem dX12_made_6 : decode cX12_made 6 = .ok (.goto 4, 3) := by decide +kernel
theorem dX12_made_9 : decode cX12_made 9 = .ok (.iload_n 2, 1) := by decide +kernel
theorem dX12_made_10 : decode cX12_made 10 = .ok (.istore 4, 2) := by decide +kernel
theorem dX12_made_12 : decode cX12_made 12 = .ok (.iload_n 2, 1) := by decide +kernel
theorem dX12_made_13 : decode cX12_made 13 = .ok (.i2l, 1) := by decide +kernel
theorem dX12_made_14 : decode cX12_made 14 = .ok (.aload_n 0, 1) := by decide +kernel
theorem dX12_made_15 : decode cX12_made 15 = .ok (.getfield 191, 3) := by decide +kernel
theorem dX12_made_18 : decode cX12_made 18 = .ok (.ldc2_w 122, 3) := by decide +kernel
theorem dX12_made_21 : decode cX12_made 21 = .ok (.aload_n 0, 1) := by decide +kernel
theorem dX12_made_22 : decode cX12_made 22 = .ok (.getfield 104, 3) := by decide +kernel
theorem dX12_made_25 : decode cX12_made 25 = .ok (.i2l, 1) := by decide +kernel
theorem dX12_made_26 : decode cX12_made 26 = .ok (.lmul, 1) := by decide +kernel
theorem dX12_made_27 : decode cX12_made 27 = .ok (.iload_n 3, 1) := by decide +kernel
theorem dX12_made_28 : decode cX12_made 28 = .ok (.i2l, 1) := by decide +kernel
theorem dX12_made_29 : decode cX12_made 29 = .ok (.lmul, 1) := by decide +kernel
theorem dX12_made_30 : decode cX12_made 30 = .ok (.aload_n 0, 1) := by decide +kernel
theorem dX12_made_31 : decode cX12_made 31 = .ok (.getfield 195, 3) := by decide +kernel
theorem dX12_made_34 : decode cX12_made 34 = .ok (.lmul, 1) := by decide +kernel
theorem dX12_made_35 : decode cX12_made 35 = .ok (.lsub, 1) := by decide +kernel
theorem dX12_made_36 : decode cX12_made 36 = .ok (.lmul, 1) := by decide +kernel
theorem dX12_made_37 : decode cX12_made 37 = .ok (.ldc2_w 122, 3) := by decide +kernel
theorem dX12_made_40 : decode cX12_made 40 = .ok (.aload_n 0, 1) := by decide +kernel
theorem dX12_made_41 : decode cX12_made 41 = .ok (.getfield 28, 3) := by decide +kernel
theorem dX12_made_44 : decode cX12_made 44 = .ok (.iload_n 1, 1) := by decide +kernel
theorem dX12_made_45 : decode cX12_made 45 = .ok (.iaload, 1) := by decide +kernel
theorem dX12_made_46 : decode cX12_made 46 = .ok (.i2l, 1) := by decide +kernel
theorem dX12_made_47 : decode cX12_made 47 = .ok (.lmul, 1) := by decide +kernel
theorem dX12_made_48 : decode cX12_made 48 = .ok (.iload 4, 2) := by decide +kernel
theorem dX12_made_50 : decode cX12_made 50 = .ok (.i2l, 1) := by decide +kernel
theorem dX12_made_51 : decode cX12_made 51 = .ok (.lmul, 1) := by decide +kernel
theorem dX12_made_52 : decode cX12_made 52 = .ok (.aload_n 0, 1) := by decide +kernel
theorem dX12_made_53 : decode cX12_made 53 = .ok (.getfield 195, 3) := by decide +kernel
theorem dX12_made_56 : decode cX12_made 56 = .ok (.lmul, 1) := by decide +kernel
theorem dX12_made_57 : decode cX12_made 57 = .ok (.lsub, 1) := by decide +kernel
theorem dX12_made_58 : decode cX12_made 58 = .ok (.lreturn, 1) := by decide +kernel
theorem dX12_isAtRest_0 : decode cX12_isAtRest 0 = .ok (.aload_n 0, 1) := by decide +kernel
theorem dX12_isAtRest_1 : decode cX12_isAtRest 1 = .ok (.iload_n 1, 1) := by decide +kernel
theorem dX12_isAtRest_2 : decode cX12_isAtRest 2 = .ok (.invokevirtual 198, 3) := by decide +kernel
theorem dX12_isAtRest_5 : decode cX12_isAtRest 5 = .ok (.istore_n 3, 1) := by decide +kernel
theorem dX12_isAtRest_6 : decode cX12_isAtRest 6 = .ok (.iconst 1, 1) := by decide +kernel
theorem dX12_isAtRest_7 : decode cX12_isAtRest 7 = .ok (.istore 4, 2) := by decide +kernel
theorem dX12_isAtRest_9 : decode cX12_isAtRest 9 = .ok (.iconst 0, 1) := by decide +kernel
theorem dX12_isAtRest_10 : decode cX12_isAtRest 10 = .ok (.istore 5, 2) := by decide +kernel
theorem dX12_isAtRest_12 : decode cX12_isAtRest 12 = .ok (.iload 5, 2) := by decide +kernel
theorem dX12_isAtRest_14 : decode cX12_isAtRest 14 = .ok (.aload_n 0, 1) := by decide +kernel
theorem dX12_isAtRest_15 : decode cX12_isAtRest 15 = .ok (.getfield 114, 3) := by decide +kernel
theorem dX12_isAtRest_18 : decode cX12_isAtRest 18 = .ok (.if_icmp .ge 104, 3) := by decide +kernel
theorem dX12_isAtRest_21 : decode cX12_isAtRest 21 = .ok (.iload 4, 2) := by decide +kernel
theorem dX12_isAtRest_23 : decode cX12_isAtRest 23 = .ok (.ifCond .eq 99, 3) := by decide +kernel
theorem dX12_isAtRest_26 : decode cX12_isAtRest 26 = .ok (.iload_n 1, 1) := by decide +kernel
theorem dX12_isAtRest_27 : decode cX12_isAtRest 27 = .ok (.iload 5, 2) := by decide +kernel
theorem dX12_isAtRest_29 : decode cX12_isAtRest 29 = .ok (.invokestatic 188, 3) := by decide +kernel
theorem dX12_isAtRest_32 : decode cX12_isAtRest 32 = .ok (.istore 6, 2) := by decide +kernel
theorem dX12_isAtRest_34 : decode cX12_isAtRest 34 = .ok (.aload_n 0, 1) := by decide +kernel
theorem dX12_isAtRest_35 : decode cX12_isAtRest 35 = .ok (.iload 5, 2) := by decide +kernel
theorem dX12_isAtRest_37 : decode cX12_isAtRest 37 = .ok (.iload 6, 2) := by decide +kernel
theorem dX12_isAtRest_39 : decode cX12_isAtRest 39 = .ok (.iload_n 3, 1) := by decide +kernel
theorem dX12_isAtRest_40 : decode cX12_isAtRest 40 = .ok (.invokevirtual 201, 3) := by decide +kernel
theorem dX12_isAtRest_43 : decode cX12_isAtRest 43 = .ok (.lstore 7, 2) := by decide +kernel
theorem dX12_isAtRest_45 : decode cX12_isAtRest 45 = .ok (.aload_n 0, 1) := by decide +kernel
theorem dX12_isAtRest_46 : decode cX12_isAtRest 46 = .ok (.getfield 25, 3) := by decide +kernel
theorem dX12_isAtRest_49 : decode cX12_isAtRest 49 = .ok (.iload 5, 2) := by decide +kernel
theorem dX12_isAtRest_51 : decode cX12_isAtRest 51 = .ok (.iaload, 1) := by decide +kernel
theorem dX12_isAtRest_52 : decode cX12_isAtRest 52 = .ok (.ineg, 1) := by decide +kernel
theorem dX12_isAtRest_53 : decode cX12_isAtRest 53 = .ok (.istore 9, 2) := by decide +kernel
theorem dX12_isAtRest_55 : decode cX12_isAtRest 55 = .ok (.iload 9, 2) := by decide +kernel
theorem dX12_isAtRest_57 : decode cX12_isAtRest 57 = .ok (.aload_n 0, 1) := by decide +kernel
theorem dX12_isAtRest_58 : decode cX12_isAtRest 58 = .ok (.getfield 25, 3) := by decide +kernel
theorem dX12_isAtRest_61 : decode cX12_isAtRest 61 = .ok (.iload 5, 2) := by decide +kernel
theorem dX12_isAtRest_63 : decode cX12_isAtRest 63 = .ok (.iaload, 1) := by decide +kernel
theorem dX12_isAtRest_64 : decode cX12_isAtRest 64 = .ok (.if_icmp .gt 52, 3) := by decide +kernel
theorem dX12_isAtRest_67 : decode cX12_isAtRest 67 = .ok (.iload_n 2, 1) := by decide +kernel
theorem dX12_isAtRest_68 : decode cX12_isAtRest 68 = .ok (.iload 5, 2) := by decide +kernel
theorem dX12_isAtRest_70 : decode cX12_isAtRest 70 = .ok (.ishr, 1) := by decide +kernel
theorem dX12_isAtRest_71 : decode cX12_isAtRest 71 = .ok (.iconst 1, 1) := by decide +kernel
theorem dX12_isAtRest_72 : decode cX12_isAtRest 72 = .ok (.iand, 1) := by decide +kernel
theorem dX12_isAtRest_73 : decode cX12_isAtRest 73 = .ok (.iconst 1, 1) := by decide +kernel
theorem dX12_isAtRest_74 : decode cX12_isAtRest 74 = .ok (.if_icmp .ne 42, 3) := by decide +kernel
theorem dX12_isAtRest_77 : decode cX12_isAtRest 77 = .ok (.iload 4, 2) := by decide +kernel
theorem dX12_isAtRest_79 : decode cX12_isAtRest 79 = .ok (.ifCond .eq 28, 3) := by decide +kernel
theorem dX12_isAtRest_82 : decode cX12_isAtRest 82 = .ok (.aload_n 0, 1) := by decide +kernel
theorem dX12_isAtRest_83 : decode cX12_isAtRest 83 = .ok (.iload 5, 2) := by decide +kernel
theorem dX12_isAtRest_85 : decode cX12_isAtRest 85 = .ok (.iload 9, 2) := by decide +kernel
theorem dX12_isAtRest_87 : decode cX12_isAtRest 87 = .ok (.iload_n 3, 1) := by decide +kernel
theorem dX12_isAtRest_88 : decode cX12_isAtRest 88 = .ok (.iload 6, 2) := by decide +kernel
theorem dX12_isAtRest_90 : decode cX12_isAtRest 90 = .ok (.isub, 1) := by decide +kernel
theorem dX12_isAtRest_91 : decode cX12_isAtRest 91 = .ok (.iload 9, 2) := by decide +kernel
theorem dX12_isAtRest_93 : decode cX12_isAtRest 93 = .ok (.iadd, 1) := by decide +kernel
theorem dX12_isAtRest_94 : decode cX12_isAtRest 94 = .ok (.invokevirtual 201, 3) := by decide +kernel
theorem dX12_isAtRest_97 : decode cX12_isAtRest 97 = .ok (.lload 7, 2) := by decide +kernel
theorem dX12_isAtRest_99 : decode cX12_isAtRest 99 = .ok (.lcmp, 1) := by decide +kernel
theorem dX12_isAtRest_100 : decode cX12_isAtRest 100 = .ok (.ifCond .gt 7, 3) := by decide +kernel
theorem dX12_isAtRest_103 : decode cX12_isAtRest 103 = .ok (.iconst 1, 1) := by decide +kernel
theorem dX12_isAtRest_104 : decode cX12_isAtRest 104 = .ok (.goto 4, 3) := by decide +kernel
theorem dX12_isAtRest_107 : decode cX12_isAtRest 107 = .ok (.iconst 0, 1) := by decide +kernel
theorem dX12_isAtRest_108 : decode cX12_isAtRest 108 = .ok (.istore 4, 2) := by decide +kernel
theorem dX12_isAtRest_110 : decode cX12_isAtRest 110 = .ok (.iinc 9 1, 3) := by decide +kernel
theorem dX12_isAtRest_113 : decode cX12_isAtRest 113 = .ok (.goto (-58), 3) := by decide +kernel
theorem dX12_isAtRest_116 : decode cX12_isAtRest 116 = .ok (.iinc 5 1, 3) := by decide +kernel
theorem dX12_isAtRest_119 : decode cX12_isAtRest 119 = .ok (.goto (-107), 3) := by decide +kernel
theorem dX12_isAtRest_122 : decode cX12_isAtRest 122 = .ok (.iload 4, 2) := by decide +kernel
theorem dX12_isAtRest_124 : decode cX12_isAtRest 124 = .ok (.ireturn, 1) := by decide +kernel
theorem dX12_allMake_0 : decode cX12_allMake 0 = .ok (.lconst 0, 1) := by decide +kernel
theorem dX12_allMake_1 : decode cX12_allMake 1 = .ok (.lstore_n 2, 1) := by decide +kernel
theorem dX12_allMake_2 : decode cX12_allMake 2 = .ok (.iconst 0, 1) := by decide +kernel
theorem dX12_allMake_3 : decode cX12_allMake 3 = .ok (.istore 4, 2) := by decide +kernel
theorem dX12_allMake_5 : decode cX12_allMake 5 = .ok (.iload 4, 2) := by decide +kernel
theorem dX12_allMake_7 : decode cX12_allMake 7 = .ok (.aload_n 0, 1) := by decide +kernel
theorem dX12_allMake_8 : decode cX12_allMake 8 = .ok (.getfield 114, 3) := by decide +kernel
theorem dX12_allMake_11 : decode cX12_allMake 11 = .ok (.if_icmp .ge 29, 3) := by decide +kernel
theorem dX12_allMake_14 : decode cX12_allMake 14 = .ok (.lload_n 2, 1) := by decide +kernel
theorem dX12_allMake_15 : decode cX12_allMake 15 = .ok (.aload_n 0, 1) := by decide +kernel
theorem dX12_allMake_16 : decode cX12_allMake 16 = .ok (.iload 4, 2) := by decide +kernel
theorem dX12_allMake_18 : decode cX12_allMake 18 = .ok (.iload_n 1, 1) := by decide +kernel
theorem dX12_allMake_19 : decode cX12_allMake 19 = .ok (.iload 4, 2) := by decide +kernel
theorem dX12_allMake_21 : decode cX12_allMake 21 = .ok (.invokestatic 188, 3) := by decide +kernel
theorem dX12_allMake_24 : decode cX12_allMake 24 = .ok (.aload_n 0, 1) := by decide +kernel
theorem dX12_allMake_25 : decode cX12_allMake 25 = .ok (.iload_n 1, 1) := by decide +kernel
theorem dX12_allMake_26 : decode cX12_allMake 26 = .ok (.invokevirtual 198, 3) := by decide +kernel
theorem dX12_allMake_29 : decode cX12_allMake 29 = .ok (.invokevirtual 201, 3) := by decide +kernel
theorem dX12_allMake_32 : decode cX12_allMake 32 = .ok (.ladd, 1) := by decide +kernel
theorem dX12_allMake_33 : decode cX12_allMake 33 = .ok (.lstore_n 2, 1) := by decide +kernel
theorem dX12_allMake_34 : decode cX12_allMake 34 = .ok (.iinc 4 1, 3) := by decide +kernel
theorem dX12_allMake_37 : decode cX12_allMake 37 = .ok (.goto (-32), 3) := by decide +kernel
theorem dX12_allMake_40 : decode cX12_allMake 40 = .ok (.lload_n 2, 1) := by decide +kernel
theorem dX12_allMake_41 : decode cX12_allMake 41 = .ok (.lreturn, 1) := by decide +kernel
theorem dX12_dealtFor_0 : decode cX12_dealtFor 0 = .ok (.aload_n 0, 1) := by decide +kernel
theorem dX12_dealtFor_1 : decode cX12_dealtFor 1 = .ok (.iload_n 1, 1) := by decide +kernel
theorem dX12_dealtFor_2 : decode cX12_dealtFor 2 = .ok (.iload_n 3, 1) := by decide +kernel
theorem dX12_dealtFor_3 : decode cX12_dealtFor 3 = .ok (.invokevirtual 205, 3) := by decide +kernel
theorem dX12_dealtFor_6 : decode cX12_dealtFor 6 = .ok (.aload_n 0, 1) := by decide +kernel
theorem dX12_dealtFor_7 : decode cX12_dealtFor 7 = .ok (.iconst 0, 1) := by decide +kernel
theorem dX12_dealtFor_8 : decode cX12_dealtFor 8 = .ok (.putfield 209, 3) := by decide +kernel
theorem dX12_dealtFor_11 : decode cX12_dealtFor 11 = .ok (.aload_n 0, 1) := by decide +kernel
theorem dX12_dealtFor_12 : decode cX12_dealtFor 12 = .ok (.iconst (-1), 1) := by decide +kernel
theorem dX12_dealtFor_13 : decode cX12_dealtFor 13 = .ok (.putfield 212, 3) := by decide +kernel
theorem dX12_dealtFor_16 : decode cX12_dealtFor 16 = .ok (.iconst (-1), 1) := by decide +kernel
theorem dX12_dealtFor_17 : decode cX12_dealtFor 17 = .ok (.istore 5, 2) := by decide +kernel
theorem dX12_dealtFor_19 : decode cX12_dealtFor 19 = .ok (.lconst 0, 1) := by decide +kernel
theorem dX12_dealtFor_20 : decode cX12_dealtFor 20 = .ok (.lstore 6, 2) := by decide +kernel
theorem dX12_dealtFor_22 : decode cX12_dealtFor 22 = .ok (.iconst 0, 1) := by decide +kernel
theorem dX12_dealtFor_23 : decode cX12_dealtFor 23 = .ok (.istore 8, 2) := by decide +kernel
theorem dX12_dealtFor_25 : decode cX12_dealtFor 25 = .ok (.iload 8, 2) := by decide +kernel
theorem dX12_dealtFor_27 : decode cX12_dealtFor 27 = .ok (.aload_n 0, 1) := by decide +kernel
theorem dX12_dealtFor_28 : decode cX12_dealtFor 28 = .ok (.invokevirtual 215, 3) := by decide +kernel
theorem dX12_dealtFor_31 : decode cX12_dealtFor 31 = .ok (.if_icmp .ge 117, 3) := by decide +kernel
theorem dX12_dealtFor_34 : decode cX12_dealtFor 34 = .ok (.aload_n 0, 1) := by decide +kernel
theorem dX12_dealtFor_35 : decode cX12_dealtFor 35 = .ok (.iload 8, 2) := by decide +kernel
theorem dX12_dealtFor_37 : decode cX12_dealtFor 37 = .ok (.iload_n 2, 1) := by decide +kernel
theorem dX12_dealtFor_38 : decode cX12_dealtFor 38 = .ok (.invokevirtual 218, 3) := by decide +kernel
theorem dX12_dealtFor_41 : decode cX12_dealtFor 41 = .ok (.ifCond .eq 101, 3) := by decide +kernel
theorem dX12_dealtFor_44 : decode cX12_dealtFor 44 = .ok (.aload_n 0, 1) := by decide +kernel
theorem dX12_dealtFor_45 : decode cX12_dealtFor 45 = .ok (.iload 8, 2) := by decide +kernel
theorem dX12_dealtFor_47 : decode cX12_dealtFor 47 = .ok (.iload_n 2, 1) := by decide +kernel
theorem dX12_dealtFor_48 : decode cX12_dealtFor 48 = .ok (.invokevirtual 221, 3) := by decide +kernel
theorem dX12_dealtFor_51 : decode cX12_dealtFor 51 = .ok (.ifCond .eq 91, 3) := by decide +kernel
theorem dX12_dealtFor_54 : decode cX12_dealtFor 54 = .ok (.aload_n 0, 1) := by decide +kernel
theorem dX12_dealtFor_55 : decode cX12_dealtFor 55 = .ok (.iload 8, 2) := by decide +kernel
theorem dX12_dealtFor_57 : decode cX12_dealtFor 57 = .ok (.invokevirtual 224, 3) := by decide +kernel
theorem dX12_dealtFor_60 : decode cX12_dealtFor 60 = .ok (.lstore 9, 2) := by decide +kernel
theorem dX12_dealtFor_62 : decode cX12_dealtFor 62 = .ok (.aload_n 0, 1) := by decide +kernel
theorem dX12_dealtFor_63 : decode cX12_dealtFor 63 = .ok (.getfield 209, 3) := by decide +kernel
theorem dX12_dealtFor_66 : decode cX12_dealtFor 66 = .ok (.ifCond .eq 11, 3) := by decide +kernel
theorem dX12_dealtFor_69 : decode cX12_dealtFor 69 = .ok (.lload 9, 2) := by decide +kernel
theorem dX12_dealtFor_71 : decode cX12_dealtFor 71 = .ok (.lload 6, 2) := by decide +kernel
theorem dX12_dealtFor_73 : decode cX12_dealtFor 73 = .ok (.lcmp, 1) := by decide +kernel
theorem dX12_dealtFor_74 : decode cX12_dealtFor 74 = .ok (.ifCond .le 8, 3) := by decide +kernel
theorem dX12_dealtFor_77 : decode cX12_dealtFor 77 = .ok (.iload 8, 2) := by decide +kernel
theorem dX12_dealtFor_79 : decode cX12_dealtFor 79 = .ok (.goto 5, 3) := by decide +kernel
theorem dX12_dealtFor_82 : decode cX12_dealtFor 82 = .ok (.iload 5, 2) := by decide +kernel
theorem dX12_dealtFor_84 : decode cX12_dealtFor 84 = .ok (.istore 5, 2) := by decide +kernel
theorem dX12_dealtFor_86 : decode cX12_dealtFor 86 = .ok (.aload_n 0, 1) := by decide +kernel
theorem dX12_dealtFor_87 : decode cX12_dealtFor 87 = .ok (.getfield 209, 3) := by decide +kernel
theorem dX12_dealtFor_90 : decode cX12_dealtFor 90 = .ok (.ifCond .eq 11, 3) := by decide +kernel
theorem dX12_dealtFor_93 : decode cX12_dealtFor 93 = .ok (.lload 9, 2) := by decide +kernel
theorem dX12_dealtFor_95 : decode cX12_dealtFor 95 = .ok (.lload 6, 2) := by decide +kernel
theorem dX12_dealtFor_97 : decode cX12_dealtFor 97 = .ok (.lcmp, 1) := by decide +kernel
theorem dX12_dealtFor_98 : decode cX12_dealtFor 98 = .ok (.ifCond .le 8, 3) := by decide +kernel
theorem dX12_dealtFor_101 : decode cX12_dealtFor 101 = .ok (.lload 9, 2) := by decide +kernel
theorem dX12_dealtFor_103 : decode cX12_dealtFor 103 = .ok (.goto 5, 3) := by decide +kernel
theorem dX12_dealtFor_106 : decode cX12_dealtFor 106 = .ok (.lload 6, 2) := by decide +kernel
theorem dX12_dealtFor_108 : decode cX12_dealtFor 108 = .ok (.lstore 6, 2) := by decide +kernel
theorem dX12_dealtFor_110 : decode cX12_dealtFor 110 = .ok (.aload_n 0, 1) := by decide +kernel
theorem dX12_dealtFor_111 : decode cX12_dealtFor 111 = .ok (.aload_n 0, 1) := by decide +kernel
theorem dX12_dealtFor_112 : decode cX12_dealtFor 112 = .ok (.getfield 209, 3) := by decide +kernel
theorem dX12_dealtFor_115 : decode cX12_dealtFor 115 = .ok (.iload 4, 2) := by decide +kernel
theorem dX12_dealtFor_117 : decode cX12_dealtFor 117 = .ok (.if_icmp .ne 8, 3) := by decide +kernel
theorem dX12_dealtFor_120 : decode cX12_dealtFor 120 = .ok (.iload 8, 2) := by decide +kernel
theorem dX12_dealtFor_122 : decode cX12_dealtFor 122 = .ok (.goto 7, 3) := by decide +kernel
theorem dX12_dealtFor_125 : decode cX12_dealtFor 125 = .ok (.aload_n 0, 1) := by decide +kernel
theorem dX12_dealtFor_126 : decode cX12_dealtFor 126 = .ok (.getfield 212, 3) := by decide +kernel
theorem dX12_dealtFor_129 : decode cX12_dealtFor 129 = .ok (.putfield 212, 3) := by decide +kernel
theorem dX12_dealtFor_132 : decode cX12_dealtFor 132 = .ok (.aload_n 0, 1) := by decide +kernel
theorem dX12_dealtFor_133 : decode cX12_dealtFor 133 = .ok (.dup, 1) := by decide +kernel
theorem dX12_dealtFor_134 : decode cX12_dealtFor 134 = .ok (.getfield 209, 3) := by decide +kernel
theorem dX12_dealtFor_137 : decode cX12_dealtFor 137 = .ok (.iconst 1, 1) := by decide +kernel
theorem dX12_dealtFor_138 : decode cX12_dealtFor 138 = .ok (.iadd, 1) := by decide +kernel
theorem dX12_dealtFor_139 : decode cX12_dealtFor 139 = .ok (.putfield 209, 3) := by decide +kernel
theorem dX12_dealtFor_142 : decode cX12_dealtFor 142 = .ok (.iinc 8 1, 3) := by decide +kernel
theorem dX12_dealtFor_145 : decode cX12_dealtFor 145 = .ok (.goto (-120), 3) := by decide +kernel
theorem dX12_dealtFor_148 : decode cX12_dealtFor 148 = .ok (.iload 5, 2) := by decide +kernel
theorem dX12_dealtFor_150 : decode cX12_dealtFor 150 = .ok (.ireturn, 1) := by decide +kernel
theorem dX12_rests_0 : decode cX12_rests 0 = .ok (.aload_n 0, 1) := by decide +kernel
theorem dX12_rests_1 : decode cX12_rests 1 = .ok (.iload_n 1, 1) := by decide +kernel
theorem dX12_rests_2 : decode cX12_rests 2 = .ok (.iconst 1, 1) := by decide +kernel
theorem dX12_rests_3 : decode cX12_rests 3 = .ok (.aload_n 0, 1) := by decide +kernel
theorem dX12_rests_4 : decode cX12_rests 4 = .ok (.iload_n 2, 1) := by decide +kernel
theorem dX12_rests_5 : decode cX12_rests 5 = .ok (.invokevirtual 227, 3) := by decide +kernel
theorem dX12_rests_8 : decode cX12_rests 8 = .ok (.ifCond .eq 40, 3) := by decide +kernel
theorem dX12_rests_11 : decode cX12_rests 11 = .ok (.iload_n 3, 1) := by decide +kernel
theorem dX12_rests_12 : decode cX12_rests 12 = .ok (.invokestatic 154, 3) := by decide +kernel
theorem dX12_rests_15 : decode cX12_rests 15 = .ok (.ifCond .eq 33, 3) := by decide +kernel
theorem dX12_rests_18 : decode cX12_rests 18 = .ok (.iload 4, 2) := by decide +kernel
theorem dX12_rests_20 : decode cX12_rests 20 = .ok (.i2l, 1) := by decide +kernel
theorem dX12_rests_21 : decode cX12_rests 21 = .ok (.lconst 0, 1) := by decide +kernel
theorem dX12_rests_22 : decode cX12_rests 22 = .ok (.lconst 1, 1) := by decide +kernel
theorem dX12_rests_23 : decode cX12_rests 23 = .ok (.invokestatic 73, 3) := by decide +kernel
theorem dX12_rests_26 : decode cX12_rests 26 = .ok (.ifCond .ne 18, 3) := by decide +kernel
theorem dX12_rests_29 : decode cX12_rests 29 = .ok (.iload 4, 2) := by decide +kernel
theorem dX12_rests_31 : decode cX12_rests 31 = .ok (.i2l, 1) := by decide +kernel
theorem dX12_rests_32 : decode cX12_rests 32 = .ok (.ldc2_w 230, 3) := by decide +kernel
theorem dX12_rests_35 : decode cX12_rests 35 = .ok (.ldc2_w 112, 3) := by decide +kernel
theorem dX12_rests_38 : decode cX12_rests 38 = .ok (.invokestatic 73, 3) := by decide +kernel
theorem dX12_rests_41 : decode cX12_rests 41 = .ok (.ifCond .eq 7, 3) := by decide +kernel
theorem dX12_rests_44 : decode cX12_rests 44 = .ok (.iconst 1, 1) := by decide +kernel
theorem dX12_rests_45 : decode cX12_rests 45 = .ok (.goto 4, 3) := by decide +kernel
theorem dX12_rests_48 : decode cX12_rests 48 = .ok (.iconst 0, 1) := by decide +kernel
theorem dX12_rests_49 : decode cX12_rests 49 = .ok (.invokevirtual 160, 3) := by decide +kernel
theorem dX12_rests_52 : decode cX12_rests 52 = .ok (.istore 5, 2) := by decide +kernel
theorem dX12_rests_54 : decode cX12_rests 54 = .ok (.iload 5, 2) := by decide +kernel
theorem dX12_rests_56 : decode cX12_rests 56 = .ok (.ifCond .eq 6, 3) := by decide +kernel
theorem dX12_rests_59 : decode cX12_rests 59 = .ok (.iload 5, 2) := by decide +kernel
theorem dX12_rests_61 : decode cX12_rests 61 = .ok (.ireturn, 1) := by decide +kernel
theorem dX12_rests_62 : decode cX12_rests 62 = .ok (.aload_n 0, 1) := by decide +kernel
theorem dX12_rests_63 : decode cX12_rests 63 = .ok (.iload_n 1, 1) := by decide +kernel
theorem dX12_rests_64 : decode cX12_rests 64 = .ok (.iload_n 3, 1) := by decide +kernel
theorem dX12_rests_65 : decode cX12_rests 65 = .ok (.invokevirtual 168, 3) := by decide +kernel
theorem dX12_rests_68 : decode cX12_rests 68 = .ok (.ifCond .ne 5, 3) := by decide +kernel
theorem dX12_rests_71 : decode cX12_rests 71 = .ok (.iconst (-1), 1) := by decide +kernel
theorem dX12_rests_72 : decode cX12_rests 72 = .ok (.ireturn, 1) := by decide +kernel
theorem dX12_rests_73 : decode cX12_rests 73 = .ok (.aload_n 0, 1) := by decide +kernel
theorem dX12_rests_74 : decode cX12_rests 74 = .ok (.iload_n 1, 1) := by decide +kernel
theorem dX12_rests_75 : decode cX12_rests 75 = .ok (.iload_n 2, 1) := by decide +kernel
theorem dX12_rests_76 : decode cX12_rests 76 = .ok (.iload_n 3, 1) := by decide +kernel
theorem dX12_rests_77 : decode cX12_rests 77 = .ok (.iload 4, 2) := by decide +kernel
theorem dX12_rests_79 : decode cX12_rests 79 = .ok (.bipush 10, 2) := by decide +kernel
theorem dX12_rests_81 : decode cX12_rests 81 = .ok (.isub, 1) := by decide +kernel
theorem dX12_rests_82 : decode cX12_rests 82 = .ok (.invokevirtual 232, 3) := by decide +kernel
theorem dX12_rests_85 : decode cX12_rests 85 = .ok (.istore 6, 2) := by decide +kernel
theorem dX12_rests_87 : decode cX12_rests 87 = .ok (.iload 4, 2) := by decide +kernel
theorem dX12_rests_89 : decode cX12_rests 89 = .ok (.ifCond .ne 10, 3) := by decide +kernel
theorem dX12_rests_92 : decode cX12_rests 92 = .ok (.aload_n 0, 1) := by decide +kernel
theorem dX12_rests_93 : decode cX12_rests 93 = .ok (.getfield 209, 3) := by decide +kernel
theorem dX12_rests_96 : decode cX12_rests 96 = .ok (.goto 18, 3) := by decide +kernel
theorem dX12_rests_99 : decode cX12_rests 99 = .ok (.iload 4, 2) := by decide +kernel
theorem dX12_rests_101 : decode cX12_rests 101 = .ok (.iconst 1, 1) := by decide +kernel
theorem dX12_rests_102 : decode cX12_rests 102 = .ok (.if_icmp .ne 8, 3) := by decide +kernel
theorem dX12_rests_105 : decode cX12_rests 105 = .ok (.iload 6, 2) := by decide +kernel
theorem dX12_rests_107 : decode cX12_rests 107 = .ok (.goto 7, 3) := by decide +kernel
theorem dX12_rests_110 : decode cX12_rests 110 = .ok (.aload_n 0, 1) := by decide +kernel
theorem dX12_rests_111 : decode cX12_rests 111 = .ok (.getfield 212, 3) := by decide +kernel
theorem dX12_rests_114 : decode cX12_rests 114 = .ok (.ireturn, 1) := by decide +kernel
theorem dX12_isDealt_0 : decode cX12_isDealt 0 = .ok (.iload_n 1, 1) := by decide +kernel
theorem dX12_isDealt_1 : decode cX12_isDealt 1 = .ok (.i2l, 1) := by decide +kernel
theorem dX12_isDealt_2 : decode cX12_isDealt 2 = .ok (.lconst 0, 1) := by decide +kernel
theorem dX12_isDealt_3 : decode cX12_isDealt 3 = .ok (.aload_n 0, 1) := by decide +kernel
theorem dX12_isDealt_4 : decode cX12_isDealt 4 = .ok (.invokevirtual 215, 3) := by decide +kernel
theorem dX12_isDealt_7 : decode cX12_isDealt 7 = .ok (.iconst 1, 1) := by decide +kernel
theorem dX12_isDealt_8 : decode cX12_isDealt 8 = .ok (.isub, 1) := by decide +kernel
theorem dX12_isDealt_9 : decode cX12_isDealt 9 = .ok (.i2l, 1) := by decide +kernel
theorem dX12_isDealt_10 : decode cX12_isDealt 10 = .ok (.invokestatic 73, 3) := by decide +kernel
theorem dX12_isDealt_13 : decode cX12_isDealt 13 = .ok (.ifCond .eq 23, 3) := by decide +kernel
theorem dX12_isDealt_16 : decode cX12_isDealt 16 = .ok (.aload_n 0, 1) := by decide +kernel
theorem dX12_isDealt_17 : decode cX12_isDealt 17 = .ok (.iload_n 1, 1) := by decide +kernel
theorem dX12_isDealt_18 : decode cX12_isDealt 18 = .ok (.iconst 1, 1) := by decide +kernel
theorem dX12_isDealt_19 : decode cX12_isDealt 19 = .ok (.aload_n 0, 1) := by decide +kernel
theorem dX12_isDealt_20 : decode cX12_isDealt 20 = .ok (.getfield 114, 3) := by decide +kernel
theorem dX12_isDealt_23 : decode cX12_isDealt 23 = .ok (.ishl, 1) := by decide +kernel
theorem dX12_isDealt_24 : decode cX12_isDealt 24 = .ok (.iconst 1, 1) := by decide +kernel
theorem dX12_isDealt_25 : decode cX12_isDealt 25 = .ok (.isub, 1) := by decide +kernel
theorem dX12_isDealt_26 : decode cX12_isDealt 26 = .ok (.invokevirtual 218, 3) := by decide +kernel
theorem dX12_isDealt_29 : decode cX12_isDealt 29 = .ok (.ifCond .eq 7, 3) := by decide +kernel
theorem dX12_isDealt_32 : decode cX12_isDealt 32 = .ok (.iconst 1, 1) := by decide +kernel
theorem dX12_isDealt_33 : decode cX12_isDealt 33 = .ok (.goto 4, 3) := by decide +kernel
theorem dX12_isDealt_36 : decode cX12_isDealt 36 = .ok (.iconst 0, 1) := by decide +kernel
theorem dX12_isDealt_37 : decode cX12_isDealt 37 = .ok (.ireturn, 1) := by decide +kernel
theorem dX12_makes_0 : decode cX12_makes 0 = .ok (.aload_n 0, 1) := by decide +kernel
theorem dX12_makes_1 : decode cX12_makes 1 = .ok (.iload_n 1, 1) := by decide +kernel
theorem dX12_makes_2 : decode cX12_makes 2 = .ok (.invokevirtual 127, 3) := by decide +kernel
theorem dX12_makes_5 : decode cX12_makes 5 = .ok (.ifCond .eq 19, 3) := by decide +kernel
theorem dX12_makes_8 : decode cX12_makes 8 = .ok (.aload_n 0, 1) := by decide +kernel
theorem dX12_makes_9 : decode cX12_makes 9 = .ok (.getfield 44, 3) := by decide +kernel
theorem dX12_makes_12 : decode cX12_makes 12 = .ok (.ifCond .le 16, 3) := by decide +kernel
theorem dX12_makes_15 : decode cX12_makes 15 = .ok (.aload_n 0, 1) := by decide +kernel
theorem dX12_makes_16 : decode cX12_makes 16 = .ok (.iload 4, 2) := by decide +kernel
theorem dX12_makes_18 : decode cX12_makes 18 = .ok (.invokevirtual 117, 3) := by decide +kernel
theorem dX12_makes_21 : decode cX12_makes 21 = .ok (.ifCond .ne 7, 3) := by decide +kernel
theorem dX12_makes_24 : decode cX12_makes 24 = .ok (.ldc2_w 148, 3) := by decide +kernel
theorem dX12_makes_27 : decode cX12_makes 27 = .ok (.lreturn, 1) := by decide +kernel
theorem dX12_makes_28 : decode cX12_makes 28 = .ok (.aload_n 0, 1) := by decide +kernel
theorem dX12_makes_29 : decode cX12_makes 29 = .ok (.iload_n 1, 1) := by decide +kernel
theorem dX12_makes_30 : decode cX12_makes 30 = .ok (.aload_n 0, 1) := by decide +kernel
theorem dX12_makes_31 : decode cX12_makes 31 = .ok (.iload 4, 2) := by decide +kernel
theorem dX12_makes_33 : decode cX12_makes 33 = .ok (.invokevirtual 117, 3) := by decide +kernel
theorem dX12_makes_36 : decode cX12_makes 36 = .ok (.iload_n 2, 1) := by decide +kernel
theorem dX12_makes_37 : decode cX12_makes 37 = .ok (.invokestatic 154, 3) := by decide +kernel
theorem dX12_makes_40 : decode cX12_makes 40 = .ok (.ifCond .eq 23, 3) := by decide +kernel
theorem dX12_makes_43 : decode cX12_makes 43 = .ok (.aload_n 0, 1) := by decide +kernel
theorem dX12_makes_44 : decode cX12_makes 44 = .ok (.iload_n 3, 1) := by decide +kernel
theorem dX12_makes_45 : decode cX12_makes 45 = .ok (.invokevirtual 236, 3) := by decide +kernel
theorem dX12_makes_48 : decode cX12_makes 48 = .ok (.ifCond .eq 15, 3) := by decide +kernel
theorem dX12_makes_51 : decode cX12_makes 51 = .ok (.iload 5, 2) := by decide +kernel
theorem dX12_makes_53 : decode cX12_makes 53 = .ok (.invokestatic 157, 3) := by decide +kernel
theorem dX12_makes_56 : decode cX12_makes 56 = .ok (.ifCond .eq 7, 3) := by decide +kernel
theorem dX12_makes_59 : decode cX12_makes 59 = .ok (.iconst 1, 1) := by decide +kernel
theorem dX12_makes_60 : decode cX12_makes 60 = .ok (.goto 4, 3) := by decide +kernel
theorem dX12_makes_63 : decode cX12_makes 63 = .ok (.iconst 0, 1) := by decide +kernel
theorem dX12_makes_64 : decode cX12_makes 64 = .ok (.invokevirtual 160, 3) := by decide +kernel
theorem dX12_makes_67 : decode cX12_makes 67 = .ok (.istore 6, 2) := by decide +kernel
theorem dX12_makes_69 : decode cX12_makes 69 = .ok (.iload 6, 2) := by decide +kernel
theorem dX12_makes_71 : decode cX12_makes 71 = .ok (.ifCond .eq 9, 3) := by decide +kernel
theorem dX12_makes_74 : decode cX12_makes 74 = .ok (.iload 6, 2) := by decide +kernel
theorem dX12_makes_76 : decode cX12_makes 76 = .ok (.invokestatic 164, 3) := by decide +kernel
theorem dX12_makes_79 : decode cX12_makes 79 = .ok (.lreturn, 1) := by decide +kernel
theorem dX12_makes_80 : decode cX12_makes 80 = .ok (.aload_n 0, 1) := by decide +kernel
theorem dX12_makes_81 : decode cX12_makes 81 = .ok (.iload_n 1, 1) := by decide +kernel
theorem dX12_makes_82 : decode cX12_makes 82 = .ok (.iload_n 2, 1) := by decide +kernel
theorem dX12_makes_83 : decode cX12_makes 83 = .ok (.invokevirtual 205, 3) := by decide +kernel
theorem dX12_makes_86 : decode cX12_makes 86 = .ok (.aload_n 0, 1) := by decide +kernel
theorem dX12_makes_87 : decode cX12_makes 87 = .ok (.getfield 195, 3) := by decide +kernel
theorem dX12_makes_90 : decode cX12_makes 90 = .ok (.lconst 0, 1) := by decide +kernel
theorem dX12_makes_91 : decode cX12_makes 91 = .ok (.lcmp, 1) := by decide +kernel
theorem dX12_makes_92 : decode cX12_makes 92 = .ok (.ifCond .ne 9, 3) := by decide +kernel
theorem dX12_makes_95 : decode cX12_makes 95 = .ok (.ldc2_w 178, 3) := by decide +kernel
theorem dX12_makes_98 : decode cX12_makes 98 = .ok (.goto 33, 3) := by decide +kernel
theorem dX12_makes_101 : decode cX12_makes 101 = .ok (.aload_n 0, 1) := by decide +kernel
theorem dX12_makes_102 : decode cX12_makes 102 = .ok (.iload 4, 2) := by decide +kernel
theorem dX12_makes_104 : decode cX12_makes 104 = .ok (.iload_n 3, 1) := by decide +kernel
theorem dX12_makes_105 : decode cX12_makes 105 = .ok (.iload 4, 2) := by decide +kernel
theorem dX12_makes_107 : decode cX12_makes 107 = .ok (.invokestatic 188, 3) := by decide +kernel
theorem dX12_makes_110 : decode cX12_makes 110 = .ok (.aload_n 0, 1) := by decide +kernel
theorem dX12_makes_111 : decode cX12_makes 111 = .ok (.iload_n 3, 1) := by decide +kernel
theorem dX12_makes_112 : decode cX12_makes 112 = .ok (.invokevirtual 198, 3) := by decide +kernel
theorem dX12_makes_115 : decode cX12_makes 115 = .ok (.invokevirtual 201, 3) := by decide +kernel
theorem dX12_makes_118 : decode cX12_makes 118 = .ok (.ldc2_w 122, 3) := by decide +kernel
theorem dX12_makes_121 : decode cX12_makes 121 = .ok (.aload_n 0, 1) := by decide +kernel
theorem dX12_makes_122 : decode cX12_makes 122 = .ok (.getfield 195, 3) := by decide +kernel
theorem dX12_makes_125 : decode cX12_makes 125 = .ok (.lmul, 1) := by decide +kernel
theorem dX12_makes_126 : decode cX12_makes 126 = .ok (.iload 5, 2) := by decide +kernel
theorem dX12_makes_128 : decode cX12_makes 128 = .ok (.invokestatic 174, 3) := by decide +kernel
theorem dX12_makes_131 : decode cX12_makes 131 = .ok (.lreturn, 1) := by decide +kernel
theorem dX12_below_0 : decode cX12_below 0 = .ok (.ldc2_w 122, 3) := by decide +kernel
theorem dX12_below_3 : decode cX12_below 3 = .ok (.aload_n 0, 1) := by decide +kernel
theorem dX12_below_4 : decode cX12_below 4 = .ok (.invokevirtual 133, 3) := by decide +kernel
theorem dX12_below_7 : decode cX12_below 7 = .ok (.i2l, 1) := by decide +kernel
theorem dX12_below_8 : decode cX12_below 8 = .ok (.lmul, 1) := by decide +kernel
theorem dX12_below_9 : decode cX12_below 9 = .ok (.aload_n 0, 1) := by decide +kernel
theorem dX12_below_10 : decode cX12_below 10 = .ok (.invokevirtual 171, 3) := by decide +kernel
theorem dX12_below_13 : decode cX12_below 13 = .ok (.i2l, 1) := by decide +kernel
theorem dX12_below_14 : decode cX12_below 14 = .ok (.lmul, 1) := by decide +kernel
theorem dX12_below_15 : decode cX12_below 15 = .ok (.lreturn, 1) := by decide +kernel
theorem dX12_layWorth_0 : decode cX12_layWorth 0 = .ok (.iconst 0, 1) := by decide +kernel
theorem dX12_layWorth_1 : decode cX12_layWorth 1 = .ok (.istore_n 3, 1) := by decide +kernel
theorem dX12_layWorth_2 : decode cX12_layWorth 2 = .ok (.iload_n 3, 1) := by decide +kernel
theorem dX12_layWorth_3 : decode cX12_layWorth 3 = .ok (.iconst 4, 1) := by decide +kernel
theorem dX12_layWorth_4 : decode cX12_layWorth 4 = .ok (.if_icmp .ge 20, 3) := by decide +kernel
theorem dX12_layWorth_7 : decode cX12_layWorth 7 = .ok (.aload_n 0, 1) := by decide +kernel
theorem dX12_layWorth_8 : decode cX12_layWorth 8 = .ok (.getfield 37, 3) := by decide +kernel
theorem dX12_layWorth_11 : decode cX12_layWorth 11 = .ok (.iconst 4, 1) := by decide +kernel
theorem dX12_layWorth_12 : decode cX12_layWorth 12 = .ok (.iload_n 2, 1) := by decide +kernel
theorem dX12_layWorth_13 : decode cX12_layWorth 13 = .ok (.imul, 1) := by decide +kernel
theorem dX12_layWorth_14 : decode cX12_layWorth 14 = .ok (.iload_n 3, 1) := by decide +kernel
theorem dX12_layWorth_15 : decode cX12_layWorth 15 = .ok (.iadd, 1) := by decide +kernel
theorem dX12_layWorth_16 : decode cX12_layWorth 16 = .ok (.lconst 0, 1) := by decide +kernel
theorem dX12_layWorth_17 : decode cX12_layWorth 17 = .ok (.lastore, 1) := by decide +kernel
theorem dX12_layWorth_18 : decode cX12_layWorth 18 = .ok (.iinc 3 1, 3) := by decide +kernel
theorem dX12_layWorth_21 : decode cX12_layWorth 21 = .ok (.goto (-19), 3) := by decide +kernel
theorem dX12_layWorth_24 : decode cX12_layWorth 24 = .ok (.iconst 0, 1) := by decide +kernel
theorem dX12_layWorth_25 : decode cX12_layWorth 25 = .ok (.istore_n 3, 1) := by decide +kernel
theorem dX12_layWorth_26 : decode cX12_layWorth 26 = .ok (.iload_n 3, 1) := by decide +kernel
theorem dX12_layWorth_27 : decode cX12_layWorth 27 = .ok (.iconst 4, 1) := by decide +kernel
theorem dX12_layWorth_28 : decode cX12_layWorth 28 = .ok (.if_icmp .ge 79, 3) := by decide +kernel
theorem dX12_layWorth_31 : decode cX12_layWorth 31 = .ok (.aload_n 0, 1) := by decide +kernel
theorem dX12_layWorth_32 : decode cX12_layWorth 32 = .ok (.iload_n 1, 1) := by decide +kernel
theorem dX12_layWorth_33 : decode cX12_layWorth 33 = .ok (.iload_n 3, 1) := by decide +kernel
theorem dX12_layWorth_34 : decode cX12_layWorth 34 = .ok (.invokevirtual 168, 3) := by decide +kernel
theorem dX12_layWorth_37 : decode cX12_layWorth 37 = .ok (.ifCond .le 64, 3) := by decide +kernel
theorem dX12_layWorth_40 : decode cX12_layWorth 40 = .ok (.aload_n 0, 1) := by decide +kernel
theorem dX12_layWorth_41 : decode cX12_layWorth 41 = .ok (.iload_n 1, 1) := by decide +kernel
theorem dX12_layWorth_42 : decode cX12_layWorth 42 = .ok (.iload_n 2, 1) := by decide +kernel
theorem dX12_layWorth_43 : decode cX12_layWorth 43 = .ok (.iload_n 3, 1) := by decide +kernel
theorem dX12_layWorth_44 : decode cX12_layWorth 44 = .ok (.iconst (-1), 1) := by decide +kernel
theorem dX12_layWorth_45 : decode cX12_layWorth 45 = .ok (.invokevirtual 232, 3) := by decide +kernel
theorem dX12_layWorth_48 : decode cX12_layWorth 48 = .ok (.istore 4, 2) := by decide +kernel
theorem dX12_layWorth_50 : decode cX12_layWorth 50 = .ok (.iconst 0, 1) := by decide +kernel
theorem dX12_layWorth_51 : decode cX12_layWorth 51 = .ok (.istore 5, 2) := by decide +kernel
theorem dX12_layWorth_53 : decode cX12_layWorth 53 = .ok (.iload 5, 2) := by decide +kernel
theorem dX12_layWorth_55 : decode cX12_layWorth 55 = .ok (.aload_n 0, 1) := by decide +kernel
theorem dX12_layWorth_56 : decode cX12_layWorth 56 = .ok (.getfield 114, 3) := by decide +kernel
theorem dX12_layWorth_59 : decode cX12_layWorth 59 = .ok (.if_icmp .ge 42, 3) := by decide +kernel
theorem dX12_layWorth_62 : decode cX12_layWorth 62 = .ok (.aload_n 0, 1) := by decide +kernel
theorem dX12_layWorth_63 : decode cX12_layWorth 63 = .ok (.getfield 37, 3) := by decide +kernel
theorem dX12_layWorth_66 : decode cX12_layWorth 66 = .ok (.iconst 4, 1) := by decide +kernel
theorem dX12_layWorth_67 : decode cX12_layWorth 67 = .ok (.iload_n 2, 1) := by decide +kernel
theorem dX12_layWorth_68 : decode cX12_layWorth 68 = .ok (.imul, 1) := by decide +kernel
theorem dX12_layWorth_69 : decode cX12_layWorth 69 = .ok (.iload 5, 2) := by decide +kernel
theorem dX12_layWorth_71 : decode cX12_layWorth 71 = .ok (.iadd, 1) := by decide +kernel
theorem dX12_layWorth_72 : decode cX12_layWorth 72 = .ok (.dup2, 1) := by decide +kernel
theorem dX12_layWorth_73 : decode cX12_layWorth 73 = .ok (.laload, 1) := by decide +kernel
theorem dX12_layWorth_74 : decode cX12_layWorth 74 = .ok (.aload_n 0, 1) := by decide +kernel
theorem dX12_layWorth_75 : decode cX12_layWorth 75 = .ok (.iload 5, 2) := by decide +kernel
theorem dX12_layWorth_77 : decode cX12_layWorth 77 = .ok (.iload 4, 2) := by decide +kernel
theorem dX12_layWorth_79 : decode cX12_layWorth 79 = .ok (.iload 5, 2) := by decide +kernel
theorem dX12_layWorth_81 : decode cX12_layWorth 81 = .ok (.invokestatic 188, 3) := by decide +kernel
theorem dX12_layWorth_84 : decode cX12_layWorth 84 = .ok (.aload_n 0, 1) := by decide +kernel
theorem dX12_layWorth_85 : decode cX12_layWorth 85 = .ok (.iload 4, 2) := by decide +kernel
theorem dX12_layWorth_87 : decode cX12_layWorth 87 = .ok (.invokevirtual 198, 3) := by decide +kernel
theorem dX12_layWorth_90 : decode cX12_layWorth 90 = .ok (.invokevirtual 201, 3) := by decide +kernel
theorem dX12_layWorth_93 : decode cX12_layWorth 93 = .ok (.ladd, 1) := by decide +kernel
theorem dX12_layWorth_94 : decode cX12_layWorth 94 = .ok (.lastore, 1) := by decide +kernel
theorem dX12_layWorth_95 : decode cX12_layWorth 95 = .ok (.iinc 5 1, 3) := by decide +kernel
theorem dX12_layWorth_98 : decode cX12_layWorth 98 = .ok (.goto (-45), 3) := by decide +kernel
theorem dX12_layWorth_101 : decode cX12_layWorth 101 = .ok (.iinc 3 1, 3) := by decide +kernel
theorem dX12_layWorth_104 : decode cX12_layWorth 104 = .ok (.goto (-78), 3) := by decide +kernel
theorem dX12_layWorth_107 : decode cX12_layWorth 107 = .ok (.return_, 1) := by decide +kernel
theorem dX12_worthOf_0 : decode cX12_worthOf 0 = .ok (.aload_n 0, 1) := by decide +kernel
theorem dX12_worthOf_1 : decode cX12_worthOf 1 = .ok (.iload_n 1, 1) := by decide +kernel
theorem dX12_worthOf_2 : decode cX12_worthOf 2 = .ok (.iload_n 2, 1) := by decide +kernel
theorem dX12_worthOf_3 : decode cX12_worthOf 3 = .ok (.invokevirtual 239, 3) := by decide +kernel
theorem dX12_worthOf_6 : decode cX12_worthOf 6 = .ok (.aload_n 0, 1) := by decide +kernel
theorem dX12_worthOf_7 : decode cX12_worthOf 7 = .ok (.getfield 37, 3) := by decide +kernel
theorem dX12_worthOf_10 : decode cX12_worthOf 10 = .ok (.iconst 4, 1) := by decide +kernel
theorem dX12_worthOf_11 : decode cX12_worthOf 11 = .ok (.iload_n 2, 1) := by decide +kernel
theorem dX12_worthOf_12 : decode cX12_worthOf 12 = .ok (.imul, 1) := by decide +kernel
theorem dX12_worthOf_13 : decode cX12_worthOf 13 = .ok (.iload_n 3, 1) := by decide +kernel
theorem dX12_worthOf_14 : decode cX12_worthOf 14 = .ok (.iadd, 1) := by decide +kernel
theorem dX12_worthOf_15 : decode cX12_worthOf 15 = .ok (.laload, 1) := by decide +kernel
theorem dX12_worthOf_16 : decode cX12_worthOf 16 = .ok (.lreturn, 1) := by decide +kernel
theorem dX12_worth_0 : decode cX12_worth 0 = .ok (.aload_n 0, 1) := by decide +kernel
theorem dX12_worth_1 : decode cX12_worth 1 = .ok (.iload_n 1, 1) := by decide +kernel
theorem dX12_worth_2 : decode cX12_worth 2 = .ok (.aload_n 0, 1) := by decide +kernel
theorem dX12_worth_3 : decode cX12_worth 3 = .ok (.iload_n 3, 1) := by decide +kernel
theorem dX12_worth_4 : decode cX12_worth 4 = .ok (.invokevirtual 117, 3) := by decide +kernel
theorem dX12_worth_7 : decode cX12_worth 7 = .ok (.aload_n 0, 1) := by decide +kernel
theorem dX12_worth_8 : decode cX12_worth 8 = .ok (.iload_n 2, 1) := by decide +kernel
theorem dX12_worth_9 : decode cX12_worth 9 = .ok (.invokevirtual 227, 3) := by decide +kernel
theorem dX12_worth_12 : decode cX12_worth 12 = .ok (.ifCond .eq 15, 3) := by decide +kernel
theorem dX12_worth_15 : decode cX12_worth 15 = .ok (.iload 4, 2) := by decide +kernel
theorem dX12_worth_17 : decode cX12_worth 17 = .ok (.invokestatic 157, 3) := by decide +kernel
theorem dX12_worth_20 : decode cX12_worth 20 = .ok (.ifCond .eq 7, 3) := by decide +kernel
theorem dX12_worth_23 : decode cX12_worth 23 = .ok (.iconst 1, 1) := by decide +kernel
theorem dX12_worth_24 : decode cX12_worth 24 = .ok (.goto 4, 3) := by decide +kernel
theorem dX12_worth_27 : decode cX12_worth 27 = .ok (.iconst 0, 1) := by decide +kernel
theorem dX12_worth_28 : decode cX12_worth 28 = .ok (.invokevirtual 160, 3) := by decide +kernel
theorem dX12_worth_31 : decode cX12_worth 31 = .ok (.istore 5, 2) := by decide +kernel
theorem dX12_worth_33 : decode cX12_worth 33 = .ok (.iload 5, 2) := by decide +kernel
theorem dX12_worth_35 : decode cX12_worth 35 = .ok (.ifCond .eq 11, 3) := by decide +kernel
theorem dX12_worth_38 : decode cX12_worth 38 = .ok (.iload 5, 2) := by decide +kernel
theorem dX12_worth_40 : decode cX12_worth 40 = .ok (.invokestatic 164, 3) := by decide +kernel
theorem dX12_worth_43 : decode cX12_worth 43 = .ok (.goto 19, 3) := by decide +kernel
theorem dX12_worth_46 : decode cX12_worth 46 = .ok (.aload_n 0, 1) := by decide +kernel
theorem dX12_worth_47 : decode cX12_worth 47 = .ok (.iload_n 1, 1) := by decide +kernel
theorem dX12_worth_48 : decode cX12_worth 48 = .ok (.iload_n 2, 1) := by decide +kernel
theorem dX12_worth_49 : decode cX12_worth 49 = .ok (.iload_n 3, 1) := by decide +kernel
theorem dX12_worth_50 : decode cX12_worth 50 = .ok (.invokevirtual 242, 3) := by decide +kernel
theorem dX12_worth_53 : decode cX12_worth 53 = .ok (.aload_n 0, 1) := by decide +kernel
theorem dX12_worth_54 : decode cX12_worth 54 = .ok (.invokevirtual 245, 3) := by decide +kernel
theorem dX12_worth_57 : decode cX12_worth 57 = .ok (.iload 4, 2) := by decide +kernel
theorem dX12_worth_59 : decode cX12_worth 59 = .ok (.invokestatic 174, 3) := by decide +kernel
theorem dX12_worth_62 : decode cX12_worth 62 = .ok (.lreturn, 1) := by decide +kernel
theorem dX12_mostAsked_0 : decode cX12_mostAsked 0 = .ok (.lconst 0, 1) := by decide +kernel
theorem dX12_mostAsked_1 : decode cX12_mostAsked 1 = .ok (.lstore_n 3, 1) := by decide +kernel
theorem dX12_mostAsked_2 : decode cX12_mostAsked 2 = .ok (.aload_n 0, 1) := by decide +kernel
theorem dX12_mostAsked_3 : decode cX12_mostAsked 3 = .ok (.iconst 0, 1) := by decide +kernel
theorem dX12_mostAsked_4 : decode cX12_mostAsked 4 = .ok (.putfield 249, 3) := by decide +kernel
theorem dX12_mostAsked_7 : decode cX12_mostAsked 7 = .ok (.iconst 1, 1) := by decide +kernel
theorem dX12_mostAsked_8 : decode cX12_mostAsked 8 = .ok (.istore 5, 2) := by decide +kernel
theorem dX12_mostAsked_10 : decode cX12_mostAsked 10 = .ok (.iload 5, 2) := by decide +kernel
theorem dX12_mostAsked_12 : decode cX12_mostAsked 12 = .ok (.iconst 1, 1) := by decide +kernel
theorem dX12_mostAsked_13 : decode cX12_mostAsked 13 = .ok (.aload_n 0, 1) := by decide +kernel
theorem dX12_mostAsked_14 : decode cX12_mostAsked 14 = .ok (.getfield 114, 3) := by decide +kernel
theorem dX12_mostAsked_17 : decode cX12_mostAsked 17 = .ok (.ishl, 1) := by decide +kernel
theorem dX12_mostAsked_18 : decode cX12_mostAsked 18 = .ok (.if_icmp .ge 151, 3) := by decide +kernel
theorem dX12_mostAsked_21 : decode cX12_mostAsked 21 = .ok (.aload_n 0, 1) := by decide +kernel
theorem dX12_mostAsked_22 : decode cX12_mostAsked 22 = .ok (.iload_n 1, 1) := by decide +kernel
theorem dX12_mostAsked_23 : decode cX12_mostAsked 23 = .ok (.iload 5, 2) := by decide +kernel
theorem dX12_mostAsked_25 : decode cX12_mostAsked 25 = .ok (.invokevirtual 239, 3) := by decide +kernel
theorem dX12_mostAsked_28 : decode cX12_mostAsked 28 = .ok (.lconst 0, 1) := by decide +kernel
theorem dX12_mostAsked_29 : decode cX12_mostAsked 29 = .ok (.lstore 6, 2) := by decide +kernel
theorem dX12_mostAsked_31 : decode cX12_mostAsked 31 = .ok (.lconst 0, 1) := by decide +kernel
theorem dX12_mostAsked_32 : decode cX12_mostAsked 32 = .ok (.lstore 8, 2) := by decide +kernel
theorem dX12_mostAsked_34 : decode cX12_mostAsked 34 = .ok (.iconst 0, 1) := by decide +kernel
theorem dX12_mostAsked_35 : decode cX12_mostAsked 35 = .ok (.istore 10, 2) := by decide +kernel
theorem dX12_mostAsked_37 : decode cX12_mostAsked 37 = .ok (.iconst 0, 1) := by decide +kernel
theorem dX12_mostAsked_38 : decode cX12_mostAsked 38 = .ok (.istore 11, 2) := by decide +kernel
theorem dX12_mostAsked_40 : decode cX12_mostAsked 40 = .ok (.iload 11, 2) := by decide +kernel
theorem dX12_mostAsked_42 : decode cX12_mostAsked 42 = .ok (.aload_n 0, 1) := by decide +kernel
theorem dX12_mostAsked_43 : decode cX12_mostAsked 43 = .ok (.getfield 114, 3) := by decide +kernel
theorem dX12_mostAsked_46 : decode cX12_mostAsked 46 = .ok (.if_icmp .ge 66, 3) := by decide +kernel
theorem dX12_mostAsked_49 : decode cX12_mostAsked 49 = .ok (.iload 5, 2) := by decide +kernel
theorem dX12_mostAsked_51 : decode cX12_mostAsked 51 = .ok (.iload 11, 2) := by decide +kernel
theorem dX12_mostAsked_53 : decode cX12_mostAsked 53 = .ok (.ishr, 1) := by decide +kernel
theorem dX12_mostAsked_54 : decode cX12_mostAsked 54 = .ok (.iconst 1, 1) := by decide +kernel
theorem dX12_mostAsked_55 : decode cX12_mostAsked 55 = .ok (.iand, 1) := by decide +kernel
theorem dX12_mostAsked_56 : decode cX12_mostAsked 56 = .ok (.iconst 1, 1) := by decide +kernel
theorem dX12_mostAsked_57 : decode cX12_mostAsked 57 = .ok (.if_icmp .ne 49, 3) := by decide +kernel
theorem dX12_mostAsked_60 : decode cX12_mostAsked 60 = .ok (.aload_n 0, 1) := by decide +kernel
theorem dX12_mostAsked_61 : decode cX12_mostAsked 61 = .ok (.getfield 37, 3) := by decide +kernel
theorem dX12_mostAsked_64 : decode cX12_mostAsked 64 = .ok (.iconst 4, 1) := by decide +kernel
theorem dX12_mostAsked_65 : decode cX12_mostAsked 65 = .ok (.iload 5, 2) := by decide +kernel
theorem dX12_mostAsked_67 : decode cX12_mostAsked 67 = .ok (.imul, 1) := by decide +kernel
theorem dX12_mostAsked_68 : decode cX12_mostAsked 68 = .ok (.iload 11, 2) := by decide +kernel
theorem dX12_mostAsked_70 : decode cX12_mostAsked 70 = .ok (.iadd, 1) := by decide +kernel
theorem dX12_mostAsked_71 : decode cX12_mostAsked 71 = .ok (.laload, 1) := by decide +kernel
theorem dX12_mostAsked_72 : decode cX12_mostAsked 72 = .ok (.lstore 12, 2) := by decide +kernel
theorem dX12_mostAsked_74 : decode cX12_mostAsked 74 = .ok (.lload 6, 2) := by decide +kernel
theorem dX12_mostAsked_76 : decode cX12_mostAsked 76 = .ok (.lload 12, 2) := by decide +kernel
theorem dX12_mostAsked_78 : decode cX12_mostAsked 78 = .ok (.ladd, 1) := by decide +kernel
theorem dX12_mostAsked_79 : decode cX12_mostAsked 79 = .ok (.lstore 6, 2) := by decide +kernel
theorem dX12_mostAsked_81 : decode cX12_mostAsked 81 = .ok (.iload 10, 2) := by decide +kernel
theorem dX12_mostAsked_83 : decode cX12_mostAsked 83 = .ok (.ifCond .eq 11, 3) := by decide +kernel
theorem dX12_mostAsked_86 : decode cX12_mostAsked 86 = .ok (.lload 12, 2) := by decide +kernel
theorem dX12_mostAsked_88 : decode cX12_mostAsked 88 = .ok (.lload 8, 2) := by decide +kernel
theorem dX12_mostAsked_90 : decode cX12_mostAsked 90 = .ok (.lcmp, 1) := by decide +kernel
theorem dX12_mostAsked_91 : decode cX12_mostAsked 91 = .ok (.ifCond .ge 8, 3) := by decide +kernel
theorem dX12_mostAsked_94 : decode cX12_mostAsked 94 = .ok (.lload 12, 2) := by decide +kernel
theorem dX12_mostAsked_96 : decode cX12_mostAsked 96 = .ok (.goto 5, 3) := by decide +kernel
theorem dX12_mostAsked_99 : decode cX12_mostAsked 99 = .ok (.lload 8, 2) := by decide +kernel
theorem dX12_mostAsked_101 : decode cX12_mostAsked 101 = .ok (.lstore 8, 2) := by decide +kernel
theorem dX12_mostAsked_103 : decode cX12_mostAsked 103 = .ok (.iinc 10 1, 3) := by decide +kernel
theorem dX12_mostAsked_106 : decode cX12_mostAsked 106 = .ok (.iinc 11 1, 3) := by decide +kernel
theorem dX12_mostAsked_109 : decode cX12_mostAsked 109 = .ok (.goto (-69), 3) := by decide +kernel
theorem dX12_mostAsked_112 : decode cX12_mostAsked 112 = .ok (.iload_n 2, 1) := by decide +kernel
theorem dX12_mostAsked_113 : decode cX12_mostAsked 113 = .ok (.ifCond .ne 8, 3) := by decide +kernel
theorem dX12_mostAsked_116 : decode cX12_mostAsked 116 = .ok (.lload 6, 2) := by decide +kernel
theorem dX12_mostAsked_118 : decode cX12_mostAsked 118 = .ok (.goto 9, 3) := by decide +kernel
theorem dX12_mostAsked_121 : decode cX12_mostAsked 121 = .ok (.lload 8, 2) := by decide +kernel
theorem dX12_mostAsked_123 : decode cX12_mostAsked 123 = .ok (.iload 10, 2) := by decide +kernel
theorem dX12_mostAsked_125 : decode cX12_mostAsked 125 = .ok (.i2l, 1) := by decide +kernel
theorem dX12_mostAsked_126 : decode cX12_mostAsked 126 = .ok (.lmul, 1) := by decide +kernel
theorem dX12_mostAsked_127 : decode cX12_mostAsked 127 = .ok (.lstore 11, 2) := by decide +kernel
theorem dX12_mostAsked_129 : decode cX12_mostAsked 129 = .ok (.aload_n 0, 1) := by decide +kernel
theorem dX12_mostAsked_130 : decode cX12_mostAsked 130 = .ok (.lload 11, 2) := by decide +kernel
theorem dX12_mostAsked_132 : decode cX12_mostAsked 132 = .ok (.lload_n 3, 1) := by decide +kernel
theorem dX12_mostAsked_133 : decode cX12_mostAsked 133 = .ok (.lcmp, 1) := by decide +kernel
theorem dX12_mostAsked_134 : decode cX12_mostAsked 134 = .ok (.ifCond .le 8, 3) := by decide +kernel
theorem dX12_mostAsked_137 : decode cX12_mostAsked 137 = .ok (.iload 5, 2) := by decide +kernel
theorem dX12_mostAsked_139 : decode cX12_mostAsked 139 = .ok (.goto 7, 3) := by decide +kernel
theorem dX12_mostAsked_142 : decode cX12_mostAsked 142 = .ok (.aload_n 0, 1) := by decide +kernel
theorem dX12_mostAsked_143 : decode cX12_mostAsked 143 = .ok (.getfield 249, 3) := by decide +kernel
theorem dX12_mostAsked_146 : decode cX12_mostAsked 146 = .ok (.putfield 249, 3) := by decide +kernel
theorem dX12_mostAsked_149 : decode cX12_mostAsked 149 = .ok (.lload 11, 2) := by decide +kernel
theorem dX12_mostAsked_151 : decode cX12_mostAsked 151 = .ok (.lload_n 3, 1) := by decide +kernel
theorem dX12_mostAsked_152 : decode cX12_mostAsked 152 = .ok (.lcmp, 1) := by decide +kernel
theorem dX12_mostAsked_153 : decode cX12_mostAsked 153 = .ok (.ifCond .le 8, 3) := by decide +kernel
theorem dX12_mostAsked_156 : decode cX12_mostAsked 156 = .ok (.lload 11, 2) := by decide +kernel
theorem dX12_mostAsked_158 : decode cX12_mostAsked 158 = .ok (.goto 4, 3) := by decide +kernel
theorem dX12_mostAsked_161 : decode cX12_mostAsked 161 = .ok (.lload_n 3, 1) := by decide +kernel
theorem dX12_mostAsked_162 : decode cX12_mostAsked 162 = .ok (.lstore_n 3, 1) := by decide +kernel
theorem dX12_mostAsked_163 : decode cX12_mostAsked 163 = .ok (.iinc 5 1, 3) := by decide +kernel
theorem dX12_mostAsked_166 : decode cX12_mostAsked 166 = .ok (.goto (-156), 3) := by decide +kernel
theorem dX12_mostAsked_169 : decode cX12_mostAsked 169 = .ok (.lload_n 3, 1) := by decide +kernel
theorem dX12_mostAsked_170 : decode cX12_mostAsked 170 = .ok (.lreturn, 1) := by decide +kernel
theorem dX12_whom_0 : decode cX12_whom 0 = .ok (.aload_n 0, 1) := by decide +kernel
theorem dX12_whom_1 : decode cX12_whom 1 = .ok (.iload_n 1, 1) := by decide +kernel
theorem dX12_whom_2 : decode cX12_whom 2 = .ok (.iconst 1, 1) := by decide +kernel
theorem dX12_whom_3 : decode cX12_whom 3 = .ok (.iload_n 2, 1) := by decide +kernel
theorem dX12_whom_4 : decode cX12_whom 4 = .ok (.i2l, 1) := by decide +kernel
theorem dX12_whom_5 : decode cX12_whom 5 = .ok (.lconst 0, 1) := by decide +kernel
theorem dX12_whom_6 : decode cX12_whom 6 = .ok (.lconst 1, 1) := by decide +kernel
theorem dX12_whom_7 : decode cX12_whom 7 = .ok (.invokestatic 73, 3) := by decide +kernel
theorem dX12_whom_10 : decode cX12_whom 10 = .ok (.invokevirtual 160, 3) := by decide +kernel
theorem dX12_whom_13 : decode cX12_whom 13 = .ok (.istore_n 3, 1) := by decide +kernel
theorem dX12_whom_14 : decode cX12_whom 14 = .ok (.iload_n 3, 1) := by decide +kernel
theorem dX12_whom_15 : decode cX12_whom 15 = .ok (.ifCond .eq 5, 3) := by decide +kernel
theorem dX12_whom_18 : decode cX12_whom 18 = .ok (.iload_n 3, 1) := by decide +kernel
theorem dX12_whom_19 : decode cX12_whom 19 = .ok (.ireturn, 1) := by decide +kernel
theorem dX12_whom_20 : decode cX12_whom 20 = .ok (.aload_n 0, 1) := by decide +kernel
theorem dX12_whom_21 : decode cX12_whom 21 = .ok (.getfield 252, 3) := by decide +kernel
theorem dX12_whom_24 : decode cX12_whom 24 = .ok (.bipush 40, 2) := by decide +kernel
theorem dX12_whom_26 : decode cX12_whom 26 = .ok (.if_icmp .ne 6, 3) := by decide +kernel
theorem dX12_whom_29 : decode cX12_whom 29 = .ok (.bipush (-103), 2) := by decide +kernel
theorem dX12_whom_31 : decode cX12_whom 31 = .ok (.ireturn, 1) := by decide +kernel
theorem dX12_whom_32 : decode cX12_whom 32 = .ok (.aload_n 0, 1) := by decide +kernel
theorem dX12_whom_33 : decode cX12_whom 33 = .ok (.dup, 1) := by decide +kernel
theorem dX12_whom_34 : decode cX12_whom 34 = .ok (.getfield 252, 3) := by decide +kernel
theorem dX12_whom_37 : decode cX12_whom 37 = .ok (.iconst 1, 1) := by decide +kernel
theorem dX12_whom_38 : decode cX12_whom 38 = .ok (.iadd, 1) := by decide +kernel
theorem dX12_whom_39 : decode cX12_whom 39 = .ok (.putfield 252, 3) := by decide +kernel
theorem dX12_whom_42 : decode cX12_whom 42 = .ok (.aload_n 0, 1) := by decide +kernel
theorem dX12_whom_43 : decode cX12_whom 43 = .ok (.iload_n 1, 1) := by decide +kernel
theorem dX12_whom_44 : decode cX12_whom 44 = .ok (.iload_n 2, 1) := by decide +kernel
theorem dX12_whom_45 : decode cX12_whom 45 = .ok (.invokevirtual 255, 3) := by decide +kernel
theorem dX12_whom_48 : decode cX12_whom 48 = .ok (.pop2, 1) := by decide +kernel
theorem dX12_whom_49 : decode cX12_whom 49 = .ok (.aload_n 0, 1) := by decide +kernel
theorem dX12_whom_50 : decode cX12_whom 50 = .ok (.getfield 249, 3) := by decide +kernel
theorem dX12_whom_53 : decode cX12_whom 53 = .ok (.ireturn, 1) := by decide +kernel
theorem dX12_plainly_0 : decode cX12_plainly 0 = .ok (.aload_n 0, 1) := by decide +kernel
theorem dX12_plainly_1 : decode cX12_plainly 1 = .ok (.getfield 44, 3) := by decide +kernel
theorem dX12_plainly_4 : decode cX12_plainly 4 = .ok (.ifCond .ne 6, 3) := by decide +kernel
theorem dX12_plainly_7 : decode cX12_plainly 7 = .ok (.bipush (-103), 2) := by decide +kernel
theorem dX12_plainly_9 : decode cX12_plainly 9 = .ok (.ireturn, 1) := by decide +kernel
theorem dX12_plainly_10 : decode cX12_plainly 10 = .ok (.iload_n 1, 1) := by decide +kernel
theorem dX12_plainly_11 : decode cX12_plainly 11 = .ok (.i2l, 1) := by decide +kernel
theorem dX12_plainly_12 : decode cX12_plainly 12 = .ok (.lconst 0, 1) := by decide +kernel
theorem dX12_plainly_13 : decode cX12_plainly 13 = .ok (.lconst 1, 1) := by decide +kernel
theorem dX12_plainly_14 : decode cX12_plainly 14 = .ok (.invokestatic 73, 3) := by decide +kernel
theorem dX12_plainly_17 : decode cX12_plainly 17 = .ok (.ifCond .ne 6, 3) := by decide +kernel
theorem dX12_plainly_20 : decode cX12_plainly 20 = .ok (.bipush (-102), 2) := by decide +kernel
theorem dX12_plainly_22 : decode cX12_plainly 22 = .ok (.ireturn, 1) := by decide +kernel
theorem dX12_plainly_23 : decode cX12_plainly 23 = .ok (.aload_n 0, 1) := by decide +kernel
theorem dX12_plainly_24 : decode cX12_plainly 24 = .ok (.getfield 252, 3) := by decide +kernel
theorem dX12_plainly_27 : decode cX12_plainly 27 = .ok (.bipush 40, 2) := by decide +kernel
theorem dX12_plainly_29 : decode cX12_plainly 29 = .ok (.if_icmp .ne 6, 3) := by decide +kernel
theorem dX12_plainly_32 : decode cX12_plainly 32 = .ok (.bipush (-103), 2) := by decide +kernel
theorem dX12_plainly_34 : decode cX12_plainly 34 = .ok (.ireturn, 1) := by decide +kernel
theorem dX12_plainly_35 : decode cX12_plainly 35 = .ok (.aload_n 0, 1) := by decide +kernel
theorem dX12_plainly_36 : decode cX12_plainly 36 = .ok (.dup, 1) := by decide +kernel
theorem dX12_plainly_37 : decode cX12_plainly 37 = .ok (.getfield 252, 3) := by decide +kernel
theorem dX12_plainly_40 : decode cX12_plainly 40 = .ok (.iconst 1, 1) := by decide +kernel
theorem dX12_plainly_41 : decode cX12_plainly 41 = .ok (.iadd, 1) := by decide +kernel
theorem dX12_plainly_42 : decode cX12_plainly 42 = .ok (.putfield 252, 3) := by decide +kernel
theorem dX12_plainly_45 : decode cX12_plainly 45 = .ok (.iconst (-1), 1) := by decide +kernel
theorem dX12_plainly_46 : decode cX12_plainly 46 = .ok (.istore_n 2, 1) := by decide +kernel
theorem dX12_plainly_47 : decode cX12_plainly 47 = .ok (.lconst 0, 1) := by decide +kernel
theorem dX12_plainly_48 : decode cX12_plainly 48 = .ok (.lstore_n 3, 1) := by decide +kernel
theorem dX12_plainly_49 : decode cX12_plainly 49 = .ok (.iconst 0, 1) := by decide +kernel
theorem dX12_plainly_50 : decode cX12_plainly 50 = .ok (.istore 5, 2) := by decide +kernel
theorem dX12_plainly_52 : decode cX12_plainly 52 = .ok (.iload 5, 2) := by decide +kernel
theorem dX12_plainly_54 : decode cX12_plainly 54 = .ok (.aload_n 0, 1) := by decide +kernel
theorem dX12_plainly_55 : decode cX12_plainly 55 = .ok (.getfield 124, 3) := by decide +kernel
theorem dX12_plainly_58 : decode cX12_plainly 58 = .ok (.if_icmp .ge 50, 3) := by decide +kernel
theorem dX12_plainly_61 : decode cX12_plainly 61 = .ok (.aload_n 0, 1) := by decide +kernel
theorem dX12_plainly_62 : decode cX12_plainly 62 = .ok (.iload 5, 2) := by decide +kernel
theorem dX12_plainly_64 : decode cX12_plainly 64 = .ok (.iload_n 1, 1) := by decide +kernel
theorem dX12_plainly_65 : decode cX12_plainly 65 = .ok (.invokevirtual 255, 3) := by decide +kernel
theorem dX12_plainly_68 : decode cX12_plainly 68 = .ok (.lstore 6, 2) := by decide +kernel
theorem dX12_plainly_70 : decode cX12_plainly 70 = .ok (.iload_n 2, 1) := by decide +kernel
theorem dX12_plainly_71 : decode cX12_plainly 71 = .ok (.iconst (-1), 1) := by decide +kernel
theorem dX12_plainly_72 : decode cX12_plainly 72 = .ok (.if_icmp .eq 10, 3) := by decide +kernel
theorem dX12_plainly_75 : decode cX12_plainly 75 = .ok (.lload 6, 2) := by decide +kernel
theorem dX12_plainly_77 : decode cX12_plainly 77 = .ok (.lload_n 3, 1) := by decide +kernel
theorem dX12_plainly_78 : decode cX12_plainly 78 = .ok (.lcmp, 1) := by decide +kernel
theorem dX12_plainly_79 : decode cX12_plainly 79 = .ok (.ifCond .le 8, 3) := by decide +kernel
theorem dX12_plainly_82 : decode cX12_plainly 82 = .ok (.iload 5, 2) := by decide +kernel
theorem dX12_plainly_84 : decode cX12_plainly 84 = .ok (.goto 4, 3) := by decide +kernel
theorem dX12_plainly_87 : decode cX12_plainly 87 = .ok (.iload_n 2, 1) := by decide +kernel
theorem dX12_plainly_88 : decode cX12_plainly 88 = .ok (.istore_n 2, 1) := by decide +kernel
theorem dX12_plainly_89 : decode cX12_plainly 89 = .ok (.iload_n 2, 1) := by decide +kernel
theorem dX12_plainly_90 : decode cX12_plainly 90 = .ok (.iload 5, 2) := by decide +kernel
theorem dX12_plainly_92 : decode cX12_plainly 92 = .ok (.if_icmp .ne 8, 3) := by decide +kernel
theorem dX12_plainly_95 : decode cX12_plainly 95 = .ok (.lload 6, 2) := by decide +kernel
theorem dX12_plainly_97 : decode cX12_plainly 97 = .ok (.goto 4, 3) := by decide +kernel
theorem dX12_plainly_100 : decode cX12_plainly 100 = .ok (.lload_n 3, 1) := by decide +kernel
theorem dX12_plainly_101 : decode cX12_plainly 101 = .ok (.lstore_n 3, 1) := by decide +kernel
theorem dX12_plainly_102 : decode cX12_plainly 102 = .ok (.iinc 5 1, 3) := by decide +kernel
theorem dX12_plainly_105 : decode cX12_plainly 105 = .ok (.goto (-53), 3) := by decide +kernel
theorem dX12_plainly_108 : decode cX12_plainly 108 = .ok (.iload_n 2, 1) := by decide +kernel
theorem dX12_plainly_109 : decode cX12_plainly 109 = .ok (.ireturn, 1) := by decide +kernel
theorem dX12_moreOf_0 : decode cX12_moreOf 0 = .ok (.iconst (-1), 1) := by decide +kernel
theorem dX12_moreOf_1 : decode cX12_moreOf 1 = .ok (.istore_n 3, 1) := by decide +kernel
theorem dX12_moreOf_2 : decode cX12_moreOf 2 = .ok (.aload_n 0, 1) := by decide +kernel
theorem dX12_moreOf_3 : decode cX12_moreOf 3 = .ok (.lconst 0, 1) := by decide +kernel
theorem dX12_moreOf_4 : decode cX12_moreOf 4 = .ok (.putfield 258, 3) := by decide +kernel
theorem dX12_moreOf_7 : decode cX12_moreOf 7 = .ok (.iconst 0, 1) := by decide +kernel
theorem dX12_moreOf_8 : decode cX12_moreOf 8 = .ok (.istore 4, 2) := by decide +kernel
theorem dX12_moreOf_10 : decode cX12_moreOf 10 = .ok (.iload 4, 2) := by decide +kernel
theorem dX12_moreOf_12 : decode cX12_moreOf 12 = .ok (.aload_n 0, 1) := by decide +kernel
theorem dX12_moreOf_13 : decode cX12_moreOf 13 = .ok (.getfield 114, 3) := by decide +kernel
theorem dX12_moreOf_16 : decode cX12_moreOf 16 = .ok (.if_icmp .ge 78, 3) := by decide +kernel
theorem dX12_moreOf_19 : decode cX12_moreOf 19 = .ok (.iload_n 2, 1) := by decide +kernel
theorem dX12_moreOf_20 : decode cX12_moreOf 20 = .ok (.iload 4, 2) := by decide +kernel
theorem dX12_moreOf_22 : decode cX12_moreOf 22 = .ok (.ishr, 1) := by decide +kernel
theorem dX12_moreOf_23 : decode cX12_moreOf 23 = .ok (.iconst 1, 1) := by decide +kernel
theorem dX12_moreOf_24 : decode cX12_moreOf 24 = .ok (.iand, 1) := by decide +kernel
theorem dX12_moreOf_25 : decode cX12_moreOf 25 = .ok (.iconst 1, 1) := by decide +kernel
theorem dX12_moreOf_26 : decode cX12_moreOf 26 = .ok (.if_icmp .ne 7, 3) := by decide +kernel
theorem dX12_moreOf_29 : decode cX12_moreOf 29 = .ok (.lconst 0, 1) := by decide +kernel
theorem dX12_moreOf_30 : decode cX12_moreOf 30 = .ok (.goto 16, 3) := by decide +kernel
theorem dX12_moreOf_33 : decode cX12_moreOf 33 = .ok (.aload_n 0, 1) := by decide +kernel
theorem dX12_moreOf_34 : decode cX12_moreOf 34 = .ok (.iload_n 1, 1) := by decide +kernel
theorem dX12_moreOf_35 : decode cX12_moreOf 35 = .ok (.iload_n 2, 1) := by decide +kernel
theorem dX12_moreOf_36 : decode cX12_moreOf 36 = .ok (.iconst 1, 1) := by decide +kernel
theorem dX12_moreOf_37 : decode cX12_moreOf 37 = .ok (.iload 4, 2) := by decide +kernel
theorem dX12_moreOf_39 : decode cX12_moreOf 39 = .ok (.ishl, 1) := by decide +kernel
theorem dX12_moreOf_40 : decode cX12_moreOf 40 = .ok (.ior, 1) := by decide +kernel
theorem dX12_moreOf_41 : decode cX12_moreOf 41 = .ok (.iload 4, 2) := by decide +kernel
theorem dX12_moreOf_43 : decode cX12_moreOf 43 = .ok (.invokevirtual 242, 3) := by decide +kernel
theorem dX12_moreOf_46 : decode cX12_moreOf 46 = .ok (.lstore 5, 2) := by decide +kernel
theorem dX12_moreOf_48 : decode cX12_moreOf 48 = .ok (.lload 5, 2) := by decide +kernel
theorem dX12_moreOf_50 : decode cX12_moreOf 50 = .ok (.aload_n 0, 1) := by decide +kernel
theorem dX12_moreOf_51 : decode cX12_moreOf 51 = .ok (.getfield 258, 3) := by decide +kernel
theorem dX12_moreOf_54 : decode cX12_moreOf 54 = .ok (.lcmp, 1) := by decide +kernel
theorem dX12_moreOf_55 : decode cX12_moreOf 55 = .ok (.ifCond .le 8, 3) := by decide +kernel
theorem dX12_moreOf_58 : decode cX12_moreOf 58 = .ok (.iload 4, 2) := by decide +kernel
theorem dX12_moreOf_60 : decode cX12_moreOf 60 = .ok (.goto 4, 3) := by decide +kernel
theorem dX12_moreOf_63 : decode cX12_moreOf 63 = .ok (.iload_n 3, 1) := by decide +kernel
theorem dX12_moreOf_64 : decode cX12_moreOf 64 = .ok (.istore_n 3, 1) := by decide +kernel
theorem dX12_moreOf_65 : decode cX12_moreOf 65 = .ok (.aload_n 0, 1) := by decide +kernel
theorem dX12_moreOf_66 : decode cX12_moreOf 66 = .ok (.lload 5, 2) := by decide +kernel
theorem dX12_moreOf_68 : decode cX12_moreOf 68 = .ok (.aload_n 0, 1) := by decide +kernel
theorem dX12_moreOf_69 : decode cX12_moreOf 69 = .ok (.getfield 258, 3) := by decide +kernel
theorem dX12_moreOf_72 : decode cX12_moreOf 72 = .ok (.lcmp, 1) := by decide +kernel
theorem dX12_moreOf_73 : decode cX12_moreOf 73 = .ok (.ifCond .le 8, 3) := by decide +kernel
theorem dX12_moreOf_76 : decode cX12_moreOf 76 = .ok (.lload 5, 2) := by decide +kernel
theorem dX12_moreOf_78 : decode cX12_moreOf 78 = .ok (.goto 7, 3) := by decide +kernel
theorem dX12_moreOf_81 : decode cX12_moreOf 81 = .ok (.aload_n 0, 1) := by decide +kernel
theorem dX12_moreOf_82 : decode cX12_moreOf 82 = .ok (.getfield 258, 3) := by decide +kernel
theorem dX12_moreOf_85 : decode cX12_moreOf 85 = .ok (.putfield 258, 3) := by decide +kernel
theorem dX12_moreOf_88 : decode cX12_moreOf 88 = .ok (.iinc 4 1, 3) := by decide +kernel
theorem dX12_moreOf_91 : decode cX12_moreOf 91 = .ok (.goto (-81), 3) := by decide +kernel
theorem dX12_moreOf_94 : decode cX12_moreOf 94 = .ok (.iload_n 3, 1) := by decide +kernel
theorem dX12_moreOf_95 : decode cX12_moreOf 95 = .ok (.ireturn, 1) := by decide +kernel
theorem dX12_more_0 : decode cX12_more 0 = .ok (.aload_n 0, 1) := by decide +kernel
theorem dX12_more_1 : decode cX12_more 1 = .ok (.iload_n 1, 1) := by decide +kernel
theorem dX12_more_2 : decode cX12_more 2 = .ok (.iconst 1, 1) := by decide +kernel
theorem dX12_more_3 : decode cX12_more 3 = .ok (.aload_n 0, 1) := by decide +kernel
theorem dX12_more_4 : decode cX12_more 4 = .ok (.iload_n 2, 1) := by decide +kernel
theorem dX12_more_5 : decode cX12_more 5 = .ok (.invokevirtual 227, 3) := by decide +kernel
theorem dX12_more_8 : decode cX12_more 8 = .ok (.invokevirtual 160, 3) := by decide +kernel
theorem dX12_more_11 : decode cX12_more 11 = .ok (.istore_n 3, 1) := by decide +kernel
theorem dX12_more_12 : decode cX12_more 12 = .ok (.iload_n 3, 1) := by decide +kernel
theorem dX12_more_13 : decode cX12_more 13 = .ok (.ifCond .eq 7, 3) := by decide +kernel
theorem dX12_more_16 : decode cX12_more 16 = .ok (.iload_n 3, 1) := by decide +kernel
theorem dX12_more_17 : decode cX12_more 17 = .ok (.goto 9, 3) := by decide +kernel
theorem dX12_more_20 : decode cX12_more 20 = .ok (.aload_n 0, 1) := by decide +kernel
theorem dX12_more_21 : decode cX12_more 21 = .ok (.iload_n 1, 1) := by decide +kernel
theorem dX12_more_22 : decode cX12_more 22 = .ok (.iload_n 2, 1) := by decide +kernel
theorem dX12_more_23 : decode cX12_more 23 = .ok (.invokevirtual 261, 3) := by decide +kernel
theorem dX12_more_26 : decode cX12_more 26 = .ok (.ireturn, 1) := by decide +kernel
theorem dX12_pledge_0 : decode cX12_pledge 0 = .ok (.aload_n 0, 1) := by decide +kernel
theorem dX12_pledge_1 : decode cX12_pledge 1 = .ok (.iload_n 1, 1) := by decide +kernel
theorem dX12_pledge_2 : decode cX12_pledge 2 = .ok (.iconst 1, 1) := by decide +kernel
theorem dX12_pledge_3 : decode cX12_pledge 3 = .ok (.aload_n 0, 1) := by decide +kernel
theorem dX12_pledge_4 : decode cX12_pledge 4 = .ok (.iload_n 2, 1) := by decide +kernel
theorem dX12_pledge_5 : decode cX12_pledge 5 = .ok (.invokevirtual 227, 3) := by decide +kernel
theorem dX12_pledge_8 : decode cX12_pledge 8 = .ok (.ifCond .eq 14, 3) := by decide +kernel
theorem dX12_pledge_11 : decode cX12_pledge 11 = .ok (.iload_n 3, 1) := by decide +kernel
theorem dX12_pledge_12 : decode cX12_pledge 12 = .ok (.invokestatic 157, 3) := by decide +kernel
theorem dX12_pledge_15 : decode cX12_pledge 15 = .ok (.ifCond .eq 7, 3) := by decide +kernel
theorem dX12_pledge_18 : decode cX12_pledge 18 = .ok (.iconst 1, 1) := by decide +kernel
theorem dX12_pledge_19 : decode cX12_pledge 19 = .ok (.goto 4, 3) := by decide +kernel
theorem dX12_pledge_22 : decode cX12_pledge 22 = .ok (.iconst 0, 1) := by decide +kernel
theorem dX12_pledge_23 : decode cX12_pledge 23 = .ok (.invokevirtual 160, 3) := by decide +kernel
theorem dX12_pledge_26 : decode cX12_pledge 26 = .ok (.istore 4, 2) := by decide +kernel
theorem dX12_pledge_28 : decode cX12_pledge 28 = .ok (.iload 4, 2) := by decide +kernel
theorem dX12_pledge_30 : decode cX12_pledge 30 = .ok (.ifCond .eq 9, 3) := by decide +kernel
theorem dX12_pledge_33 : decode cX12_pledge 33 = .ok (.iload 4, 2) := by decide +kernel
theorem dX12_pledge_35 : decode cX12_pledge 35 = .ok (.invokestatic 164, 3) := by decide +kernel
theorem dX12_pledge_38 : decode cX12_pledge 38 = .ok (.lreturn, 1) := by decide +kernel
theorem dX12_pledge_39 : decode cX12_pledge 39 = .ok (.aload_n 0, 1) := by decide +kernel
theorem dX12_pledge_40 : decode cX12_pledge 40 = .ok (.iload_n 1, 1) := by decide +kernel
theorem dX12_pledge_41 : decode cX12_pledge 41 = .ok (.iload_n 2, 1) := by decide +kernel
theorem dX12_pledge_42 : decode cX12_pledge 42 = .ok (.invokevirtual 261, 3) := by decide +kernel
theorem dX12_pledge_45 : decode cX12_pledge 45 = .ok (.pop, 1) := by decide +kernel
theorem dX12_pledge_46 : decode cX12_pledge 46 = .ok (.aload_n 0, 1) := by decide +kernel
theorem dX12_pledge_47 : decode cX12_pledge 47 = .ok (.getfield 258, 3) := by decide +kernel
theorem dX12_pledge_50 : decode cX12_pledge 50 = .ok (.aload_n 0, 1) := by decide +kernel
theorem dX12_pledge_51 : decode cX12_pledge 51 = .ok (.invokevirtual 245, 3) := by decide +kernel
theorem dX12_pledge_54 : decode cX12_pledge 54 = .ok (.iload_n 3, 1) := by decide +kernel
theorem dX12_pledge_55 : decode cX12_pledge 55 = .ok (.invokestatic 174, 3) := by decide +kernel
theorem dX12_pledge_58 : decode cX12_pledge 58 = .ok (.lreturn, 1) := by decide +kernel
theorem dX12_on_0 : decode cX12_on 0 = .ok (.aload_n 0, 1) := by decide +kernel
theorem dX12_on_1 : decode cX12_on 1 = .ok (.iload_n 1, 1) := by decide +kernel
theorem dX12_on_2 : decode cX12_on 2 = .ok (.iconst 1, 1) := by decide +kernel
theorem dX12_on_3 : decode cX12_on 3 = .ok (.aload_n 0, 1) := by decide +kernel
theorem dX12_on_4 : decode cX12_on 4 = .ok (.iload_n 2, 1) := by decide +kernel
theorem dX12_on_5 : decode cX12_on 5 = .ok (.invokevirtual 227, 3) := by decide +kernel
theorem dX12_on_8 : decode cX12_on 8 = .ok (.ifCond .eq 17, 3) := by decide +kernel
theorem dX12_on_11 : decode cX12_on 11 = .ok (.iload_n 3, 1) := by decide +kernel
theorem dX12_on_12 : decode cX12_on 12 = .ok (.i2l, 1) := by decide +kernel
theorem dX12_on_13 : decode cX12_on 13 = .ok (.lconst 0, 1) := by decide +kernel
theorem dX12_on_14 : decode cX12_on 14 = .ok (.lconst 1, 1) := by decide +kernel
theorem dX12_on_15 : decode cX12_on 15 = .ok (.invokestatic 73, 3) := by decide +kernel
theorem dX12_on_18 : decode cX12_on 18 = .ok (.ifCond .eq 7, 3) := by decide +kernel
theorem dX12_on_21 : decode cX12_on 21 = .ok (.iconst 1, 1) := by decide +kernel
theorem dX12_on_22 : decode cX12_on 22 = .ok (.goto 4, 3) := by decide +kernel
theorem dX12_on_25 : decode cX12_on 25 = .ok (.iconst 0, 1) := by decide +kernel
theorem dX12_on_26 : decode cX12_on 26 = .ok (.invokevirtual 160, 3) := by decide +kernel
theorem dX12_on_29 : decode cX12_on 29 = .ok (.istore 4, 2) := by decide +kernel
theorem dX12_on_31 : decode cX12_on 31 = .ok (.iload 4, 2) := by decide +kernel
theorem dX12_on_33 : decode cX12_on 33 = .ok (.ifCond .eq 6, 3) := by decide +kernel
theorem dX12_on_36 : decode cX12_on 36 = .ok (.iload 4, 2) := by decide +kernel
theorem dX12_on_38 : decode cX12_on 38 = .ok (.ireturn, 1) := by decide +kernel
theorem dX12_on_39 : decode cX12_on 39 = .ok (.iconst 0, 1) := by decide +kernel
theorem dX12_on_40 : decode cX12_on 40 = .ok (.istore 5, 2) := by decide +kernel
theorem dX12_on_42 : decode cX12_on 42 = .ok (.iload 5, 2) := by decide +kernel
theorem dX12_on_44 : decode cX12_on 44 = .ok (.aload_n 0, 1) := by decide +kernel
theorem dX12_on_45 : decode cX12_on 45 = .ok (.getfield 114, 3) := by decide +kernel
theorem dX12_on_48 : decode cX12_on 48 = .ok (.if_icmp .ge 122, 3) := by decide +kernel
theorem dX12_on_51 : decode cX12_on 51 = .ok (.iload_n 2, 1) := by decide +kernel
theorem dX12_on_52 : decode cX12_on 52 = .ok (.iload 5, 2) := by decide +kernel
theorem dX12_on_54 : decode cX12_on 54 = .ok (.ishr, 1) := by decide +kernel
theorem dX12_on_55 : decode cX12_on 55 = .ok (.iconst 1, 1) := by decide +kernel
theorem dX12_on_56 : decode cX12_on 56 = .ok (.iand, 1) := by decide +kernel
theorem dX12_on_57 : decode cX12_on 57 = .ok (.iconst 1, 1) := by decide +kernel
theorem dX12_on_58 : decode cX12_on 58 = .ok (.if_icmp .ne 14, 3) := by decide +kernel
theorem dX12_on_61 : decode cX12_on 61 = .ok (.aload_n 0, 1) := by decide +kernel
theorem dX12_on_62 : decode cX12_on 62 = .ok (.iload_n 1, 1) := by decide +kernel
theorem dX12_on_63 : decode cX12_on 63 = .ok (.iload_n 2, 1) := by decide +kernel
theorem dX12_on_64 : decode cX12_on 64 = .ok (.iload 5, 2) := by decide +kernel
theorem dX12_on_66 : decode cX12_on 66 = .ok (.invokevirtual 242, 3) := by decide +kernel
theorem dX12_on_69 : decode cX12_on 69 = .ok (.goto 4, 3) := by decide +kernel
theorem dX12_on_72 : decode cX12_on 72 = .ok (.lconst 0, 1) := by decide +kernel
theorem dX12_on_73 : decode cX12_on 73 = .ok (.lstore 6, 2) := by decide +kernel
theorem dX12_on_75 : decode cX12_on 75 = .ok (.iconst 0, 1) := by decide +kernel
theorem dX12_on_76 : decode cX12_on 76 = .ok (.istore 8, 2) := by decide +kernel
theorem dX12_on_78 : decode cX12_on 78 = .ok (.iload 8, 2) := by decide +kernel
theorem dX12_on_80 : decode cX12_on 80 = .ok (.aload_n 0, 1) := by decide +kernel
theorem dX12_on_81 : decode cX12_on 81 = .ok (.getfield 114, 3) := by decide +kernel
theorem dX12_on_84 : decode cX12_on 84 = .ok (.if_icmp .ge 80, 3) := by decide +kernel
theorem dX12_on_87 : decode cX12_on 87 = .ok (.iload_n 2, 1) := by decide +kernel
theorem dX12_on_88 : decode cX12_on 88 = .ok (.iload 5, 2) := by decide +kernel
theorem dX12_on_90 : decode cX12_on 90 = .ok (.ishr, 1) := by decide +kernel
theorem dX12_on_91 : decode cX12_on 91 = .ok (.iconst 1, 1) := by decide +kernel
theorem dX12_on_92 : decode cX12_on 92 = .ok (.iand, 1) := by decide +kernel
theorem dX12_on_93 : decode cX12_on 93 = .ok (.iconst 1, 1) := by decide +kernel
theorem dX12_on_94 : decode cX12_on 94 = .ok (.if_icmp .ne 70, 3) := by decide +kernel
theorem dX12_on_97 : decode cX12_on 97 = .ok (.iload_n 2, 1) := by decide +kernel
theorem dX12_on_98 : decode cX12_on 98 = .ok (.iload 8, 2) := by decide +kernel
theorem dX12_on_100 : decode cX12_on 100 = .ok (.ishr, 1) := by decide +kernel
theorem dX12_on_101 : decode cX12_on 101 = .ok (.iconst 1, 1) := by decide +kernel
theorem dX12_on_102 : decode cX12_on 102 = .ok (.iand, 1) := by decide +kernel
theorem dX12_on_103 : decode cX12_on 103 = .ok (.ifCond .ne 55, 3) := by decide +kernel
theorem dX12_on_106 : decode cX12_on 106 = .ok (.aload_n 0, 1) := by decide +kernel
theorem dX12_on_107 : decode cX12_on 107 = .ok (.iload_n 1, 1) := by decide +kernel
theorem dX12_on_108 : decode cX12_on 108 = .ok (.iload_n 2, 1) := by decide +kernel
